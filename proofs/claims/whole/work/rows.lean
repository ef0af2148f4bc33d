section
-- ===== PART A: goes FIRST, ahead of the names: the tables' words, and 'selects' of the private methods out of them =====
/-- a private method of a class that the tables say can be made, by its rows of tables_1 -/
def lw_okq (q : MethodName × Nat) : Prop := (q.1.cls ≠ "java/lang/invoke/MethodHandle" ∧ q.1.cls ≠ "java/lang/invoke/VarHandle") ∧ Cond.instantiable q.1.cls q.2 ∈ tables_1 ∧ Cond.privateMethod q.1 ∈ tables_1 ∧ Cond.instanceMethod q.1 ∈ tables_1
theorem lw_p0 : lw_okq (⟨"MailViews", "add", "(III)I"⟩, 6) := ⟨⟨by decide +kernel, by decide +kernel⟩, List.mem_of_getElem? (i := 9) (by decide +kernel), List.mem_of_getElem? (i := 165) (by decide +kernel), List.mem_of_getElem? (i := 166) (by decide +kernel)⟩
theorem lw_p1 : lw_okq (⟨"MailViews$Mailbox", "move", "(II)V"⟩, 6) := ⟨⟨by decide +kernel, by decide +kernel⟩, List.mem_of_getElem? (i := 18) (by decide +kernel), List.mem_of_getElem? (i := 182) (by decide +kernel), List.mem_of_getElem? (i := 183) (by decide +kernel)⟩
theorem lw_p2 : lw_okq (⟨"MailViews$Journal", "note", "(IIIII)V"⟩, 7) := ⟨⟨by decide +kernel, by decide +kernel⟩, List.mem_of_getElem? (i := 79) (by decide +kernel), List.mem_of_getElem? (i := 190) (by decide +kernel), List.mem_of_getElem? (i := 191) (by decide +kernel)⟩
theorem lw_p3 : lw_okq (⟨"MailViews$Session", "takeInNew", "(LMailViews$Mailbox;)V"⟩, 9) := ⟨⟨by decide +kernel, by decide +kernel⟩, List.mem_of_getElem? (i := 45) (by decide +kernel), List.mem_of_getElem? (i := 209) (by decide +kernel), List.mem_of_getElem? (i := 210) (by decide +kernel)⟩
theorem lw_p4 : lw_okq (⟨"MailViews", "hasMailbox", "(I)Z"⟩, 6) := ⟨⟨by decide +kernel, by decide +kernel⟩, List.mem_of_getElem? (i := 9) (by decide +kernel), List.mem_of_getElem? (i := 233) (by decide +kernel), List.mem_of_getElem? (i := 234) (by decide +kernel)⟩
theorem lw_p5 : lw_okq (⟨"MailViews", "removeDeleted", "(I)I"⟩, 6) := ⟨⟨by decide +kernel, by decide +kernel⟩, List.mem_of_getElem? (i := 9) (by decide +kernel), List.mem_of_getElem? (i := 245) (by decide +kernel), List.mem_of_getElem? (i := 246) (by decide +kernel)⟩
theorem lw_p6 : lw_okq (⟨"MailViews", "update", "(IZ)V"⟩, 6) := ⟨⟨by decide +kernel, by decide +kernel⟩, List.mem_of_getElem? (i := 9) (by decide +kernel), List.mem_of_getElem? (i := 272) (by decide +kernel), List.mem_of_getElem? (i := 273) (by decide +kernel)⟩
theorem lw_p7 : lw_okq (⟨"MailViews", "mailboxOf", "(I)LMailViews$Mailbox;"⟩, 6) := ⟨⟨by decide +kernel, by decide +kernel⟩, List.mem_of_getElem? (i := 9) (by decide +kernel), List.mem_of_getElem? (i := 276) (by decide +kernel), List.mem_of_getElem? (i := 277) (by decide +kernel)⟩
theorem lw_p8 : lw_okq (⟨"MailViews$Session", "dropGone", "(LMailViews$Mailbox;)V"⟩, 9) := ⟨⟨by decide +kernel, by decide +kernel⟩, List.mem_of_getElem? (i := 45) (by decide +kernel), List.mem_of_getElem? (i := 284) (by decide +kernel), List.mem_of_getElem? (i := 285) (by decide +kernel)⟩
theorem lw_p9 : lw_okq (⟨"MailViews$Session", "tell", "(II)V"⟩, 9) := ⟨⟨by decide +kernel, by decide +kernel⟩, List.mem_of_getElem? (i := 45) (by decide +kernel), List.mem_of_getElem? (i := 292) (by decide +kernel), List.mem_of_getElem? (i := 293) (by decide +kernel)⟩
theorem lw_p10 : lw_okq (⟨"MailViews$Session", "learnFlags", "(LMailViews$Mailbox;)V"⟩, 9) := ⟨⟨by decide +kernel, by decide +kernel⟩, List.mem_of_getElem? (i := 45) (by decide +kernel), List.mem_of_getElem? (i := 296) (by decide +kernel), List.mem_of_getElem? (i := 297) (by decide +kernel)⟩
theorem lw_p11 : lw_okq (⟨"MailViews", "isInView", "(II)Z"⟩, 6) := ⟨⟨by decide +kernel, by decide +kernel⟩, List.mem_of_getElem? (i := 9) (by decide +kernel), List.mem_of_getElem? (i := 320) (by decide +kernel), List.mem_of_getElem? (i := 321) (by decide +kernel)⟩
theorem lw_p12 : lw_okq (⟨"MailViews$Criterion", "measure", "(I)V"⟩, 7) := ⟨⟨by decide +kernel, by decide +kernel⟩, List.mem_of_getElem? (i := 107) (by decide +kernel), List.mem_of_getElem? (i := 377) (by decide +kernel), List.mem_of_getElem? (i := 378) (by decide +kernel)⟩
theorem lw_p13 : lw_okq (⟨"MailViews$Criterion", "endFrom", "(I)I"⟩, 7) := ⟨⟨by decide +kernel, by decide +kernel⟩, List.mem_of_getElem? (i := 107) (by decide +kernel), List.mem_of_getElem? (i := 381) (by decide +kernel), List.mem_of_getElem? (i := 382) (by decide +kernel)⟩
theorem lw_p14 : lw_okq (⟨"MailViews$Criterion", "depthFrom", "(I)I"⟩, 7) := ⟨⟨by decide +kernel, by decide +kernel⟩, List.mem_of_getElem? (i := 107) (by decide +kernel), List.mem_of_getElem? (i := 385) (by decide +kernel), List.mem_of_getElem? (i := 386) (by decide +kernel)⟩
theorem lw_p15 : lw_okq (⟨"MailViews", "findHits", "(LMailViews$Session;LMailViews$Mailbox;)V"⟩, 6) := ⟨⟨by decide +kernel, by decide +kernel⟩, List.mem_of_getElem? (i := 9) (by decide +kernel), List.mem_of_getElem? (i := 396) (by decide +kernel), List.mem_of_getElem? (i := 397) (by decide +kernel)⟩
def lw_privs_1 : List (MethodName × Nat) := [(⟨"MailViews", "add", "(III)I"⟩, 6), (⟨"MailViews$Mailbox", "move", "(II)V"⟩, 6), (⟨"MailViews$Journal", "note", "(IIIII)V"⟩, 7), (⟨"MailViews$Session", "takeInNew", "(LMailViews$Mailbox;)V"⟩, 9), (⟨"MailViews", "hasMailbox", "(I)Z"⟩, 6), (⟨"MailViews", "removeDeleted", "(I)I"⟩, 6), (⟨"MailViews", "update", "(IZ)V"⟩, 6), (⟨"MailViews", "mailboxOf", "(I)LMailViews$Mailbox;"⟩, 6), (⟨"MailViews$Session", "dropGone", "(LMailViews$Mailbox;)V"⟩, 9), (⟨"MailViews$Session", "tell", "(II)V"⟩, 9), (⟨"MailViews$Session", "learnFlags", "(LMailViews$Mailbox;)V"⟩, 9), (⟨"MailViews", "isInView", "(II)Z"⟩, 6), (⟨"MailViews$Criterion", "measure", "(I)V"⟩, 7), (⟨"MailViews$Criterion", "endFrom", "(I)I"⟩, 7), (⟨"MailViews$Criterion", "depthFrom", "(I)I"⟩, 7), (⟨"MailViews", "findHits", "(LMailViews$Session;LMailViews$Mailbox;)V"⟩, 6)]
theorem lw_r1 : ∀ q ∈ lw_privs_1, lw_okq q := List.forall_mem_cons.mpr ⟨lw_p0, List.forall_mem_cons.mpr ⟨lw_p1, List.forall_mem_cons.mpr ⟨lw_p2, List.forall_mem_cons.mpr ⟨lw_p3, List.forall_mem_cons.mpr ⟨lw_p4, List.forall_mem_cons.mpr ⟨lw_p5, List.forall_mem_cons.mpr ⟨lw_p6, List.forall_mem_cons.mpr ⟨lw_p7, List.forall_mem_cons.mpr ⟨lw_p8, List.forall_mem_cons.mpr ⟨lw_p9, List.forall_mem_cons.mpr ⟨lw_p10, List.forall_mem_cons.mpr ⟨lw_p11, List.forall_mem_cons.mpr ⟨lw_p12, List.forall_mem_cons.mpr ⟨lw_p13, List.forall_mem_cons.mpr ⟨lw_p14, List.forall_mem_cons.mpr ⟨lw_p15, fun _ h => absurd h List.not_mem_nil⟩⟩⟩⟩⟩⟩⟩⟩⟩⟩⟩⟩⟩⟩⟩⟩
theorem lw_p16 : lw_okq (⟨"MailViews$Criterion", "leafHolds", "(ILMailViews$Mailbox;II)Z"⟩, 7) := ⟨⟨by decide +kernel, by decide +kernel⟩, List.mem_of_getElem? (i := 107) (by decide +kernel), List.mem_of_getElem? (i := 404) (by decide +kernel), List.mem_of_getElem? (i := 405) (by decide +kernel)⟩
theorem lw_p17 : lw_okq (⟨"MailViews$Criterion", "joinHolds", "(I)Z"⟩, 7) := ⟨⟨by decide +kernel, by decide +kernel⟩, List.mem_of_getElem? (i := 107) (by decide +kernel), List.mem_of_getElem? (i := 411) (by decide +kernel), List.mem_of_getElem? (i := 412) (by decide +kernel)⟩
theorem lw_p18 : lw_okq (⟨"MailViews$Criterion", "holdsFrom", "(I)Z"⟩, 7) := ⟨⟨by decide +kernel, by decide +kernel⟩, List.mem_of_getElem? (i := 107) (by decide +kernel), List.mem_of_getElem? (i := 415) (by decide +kernel), List.mem_of_getElem? (i := 416) (by decide +kernel)⟩
theorem lw_p19 : lw_okq (⟨"MailViews$Journal", "takeBack", "(ILMailViews$Mailbox;)V"⟩, 7) := ⟨⟨by decide +kernel, by decide +kernel⟩, List.mem_of_getElem? (i := 79) (by decide +kernel), List.mem_of_getElem? (i := 448) (by decide +kernel), List.mem_of_getElem? (i := 449) (by decide +kernel)⟩
theorem lw_p20 : lw_okq (⟨"MailViews", "sessionsWith", "(I)I"⟩, 6) := ⟨⟨by decide +kernel, by decide +kernel⟩, List.mem_of_getElem? (i := 9) (by decide +kernel), List.mem_of_getElem? (i := 496) (by decide +kernel), List.mem_of_getElem? (i := 497) (by decide +kernel)⟩
theorem lw_p21 : lw_okq (⟨"MailViewsModel", "add", "(III)I"⟩, 21) := ⟨⟨by decide +kernel, by decide +kernel⟩, List.mem_of_getElem? (i := 508) (by decide +kernel), List.mem_of_getElem? (i := 585) (by decide +kernel), List.mem_of_getElem? (i := 586) (by decide +kernel)⟩
theorem lw_p22 : lw_okq (⟨"MailViewsModel", "note", "(IIIII)V"⟩, 21) := ⟨⟨by decide +kernel, by decide +kernel⟩, List.mem_of_getElem? (i := 508) (by decide +kernel), List.mem_of_getElem? (i := 589) (by decide +kernel), List.mem_of_getElem? (i := 590) (by decide +kernel)⟩
theorem lw_p23 : lw_okq (⟨"MailViewsModel", "apply", "(I)V"⟩, 21) := ⟨⟨by decide +kernel, by decide +kernel⟩, List.mem_of_getElem? (i := 508) (by decide +kernel), List.mem_of_getElem? (i := 593) (by decide +kernel), List.mem_of_getElem? (i := 594) (by decide +kernel)⟩
theorem lw_p24 : lw_okq (⟨"MailViewsModel", "place", "(II)I"⟩, 21) := ⟨⟨by decide +kernel, by decide +kernel⟩, List.mem_of_getElem? (i := 508) (by decide +kernel), List.mem_of_getElem? (i := 597) (by decide +kernel), List.mem_of_getElem? (i := 598) (by decide +kernel)⟩
theorem lw_p25 : lw_okq (⟨"MailViewsModel", "gather", "(I)I"⟩, 21) := ⟨⟨by decide +kernel, by decide +kernel⟩, List.mem_of_getElem? (i := 508) (by decide +kernel), List.mem_of_getElem? (i := 605) (by decide +kernel), List.mem_of_getElem? (i := 606) (by decide +kernel)⟩
theorem lw_p26 : lw_okq (⟨"MailViewsModel", "none", "(I)Z"⟩, 21) := ⟨⟨by decide +kernel, by decide +kernel⟩, List.mem_of_getElem? (i := 508) (by decide +kernel), List.mem_of_getElem? (i := 613) (by decide +kernel), List.mem_of_getElem? (i := 614) (by decide +kernel)⟩
theorem lw_p27 : lw_okq (⟨"MailViewsModel", "purge", "(I)I"⟩, 21) := ⟨⟨by decide +kernel, by decide +kernel⟩, List.mem_of_getElem? (i := 508) (by decide +kernel), List.mem_of_getElem? (i := 617) (by decide +kernel), List.mem_of_getElem? (i := 618) (by decide +kernel)⟩
theorem lw_p28 : lw_okq (⟨"MailViewsModel", "update", "(IZ)V"⟩, 21) := ⟨⟨by decide +kernel, by decide +kernel⟩, List.mem_of_getElem? (i := 508) (by decide +kernel), List.mem_of_getElem? (i := 625) (by decide +kernel), List.mem_of_getElem? (i := 626) (by decide +kernel)⟩
theorem lw_p29 : lw_okq (⟨"MailViewsModel", "gone", "(II)Z"⟩, 21) := ⟨⟨by decide +kernel, by decide +kernel⟩, List.mem_of_getElem? (i := 508) (by decide +kernel), List.mem_of_getElem? (i := 629) (by decide +kernel), List.mem_of_getElem? (i := 630) (by decide +kernel)⟩
theorem lw_p30 : lw_okq (⟨"MailViewsModel", "uidOf", "(II)I"⟩, 21) := ⟨⟨by decide +kernel, by decide +kernel⟩, List.mem_of_getElem? (i := 508) (by decide +kernel), List.mem_of_getElem? (i := 633) (by decide +kernel), List.mem_of_getElem? (i := 634) (by decide +kernel)⟩
theorem lw_p31 : lw_okq (⟨"MailViewsModel", "leave", "(II)V"⟩, 21) := ⟨⟨by decide +kernel, by decide +kernel⟩, List.mem_of_getElem? (i := 508) (by decide +kernel), List.mem_of_getElem? (i := 637) (by decide +kernel), List.mem_of_getElem? (i := 638) (by decide +kernel)⟩
def lw_privs_2 : List (MethodName × Nat) := [(⟨"MailViews$Criterion", "leafHolds", "(ILMailViews$Mailbox;II)Z"⟩, 7), (⟨"MailViews$Criterion", "joinHolds", "(I)Z"⟩, 7), (⟨"MailViews$Criterion", "holdsFrom", "(I)Z"⟩, 7), (⟨"MailViews$Journal", "takeBack", "(ILMailViews$Mailbox;)V"⟩, 7), (⟨"MailViews", "sessionsWith", "(I)I"⟩, 6), (⟨"MailViewsModel", "add", "(III)I"⟩, 21), (⟨"MailViewsModel", "note", "(IIIII)V"⟩, 21), (⟨"MailViewsModel", "apply", "(I)V"⟩, 21), (⟨"MailViewsModel", "place", "(II)I"⟩, 21), (⟨"MailViewsModel", "gather", "(I)I"⟩, 21), (⟨"MailViewsModel", "none", "(I)Z"⟩, 21), (⟨"MailViewsModel", "purge", "(I)I"⟩, 21), (⟨"MailViewsModel", "update", "(IZ)V"⟩, 21), (⟨"MailViewsModel", "gone", "(II)Z"⟩, 21), (⟨"MailViewsModel", "uidOf", "(II)I"⟩, 21), (⟨"MailViewsModel", "leave", "(II)V"⟩, 21)]
theorem lw_r2 : ∀ q ∈ lw_privs_2, lw_okq q := List.forall_mem_cons.mpr ⟨lw_p16, List.forall_mem_cons.mpr ⟨lw_p17, List.forall_mem_cons.mpr ⟨lw_p18, List.forall_mem_cons.mpr ⟨lw_p19, List.forall_mem_cons.mpr ⟨lw_p20, List.forall_mem_cons.mpr ⟨lw_p21, List.forall_mem_cons.mpr ⟨lw_p22, List.forall_mem_cons.mpr ⟨lw_p23, List.forall_mem_cons.mpr ⟨lw_p24, List.forall_mem_cons.mpr ⟨lw_p25, List.forall_mem_cons.mpr ⟨lw_p26, List.forall_mem_cons.mpr ⟨lw_p27, List.forall_mem_cons.mpr ⟨lw_p28, List.forall_mem_cons.mpr ⟨lw_p29, List.forall_mem_cons.mpr ⟨lw_p30, List.forall_mem_cons.mpr ⟨lw_p31, fun _ h => absurd h List.not_mem_nil⟩⟩⟩⟩⟩⟩⟩⟩⟩⟩⟩⟩⟩⟩⟩⟩
theorem lw_p32 : lw_okq (⟨"MailViewsModel", "tell", "(III)V"⟩, 21) := ⟨⟨by decide +kernel, by decide +kernel⟩, List.mem_of_getElem? (i := 508) (by decide +kernel), List.mem_of_getElem? (i := 641) (by decide +kernel), List.mem_of_getElem? (i := 642) (by decide +kernel)⟩
theorem lw_p33 : lw_okq (⟨"MailViewsModel", "flagsOf", "(II)I"⟩, 21) := ⟨⟨by decide +kernel, by decide +kernel⟩, List.mem_of_getElem? (i := 508) (by decide +kernel), List.mem_of_getElem? (i := 645) (by decide +kernel), List.mem_of_getElem? (i := 646) (by decide +kernel)⟩
theorem lw_p34 : lw_okq (⟨"MailViewsModel", "bad", "(II)Z"⟩, 21) := ⟨⟨by decide +kernel, by decide +kernel⟩, List.mem_of_getElem? (i := 508) (by decide +kernel), List.mem_of_getElem? (i := 653) (by decide +kernel), List.mem_of_getElem? (i := 654) (by decide +kernel)⟩
theorem lw_p35 : lw_okq (⟨"MailViewsModel", "good", "()Z"⟩, 21) := ⟨⟨by decide +kernel, by decide +kernel⟩, List.mem_of_getElem? (i := 508) (by decide +kernel), List.mem_of_getElem? (i := 677) (by decide +kernel), List.mem_of_getElem? (i := 678) (by decide +kernel)⟩
theorem lw_p36 : lw_okq (⟨"MailViewsModel", "parts", "(I)I"⟩, 21) := ⟨⟨by decide +kernel, by decide +kernel⟩, List.mem_of_getElem? (i := 508) (by decide +kernel), List.mem_of_getElem? (i := 681) (by decide +kernel), List.mem_of_getElem? (i := 682) (by decide +kernel)⟩
theorem lw_p37 : lw_okq (⟨"MailViewsModel", "fulfils", "(II)Z"⟩, 21) := ⟨⟨by decide +kernel, by decide +kernel⟩, List.mem_of_getElem? (i := 508) (by decide +kernel), List.mem_of_getElem? (i := 685) (by decide +kernel), List.mem_of_getElem? (i := 686) (by decide +kernel)⟩
theorem lw_p38 : lw_okq (⟨"MailViewsModel", "leaf", "(III)Z"⟩, 21) := ⟨⟨by decide +kernel, by decide +kernel⟩, List.mem_of_getElem? (i := 508) (by decide +kernel), List.mem_of_getElem? (i := 689) (by decide +kernel), List.mem_of_getElem? (i := 690) (by decide +kernel)⟩
def lw_privs_3 : List (MethodName × Nat) := [(⟨"MailViewsModel", "tell", "(III)V"⟩, 21), (⟨"MailViewsModel", "flagsOf", "(II)I"⟩, 21), (⟨"MailViewsModel", "bad", "(II)Z"⟩, 21), (⟨"MailViewsModel", "good", "()Z"⟩, 21), (⟨"MailViewsModel", "parts", "(I)I"⟩, 21), (⟨"MailViewsModel", "fulfils", "(II)Z"⟩, 21), (⟨"MailViewsModel", "leaf", "(III)Z"⟩, 21)]
theorem lw_r3 : ∀ q ∈ lw_privs_3, lw_okq q := List.forall_mem_cons.mpr ⟨lw_p32, List.forall_mem_cons.mpr ⟨lw_p33, List.forall_mem_cons.mpr ⟨lw_p34, List.forall_mem_cons.mpr ⟨lw_p35, List.forall_mem_cons.mpr ⟨lw_p36, List.forall_mem_cons.mpr ⟨lw_p37, List.forall_mem_cons.mpr ⟨lw_p38, fun _ h => absurd h List.not_mem_nil⟩⟩⟩⟩⟩⟩⟩
def lw_privs : List (MethodName × Nat) := lw_privs_1 ++ (lw_privs_2 ++ (lw_privs_3))
def lw_tbl : List Cond := k2_sels lw_privs ++ tables_1
theorem lw_privs_ok : ∀ q ∈ lw_privs, lw_okq q := by
  show ∀ q ∈ lw_privs_1 ++ (lw_privs_2 ++ (lw_privs_3)), lw_okq q
  exact List.forall_mem_append.mpr ⟨lw_r1, List.forall_mem_append.mpr ⟨lw_r2, lw_r3⟩⟩
end
section
/-! THE ABSTRACT MACHINE: a small interpreter; cells have numbers for addresses, ints are Int. -/
abbrev am_V : Type := Int ⊕ Option Nat
abbrev am_C : Type := (Nat × List am_V) ⊕ ((Nat × Nat × (Nat → Int)) ⊕ (Nat × Nat × (Nat → Option Nat)))
abbrev am_M : Type := Nat × Nat × (Nat → Option am_C)
abbrev am_L : Type := List (Option am_V)
abbrev am_F : Type := Nat × am_L × List am_V × am_M
abbrev am_Y : Type := Option am_V × am_M
abbrev am_R : Type := Option (am_F ⊕ (am_Y ⊕ (Nat × List am_V × am_F)))
abbrev am_I : Type := am_F → am_R
abbrev am_P : Type := Nat → (Nat × (Nat → am_I))
abbrev am_ok (z : Int) : Prop := -2147483648 ≤ z ∧ z < 2147483648
def am_up (μ : Nat → Option am_C) (a : Nat) (c : am_C) : Nat → Option am_C := fun x => if x = a then some c else μ x
theorem am_up_s {μ : Nat → Option am_C} {a : Nat} {c : am_C} : am_up μ a c a = some c := by simp [am_up]
theorem am_up_n {μ : Nat → Option am_C} {a x : Nat} {c : am_C} (h : x ≠ a) : am_up μ a c x = μ x := by simp [am_up, h]
def am_fu {α : Type} (f : Nat → α) (k : Nat) (z : α) : Nat → α := fun j => if j = k then z else f j
theorem am_fu_s {α : Type} {f : Nat → α} {k : Nat} {z : α} : am_fu f k z k = z := by simp [am_fu]
theorem am_fu_n {α : Type} {f : Nat → α} {k j : Nat} {z : α} (h : j ≠ k) : am_fu f k z j = f j := by simp [am_fu, h]
def am_and (x y : Int) : Int := (Int32.ofInt x &&& Int32.ofInt y).toInt
def am_or (x y : Int) : Int := (Int32.ofInt x ||| Int32.ofInt y).toInt
def am_xor (x y : Int) : Int := (Int32.ofInt x ^^^ Int32.ofInt y).toInt
def am_fit (k : Nat) (v : am_V) : Bool := match k, v with
  | 0, .inl _ => true
  | 1, .inl z => decide (z = 0 ∨ z = 1)
  | 2, .inr _ => true
  | _, _ => false
def am_ts (lo : Int) (ts : List Nat) (d : Nat) (x : Int) : Nat := if lo ≤ x ∧ x < lo + ts.length then ts.getD (x - lo).toNat d else d
def am_lk : List (Int × Nat) → Nat → Int → Nat
  | [], d, _ => d
  | q :: l, d, x => if x = q.1 then q.2 else am_lk l d x
-- what an instruction does; n: the next place
def i_fail : am_I := fun _ => none
def i_const (z : Int) (n : Nat) : am_I := fun q => some (.inl (n, q.2.1, .inl z :: q.2.2.1, q.2.2.2))
def i_null (n : Nat) : am_I := fun q => some (.inl (n, q.2.1, .inr none :: q.2.2.1, q.2.2.2))
def i_iload (k n : Nat) : am_I := fun q => match q.2.1[k]? with
  | some (some (.inl z)) => some (.inl (n, q.2.1, .inl z :: q.2.2.1, q.2.2.2))
  | _ => none
def i_aload (k n : Nat) : am_I := fun q => match q.2.1[k]? with
  | some (some (.inr r)) => some (.inl (n, q.2.1, .inr r :: q.2.2.1, q.2.2.2))
  | _ => none
def i_istore (k n : Nat) : am_I := fun q => match q.2.2.1 with
  | .inl z :: st => if k < q.2.1.length then some (.inl (n, q.2.1.set k (some (.inl z)), st, q.2.2.2)) else none
  | _ => none
def i_astore (k n : Nat) : am_I := fun q => match q.2.2.1 with
  | .inr r :: st => if k < q.2.1.length then some (.inl (n, q.2.1.set k (some (.inr r)), st, q.2.2.2)) else none
  | _ => none
def i_iinc (k : Nat) (z : Int) (n : Nat) : am_I := fun q => match q.2.1[k]? with
  | some (some (.inl x)) => if am_ok (x + z) then some (.inl (n, q.2.1.set k (some (.inl (x + z))), q.2.2.1, q.2.2.2)) else none
  | _ => none
def i_pop (n : Nat) : am_I := fun q => match q.2.2.1 with
  | _ :: st => some (.inl (n, q.2.1, st, q.2.2.2))
  | _ => none
def i_dup (n : Nat) : am_I := fun q => match q.2.2.1 with
  | v :: st => some (.inl (n, q.2.1, v :: v :: st, q.2.2.2))
  | _ => none
def i_dup_x1 (n : Nat) : am_I := fun q => match q.2.2.1 with
  | v :: u :: st => some (.inl (n, q.2.1, v :: u :: v :: st, q.2.2.2))
  | _ => none
def i_dup_x2 (n : Nat) : am_I := fun q => match q.2.2.1 with
  | v :: u :: t :: st => some (.inl (n, q.2.1, v :: u :: t :: v :: st, q.2.2.2))
  | _ => none
def i_dup2 (n : Nat) : am_I := fun q => match q.2.2.1 with
  | v :: u :: st => some (.inl (n, q.2.1, v :: u :: v :: u :: st, q.2.2.2))
  | _ => none
def i_goto (n : Nat) : am_I := fun q => some (.inl (n, q.2.1, q.2.2.1, q.2.2.2))

def i_iadd (n : Nat) : am_I := fun q => match q.2.2.1 with
  | .inl y :: .inl x :: st => if am_ok (x + y) then some (.inl (n, q.2.1, .inl (x + y) :: st, q.2.2.2)) else none
  | _ => none
def i_isub (n : Nat) : am_I := fun q => match q.2.2.1 with
  | .inl y :: .inl x :: st => if am_ok (x - y) then some (.inl (n, q.2.1, .inl (x - y) :: st, q.2.2.2)) else none
  | _ => none
def i_imul (n : Nat) : am_I := fun q => match q.2.2.1 with
  | .inl y :: .inl x :: st => if am_ok (x * y) then some (.inl (n, q.2.1, .inl (x * y) :: st, q.2.2.2)) else none
  | _ => none
def i_iand (n : Nat) : am_I := fun q => match q.2.2.1 with
  | .inl y :: .inl x :: st => some (.inl (n, q.2.1, .inl (am_and x y) :: st, q.2.2.2))
  | _ => none
def i_ior (n : Nat) : am_I := fun q => match q.2.2.1 with
  | .inl y :: .inl x :: st => some (.inl (n, q.2.1, .inl (am_or x y) :: st, q.2.2.2))
  | _ => none
def i_ixor (n : Nat) : am_I := fun q => match q.2.2.1 with
  | .inl y :: .inl x :: st => some (.inl (n, q.2.1, .inl (am_xor x y) :: st, q.2.2.2))
  | _ => none
def i_icmp_eq (t n : Nat) : am_I := fun q => match q.2.2.1 with
  | .inl y :: .inl x :: st => if x = y then some (.inl (t, q.2.1, st, q.2.2.2)) else some (.inl (n, q.2.1, st, q.2.2.2))
  | _ => none
def i_if_eq (t n : Nat) : am_I := fun q => match q.2.2.1 with
  | .inl x :: st => if x = 0 then some (.inl (t, q.2.1, st, q.2.2.2)) else some (.inl (n, q.2.1, st, q.2.2.2))
  | _ => none
def i_icmp_ne (t n : Nat) : am_I := fun q => match q.2.2.1 with
  | .inl y :: .inl x :: st => if ¬ x = y then some (.inl (t, q.2.1, st, q.2.2.2)) else some (.inl (n, q.2.1, st, q.2.2.2))
  | _ => none
def i_if_ne (t n : Nat) : am_I := fun q => match q.2.2.1 with
  | .inl x :: st => if ¬ x = 0 then some (.inl (t, q.2.1, st, q.2.2.2)) else some (.inl (n, q.2.1, st, q.2.2.2))
  | _ => none
def i_icmp_lt (t n : Nat) : am_I := fun q => match q.2.2.1 with
  | .inl y :: .inl x :: st => if x < y then some (.inl (t, q.2.1, st, q.2.2.2)) else some (.inl (n, q.2.1, st, q.2.2.2))
  | _ => none
def i_if_lt (t n : Nat) : am_I := fun q => match q.2.2.1 with
  | .inl x :: st => if x < 0 then some (.inl (t, q.2.1, st, q.2.2.2)) else some (.inl (n, q.2.1, st, q.2.2.2))
  | _ => none
def i_icmp_ge (t n : Nat) : am_I := fun q => match q.2.2.1 with
  | .inl y :: .inl x :: st => if y ≤ x then some (.inl (t, q.2.1, st, q.2.2.2)) else some (.inl (n, q.2.1, st, q.2.2.2))
  | _ => none
def i_if_ge (t n : Nat) : am_I := fun q => match q.2.2.1 with
  | .inl x :: st => if 0 ≤ x then some (.inl (t, q.2.1, st, q.2.2.2)) else some (.inl (n, q.2.1, st, q.2.2.2))
  | _ => none
def i_icmp_gt (t n : Nat) : am_I := fun q => match q.2.2.1 with
  | .inl y :: .inl x :: st => if y < x then some (.inl (t, q.2.1, st, q.2.2.2)) else some (.inl (n, q.2.1, st, q.2.2.2))
  | _ => none
def i_if_gt (t n : Nat) : am_I := fun q => match q.2.2.1 with
  | .inl x :: st => if 0 < x then some (.inl (t, q.2.1, st, q.2.2.2)) else some (.inl (n, q.2.1, st, q.2.2.2))
  | _ => none
def i_icmp_le (t n : Nat) : am_I := fun q => match q.2.2.1 with
  | .inl y :: .inl x :: st => if x ≤ y then some (.inl (t, q.2.1, st, q.2.2.2)) else some (.inl (n, q.2.1, st, q.2.2.2))
  | _ => none
def i_if_le (t n : Nat) : am_I := fun q => match q.2.2.1 with
  | .inl x :: st => if x ≤ 0 then some (.inl (t, q.2.1, st, q.2.2.2)) else some (.inl (n, q.2.1, st, q.2.2.2))
  | _ => none
def i_ifnull (t n : Nat) : am_I := fun q => match q.2.2.1 with
  | .inr none :: st => some (.inl (t, q.2.1, st, q.2.2.2))
  | .inr (some _) :: st => some (.inl (n, q.2.1, st, q.2.2.2))
  | _ => none
def i_ifnonnull (t n : Nat) : am_I := fun q => match q.2.2.1 with
  | .inr none :: st => some (.inl (n, q.2.1, st, q.2.2.2))
  | .inr (some _) :: st => some (.inl (t, q.2.1, st, q.2.2.2))
  | _ => none
def i_tsw (lo : Int) (ts : List Nat) (d : Nat) : am_I := fun q => match q.2.2.1 with
  | .inl x :: st => some (.inl (am_ts lo ts d x, q.2.1, st, q.2.2.2))
  | _ => none
def i_lsw (ps : List (Int × Nat)) (d : Nat) : am_I := fun q => match q.2.2.1 with
  | .inl x :: st => some (.inl (am_lk ps d x, q.2.1, st, q.2.2.2))
  | _ => none
def i_get (ci k n : Nat) : am_I := fun q => match q.2.2.1 with
  | .inr (some a) :: st => match q.2.2.2.2.2 a with
    | some (.inl o) => if o.1 = ci then (match o.2[k]? with
      | some v => some (.inl (n, q.2.1, v :: st, q.2.2.2))
      | none => none) else none
    | _ => none
  | _ => none
def i_put (ci k b n : Nat) : am_I := fun q => match q.2.2.1 with
  | v :: .inr (some a) :: st => match q.2.2.2.2.2 a with
    | some (.inl o) => if o.1 = ci ∧ k < o.2.length ∧ am_fit b v = true then some (.inl (n, q.2.1, st, q.2.2.2.1, q.2.2.2.2.1, am_up q.2.2.2.2.2 a (.inl (ci, o.2.set k v)))) else none
    | _ => none
  | _ => none
def i_iald (t n : Nat) : am_I := fun q => match q.2.2.1 with
  | .inl i :: .inr (some a) :: st => match q.2.2.2.2.2 a with
    | some (.inr (.inl o)) => if o.1 = t ∧ 0 ≤ i ∧ i < o.2.1 then some (.inl (n, q.2.1, .inl (o.2.2 i.toNat) :: st, q.2.2.2)) else none
    | _ => none
  | _ => none
def i_iast (t b n : Nat) : am_I := fun q => match q.2.2.1 with
  | .inl z :: .inl i :: .inr (some a) :: st => match q.2.2.2.2.2 a with
    | some (.inr (.inl o)) => if o.1 = t ∧ (0 ≤ i ∧ i < o.2.1) ∧ am_fit b (.inl z) = true then some (.inl (n, q.2.1, st, q.2.2.2.1, q.2.2.2.2.1, am_up q.2.2.2.2.2 a (.inr (.inl (t, o.2.1, am_fu o.2.2 i.toNat z))))) else none
    | _ => none
  | _ => none
def i_aald (t n : Nat) : am_I := fun q => match q.2.2.1 with
  | .inl i :: .inr (some a) :: st => match q.2.2.2.2.2 a with
    | some (.inr (.inr o)) => if o.1 = t ∧ 0 ≤ i ∧ i < o.2.1 then some (.inl (n, q.2.1, .inr (o.2.2 i.toNat) :: st, q.2.2.2)) else none
    | _ => none
  | _ => none
def i_aast (t ci n : Nat) : am_I := fun q => match q.2.2.1 with
  | .inr (some v) :: .inl i :: .inr (some a) :: st => match q.2.2.2.2.2 a, q.2.2.2.2.2 v with
    | some (.inr (.inr o)), some (.inl u) => if o.1 = t ∧ (0 ≤ i ∧ i < o.2.1) ∧ u.1 = ci then some (.inl (n, q.2.1, st, q.2.2.2.1, q.2.2.2.2.1, am_up q.2.2.2.2.2 a (.inr (.inr (t, o.2.1, am_fu o.2.2 i.toNat (some v)))))) else none
    | _, _ => none
  | _ => none
def i_alen (t n : Nat) : am_I := fun q => match q.2.2.1 with
  | .inr (some a) :: st => match q.2.2.2.2.2 a with
    | some (.inr (.inl o)) => if o.1 = t ∧ o.2.1 < 2147483648 then some (.inl (n, q.2.1, .inl o.2.1 :: st, q.2.2.2)) else none
    | some (.inr (.inr o)) => if o.1 = t ∧ o.2.1 < 2147483648 then some (.inl (n, q.2.1, .inl o.2.1 :: st, q.2.2.2)) else none
    | _ => none
  | _ => none
def i_new (ci : Nat) (fs : List am_V) (n : Nat) : am_I := fun q => some (.inl (n, q.2.1, .inr (some q.2.2.2.1) :: q.2.2.1, q.2.2.2.1 + 1, q.2.2.2.2.1 + fs.length, am_up q.2.2.2.2.2 q.2.2.2.1 (.inl (ci, fs))))
def i_newa (t n : Nat) : am_I := fun q => match q.2.2.1 with
  | .inl i :: st => if 0 ≤ i ∧ i ≤ 100000 then some (.inl (n, q.2.1, .inr (some q.2.2.2.1) :: st, q.2.2.2.1 + 1, q.2.2.2.2.1 + i.toNat, am_up q.2.2.2.2.2 q.2.2.2.1 (.inr (.inl (t, i.toNat, fun _ => 0))))) else none
  | _ => none
def i_anewa (t n : Nat) : am_I := fun q => match q.2.2.1 with
  | .inl i :: st => if 0 ≤ i ∧ i ≤ 100000 then some (.inl (n, q.2.1, .inr (some q.2.2.2.1) :: st, q.2.2.2.1 + 1, q.2.2.2.2.1 + i.toNat, am_up q.2.2.2.2.2 q.2.2.2.1 (.inr (.inr (t, i.toNat, fun _ => none))))) else none
  | _ => none
def i_callS (j na n : Nat) : am_I := fun q => if na ≤ q.2.2.1.length ∧ q.2.2.1.length ≤ na + 8 then some (.inr (.inr (j, (q.2.2.1.take na).reverse, n, q.2.1, q.2.2.1.drop na, q.2.2.2))) else none
def i_callI (j na n : Nat) : am_I := fun q => if na + 1 ≤ q.2.2.1.length ∧ q.2.2.1.length ≤ na + 9 then (match q.2.2.1[na]? with
  | some (.inr (some _)) => some (.inr (.inr (j, (q.2.2.1.take (na + 1)).reverse, n, q.2.1, q.2.2.1.drop (na + 1), q.2.2.2)))
  | _ => none) else none
def i_callV (ci j na n : Nat) : am_I := fun q => if na + 1 ≤ q.2.2.1.length ∧ q.2.2.1.length ≤ na + 9 then (match q.2.2.1[na]? with
  | some (.inr (some a)) => match q.2.2.2.2.2 a with
    | some (.inl o) => if o.1 = ci then some (.inr (.inr (j, (q.2.2.1.take (na + 1)).reverse, n, q.2.1, q.2.2.1.drop (na + 1), q.2.2.2))) else none
    | _ => none
  | _ => none) else none
def i_iret : am_I := fun q => match q.2.2.1 with
  | [.inl z] => some (.inr (.inl (some (.inl z), q.2.2.2)))
  | _ => none
def i_zret : am_I := fun q => match q.2.2.1 with
  | [.inl z] => if z = 0 ∨ z = 1 then some (.inr (.inl (some (.inl z), q.2.2.2))) else none
  | _ => none
def i_aret : am_I := fun q => match q.2.2.1 with
  | [.inr r] => some (.inr (.inl (some (.inr r), q.2.2.2)))
  | _ => none
def i_vret : am_I := fun q => match q.2.2.1 with
  | [] => some (.inr (.inl (none, q.2.2.2)))
  | _ => none
/-- Math.max and Math.min as methods of one step -/
def i_max : am_I := fun q => match q.2.1 with
  | [some (.inl x), some (.inl y)] => some (.inr (.inl (some (.inl (if x < y then y else x)), q.2.2.2)))
  | _ => none
def i_min : am_I := fun q => match q.2.1 with
  | [some (.inl x), some (.inl y)] => some (.inr (.inl (some (.inl (if y < x then y else x)), q.2.2.2)))
  | _ => none
/-- the script: cell 0, of L ints xs, only read -/
def i_sld (L : Nat) (xs : Nat → Int) (n : Nat) : am_I := fun q => match q.2.2.1 with
  | .inl i :: .inr (some 0) :: st => if 0 ≤ i ∧ i < L then some (.inl (n, q.2.1, .inl (xs i.toNat) :: st, q.2.2.2)) else none
  | _ => none
def i_slen (L n : Nat) : am_I := fun q => match q.2.2.1 with
  | .inr (some 0) :: st => some (.inl (n, q.2.1, .inl L :: st, q.2.2.2))
  | _ => none
-- runs
abbrev am_K : Type := Nat → List am_V → am_M → Option am_Y
def am_nx (c : am_K) (g : am_F → Option am_Y) (x : am_R) : Option am_Y := match x with
  | none => none
  | some (.inl q) => g q
  | some (.inr (.inl y)) => some y
  | some (.inr (.inr w)) => match c w.1 w.2.1 w.2.2.2.2.2 with
    | none => none
    | some y => g (w.2.2.1, w.2.2.2.1, y.1.toList ++ w.2.2.2.2.1, y.2)
def am_run (c : am_K) (code : Nat → am_I) : Nat → am_F → Option am_Y
  | 0, _ => none
  | k + 1, q => am_nx c (am_run c code k) (code q.1 q)
def am_ent (nL : Nat) (as : List am_V) : am_L := as.map some ++ List.replicate (nL - as.length) none
def am_call (P : am_P) (k : Nat) : Nat → am_K
  | 0, _, _, _ => none
  | d + 1, j, as, M => if as.length ≤ (P j).1 then am_run (am_call P k d) (P j).2 k (0, am_ent (P j).1 as, [], M) else none
def am_Ex (P : am_P) (d : Nat) (code : Nat → am_I) (q : am_F) (Q : Option am_V → am_M → Prop) : Prop := ∃ (k : Nat) (y : am_Y), am_run (am_call P k d) code k q = some y ∧ Q y.1 y.2
def am_Wp (P : am_P) (d j : Nat) (as : List am_V) (M : am_M) (Q : Option am_V → am_M → Prop) : Prop := ∃ (k : Nat) (y : am_Y), am_call P k d j as M = some y ∧ Q y.1 y.2
theorem am_run_s (c : am_K) (code : Nat → am_I) (k : Nat) (q : am_F) : am_run c code (k + 1) q = am_nx c (am_run c code k) (code q.1 q) := rfl
theorem am_call_s (P : am_P) (k d j : Nat) (as : List am_V) (M : am_M) : am_call P k (d + 1) j as M = if as.length ≤ (P j).1 then am_run (am_call P k d) (P j).2 k (0, am_ent (P j).1 as, [], M) else none := rfl
theorem am_nx_c (c : am_K) (g : am_F → Option am_Y) (w : Nat × List am_V × am_F) {y : am_Y} (h : c w.1 w.2.1 w.2.2.2.2.2 = some y) : am_nx c g (some (.inr (.inr w))) = g (w.2.2.1, w.2.2.2.1, y.1.toList ++ w.2.2.2.2.1, y.2) := by
  simp only [am_nx, h]
theorem am_nx_m {c c' : am_K} {g g' : am_F → Option am_Y} (hc : ∀ j as M y, c j as M = some y → c' j as M = some y) (hg : ∀ q y, g q = some y → g' q = some y) (x : am_R) (y : am_Y) (h : am_nx c g x = some y) : am_nx c' g' x = some y := by
  rcases x with _ | q | r | w
  · exact h
  · exact hg q y h
  · exact h
  · cases hr : c w.1 w.2.1 w.2.2.2.2.2 with
    | none => simp only [am_nx, hr] at h; cases h
    | some z =>
      rw [am_nx_c c g w hr] at h
      rw [am_nx_c c' g' w (hc _ _ _ _ hr)]
      exact hg _ _ h
theorem am_run_m {c c' : am_K} {code : Nat → am_I} (hc : ∀ j as M y, c j as M = some y → c' j as M = some y) : ∀ (k k' : Nat), k ≤ k' → ∀ (q : am_F) (y : am_Y), am_run c code k q = some y → am_run c' code k' q = some y := by
  intro k
  induction k with
  | zero => intro k' _ q y h; cases h
  | succ k ih =>
    intro k' hk q y h
    obtain ⟨k2, rfl⟩ : ∃ n, k' = n + 1 := ⟨k' - 1, by omega⟩
    rw [am_run_s] at h ⊢
    exact am_nx_m hc (ih k2 (by omega)) _ y h
theorem am_call_m {P : am_P} : ∀ (d k k' : Nat), k ≤ k' → ∀ (j : Nat) (as : List am_V) (M : am_M) (y : am_Y), am_call P k d j as M = some y → am_call P k' d j as M = some y := by
  intro d
  induction d with
  | zero => intro k k' _ j as M y h; cases h
  | succ d ih =>
    intro k k' hk j as M y h
    rw [am_call_s] at h ⊢
    by_cases hn : as.length ≤ (P j).1
    · rw [if_pos hn] at h ⊢
      exact am_run_m (ih k k' hk) k k' hk _ y h
    · rw [if_neg hn] at h
      cases h
section AmRows
variable {P : am_P} {d pc n k t : Nat} {code : Nat → am_I} {ls : am_L} {st : List am_V} {M : am_M} {Q : Option am_V → am_M → Prop}
theorem x_step {q q' : am_F} (hc : code q.1 q = some (.inl q')) (h : am_Ex P d code q' Q) : am_Ex P d code q Q := by
  obtain ⟨k, y, h1, h2⟩ := h
  refine ⟨k + 1, y, ?_, h2⟩
  rw [am_run_s, hc]
  exact am_run_m (am_call_m d k (k + 1) (Nat.le_succ k)) k k (Nat.le_refl k) q' y h1
theorem x_done {q : am_F} {y : am_Y} (hc : code q.1 q = some (.inr (.inl y))) (h : Q y.1 y.2) : am_Ex P d code q Q := by
  refine ⟨1, y, ?_, h⟩
  rw [am_run_s, hc]
  rfl
theorem x_callw {q : am_F} {w : Nat × List am_V × am_F} (hc : code q.1 q = some (.inr (.inr w))) (h : am_Wp P d w.1 w.2.1 w.2.2.2.2.2 (fun r M' => am_Ex P d code (w.2.2.1, w.2.2.2.1, r.toList ++ w.2.2.2.2.1, M') Q)) : am_Ex P d code q Q := by
  obtain ⟨k1, y1, h1, k2, y, h2, h3⟩ := h
  refine ⟨k1 + k2 + 1, y, ?_, h3⟩
  rw [am_run_s, hc, am_nx_c _ _ w (am_call_m d k1 (k1 + k2 + 1) (by omega) _ _ _ _ h1)]
  exact am_run_m (am_call_m d k2 (k1 + k2 + 1) (by omega)) k2 (k1 + k2) (by omega) _ y h2
theorem am_wp {j nL : Nat} {as : List am_V} (hP : P j = (nL, code)) (hn : as.length ≤ nL) (h : am_Ex P d code (0, am_ent nL as, [], M) Q) : am_Wp P (d + 1) j as M Q := by
  obtain ⟨k, y, h1, h2⟩ := h
  refine ⟨k, y, ?_, h2⟩
  rw [am_call_s, hP, if_pos hn]
  exact h1
theorem am_wi {j : Nat} {as : List am_V} {Q' : Option am_V → am_M → Prop} (h : am_Wp P d j as M Q) (hQ : ∀ r M', Q r M' → Q' r M') : am_Wp P d j as M Q' := by
  obtain ⟨k, y, h1, h2⟩ := h
  exact ⟨k, y, h1, hQ _ _ h2⟩
theorem am_xi {q : am_F} {Q' : Option am_V → am_M → Prop} (h : am_Ex P d code q Q) (hQ : ∀ r M', Q r M' → Q' r M') : am_Ex P d code q Q' := by
  obtain ⟨k, y, h1, h2⟩ := h
  exact ⟨k, y, h1, hQ _ _ h2⟩

theorem x_const {z : Int} (hc : code pc = i_const z n)  (h : am_Ex P d code (n, ls, .inl z :: st, M) Q) : am_Ex P d code (pc, ls, st, M) Q :=
  x_step (by show code pc _ = _; rw [hc]; simp [i_const]) h
theorem x_null  (hc : code pc = i_null n)  (h : am_Ex P d code (n, ls, .inr none :: st, M) Q) : am_Ex P d code (pc, ls, st, M) Q :=
  x_step (by show code pc _ = _; rw [hc]; simp [i_null]) h
theorem x_iload {z : Int} (hc : code pc = i_iload k n) (hl : ls[k]? = some (some (.inl z))) (h : am_Ex P d code (n, ls, .inl z :: st, M) Q) : am_Ex P d code (pc, ls, st, M) Q :=
  x_step (by show code pc _ = _; rw [hc]; simp [i_iload, hl]) h
theorem x_aload {r : Option Nat} (hc : code pc = i_aload k n) (hl : ls[k]? = some (some (.inr r))) (h : am_Ex P d code (n, ls, .inr r :: st, M) Q) : am_Ex P d code (pc, ls, st, M) Q :=
  x_step (by show code pc _ = _; rw [hc]; simp [i_aload, hl]) h
theorem x_istore {z : Int} (hc : code pc = i_istore k n) (hl : k < ls.length) (h : am_Ex P d code (n, ls.set k (some (.inl z)), st, M) Q) : am_Ex P d code (pc, ls, .inl z :: st, M) Q :=
  x_step (by show code pc _ = _; rw [hc]; simp [i_istore, hl]) h
theorem x_astore {r : Option Nat} (hc : code pc = i_astore k n) (hl : k < ls.length) (h : am_Ex P d code (n, ls.set k (some (.inr r)), st, M) Q) : am_Ex P d code (pc, ls, .inr r :: st, M) Q :=
  x_step (by show code pc _ = _; rw [hc]; simp [i_astore, hl]) h
theorem x_iinc {z x : Int} (hc : code pc = i_iinc k z n) (hl : ls[k]? = some (some (.inl x))) (hz : am_ok (x + z)) (h : am_Ex P d code (n, ls.set k (some (.inl (x + z))), st, M) Q) : am_Ex P d code (pc, ls, st, M) Q :=
  x_step (by show code pc _ = _; rw [hc]; simp [i_iinc, hl, hz]) h
theorem x_pop {v : am_V} (hc : code pc = i_pop n)  (h : am_Ex P d code (n, ls, st, M) Q) : am_Ex P d code (pc, ls, v :: st, M) Q :=
  x_step (by show code pc _ = _; rw [hc]; simp [i_pop]) h
theorem x_dup {v : am_V} (hc : code pc = i_dup n)  (h : am_Ex P d code (n, ls, v :: v :: st, M) Q) : am_Ex P d code (pc, ls, v :: st, M) Q :=
  x_step (by show code pc _ = _; rw [hc]; simp [i_dup]) h
theorem x_dup_x1 {v u : am_V} (hc : code pc = i_dup_x1 n)  (h : am_Ex P d code (n, ls, v :: u :: v :: st, M) Q) : am_Ex P d code (pc, ls, v :: u :: st, M) Q :=
  x_step (by show code pc _ = _; rw [hc]; simp [i_dup_x1]) h
theorem x_dup_x2 {v u s : am_V} (hc : code pc = i_dup_x2 n)  (h : am_Ex P d code (n, ls, v :: u :: s :: v :: st, M) Q) : am_Ex P d code (pc, ls, v :: u :: s :: st, M) Q :=
  x_step (by show code pc _ = _; rw [hc]; simp [i_dup_x2]) h
theorem x_dup2 {v u : am_V} (hc : code pc = i_dup2 n)  (h : am_Ex P d code (n, ls, v :: u :: v :: u :: st, M) Q) : am_Ex P d code (pc, ls, v :: u :: st, M) Q :=
  x_step (by show code pc _ = _; rw [hc]; simp [i_dup2]) h
theorem x_goto  (hc : code pc = i_goto n)  (h : am_Ex P d code (n, ls, st, M) Q) : am_Ex P d code (pc, ls, st, M) Q :=
  x_step (by show code pc _ = _; rw [hc]; simp [i_goto]) h
theorem x_iadd {x y : Int} (hc : code pc = i_iadd n) (hz : am_ok (x + y)) (h : am_Ex P d code (n, ls, .inl (x + y) :: st, M) Q) : am_Ex P d code (pc, ls, .inl y :: .inl x :: st, M) Q :=
  x_step (by show code pc _ = _; rw [hc]; simp [i_iadd, hz]) h
theorem x_isub {x y : Int} (hc : code pc = i_isub n) (hz : am_ok (x - y)) (h : am_Ex P d code (n, ls, .inl (x - y) :: st, M) Q) : am_Ex P d code (pc, ls, .inl y :: .inl x :: st, M) Q :=
  x_step (by show code pc _ = _; rw [hc]; simp [i_isub, hz]) h
theorem x_imul {x y : Int} (hc : code pc = i_imul n) (hz : am_ok (x * y)) (h : am_Ex P d code (n, ls, .inl (x * y) :: st, M) Q) : am_Ex P d code (pc, ls, .inl y :: .inl x :: st, M) Q :=
  x_step (by show code pc _ = _; rw [hc]; simp [i_imul, hz]) h
theorem x_iand {x y : Int} (hc : code pc = i_iand n)  (h : am_Ex P d code (n, ls, .inl (am_and x y) :: st, M) Q) : am_Ex P d code (pc, ls, .inl y :: .inl x :: st, M) Q :=
  x_step (by show code pc _ = _; rw [hc]; simp [i_iand]) h
theorem x_ior {x y : Int} (hc : code pc = i_ior n)  (h : am_Ex P d code (n, ls, .inl (am_or x y) :: st, M) Q) : am_Ex P d code (pc, ls, .inl y :: .inl x :: st, M) Q :=
  x_step (by show code pc _ = _; rw [hc]; simp [i_ior]) h
theorem x_ixor {x y : Int} (hc : code pc = i_ixor n)  (h : am_Ex P d code (n, ls, .inl (am_xor x y) :: st, M) Q) : am_Ex P d code (pc, ls, .inl y :: .inl x :: st, M) Q :=
  x_step (by show code pc _ = _; rw [hc]; simp [i_ixor]) h
theorem x_icmp_eq {x y : Int} (hc : code pc = i_icmp_eq t n) (h1 : x = y → am_Ex P d code (t, ls, st, M) Q) (h2 : ¬ (x = y) → am_Ex P d code (n, ls, st, M) Q) : am_Ex P d code (pc, ls, .inl y :: .inl x :: st, M) Q := by
  by_cases hx : x = y
  · refine x_step (q' := (t, ls, st, M)) ?_ (h1 hx)
    show code pc _ = _
    rw [hc]
    simp only [i_icmp_eq]
    rw [if_pos hx]
  · refine x_step (q' := (n, ls, st, M)) ?_ (h2 hx)
    show code pc _ = _
    rw [hc]
    simp only [i_icmp_eq]
    rw [if_neg hx]
theorem x_if_eq {x : Int} (hc : code pc = i_if_eq t n) (h1 : x = 0 → am_Ex P d code (t, ls, st, M) Q) (h2 : ¬ (x = 0) → am_Ex P d code (n, ls, st, M) Q) : am_Ex P d code (pc, ls, .inl x :: st, M) Q := by
  by_cases hx : x = 0
  · refine x_step (q' := (t, ls, st, M)) ?_ (h1 hx)
    show code pc _ = _
    rw [hc]
    simp only [i_if_eq]
    rw [if_pos hx]
  · refine x_step (q' := (n, ls, st, M)) ?_ (h2 hx)
    show code pc _ = _
    rw [hc]
    simp only [i_if_eq]
    rw [if_neg hx]
theorem x_icmp_ne {x y : Int} (hc : code pc = i_icmp_ne t n) (h1 : ¬ x = y → am_Ex P d code (t, ls, st, M) Q) (h2 : ¬ (¬ x = y) → am_Ex P d code (n, ls, st, M) Q) : am_Ex P d code (pc, ls, .inl y :: .inl x :: st, M) Q := by
  by_cases hx : ¬ x = y
  · refine x_step (q' := (t, ls, st, M)) ?_ (h1 hx)
    show code pc _ = _
    rw [hc]
    simp only [i_icmp_ne]
    rw [if_pos hx]
  · refine x_step (q' := (n, ls, st, M)) ?_ (h2 hx)
    show code pc _ = _
    rw [hc]
    simp only [i_icmp_ne]
    rw [if_neg hx]
theorem x_if_ne {x : Int} (hc : code pc = i_if_ne t n) (h1 : ¬ x = 0 → am_Ex P d code (t, ls, st, M) Q) (h2 : ¬ (¬ x = 0) → am_Ex P d code (n, ls, st, M) Q) : am_Ex P d code (pc, ls, .inl x :: st, M) Q := by
  by_cases hx : ¬ x = 0
  · refine x_step (q' := (t, ls, st, M)) ?_ (h1 hx)
    show code pc _ = _
    rw [hc]
    simp only [i_if_ne]
    rw [if_pos hx]
  · refine x_step (q' := (n, ls, st, M)) ?_ (h2 hx)
    show code pc _ = _
    rw [hc]
    simp only [i_if_ne]
    rw [if_neg hx]
theorem x_icmp_lt {x y : Int} (hc : code pc = i_icmp_lt t n) (h1 : x < y → am_Ex P d code (t, ls, st, M) Q) (h2 : ¬ (x < y) → am_Ex P d code (n, ls, st, M) Q) : am_Ex P d code (pc, ls, .inl y :: .inl x :: st, M) Q := by
  by_cases hx : x < y
  · refine x_step (q' := (t, ls, st, M)) ?_ (h1 hx)
    show code pc _ = _
    rw [hc]
    simp only [i_icmp_lt]
    rw [if_pos hx]
  · refine x_step (q' := (n, ls, st, M)) ?_ (h2 hx)
    show code pc _ = _
    rw [hc]
    simp only [i_icmp_lt]
    rw [if_neg hx]
theorem x_if_lt {x : Int} (hc : code pc = i_if_lt t n) (h1 : x < 0 → am_Ex P d code (t, ls, st, M) Q) (h2 : ¬ (x < 0) → am_Ex P d code (n, ls, st, M) Q) : am_Ex P d code (pc, ls, .inl x :: st, M) Q := by
  by_cases hx : x < 0
  · refine x_step (q' := (t, ls, st, M)) ?_ (h1 hx)
    show code pc _ = _
    rw [hc]
    simp only [i_if_lt]
    rw [if_pos hx]
  · refine x_step (q' := (n, ls, st, M)) ?_ (h2 hx)
    show code pc _ = _
    rw [hc]
    simp only [i_if_lt]
    rw [if_neg hx]
theorem x_icmp_ge {x y : Int} (hc : code pc = i_icmp_ge t n) (h1 : y ≤ x → am_Ex P d code (t, ls, st, M) Q) (h2 : ¬ (y ≤ x) → am_Ex P d code (n, ls, st, M) Q) : am_Ex P d code (pc, ls, .inl y :: .inl x :: st, M) Q := by
  by_cases hx : y ≤ x
  · refine x_step (q' := (t, ls, st, M)) ?_ (h1 hx)
    show code pc _ = _
    rw [hc]
    simp only [i_icmp_ge]
    rw [if_pos hx]
  · refine x_step (q' := (n, ls, st, M)) ?_ (h2 hx)
    show code pc _ = _
    rw [hc]
    simp only [i_icmp_ge]
    rw [if_neg hx]
theorem x_if_ge {x : Int} (hc : code pc = i_if_ge t n) (h1 : 0 ≤ x → am_Ex P d code (t, ls, st, M) Q) (h2 : ¬ (0 ≤ x) → am_Ex P d code (n, ls, st, M) Q) : am_Ex P d code (pc, ls, .inl x :: st, M) Q := by
  by_cases hx : 0 ≤ x
  · refine x_step (q' := (t, ls, st, M)) ?_ (h1 hx)
    show code pc _ = _
    rw [hc]
    simp only [i_if_ge]
    rw [if_pos hx]
  · refine x_step (q' := (n, ls, st, M)) ?_ (h2 hx)
    show code pc _ = _
    rw [hc]
    simp only [i_if_ge]
    rw [if_neg hx]
theorem x_icmp_gt {x y : Int} (hc : code pc = i_icmp_gt t n) (h1 : y < x → am_Ex P d code (t, ls, st, M) Q) (h2 : ¬ (y < x) → am_Ex P d code (n, ls, st, M) Q) : am_Ex P d code (pc, ls, .inl y :: .inl x :: st, M) Q := by
  by_cases hx : y < x
  · refine x_step (q' := (t, ls, st, M)) ?_ (h1 hx)
    show code pc _ = _
    rw [hc]
    simp only [i_icmp_gt]
    rw [if_pos hx]
  · refine x_step (q' := (n, ls, st, M)) ?_ (h2 hx)
    show code pc _ = _
    rw [hc]
    simp only [i_icmp_gt]
    rw [if_neg hx]
theorem x_if_gt {x : Int} (hc : code pc = i_if_gt t n) (h1 : 0 < x → am_Ex P d code (t, ls, st, M) Q) (h2 : ¬ (0 < x) → am_Ex P d code (n, ls, st, M) Q) : am_Ex P d code (pc, ls, .inl x :: st, M) Q := by
  by_cases hx : 0 < x
  · refine x_step (q' := (t, ls, st, M)) ?_ (h1 hx)
    show code pc _ = _
    rw [hc]
    simp only [i_if_gt]
    rw [if_pos hx]
  · refine x_step (q' := (n, ls, st, M)) ?_ (h2 hx)
    show code pc _ = _
    rw [hc]
    simp only [i_if_gt]
    rw [if_neg hx]
theorem x_icmp_le {x y : Int} (hc : code pc = i_icmp_le t n) (h1 : x ≤ y → am_Ex P d code (t, ls, st, M) Q) (h2 : ¬ (x ≤ y) → am_Ex P d code (n, ls, st, M) Q) : am_Ex P d code (pc, ls, .inl y :: .inl x :: st, M) Q := by
  by_cases hx : x ≤ y
  · refine x_step (q' := (t, ls, st, M)) ?_ (h1 hx)
    show code pc _ = _
    rw [hc]
    simp only [i_icmp_le]
    rw [if_pos hx]
  · refine x_step (q' := (n, ls, st, M)) ?_ (h2 hx)
    show code pc _ = _
    rw [hc]
    simp only [i_icmp_le]
    rw [if_neg hx]
theorem x_if_le {x : Int} (hc : code pc = i_if_le t n) (h1 : x ≤ 0 → am_Ex P d code (t, ls, st, M) Q) (h2 : ¬ (x ≤ 0) → am_Ex P d code (n, ls, st, M) Q) : am_Ex P d code (pc, ls, .inl x :: st, M) Q := by
  by_cases hx : x ≤ 0
  · refine x_step (q' := (t, ls, st, M)) ?_ (h1 hx)
    show code pc _ = _
    rw [hc]
    simp only [i_if_le]
    rw [if_pos hx]
  · refine x_step (q' := (n, ls, st, M)) ?_ (h2 hx)
    show code pc _ = _
    rw [hc]
    simp only [i_if_le]
    rw [if_neg hx]
theorem x_ifnull {r : Option Nat} (hc : code pc = i_ifnull t n) (h1 : r = none → am_Ex P d code (t, ls, st, M) Q) (h2 : ∀ a, r = some a → am_Ex P d code (n, ls, st, M) Q) : am_Ex P d code (pc, ls, .inr r :: st, M) Q := by
  cases r with
  | none => exact x_step (q' := (t, ls, st, M)) (by show code pc _ = _; rw [hc]; rfl) (h1 rfl)
  | some a => exact x_step (q' := (n, ls, st, M)) (by show code pc _ = _; rw [hc]; rfl) (h2 a rfl)
theorem x_ifnonnull {r : Option Nat} (hc : code pc = i_ifnonnull t n) (h1 : ∀ a, r = some a → am_Ex P d code (t, ls, st, M) Q) (h2 : r = none → am_Ex P d code (n, ls, st, M) Q) : am_Ex P d code (pc, ls, .inr r :: st, M) Q := by
  cases r with
  | none => exact x_step (q' := (n, ls, st, M)) (by show code pc _ = _; rw [hc]; rfl) (h2 rfl)
  | some a => exact x_step (q' := (t, ls, st, M)) (by show code pc _ = _; rw [hc]; rfl) (h1 a rfl)
theorem x_tsw {lo x : Int} {ts : List Nat} {t0 : Nat} (hc : code pc = i_tsw lo ts t0) (h : am_Ex P d code (am_ts lo ts t0 x, ls, st, M) Q) : am_Ex P d code (pc, ls, .inl x :: st, M) Q :=
  x_step (by show code pc _ = _; rw [hc]; rfl) h
theorem x_lsw {x : Int} {ps : List (Int × Nat)} {t0 : Nat} (hc : code pc = i_lsw ps t0) (h : am_Ex P d code (am_lk ps t0 x, ls, st, M) Q) : am_Ex P d code (pc, ls, .inl x :: st, M) Q :=
  x_step (by show code pc _ = _; rw [hc]; rfl) h
variable {nn ss a ci b : Nat} {μ : Nat → Option am_C}
theorem x_get {fs : List am_V} {v : am_V} (hc : code pc = i_get ci k n) (hm : μ a = some (.inl (ci, fs))) (hv : fs[k]? = some v) (h : am_Ex P d code (n, ls, v :: st, nn, ss, μ) Q) : am_Ex P d code (pc, ls, .inr (some a) :: st, nn, ss, μ) Q :=
  x_step (by show code pc _ = _; rw [hc]; simp [i_get, hm, hv]) h
theorem x_put {fs : List am_V} {v : am_V} (hc : code pc = i_put ci k b n) (hm : μ a = some (.inl (ci, fs))) (hk : k < fs.length) (hv : am_fit b v = true) (h : am_Ex P d code (n, ls, st, nn, ss, am_up μ a (.inl (ci, fs.set k v))) Q) : am_Ex P d code (pc, ls, v :: .inr (some a) :: st, nn, ss, μ) Q :=
  x_step (by show code pc _ = _; rw [hc]; simp [i_put, hm, hk, hv]) h
theorem x_iald {i : Int} {N : Nat} {f : Nat → Int} (hc : code pc = i_iald t n) (hm : μ a = some (.inr (.inl (t, N, f)))) (h0 : 0 ≤ i) (h1 : i < N) (h : am_Ex P d code (n, ls, .inl (f i.toNat) :: st, nn, ss, μ) Q) : am_Ex P d code (pc, ls, .inl i :: .inr (some a) :: st, nn, ss, μ) Q :=
  x_step (by show code pc _ = _; rw [hc]; simp [i_iald, hm, h0, h1]) h
theorem x_iast {i z : Int} {N : Nat} {f : Nat → Int} (hc : code pc = i_iast t b n) (hm : μ a = some (.inr (.inl (t, N, f)))) (h0 : 0 ≤ i) (h1 : i < N) (hv : am_fit b (.inl z) = true) (h : am_Ex P d code (n, ls, st, nn, ss, am_up μ a (.inr (.inl (t, N, am_fu f i.toNat z)))) Q) : am_Ex P d code (pc, ls, .inl z :: .inl i :: .inr (some a) :: st, nn, ss, μ) Q :=
  x_step (by show code pc _ = _; rw [hc]; simp [i_iast, hm, h0, h1, hv]) h
theorem x_aald {i : Int} {N : Nat} {f : Nat → Option Nat} (hc : code pc = i_aald t n) (hm : μ a = some (.inr (.inr (t, N, f)))) (h0 : 0 ≤ i) (h1 : i < N) (h : am_Ex P d code (n, ls, .inr (f i.toNat) :: st, nn, ss, μ) Q) : am_Ex P d code (pc, ls, .inl i :: .inr (some a) :: st, nn, ss, μ) Q :=
  x_step (by show code pc _ = _; rw [hc]; simp [i_aald, hm, h0, h1]) h
theorem x_aast {i : Int} {N v : Nat} {f : Nat → Option Nat} {fs : List am_V} (hc : code pc = i_aast t ci n) (hm : μ a = some (.inr (.inr (t, N, f)))) (hm2 : μ v = some (.inl (ci, fs))) (h0 : 0 ≤ i) (h1 : i < N) (h : am_Ex P d code (n, ls, st, nn, ss, am_up μ a (.inr (.inr (t, N, am_fu f i.toNat (some v))))) Q) : am_Ex P d code (pc, ls, .inr (some v) :: .inl i :: .inr (some a) :: st, nn, ss, μ) Q :=
  x_step (by show code pc _ = _; rw [hc]; simp [i_aast, hm, hm2, h0, h1]) h
theorem x_alen {N : Nat} {f : Nat → Int} (hc : code pc = i_alen t n) (hm : μ a = some (.inr (.inl (t, N, f)))) (h0 : N < 2147483648) (h : am_Ex P d code (n, ls, .inl N :: st, nn, ss, μ) Q) : am_Ex P d code (pc, ls, .inr (some a) :: st, nn, ss, μ) Q :=
  x_step (by show code pc _ = _; rw [hc]; simp [i_alen, hm, h0]) h
theorem x_alenR {N : Nat} {f : Nat → Option Nat} (hc : code pc = i_alen t n) (hm : μ a = some (.inr (.inr (t, N, f)))) (h0 : N < 2147483648) (h : am_Ex P d code (n, ls, .inl N :: st, nn, ss, μ) Q) : am_Ex P d code (pc, ls, .inr (some a) :: st, nn, ss, μ) Q :=
  x_step (by show code pc _ = _; rw [hc]; simp [i_alen, hm, h0]) h
theorem x_new {fs : List am_V} (hc : code pc = i_new ci fs n) (h : am_Ex P d code (n, ls, .inr (some nn) :: st, nn + 1, ss + fs.length, am_up μ nn (.inl (ci, fs))) Q) : am_Ex P d code (pc, ls, st, nn, ss, μ) Q :=
  x_step (by show code pc _ = _; rw [hc]; rfl) h
theorem x_newa {i : Int} (hc : code pc = i_newa t n) (h0 : 0 ≤ i) (h1 : i ≤ 100000) (h : am_Ex P d code (n, ls, .inr (some nn) :: st, nn + 1, ss + i.toNat, am_up μ nn (.inr (.inl (t, i.toNat, fun _ => 0)))) Q) : am_Ex P d code (pc, ls, .inl i :: st, nn, ss, μ) Q :=
  x_step (by show code pc _ = _; rw [hc]; simp [i_newa, h0, h1]) h
theorem x_anewa {i : Int} (hc : code pc = i_anewa t n) (h0 : 0 ≤ i) (h1 : i ≤ 100000) (h : am_Ex P d code (n, ls, .inr (some nn) :: st, nn + 1, ss + i.toNat, am_up μ nn (.inr (.inr (t, i.toNat, fun _ => none)))) Q) : am_Ex P d code (pc, ls, .inl i :: st, nn, ss, μ) Q :=
  x_step (by show code pc _ = _; rw [hc]; simp [i_anewa, h0, h1]) h
theorem x_iret {z : Int} (hc : code pc = i_iret) (h : Q (some (.inl z)) M) : am_Ex P d code (pc, ls, [.inl z], M) Q :=
  x_done (y := (some (.inl z), M)) (by show code pc _ = _; rw [hc]; rfl) h
theorem x_zret {z : Int} (hc : code pc = i_zret) (hz : z = 0 ∨ z = 1) (h : Q (some (.inl z)) M) : am_Ex P d code (pc, ls, [.inl z], M) Q :=
  x_done (y := (some (.inl z), M)) (by show code pc _ = _; rw [hc]; simp only [i_zret]; rw [if_pos hz]) h
theorem x_aret {r : Option Nat} (hc : code pc = i_aret) (h : Q (some (.inr r)) M) : am_Ex P d code (pc, ls, [.inr r], M) Q :=
  x_done (y := (some (.inr r), M)) (by show code pc _ = _; rw [hc]; rfl) h
theorem x_vret (hc : code pc = i_vret) (h : Q none M) : am_Ex P d code (pc, ls, [], M) Q :=
  x_done (y := (none, M)) (by show code pc _ = _; rw [hc]; rfl) h
theorem x_max {x y : Int} (hc : code pc = i_max) (h : Q (some (.inl (if x < y then y else x))) M) : am_Ex P d code (pc, [some (.inl x), some (.inl y)], st, M) Q :=
  x_done (y := (some (.inl (if x < y then y else x)), M)) (by show code pc _ = _; rw [hc]; rfl) h
theorem x_min {x y : Int} (hc : code pc = i_min) (h : Q (some (.inl (if y < x then y else x))) M) : am_Ex P d code (pc, [some (.inl x), some (.inl y)], st, M) Q :=
  x_done (y := (some (.inl (if y < x then y else x)), M)) (by show code pc _ = _; rw [hc]; rfl) h
theorem x_sld {i : Int} {L : Nat} {xs : Nat → Int} (hc : code pc = i_sld L xs n) (h0 : 0 ≤ i) (h1 : i < L) (h : am_Ex P d code (n, ls, .inl (xs i.toNat) :: st, M) Q) : am_Ex P d code (pc, ls, .inl i :: .inr (some 0) :: st, M) Q :=
  x_step (by show code pc _ = _; rw [hc]; simp [i_sld, h0, h1]) h
theorem x_slen {L : Nat} (hc : code pc = i_slen L n) (h : am_Ex P d code (n, ls, .inl L :: st, M) Q) : am_Ex P d code (pc, ls, .inr (some 0) :: st, M) Q :=
  x_step (by show code pc _ = _; rw [hc]; rfl) h
variable {j : Nat}
theorem x_callS0 (hc : code pc = i_callS j 0 n) (h8 : st.length ≤ 8) (h : am_Wp P d j [] M (fun r M' => am_Ex P d code (n, ls, r.toList ++ st, M') Q)) : am_Ex P d code (pc, ls, st, M) Q :=
  x_callw (w := (j, [], n, ls, st, M)) (by show code pc _ = _; rw [hc]; unfold i_callS; rw [if_pos ⟨by first | (simp; done) | (simp; omega), by first | (simp; done) | (simp; omega)⟩]; simp) h
theorem x_callS1 {v1 : am_V} (hc : code pc = i_callS j 1 n) (h8 : st.length ≤ 8) (h : am_Wp P d j [v1] M (fun r M' => am_Ex P d code (n, ls, r.toList ++ st, M') Q)) : am_Ex P d code (pc, ls, v1 :: st, M) Q :=
  x_callw (w := (j, [v1], n, ls, st, M)) (by show code pc _ = _; rw [hc]; unfold i_callS; rw [if_pos ⟨by first | (simp; done) | (simp; omega), by first | (simp; done) | (simp; omega)⟩]; simp) h
theorem x_callS2 {v1 v2 : am_V} (hc : code pc = i_callS j 2 n) (h8 : st.length ≤ 8) (h : am_Wp P d j [v1, v2] M (fun r M' => am_Ex P d code (n, ls, r.toList ++ st, M') Q)) : am_Ex P d code (pc, ls, v2 :: v1 :: st, M) Q :=
  x_callw (w := (j, [v1, v2], n, ls, st, M)) (by show code pc _ = _; rw [hc]; unfold i_callS; rw [if_pos ⟨by first | (simp; done) | (simp; omega), by first | (simp; done) | (simp; omega)⟩]; simp) h
theorem x_callS3 {v1 v2 v3 : am_V} (hc : code pc = i_callS j 3 n) (h8 : st.length ≤ 8) (h : am_Wp P d j [v1, v2, v3] M (fun r M' => am_Ex P d code (n, ls, r.toList ++ st, M') Q)) : am_Ex P d code (pc, ls, v3 :: v2 :: v1 :: st, M) Q :=
  x_callw (w := (j, [v1, v2, v3], n, ls, st, M)) (by show code pc _ = _; rw [hc]; unfold i_callS; rw [if_pos ⟨by first | (simp; done) | (simp; omega), by first | (simp; done) | (simp; omega)⟩]; simp) h
theorem x_callS4 {v1 v2 v3 v4 : am_V} (hc : code pc = i_callS j 4 n) (h8 : st.length ≤ 8) (h : am_Wp P d j [v1, v2, v3, v4] M (fun r M' => am_Ex P d code (n, ls, r.toList ++ st, M') Q)) : am_Ex P d code (pc, ls, v4 :: v3 :: v2 :: v1 :: st, M) Q :=
  x_callw (w := (j, [v1, v2, v3, v4], n, ls, st, M)) (by show code pc _ = _; rw [hc]; unfold i_callS; rw [if_pos ⟨by first | (simp; done) | (simp; omega), by first | (simp; done) | (simp; omega)⟩]; simp) h
theorem x_callS5 {v1 v2 v3 v4 v5 : am_V} (hc : code pc = i_callS j 5 n) (h8 : st.length ≤ 8) (h : am_Wp P d j [v1, v2, v3, v4, v5] M (fun r M' => am_Ex P d code (n, ls, r.toList ++ st, M') Q)) : am_Ex P d code (pc, ls, v5 :: v4 :: v3 :: v2 :: v1 :: st, M) Q :=
  x_callw (w := (j, [v1, v2, v3, v4, v5], n, ls, st, M)) (by show code pc _ = _; rw [hc]; unfold i_callS; rw [if_pos ⟨by first | (simp; done) | (simp; omega), by first | (simp; done) | (simp; omega)⟩]; simp) h
theorem x_callS6 {v1 v2 v3 v4 v5 v6 : am_V} (hc : code pc = i_callS j 6 n) (h8 : st.length ≤ 8) (h : am_Wp P d j [v1, v2, v3, v4, v5, v6] M (fun r M' => am_Ex P d code (n, ls, r.toList ++ st, M') Q)) : am_Ex P d code (pc, ls, v6 :: v5 :: v4 :: v3 :: v2 :: v1 :: st, M) Q :=
  x_callw (w := (j, [v1, v2, v3, v4, v5, v6], n, ls, st, M)) (by show code pc _ = _; rw [hc]; unfold i_callS; rw [if_pos ⟨by first | (simp; done) | (simp; omega), by first | (simp; done) | (simp; omega)⟩]; simp) h
theorem x_callS7 {v1 v2 v3 v4 v5 v6 v7 : am_V} (hc : code pc = i_callS j 7 n) (h8 : st.length ≤ 8) (h : am_Wp P d j [v1, v2, v3, v4, v5, v6, v7] M (fun r M' => am_Ex P d code (n, ls, r.toList ++ st, M') Q)) : am_Ex P d code (pc, ls, v7 :: v6 :: v5 :: v4 :: v3 :: v2 :: v1 :: st, M) Q :=
  x_callw (w := (j, [v1, v2, v3, v4, v5, v6, v7], n, ls, st, M)) (by show code pc _ = _; rw [hc]; unfold i_callS; rw [if_pos ⟨by first | (simp; done) | (simp; omega), by first | (simp; done) | (simp; omega)⟩]; simp) h
theorem x_callI0 (hc : code pc = i_callI j 0 n) (h8 : st.length ≤ 8) (h : am_Wp P d j [.inr (some a)] M (fun r M' => am_Ex P d code (n, ls, r.toList ++ st, M') Q)) : am_Ex P d code (pc, ls, .inr (some a) :: st, M) Q :=
  x_callw (w := (j, [.inr (some a)], n, ls, st, M)) (by show code pc _ = _; rw [hc]; unfold i_callI; rw [if_pos ⟨by first | (simp; done) | (simp; omega), by first | (simp; done) | (simp; omega)⟩]; simp) h
theorem x_callV0 {fs : List am_V} (hc : code pc = i_callV ci j 0 n) (hm : μ a = some (.inl (ci, fs))) (h8 : st.length ≤ 8) (h : am_Wp P d j [.inr (some a)] (nn, ss, μ) (fun r M' => am_Ex P d code (n, ls, r.toList ++ st, M') Q)) : am_Ex P d code (pc, ls, .inr (some a) :: st, nn, ss, μ) Q :=
  x_callw (w := (j, [.inr (some a)], n, ls, st, nn, ss, μ)) (by show code pc _ = _; rw [hc]; unfold i_callV; rw [if_pos ⟨by first | (simp; done) | (simp; omega), by first | (simp; done) | (simp; omega)⟩]; simp [hm]) h
theorem x_callI1 {v1 : am_V} (hc : code pc = i_callI j 1 n) (h8 : st.length ≤ 8) (h : am_Wp P d j [.inr (some a), v1] M (fun r M' => am_Ex P d code (n, ls, r.toList ++ st, M') Q)) : am_Ex P d code (pc, ls, v1 :: .inr (some a) :: st, M) Q :=
  x_callw (w := (j, [.inr (some a), v1], n, ls, st, M)) (by show code pc _ = _; rw [hc]; unfold i_callI; rw [if_pos ⟨by first | (simp; done) | (simp; omega), by first | (simp; done) | (simp; omega)⟩]; simp) h
theorem x_callV1 {v1 : am_V} {fs : List am_V} (hc : code pc = i_callV ci j 1 n) (hm : μ a = some (.inl (ci, fs))) (h8 : st.length ≤ 8) (h : am_Wp P d j [.inr (some a), v1] (nn, ss, μ) (fun r M' => am_Ex P d code (n, ls, r.toList ++ st, M') Q)) : am_Ex P d code (pc, ls, v1 :: .inr (some a) :: st, nn, ss, μ) Q :=
  x_callw (w := (j, [.inr (some a), v1], n, ls, st, nn, ss, μ)) (by show code pc _ = _; rw [hc]; unfold i_callV; rw [if_pos ⟨by first | (simp; done) | (simp; omega), by first | (simp; done) | (simp; omega)⟩]; simp [hm]) h
theorem x_callI2 {v1 v2 : am_V} (hc : code pc = i_callI j 2 n) (h8 : st.length ≤ 8) (h : am_Wp P d j [.inr (some a), v1, v2] M (fun r M' => am_Ex P d code (n, ls, r.toList ++ st, M') Q)) : am_Ex P d code (pc, ls, v2 :: v1 :: .inr (some a) :: st, M) Q :=
  x_callw (w := (j, [.inr (some a), v1, v2], n, ls, st, M)) (by show code pc _ = _; rw [hc]; unfold i_callI; rw [if_pos ⟨by first | (simp; done) | (simp; omega), by first | (simp; done) | (simp; omega)⟩]; simp) h
theorem x_callV2 {v1 v2 : am_V} {fs : List am_V} (hc : code pc = i_callV ci j 2 n) (hm : μ a = some (.inl (ci, fs))) (h8 : st.length ≤ 8) (h : am_Wp P d j [.inr (some a), v1, v2] (nn, ss, μ) (fun r M' => am_Ex P d code (n, ls, r.toList ++ st, M') Q)) : am_Ex P d code (pc, ls, v2 :: v1 :: .inr (some a) :: st, nn, ss, μ) Q :=
  x_callw (w := (j, [.inr (some a), v1, v2], n, ls, st, nn, ss, μ)) (by show code pc _ = _; rw [hc]; unfold i_callV; rw [if_pos ⟨by first | (simp; done) | (simp; omega), by first | (simp; done) | (simp; omega)⟩]; simp [hm]) h
theorem x_callI3 {v1 v2 v3 : am_V} (hc : code pc = i_callI j 3 n) (h8 : st.length ≤ 8) (h : am_Wp P d j [.inr (some a), v1, v2, v3] M (fun r M' => am_Ex P d code (n, ls, r.toList ++ st, M') Q)) : am_Ex P d code (pc, ls, v3 :: v2 :: v1 :: .inr (some a) :: st, M) Q :=
  x_callw (w := (j, [.inr (some a), v1, v2, v3], n, ls, st, M)) (by show code pc _ = _; rw [hc]; unfold i_callI; rw [if_pos ⟨by first | (simp; done) | (simp; omega), by first | (simp; done) | (simp; omega)⟩]; simp) h
theorem x_callV3 {v1 v2 v3 : am_V} {fs : List am_V} (hc : code pc = i_callV ci j 3 n) (hm : μ a = some (.inl (ci, fs))) (h8 : st.length ≤ 8) (h : am_Wp P d j [.inr (some a), v1, v2, v3] (nn, ss, μ) (fun r M' => am_Ex P d code (n, ls, r.toList ++ st, M') Q)) : am_Ex P d code (pc, ls, v3 :: v2 :: v1 :: .inr (some a) :: st, nn, ss, μ) Q :=
  x_callw (w := (j, [.inr (some a), v1, v2, v3], n, ls, st, nn, ss, μ)) (by show code pc _ = _; rw [hc]; unfold i_callV; rw [if_pos ⟨by first | (simp; done) | (simp; omega), by first | (simp; done) | (simp; omega)⟩]; simp [hm]) h
theorem x_callI4 {v1 v2 v3 v4 : am_V} (hc : code pc = i_callI j 4 n) (h8 : st.length ≤ 8) (h : am_Wp P d j [.inr (some a), v1, v2, v3, v4] M (fun r M' => am_Ex P d code (n, ls, r.toList ++ st, M') Q)) : am_Ex P d code (pc, ls, v4 :: v3 :: v2 :: v1 :: .inr (some a) :: st, M) Q :=
  x_callw (w := (j, [.inr (some a), v1, v2, v3, v4], n, ls, st, M)) (by show code pc _ = _; rw [hc]; unfold i_callI; rw [if_pos ⟨by first | (simp; done) | (simp; omega), by first | (simp; done) | (simp; omega)⟩]; simp) h
theorem x_callV4 {v1 v2 v3 v4 : am_V} {fs : List am_V} (hc : code pc = i_callV ci j 4 n) (hm : μ a = some (.inl (ci, fs))) (h8 : st.length ≤ 8) (h : am_Wp P d j [.inr (some a), v1, v2, v3, v4] (nn, ss, μ) (fun r M' => am_Ex P d code (n, ls, r.toList ++ st, M') Q)) : am_Ex P d code (pc, ls, v4 :: v3 :: v2 :: v1 :: .inr (some a) :: st, nn, ss, μ) Q :=
  x_callw (w := (j, [.inr (some a), v1, v2, v3, v4], n, ls, st, nn, ss, μ)) (by show code pc _ = _; rw [hc]; unfold i_callV; rw [if_pos ⟨by first | (simp; done) | (simp; omega), by first | (simp; done) | (simp; omega)⟩]; simp [hm]) h
theorem x_callI5 {v1 v2 v3 v4 v5 : am_V} (hc : code pc = i_callI j 5 n) (h8 : st.length ≤ 8) (h : am_Wp P d j [.inr (some a), v1, v2, v3, v4, v5] M (fun r M' => am_Ex P d code (n, ls, r.toList ++ st, M') Q)) : am_Ex P d code (pc, ls, v5 :: v4 :: v3 :: v2 :: v1 :: .inr (some a) :: st, M) Q :=
  x_callw (w := (j, [.inr (some a), v1, v2, v3, v4, v5], n, ls, st, M)) (by show code pc _ = _; rw [hc]; unfold i_callI; rw [if_pos ⟨by first | (simp; done) | (simp; omega), by first | (simp; done) | (simp; omega)⟩]; simp) h
theorem x_callV5 {v1 v2 v3 v4 v5 : am_V} {fs : List am_V} (hc : code pc = i_callV ci j 5 n) (hm : μ a = some (.inl (ci, fs))) (h8 : st.length ≤ 8) (h : am_Wp P d j [.inr (some a), v1, v2, v3, v4, v5] (nn, ss, μ) (fun r M' => am_Ex P d code (n, ls, r.toList ++ st, M') Q)) : am_Ex P d code (pc, ls, v5 :: v4 :: v3 :: v2 :: v1 :: .inr (some a) :: st, nn, ss, μ) Q :=
  x_callw (w := (j, [.inr (some a), v1, v2, v3, v4, v5], n, ls, st, nn, ss, μ)) (by show code pc _ = _; rw [hc]; unfold i_callV; rw [if_pos ⟨by first | (simp; done) | (simp; omega), by first | (simp; done) | (simp; omega)⟩]; simp [hm]) h
theorem x_callI6 {v1 v2 v3 v4 v5 v6 : am_V} (hc : code pc = i_callI j 6 n) (h8 : st.length ≤ 8) (h : am_Wp P d j [.inr (some a), v1, v2, v3, v4, v5, v6] M (fun r M' => am_Ex P d code (n, ls, r.toList ++ st, M') Q)) : am_Ex P d code (pc, ls, v6 :: v5 :: v4 :: v3 :: v2 :: v1 :: .inr (some a) :: st, M) Q :=
  x_callw (w := (j, [.inr (some a), v1, v2, v3, v4, v5, v6], n, ls, st, M)) (by show code pc _ = _; rw [hc]; unfold i_callI; rw [if_pos ⟨by first | (simp; done) | (simp; omega), by first | (simp; done) | (simp; omega)⟩]; simp) h
theorem x_callV6 {v1 v2 v3 v4 v5 v6 : am_V} {fs : List am_V} (hc : code pc = i_callV ci j 6 n) (hm : μ a = some (.inl (ci, fs))) (h8 : st.length ≤ 8) (h : am_Wp P d j [.inr (some a), v1, v2, v3, v4, v5, v6] (nn, ss, μ) (fun r M' => am_Ex P d code (n, ls, r.toList ++ st, M') Q)) : am_Ex P d code (pc, ls, v6 :: v5 :: v4 :: v3 :: v2 :: v1 :: .inr (some a) :: st, nn, ss, μ) Q :=
  x_callw (w := (j, [.inr (some a), v1, v2, v3, v4, v5, v6], n, ls, st, nn, ss, μ)) (by show code pc _ = _; rw [hc]; unfold i_callV; rw [if_pos ⟨by first | (simp; done) | (simp; omega), by first | (simp; done) | (simp; omega)⟩]; simp [hm]) h
end AmRows
/-- a list of places and what stands there -/
def am_at : List (Nat × am_I) → Nat → am_I
  | [], _ => i_fail
  | q :: l, pc => if pc = q.1 then q.2 else am_at l pc
end
section
/-! SOUNDNESS, first part: what the machine's heap has to do with the abstract one -/
abbrev am_E : Type := va_G × List vw_C × List FieldType × (Nat → ClassId) × List Cond × List Cond × Nat × Nat × Nat × (Nat → Int32)
abbrev e_D (E : am_E) : va_G := E.1
abbrev e_cl (E : am_E) : List vw_C := E.2.1
abbrev e_kd (E : am_E) : List FieldType := E.2.2.1
abbrev e_dA (E : am_E) : Nat → ClassId := E.2.2.2.1
abbrev e_nw (E : am_E) : List Cond := E.2.2.2.2.1
abbrev e_Ts (E : am_E) : List Cond := E.2.2.2.2.2.1
abbrev e_h (E : am_E) : Nat := E.2.2.2.2.2.2.1
abbrev e_b (E : am_E) : Nat := E.2.2.2.2.2.2.2.1
abbrev e_L (E : am_E) : Nat := E.2.2.2.2.2.2.2.2.1
abbrev e_xs (E : am_E) : Nat → Int32 := E.2.2.2.2.2.2.2.2.2
abbrev am_T : Type := MethodName × ByteArray × Nat × Option FieldType
def am_ad (E : am_E) (a : Nat) : Nat := if a = 0 then e_b E else e_h E + a
theorem am_ad_p {E : am_E} {a : Nat} (h : 1 ≤ a) : am_ad E a = e_h E + a := by
  unfold am_ad
  rw [if_neg (by omega)]
def am_cv (E : am_E) (v : am_V) : Value := match v with
  | .inl z => .int (Int32.ofInt z)
  | .inr r => va_rf (r.map (am_ad E))
theorem am_cv_c (E : am_E) (v : am_V) : (am_cv E v).category = 1 := by
  rcases v with z | _ | a <;> rfl
theorem am_cv_p {E : am_E} {a : Nat} (h : 1 ≤ a) : am_cv E (.inr (some a)) = .ref (e_h E + a) := by
  show va_rf (some (am_ad E a)) = _
  rw [am_ad_p h]
  rfl
def am_cE (E : am_E) (c : am_C) : va_E := match c with
  | .inl o => .inr (o.1, o.2.map (am_cv E))
  | .inr (.inl o) => .inl (e_dA E o.1, o.2.1, .inl (fun j => Int32.ofInt (o.2.2 j)))
  | .inr (.inr o) => .inl (e_dA E o.1, o.2.1, .inr (.inr (.inr (.inr (fun j => (o.2.2 j).map (am_ad E))))))
def am_H (E : am_E) (M : am_M) (H : Heap) : Prop := H.size = e_h E + M.1 ∧ 1 ≤ M.1 ∧ ∀ (a : Nat) (c : am_C), M.2.2 a = some c → 1 ≤ a ∧ va_at (e_D E) (e_cl E) (e_h E + a, am_cE E c) H
def am_wV (v : am_V) : Prop := match v with
  | .inl z => am_ok z
  | .inr _ => True
def am_wC (c : am_C) : Prop := match c with
  | .inl o => ∀ v ∈ o.2, am_wV v
  | .inr (.inl o) => ∀ j, j < o.2.1 → am_ok (o.2.2 j)
  | .inr (.inr _) => True
def am_wM (M : am_M) : Prop := ∀ (a : Nat) (c : am_C), M.2.2 a = some c → am_wC c
def am_wS (st : List am_V) : Prop := ∀ v ∈ st, am_wV v
theorem am_wS_c {v : am_V} {st : List am_V} (h1 : am_wV v) (h2 : am_wS st) : am_wS (v :: st) := by
  intro u hu
  rcases List.mem_cons.mp hu with rfl | hu
  · exact h1
  · exact h2 u hu
theorem am_wS_h {v : am_V} {st : List am_V} (h : am_wS (v :: st)) : am_wV v := h v List.mem_cons_self
theorem am_wS_t {v : am_V} {st : List am_V} (h : am_wS (v :: st)) : am_wS st := fun u hu => h u (List.mem_cons_of_mem _ hu)
def am_KK (E : am_E) (U : State) : Prop := va_K (e_D E) (e_cl E) [] U ∧ (∀ (t : Nat) (ty : FieldType), (e_kd E)[t]? = some ty → ArrOfT U (e_dA E t) ty ∧ va_RA U (e_dA E t) ty) ∧ (∀ w ∈ e_nw E, va_Nw w U) ∧ va_X (e_b E) (e_L E) (e_xs E) U U.heap
def am_nN (E : am_E) : Prop := e_b E ≤ e_h E ∧ ∀ w ∈ e_nw E, (∃ (a : String) (i : Nat) (y : MethodName) (g : String), w = .methodLinkNest a i y g) ∨ ∃ C, w = .arrayOver (.object C)
theorem am_KK.moved {E : am_E} {s U : State} (hn : am_nN E) (hW : s.WarmedH U.vm) (hq : U.heap[e_b E]? = s.heap[e_b E]?) (h : am_KK E s) : am_KK E U :=
  ⟨va_K.moved hW.alike h.1, fun t ty ht => ⟨arrOfT_moved hW.alike (h.2.1 t ty ht).1, (h.2.1 t ty ht).2.moved hW.alike⟩, fun w hw => by
    rcases hn.2 w hw with ⟨a, i, y, g, rfl⟩ | ⟨C, rfl⟩
    · exact va_Nw.warmM hW (h.2.2.1 _ hw)
    · exact va_AO.moved hW.alike (h.2.2.1 _ hw), (h.2.2.2.kept hq).moved hW.alike⟩
theorem am_KK.same {E : am_E} {s U : State} (hn : am_nN E) (hv : s.vm = U.vm) (hh : U.heap = s.heap) (h : am_KK E s) : am_KK E U := by
  have hA : s.vm.Alike U.vm := by rw [hv]; exact Vm.Alike.refl _
  exact ⟨va_K.moved hA h.1, fun t ty ht => ⟨arrOfT_moved hA (h.2.1 t ty ht).1, (h.2.1 t ty ht).2.moved hA⟩, fun w hw => by
    rcases hn.2 w hw with ⟨a, i, y, g, rfl⟩ | ⟨C, rfl⟩
    · exact va_Nw.same rfl hv (h.2.2.1 _ hw)
    · exact va_AO.moved hA (h.2.2.1 _ hw), (h.2.2.2.kept (by rw [hh])).moved hA⟩
def am_X (E : am_E) (T : am_T) (p : Program) (s : State) (m : MethodId) (args : Array Value) (meth : Method) (c : Code) : Prop :=
  p.tables.exec = Jvm.exec ∧ c.code = T.2.1 ∧ c.maxLocals = T.2.2.1 ∧ s.vm.findClass T.1.cls = some m.cls ∧ (∀ w ∈ e_Ts E, w.before args s = true) ∧ am_KK E s ∧ (T.1.name = "<init>" → meth.name = "<init>") ∧ meth.sig.returnType = T.2.2.2 ∧ meth.locks = false
def am_Re (E : am_E) (H0 : Heap) (n0 k0 : Nat) (M : am_M) (H : Heap) (locs : List Loc) (cells slots : Nat) : Prop :=
  am_H E M H ∧ am_wM M ∧ M.1 = n0 + cells ∧ M.2.1 = k0 + slots ∧ (∀ x ∈ locs, e_h E + 1 ≤ x.base) ∧ ∀ q : Nat, q ≤ e_h E → H[q]? = H0[q]?
def am_Lr (E : am_E) (nL : Nat) (ls : am_L) (lsC : Array Slot) : Prop :=
  lsC.size = nL ∧ lv_wf lsC ∧ ls.length = nL ∧ ∀ (i : Nat) (v : am_V), ls[i]? = some (some v) → lsC[i]? = some (.val (am_cv E v)) ∧ am_wV v
def am_Ws (E : am_E) (T : am_T) (pc : Nat) (ls : am_L) (st : List am_V) (M : am_M) (q : am_F) : Prop :=
  ∀ (p : Program) (l : Launch) (e : Env) (R : Room) (s : State) (m : MethodId) (args : Array Value) (below : List Frame) (meth : Method) (c : Code) (Q : State → Prop) (H : Heap) (locs : List Loc) (cells slots n0 k0 : Nat) (lsC : Array Slot),
    am_X E T p s m args meth c → am_wS st → am_Re E s.heap n0 k0 M H locs cells slots → am_Lr E T.2.2.1 ls lsC → q.2.2.2.1 ≤ n0 + R.cells → q.2.2.2.2.1 ≤ k0 + R.slots →
    (∀ (H' : Heap) (locs' : List Loc) (cells' slots' : Nat) (lsC' : Array Slot), am_wS q.2.2.1 → am_Re E s.heap n0 k0 q.2.2.2 H' locs' cells' slots' → am_Lr E T.2.2.1 q.2.1 lsC' → W p l e R s m args below meth c H' locs' cells' slots' Q (F0 m q.1 lsC' (q.2.2.1.map (am_cv E)))) →
    W p l e R s m args below meth c H locs cells slots Q (F0 m pc lsC (st.map (am_cv E)))
def am_Rt (T : am_T) (pc : Nat) (st : List am_V) (r : Option am_V) : Prop :=
  (decode T.2.1 pc = .ok (.ireturn, 1) ∧ ∃ z, st = [.inl z] ∧ r = some (.inl z) ∧ (T.2.2.2 = some .int ∨ (T.2.2.2 = some .boolean ∧ (z = 0 ∨ z = 1)))) ∨
  (decode T.2.1 pc = .ok (.areturn, 1) ∧ ∃ v, st = [.inr v] ∧ r = some (.inr v) ∧ ∃ rt, T.2.2.2 = some rt ∧ ((∃ n, rt = .object n) ∨ ∃ t, rt = .array t)) ∨
  (decode T.2.1 pc = .ok (.return_, 1) ∧ st = [] ∧ r = none ∧ T.2.2.2 = none)
/-- what is made only grows -/
def am_Mo (pc : Nat) (f : am_I) : Prop := ∀ (ls : am_L) (st : List am_V) (M : am_M),
  (∀ q, f (pc, ls, st, M) = some (.inl q) → M.1 ≤ q.2.2.2.1 ∧ M.2.1 ≤ q.2.2.2.2.1) ∧ (∀ y, f (pc, ls, st, M) = some (.inr (.inl y)) → y.2 = M) ∧ ∀ w, f (pc, ls, st, M) = some (.inr (.inr w)) → w.2.2.2.2.2 = M ∧ w.2.2.2.1 = ls
-- contracts
def am_ws (E : am_E) (T : am_T) : List Cond := Cond.code T.1 T.2.1 T.2.2.1 T.2.2.2 :: e_Ts E
def am_rm (d : Nat) (M M' : am_M) : Room := { frames := d - 1, cells := M'.1 - M.1, slots := M'.2.1 - M.2.1, locals := 40 * (d - 1) }
def am_Pc (E : am_E) (as : List am_V) (M : am_M) : Array Value → State → Prop := fun v U => v = (as.map (am_cv E)).toArray ∧ am_H E M U.heap ∧ am_KK E U
def am_Qc (E : am_E) (y : am_Y) : Array Value → State → Outcome → State → Prop := fun _ st o t => o = .returned (y.1.map (am_cv E)) ∧ am_H E y.2 t.heap ∧ am_wM y.2 ∧ (∀ v, y.1 = some v → am_wV v) ∧ ∀ q : Nat, q ≤ e_h E → t.heap[q]? = st.heap[q]?
def am_IH (E : am_E) (tb : Nat → am_T) (P : am_P) (l : Launch) (k d : Nat) : Prop := ∀ (j : Nat) (as : List am_V) (M : am_M) (y : am_Y), 3 ≤ j → am_call P k d j as M = some y → am_wS as → am_wM M →
  Met l (tb j).1 (am_ws E (tb j)) (am_rm d M y.2) (am_Pc E as M) (am_Qc E y) (y.2.1 - M.1) (y.2.2.1 - M.2.1) (fun q => e_h E + 1 ≤ q)
def am_Cl (E : am_E) (tb : Nat → am_T) (P : am_P) (T : am_T) (pc : Nat) (ls : am_L) (st : List am_V) (M : am_M) (w : Nat × List am_V × am_F) : Prop :=
  ∀ (k d : Nat) (y : am_Y) (p : Program) (l : Launch) (e : Env) (R : Room) (s : State) (m : MethodId) (args : Array Value) (below : List Frame) (meth : Method) (c : Code) (Q : State → Prop) (H : Heap) (locs : List Loc) (cells slots n0 k0 : Nat) (lsC : Array Slot),
    am_IH E tb P l k d → am_call P k d w.1 w.2.1 M = some y → (M.1 ≤ y.2.1 ∧ M.2.1 ≤ y.2.2.1) → am_X E T p s m args meth c → am_wS st → am_Re E s.heap n0 k0 M H locs cells slots → am_Lr E T.2.2.1 ls lsC → d ≤ R.frames → 40 * d ≤ R.locals → y.2.1 ≤ n0 + R.cells → y.2.2.1 ≤ k0 + R.slots →
    (∀ (H' : Heap) (locs' : List Loc) (cells' slots' : Nat), am_wS (y.1.toList ++ w.2.2.2.2.1) → am_Re E s.heap n0 k0 y.2 H' locs' cells' slots' → W p l e R s m args below meth c H' locs' cells' slots' Q (F0 m w.2.2.1 lsC ((y.1.toList ++ w.2.2.2.2.1).map (am_cv E)))) →
    W p l e R s m args below meth c H locs cells slots Q (F0 m pc lsC (st.map (am_cv E)))
def am_G (E : am_E) (tb : Nat → am_T) (P : am_P) (T : am_T) (pc : Nat) (f : am_I) : Prop := am_Mo pc f ∧ ∀ (ls : am_L) (st : List am_V) (M : am_M),
  (∀ q, f (pc, ls, st, M) = some (.inl q) → am_Ws E T pc ls st M q) ∧ (∀ y, f (pc, ls, st, M) = some (.inr (.inl y)) → am_Rt T pc st y.1) ∧ ∀ w, f (pc, ls, st, M) = some (.inr (.inr w)) → am_Cl E tb P T pc ls st M w
/-- an instruction that only goes on: one road at a time -/
theorem am_G.ofStep {E : am_E} {tb : Nat → am_T} {P : am_P} {T : am_T} {pc : Nat} {f : am_I} (h : ∀ (ls : am_L) (st : List am_V) (M : am_M) (x : am_F ⊕ (am_Y ⊕ (Nat × List am_V × am_F))), f (pc, ls, st, M) = some x → ∃ q, x = .inl q ∧ M.1 ≤ q.2.2.2.1 ∧ M.2.1 ≤ q.2.2.2.2.1 ∧ am_Ws E T pc ls st M q) : am_G E tb P T pc f := by
  refine ⟨fun ls st M => ⟨fun q hq => ?_, fun y hy => ?_, fun w hw => ?_⟩, fun ls st M => ⟨fun q hq => ?_, fun y hy => ?_, fun w hw => ?_⟩⟩
  · obtain ⟨q', e1, h1, h2, -⟩ := h ls st M _ hq
    cases e1
    exact ⟨h1, h2⟩
  · obtain ⟨q', e1, -⟩ := h ls st M _ hy
    cases e1
  · obtain ⟨q', e1, -⟩ := h ls st M _ hw
    cases e1
  · obtain ⟨q', e1, -, -, h3⟩ := h ls st M _ hq
    cases e1
    exact h3
  · obtain ⟨q', e1, -⟩ := h ls st M _ hy
    cases e1
  · obtain ⟨q', e1, -⟩ := h ls st M _ hw
    cases e1
theorem am_G.fail {E : am_E} {tb : Nat → am_T} {P : am_P} {T : am_T} {pc : Nat} : am_G E tb P T pc i_fail := am_G.ofStep (fun ls st M x h => by cases h)
def am_all (E : am_E) (tb : Nat → am_T) (P : am_P) (T : am_T) : List (Nat × am_I) → Prop
  | [] => True
  | q :: l => am_G E tb P T q.1 q.2 ∧ am_all E tb P T l
theorem am_all.get {E : am_E} {tb : Nat → am_T} {P : am_P} {T : am_T} : ∀ (l : List (Nat × am_I)), am_all E tb P T l → ∀ pc, am_G E tb P T pc (am_at l pc) := by
  intro l
  induction l with
  | nil => intro _ pc; exact am_G.fail
  | cons q l ih =>
    intro h pc
    unfold am_at
    by_cases hp : pc = q.1
    · rw [if_pos hp, hp]
      exact h.1
    · rw [if_neg hp]
      exact ih h.2 pc
theorem am_all.app {E : am_E} {tb : Nat → am_T} {P : am_P} {T : am_T} : ∀ (l l' : List (Nat × am_I)), am_all E tb P T l → am_all E tb P T l' → am_all E tb P T (l ++ l') := by
  intro l
  induction l with
  | nil => intro l' _ h; exact h
  | cons q l ih => intro l' h h'; exact ⟨h.1, ih l' h.2 h'⟩
-- numbers
theorem am_ti {z : Int} (h : am_ok z) : (Int32.ofInt z).toInt = z := Int32.toInt_ofInt_of_le (by have := h.1; omega) (by have := h.2; omega)
theorem am_lt {x y : Int} (hx : am_ok x) (hy : am_ok y) : Int32.ofInt x < Int32.ofInt y ↔ x < y := by
  rw [Int32.lt_iff_toInt_lt, am_ti hx, am_ti hy]
theorem am_le {x y : Int} (hx : am_ok x) (hy : am_ok y) : Int32.ofInt x ≤ Int32.ofInt y ↔ x ≤ y := by
  rw [Int32.le_iff_toInt_le, am_ti hx, am_ti hy]
theorem am_eq {x y : Int} (hx : am_ok x) (hy : am_ok y) : Int32.ofInt x = Int32.ofInt y ↔ x = y := by
  rw [← Int32.toInt_inj, am_ti hx, am_ti hy]
theorem am_cl {z : Int} (h : am_ok z) : (Int32.ofInt z).toNatClampNeg = z.toNat := by
  show (Int32.ofInt z).toInt.toNat = _
  rw [am_ti h]
theorem am_ok0 : am_ok 0 := by unfold am_ok; omega
theorem am_okI (x : Int32) : am_ok x.toInt := ⟨by have := x.le_toInt; omega, by have := x.toInt_lt; omega⟩
theorem am_ok_and (x y : Int) : am_ok (am_and x y) := am_okI _
theorem am_ok_or (x y : Int) : am_ok (am_or x y) := am_okI _
theorem am_ok_xor (x y : Int) : am_ok (am_xor x y) := am_okI _
-- locals
theorem am_Lr.get {E : am_E} {nL k : Nat} {ls : am_L} {lsC : Array Slot} {v : am_V} (h : am_Lr E nL ls lsC) (hl : ls[k]? = some (some v)) : lsC[k]? = some (.val (am_cv E v)) := (h.2.2.2 k v hl).1
theorem am_Lr.wf {E : am_E} {nL k : Nat} {ls : am_L} {lsC : Array Slot} {v : am_V} (h : am_Lr E nL ls lsC) (hl : ls[k]? = some (some v)) : am_wV v := (h.2.2.2 k v hl).2
/-- all that the locals hold, as a list -/
def am_pr (E : am_E) (ls : am_L) : List (Nat × Value) := (List.range ls.length).filterMap (fun i => match ls[i]? with
  | some (some v) => some (i, am_cv E v)
  | _ => none)
theorem am_pr_in {E : am_E} {ls : am_L} {i : Nat} {v : am_V} (h : ls[i]? = some (some v)) : (i, am_cv E v) ∈ am_pr E ls := by
  refine List.mem_filterMap.mpr ⟨i, List.mem_range.mpr (List.getElem?_eq_some_iff.mp h).1, ?_⟩
  simp only [h]
theorem am_pr_of {E : am_E} {ls : am_L} {q : Nat × Value} (h : q ∈ am_pr E ls) : ∃ v, ls[q.1]? = some (some v) ∧ q.2 = am_cv E v := by
  obtain ⟨i, -, hi⟩ := List.mem_filterMap.mp h
  split at hi
  · next v hv =>
    cases hi
    exact ⟨v, hv, rfl⟩
  · cases hi
theorem am_Lr.has {E : am_E} {nL : Nat} {ls : am_L} {lsC : Array Slot} (h : am_Lr E nL ls lsC) : lv_has lsC nL (am_pr E ls) := by
  refine ⟨h.1, h.2.1, fun q hq => ?_⟩
  obtain ⟨v, h1, h2⟩ := am_pr_of hq
  rw [h2]
  exact h.get h1
theorem am_Lr.set {E : am_E} {nL k : Nat} {ls : am_L} {lsC lsC' : Array Slot} {v : am_V} (h : am_Lr E nL ls lsC) (hk : k < nL) (hv : am_wV v) (h' : lv_has lsC' nL ((k, am_cv E v) :: (am_pr E ls).filter (fun q => !(q.1 == k) && !(q.1 + 1 == k && q.2.category == 2)))) : am_Lr E nL (ls.set k (some v)) lsC' := by
  refine ⟨h'.1, h'.2.1, by rw [List.length_set]; exact h.2.2.1, fun i u hi => ?_⟩
  by_cases hik : i = k
  · subst hik
    rw [List.getElem?_set_self (by rw [h.2.2.1]; exact hk)] at hi
    cases hi
    exact ⟨h'.2.2 (i, am_cv E v) List.mem_cons_self, hv⟩
  · rw [List.getElem?_set_ne (fun z => hik z.symm)] at hi
    refine ⟨h'.2.2 (i, am_cv E u) (List.mem_cons_of_mem _ (List.mem_filter.mpr ⟨am_pr_in hi, ?_⟩)), h.wf hi⟩
    simp [hik, am_cv_c]
end
section
/-! SOUNDNESS, second part: instructions that leave the heap alone -/
section AmS
variable {E : am_E} {tb : Nat → am_T} {P : am_P} {T : am_T} {pc n k t : Nat}
theorem s_iconst {z : Int} (hd : decode T.2.1 pc = .ok (.iconst z, 1)) (hz : am_ok z) (hn : pc + 1 = n) : am_G E tb P T pc (i_const z n) := by
  subst hn
  refine am_G.ofStep (fun ls st M x h => ?_)
  cases h
  refine ⟨_, rfl, Nat.le_refl _, Nat.le_refl _, ?_⟩
  intro p l e R s m args below meth c Q H locs cells slots n0 k0 lsC X hS hR hL _ _ kk
  refine lv_iconst X.1 X.2.1 hd rfl ?_
  exact kk H locs cells slots lsC (am_wS_c hz hS) hR hL
theorem s_bipush {z : Int} (hd : decode T.2.1 pc = .ok (.bipush z, 2)) (hv : (Int8.ofInt z).toInt32 = Int32.ofInt z) (hz : am_ok z) (hn : pc + 2 = n) : am_G E tb P T pc (i_const z n) := by
  subst hn
  refine am_G.ofStep (fun ls st M x h => ?_)
  cases h
  refine ⟨_, rfl, Nat.le_refl _, Nat.le_refl _, ?_⟩
  intro p l e R s m args below meth c Q H locs cells slots n0 k0 lsC X hS hR hL _ _ kk
  refine lv_bipush X.1 X.2.1 hd hv ?_
  exact kk H locs cells slots lsC (am_wS_c hz hS) hR hL
theorem s_sipush {z : Int} (hd : decode T.2.1 pc = .ok (.sipush z, 3)) (hv : (Int16.ofInt z).toInt32 = Int32.ofInt z) (hz : am_ok z) (hn : pc + 3 = n) : am_G E tb P T pc (i_const z n) := by
  subst hn
  refine am_G.ofStep (fun ls st M x h => ?_)
  cases h
  refine ⟨_, rfl, Nat.le_refl _, Nat.le_refl _, ?_⟩
  intro p l e R s m args below meth c Q H locs cells slots n0 k0 lsC X hS hR hL _ _ kk
  refine lv_sipush X.1 X.2.1 hd hv ?_
  exact kk H locs cells slots lsC (am_wS_c hz hS) hR hL
theorem s_ldc {z : Int} {index : Nat} (hd : decode T.2.1 pc = .ok (.ldc index, 2)) (hw : Cond.constant T.1.cls index (Int32.ofInt z) ∈ e_Ts E) (hz : am_ok z) (hn : pc + 2 = n) : am_G E tb P T pc (i_const z n) := by
  subst hn
  refine am_G.ofStep (fun ls st M x h => ?_)
  cases h
  refine ⟨_, rfl, Nat.le_refl _, Nat.le_refl _, ?_⟩
  intro p l e R s m args below meth c Q H locs cells slots n0 k0 lsC X hS hR hL _ _ kk
  refine lv_ldc X.1 X.2.1 X.2.2.2.1 (X.2.2.2.2.1 _ hw) hd ?_
  exact kk H locs cells slots lsC (am_wS_c hz hS) hR hL
theorem s_null (hd : decode T.2.1 pc = .ok (.aconst_null, 1)) (hn : pc + 1 = n) : am_G E tb P T pc (i_null n) := by
  subst hn
  refine am_G.ofStep (fun ls st M x h => ?_)
  cases h
  refine ⟨_, rfl, Nat.le_refl _, Nat.le_refl _, ?_⟩
  intro p l e R s m args below meth c Q H locs cells slots n0 k0 lsC X hS hR hL _ _ kk
  refine lv_null X.1 X.2.1 hd ?_
  exact kk H locs cells slots lsC (am_wS_c trivial hS) hR hL
theorem s_iload_n {kf : Fin 4} (hd : decode T.2.1 pc = .ok (.iload_n kf, 1)) (hk : (kf : Nat) = k) (hn : pc + 1 = n) : am_G E tb P T pc (i_iload k n) := by
  subst hk; subst hn
  refine am_G.ofStep (fun ls st M x h => ?_)
  unfold i_iload at h
  dsimp only at h
  split at h
  · next z hl =>
    cases h
    refine ⟨_, rfl, Nat.le_refl _, Nat.le_refl _, ?_⟩
    intro p l e R s m args below meth c Q H locs cells slots n0 k0 lsC X hS hR hL _ _ kk
    refine lv_iload_n X.1 X.2.1 hd rfl (hL.get hl) ?_
    exact kk H locs cells slots lsC (am_wS_c (hL.wf hl) hS) hR hL
  · cases h
theorem s_iload (hd : decode T.2.1 pc = .ok (.iload k, 2)) (hn : pc + 2 = n) : am_G E tb P T pc (i_iload k n) := by
  subst hn
  refine am_G.ofStep (fun ls st M x h => ?_)
  unfold i_iload at h
  dsimp only at h
  split at h
  · next z hl =>
    cases h
    refine ⟨_, rfl, Nat.le_refl _, Nat.le_refl _, ?_⟩
    intro p l e R s m args below meth c Q H locs cells slots n0 k0 lsC X hS hR hL _ _ kk
    refine lv_iload X.1 X.2.1 hd (hL.get hl) ?_
    exact kk H locs cells slots lsC (am_wS_c (hL.wf hl) hS) hR hL
  · cases h
theorem s_aload_n {kf : Fin 4} (hd : decode T.2.1 pc = .ok (.aload_n kf, 1)) (hk : (kf : Nat) = k) (hn : pc + 1 = n) : am_G E tb P T pc (i_aload k n) := by
  subst hk; subst hn
  refine am_G.ofStep (fun ls st M x h => ?_)
  unfold i_aload at h
  dsimp only at h
  split at h
  · next r hl =>
    cases h
    refine ⟨_, rfl, Nat.le_refl _, Nat.le_refl _, ?_⟩
    intro p l e R s m args below meth c Q H locs cells slots n0 k0 lsC X hS hR hL _ _ kk
    have hk := kk H locs cells slots lsC (am_wS_c (hL.wf hl) hS) hR hL
    have hg := hL.get hl
    cases r with
    | none => exact lv_aload_nN X.1 X.2.1 hd rfl hg hk
    | some a => exact lv_aload_n X.1 X.2.1 hd rfl hg hk
  · cases h
theorem s_aload (hd : decode T.2.1 pc = .ok (.aload k, 2)) (hn : pc + 2 = n) : am_G E tb P T pc (i_aload k n) := by
  subst hn
  refine am_G.ofStep (fun ls st M x h => ?_)
  unfold i_aload at h
  dsimp only at h
  split at h
  · next r hl =>
    cases h
    refine ⟨_, rfl, Nat.le_refl _, Nat.le_refl _, ?_⟩
    intro p l e R s m args below meth c Q H locs cells slots n0 k0 lsC X hS hR hL _ _ kk
    have hk := kk H locs cells slots lsC (am_wS_c (hL.wf hl) hS) hR hL
    have hg := hL.get hl
    cases r with
    | none => exact lv_aloadN X.1 X.2.1 hd hg hk
    | some a => exact lv_aload X.1 X.2.1 hd hg hk
  · cases h
theorem s_istore_n {kf : Fin 4} (hd : decode T.2.1 pc = .ok (.istore_n kf, 1)) (hk : (kf : Nat) = k) (hn : pc + 1 = n) : am_G E tb P T pc (i_istore k n) := by
  subst hk; subst hn
  refine am_G.ofStep (fun ls st M x h => ?_)
  unfold i_istore at h
  dsimp only at h
  split at h
  · next z st' =>
    split at h
    · next hk =>
      cases h
      refine ⟨_, rfl, Nat.le_refl _, Nat.le_refl _, ?_⟩
      intro p l e R s m args below meth c Q H locs cells slots n0 k0 lsC X hS hR hL _ _ kk
      rw [hL.2.2.1] at hk
      refine lv_istore_n X.1 X.2.1 hd rfl hL.has hk rfl (fun lsC' h' => ?_)
      exact kk H locs cells slots lsC' (am_wS_t hS) hR (hL.set (v := .inl z) hk (am_wS_h hS) h')
    · cases h
  · cases h
theorem s_istore (hd : decode T.2.1 pc = .ok (.istore k, 2)) (hn : pc + 2 = n) : am_G E tb P T pc (i_istore k n) := by
  subst hn
  refine am_G.ofStep (fun ls st M x h => ?_)
  unfold i_istore at h
  dsimp only at h
  split at h
  · next z st' =>
    split at h
    · next hk =>
      cases h
      refine ⟨_, rfl, Nat.le_refl _, Nat.le_refl _, ?_⟩
      intro p l e R s m args below meth c Q H locs cells slots n0 k0 lsC X hS hR hL _ _ kk
      rw [hL.2.2.1] at hk
      refine lv_istore X.1 X.2.1 hd hL.has hk rfl (fun lsC' h' => ?_)
      exact kk H locs cells slots lsC' (am_wS_t hS) hR (hL.set (v := .inl z) hk (am_wS_h hS) h')
    · cases h
  · cases h
theorem s_astore_n {kf : Fin 4} (hd : decode T.2.1 pc = .ok (.astore_n kf, 1)) (hk : (kf : Nat) = k) (hn : pc + 1 = n) : am_G E tb P T pc (i_astore k n) := by
  subst hk; subst hn
  refine am_G.ofStep (fun ls st M x h => ?_)
  unfold i_astore at h
  dsimp only at h
  split at h
  · next r st' =>
    split at h
    · next hk =>
      cases h
      refine ⟨_, rfl, Nat.le_refl _, Nat.le_refl _, ?_⟩
      intro p l e R s m args below meth c Q H locs cells slots n0 k0 lsC X hS hR hL _ _ kk
      rw [hL.2.2.1] at hk
      have k2 : ∀ lsC', lv_has lsC' T.2.2.1 ((_, am_cv E (.inr r)) :: (am_pr E ls).filter (fun q => !(q.1 == _) && !(q.1 + 1 == _ && q.2.category == 2))) → _ := fun lsC' h' => kk H locs cells slots lsC' (am_wS_t hS) hR (hL.set (v := .inr r) hk (am_wS_h hS) h')
      cases r with
      | none => exact lv_astore_nN X.1 X.2.1 hd rfl hL.has hk rfl (fun lsC' h' => k2 lsC' h')
      | some a => exact lv_astore_n X.1 X.2.1 hd rfl hL.has hk rfl (fun lsC' h' => k2 lsC' h')
    · cases h
  · cases h
theorem s_astore (hd : decode T.2.1 pc = .ok (.astore k, 2)) (hn : pc + 2 = n) : am_G E tb P T pc (i_astore k n) := by
  subst hn
  refine am_G.ofStep (fun ls st M x h => ?_)
  unfold i_astore at h
  dsimp only at h
  split at h
  · next r st' =>
    split at h
    · next hk =>
      cases h
      refine ⟨_, rfl, Nat.le_refl _, Nat.le_refl _, ?_⟩
      intro p l e R s m args below meth c Q H locs cells slots n0 k0 lsC X hS hR hL _ _ kk
      rw [hL.2.2.1] at hk
      have k2 : ∀ lsC', lv_has lsC' T.2.2.1 ((_, am_cv E (.inr r)) :: (am_pr E ls).filter (fun q => !(q.1 == _) && !(q.1 + 1 == _ && q.2.category == 2))) → _ := fun lsC' h' => kk H locs cells slots lsC' (am_wS_t hS) hR (hL.set (v := .inr r) hk (am_wS_h hS) h')
      cases r with
      | none => exact lv_astoreN X.1 X.2.1 hd hL.has hk rfl (fun lsC' h' => k2 lsC' h')
      | some a => exact lv_astore X.1 X.2.1 hd hL.has hk rfl (fun lsC' h' => k2 lsC' h')
    · cases h
  · cases h
theorem s_iinc {z : Int} (hd : decode T.2.1 pc = .ok (.iinc k z, 3)) (hn : pc + 3 = n) : am_G E tb P T pc (i_iinc k z n) := by
  subst hn
  refine am_G.ofStep (fun ls st M x h => ?_)
  unfold i_iinc at h
  dsimp only at h
  split at h
  · next y hl =>
    split at h
    · next hz =>
      cases h
      refine ⟨_, rfl, Nat.le_refl _, Nat.le_refl _, ?_⟩
      intro p l e R s m args below meth c Q H locs cells slots n0 k0 lsC X hS hR hL _ _ kk
      have hk : k < T.2.2.1 := by rw [← hL.2.2.1]; exact (List.getElem?_eq_some_iff.mp hl).1
      obtain ⟨i, hi⟩ := List.getElem?_of_mem (am_pr_in (E := E) hl)
      refine lv_iinc X.1 X.2.1 hd hL.has hi (Int32.ofInt_add y z).symm hk rfl (fun lsC' h' => ?_)
      exact kk H locs cells slots lsC' hS hR (hL.set (v := .inl (y + z)) hk hz h')
    · cases h
  · cases h
theorem s_pop (hd : decode T.2.1 pc = .ok (.pop, 1)) (hn : pc + 1 = n) : am_G E tb P T pc (i_pop n) := by
  subst hn
  refine am_G.ofStep (fun ls st M x h => ?_)
  unfold i_pop at h
  dsimp only at h
  split at h
  · next v st' =>
    cases h
    refine ⟨_, rfl, Nat.le_refl _, Nat.le_refl _, ?_⟩
    intro p l e R s m args below meth c Q H locs cells slots n0 k0 lsC X hS hR hL _ _ kk
    refine lv_pop X.1 X.2.1 hd (am_cv_c E _) ?_
    exact kk H locs cells slots lsC (am_wS_t hS) hR hL
  · cases h
theorem s_dup (hd : decode T.2.1 pc = .ok (.dup, 1)) (hn : pc + 1 = n) : am_G E tb P T pc (i_dup n) := by
  subst hn
  refine am_G.ofStep (fun ls st M x h => ?_)
  unfold i_dup at h
  dsimp only at h
  split at h
  · next v st' =>
    cases h
    refine ⟨_, rfl, Nat.le_refl _, Nat.le_refl _, ?_⟩
    intro p l e R s m args below meth c Q H locs cells slots n0 k0 lsC X hS hR hL _ _ kk
    refine lv_dup X.1 X.2.1 hd (am_cv_c E _) ?_
    exact kk H locs cells slots lsC (am_wS_c (am_wS_h hS) hS) hR hL
  · cases h
theorem s_dup_x1 (hd : decode T.2.1 pc = .ok (.dup_x1, 1)) (hn : pc + 1 = n) : am_G E tb P T pc (i_dup_x1 n) := by
  subst hn
  refine am_G.ofStep (fun ls st M x h => ?_)
  unfold i_dup_x1 at h
  dsimp only at h
  split at h
  · next v u st' =>
    cases h
    refine ⟨_, rfl, Nat.le_refl _, Nat.le_refl _, ?_⟩
    intro p l e R s m args below meth c Q H locs cells slots n0 k0 lsC X hS hR hL _ _ kk
    refine lv_dup_x1 X.1 X.2.1 hd (am_cv_c E _) (am_cv_c E _) ?_
    exact kk H locs cells slots lsC (am_wS_c (am_wS_h hS) (am_wS_c (am_wS_h (am_wS_t hS)) (am_wS_c (am_wS_h hS) (am_wS_t (am_wS_t hS))))) hR hL
  · cases h
theorem s_dup_x2 (hd : decode T.2.1 pc = .ok (.dup_x2, 1)) (hn : pc + 1 = n) : am_G E tb P T pc (i_dup_x2 n) := by
  subst hn
  refine am_G.ofStep (fun ls st M x h => ?_)
  unfold i_dup_x2 at h
  dsimp only at h
  split at h
  · next v u r st' =>
    cases h
    refine ⟨_, rfl, Nat.le_refl _, Nat.le_refl _, ?_⟩
    intro p l e R s m args below meth c Q H locs cells slots n0 k0 lsC X hS hR hL _ _ kk
    refine lv_dup_x2 X.1 X.2.1 hd (am_cv_c E _) (am_cv_c E _) (am_cv_c E _) ?_
    exact kk H locs cells slots lsC (am_wS_c (am_wS_h hS) (am_wS_c (am_wS_h (am_wS_t hS)) (am_wS_c (am_wS_h (am_wS_t (am_wS_t hS))) (am_wS_c (am_wS_h hS) (am_wS_t (am_wS_t (am_wS_t hS))))))) hR hL
  · cases h
theorem s_dup2 (hd : decode T.2.1 pc = .ok (.dup2, 1)) (hn : pc + 1 = n) : am_G E tb P T pc (i_dup2 n) := by
  subst hn
  refine am_G.ofStep (fun ls st M x h => ?_)
  unfold i_dup2 at h
  dsimp only at h
  split at h
  · next v u st' =>
    cases h
    refine ⟨_, rfl, Nat.le_refl _, Nat.le_refl _, ?_⟩
    intro p l e R s m args below meth c Q H locs cells slots n0 k0 lsC X hS hR hL _ _ kk
    refine lv_dup2_11 X.1 X.2.1 hd (am_cv_c E _) (am_cv_c E _) ?_
    exact kk H locs cells slots lsC (am_wS_c (am_wS_h hS) (am_wS_c (am_wS_h (am_wS_t hS)) hS)) hR hL
  · cases h
theorem s_iadd (hd : decode T.2.1 pc = .ok (.iadd, 1)) (hn : pc + 1 = n) : am_G E tb P T pc (i_iadd n) := by
  subst hn
  refine am_G.ofStep (fun ls st M x h => ?_)
  unfold i_iadd at h
  dsimp only at h
  split at h
  · next b a st' =>
    split at h
    · next hz =>
      cases h
      refine ⟨_, rfl, Nat.le_refl _, Nat.le_refl _, ?_⟩
      intro p l e R s m args below meth c Q H locs cells slots n0 k0 lsC X hS hR hL _ _ kk
      refine lv_iadd X.1 X.2.1 hd ?_
      rw [← Int32.ofInt_add]
      exact kk H locs cells slots lsC (am_wS_c hz (am_wS_t (am_wS_t hS))) hR hL
    · cases h
  · cases h
theorem s_isub (hd : decode T.2.1 pc = .ok (.isub, 1)) (hn : pc + 1 = n) : am_G E tb P T pc (i_isub n) := by
  subst hn
  refine am_G.ofStep (fun ls st M x h => ?_)
  unfold i_isub at h
  dsimp only at h
  split at h
  · next b a st' =>
    split at h
    · next hz =>
      cases h
      refine ⟨_, rfl, Nat.le_refl _, Nat.le_refl _, ?_⟩
      intro p l e R s m args below meth c Q H locs cells slots n0 k0 lsC X hS hR hL _ _ kk
      refine lv_isub X.1 X.2.1 hd ?_
      rw [← Int32.ofInt_sub]
      exact kk H locs cells slots lsC (am_wS_c hz (am_wS_t (am_wS_t hS))) hR hL
    · cases h
  · cases h
theorem s_imul (hd : decode T.2.1 pc = .ok (.imul, 1)) (hn : pc + 1 = n) : am_G E tb P T pc (i_imul n) := by
  subst hn
  refine am_G.ofStep (fun ls st M x h => ?_)
  unfold i_imul at h
  dsimp only at h
  split at h
  · next b a st' =>
    split at h
    · next hz =>
      cases h
      refine ⟨_, rfl, Nat.le_refl _, Nat.le_refl _, ?_⟩
      intro p l e R s m args below meth c Q H locs cells slots n0 k0 lsC X hS hR hL _ _ kk
      refine lv_imul X.1 X.2.1 hd ?_
      rw [← Int32.ofInt_mul]
      exact kk H locs cells slots lsC (am_wS_c hz (am_wS_t (am_wS_t hS))) hR hL
    · cases h
  · cases h
theorem s_iand (hd : decode T.2.1 pc = .ok (.iand, 1)) (hn : pc + 1 = n) : am_G E tb P T pc (i_iand n) := by
  subst hn
  refine am_G.ofStep (fun ls st M x h => ?_)
  unfold i_iand at h
  dsimp only at h
  split at h
  · next b a st' =>
    cases h
    refine ⟨_, rfl, Nat.le_refl _, Nat.le_refl _, ?_⟩
    intro p l e R s m args below meth c Q H locs cells slots n0 k0 lsC X hS hR hL _ _ kk
    refine lv_iand X.1 X.2.1 hd ?_
    rw [show Int32.ofInt a &&& Int32.ofInt b = Int32.ofInt (am_and a b) from (Int32.ofInt_toInt _).symm]
    exact kk H locs cells slots lsC (am_wS_c (am_ok_and a b) (am_wS_t (am_wS_t hS))) hR hL
  · cases h
theorem s_ior (hd : decode T.2.1 pc = .ok (.ior, 1)) (hn : pc + 1 = n) : am_G E tb P T pc (i_ior n) := by
  subst hn
  refine am_G.ofStep (fun ls st M x h => ?_)
  unfold i_ior at h
  dsimp only at h
  split at h
  · next b a st' =>
    cases h
    refine ⟨_, rfl, Nat.le_refl _, Nat.le_refl _, ?_⟩
    intro p l e R s m args below meth c Q H locs cells slots n0 k0 lsC X hS hR hL _ _ kk
    refine lv_ior X.1 X.2.1 hd ?_
    rw [show Int32.ofInt a ||| Int32.ofInt b = Int32.ofInt (am_or a b) from (Int32.ofInt_toInt _).symm]
    exact kk H locs cells slots lsC (am_wS_c (am_ok_or a b) (am_wS_t (am_wS_t hS))) hR hL
  · cases h
theorem s_ixor (hd : decode T.2.1 pc = .ok (.ixor, 1)) (hn : pc + 1 = n) : am_G E tb P T pc (i_ixor n) := by
  subst hn
  refine am_G.ofStep (fun ls st M x h => ?_)
  unfold i_ixor at h
  dsimp only at h
  split at h
  · next b a st' =>
    cases h
    refine ⟨_, rfl, Nat.le_refl _, Nat.le_refl _, ?_⟩
    intro p l e R s m args below meth c Q H locs cells slots n0 k0 lsC X hS hR hL _ _ kk
    refine lv_ixor X.1 X.2.1 hd ?_
    rw [show Int32.ofInt a ^^^ Int32.ofInt b = Int32.ofInt (am_xor a b) from (Int32.ofInt_toInt _).symm]
    exact kk H locs cells slots lsC (am_wS_c (am_ok_xor a b) (am_wS_t (am_wS_t hS))) hR hL
  · cases h
theorem s_goto {off : Int} (hd : decode T.2.1 pc = .ok (.goto off, 3)) (hn : (pc : Int) + off = (n : Int)) : am_G E tb P T pc (i_goto n) := by
  refine am_G.ofStep (fun ls st M x h => ?_)
  cases h
  refine ⟨_, rfl, Nat.le_refl _, Nat.le_refl _, ?_⟩
  intro p l e R s m args below meth c Q H locs cells slots n0 k0 lsC X hS hR hL _ _ kk
  exact lv_goto X.1 X.2.1 hd hn (kk H locs cells slots lsC hS hR hL)
theorem s_icmp_eq {off : Int} (hd : decode T.2.1 pc = .ok (.if_icmp .eq off, 3)) (ht : (pc : Int) + off = (t : Int)) (hn : pc + 3 = n) : am_G E tb P T pc (i_icmp_eq t n) := by
  subst hn
  refine am_G.ofStep (fun ls st M x h => ?_)
  unfold i_icmp_eq at h
  dsimp only at h
  split at h
  · next b a st' =>
    split at h
    · next hx =>
      cases h
      refine ⟨_, rfl, Nat.le_refl _, Nat.le_refl _, ?_⟩
      intro p l e R s m args below meth c Q H locs cells slots n0 k0 lsC X hS hR hL _ _ kk
      exact lv_icmp_eq X.1 X.2.1 hd ht (fun _ => kk H locs cells slots lsC (am_wS_t (am_wS_t hS)) hR hL) (fun q => absurd ((am_eq (am_wS_h (am_wS_t hS)) (am_wS_h hS)).mpr hx) q)
    · next hx =>
      cases h
      refine ⟨_, rfl, Nat.le_refl _, Nat.le_refl _, ?_⟩
      intro p l e R s m args below meth c Q H locs cells slots n0 k0 lsC X hS hR hL _ _ kk
      exact lv_icmp_eq X.1 X.2.1 hd ht (fun q => absurd ((am_eq (am_wS_h (am_wS_t hS)) (am_wS_h hS)).mp q) hx) (fun _ => kk H locs cells slots lsC (am_wS_t (am_wS_t hS)) hR hL)
  · cases h
theorem s_if_eq {off : Int} (hd : decode T.2.1 pc = .ok (.ifCond .eq off, 3)) (ht : (pc : Int) + off = (t : Int)) (hn : pc + 3 = n) : am_G E tb P T pc (i_if_eq t n) := by
  subst hn
  refine am_G.ofStep (fun ls st M x h => ?_)
  unfold i_if_eq at h
  dsimp only at h
  split at h
  · next a st' =>
    split at h
    · next hx =>
      cases h
      refine ⟨_, rfl, Nat.le_refl _, Nat.le_refl _, ?_⟩
      intro p l e R s m args below meth c Q H locs cells slots n0 k0 lsC X hS hR hL _ _ kk
      exact lv_if_eq X.1 X.2.1 hd ht (fun _ => kk H locs cells slots lsC (am_wS_t hS) hR hL) (fun q => absurd ((am_eq (am_wS_h hS) am_ok0).mpr hx) q)
    · next hx =>
      cases h
      refine ⟨_, rfl, Nat.le_refl _, Nat.le_refl _, ?_⟩
      intro p l e R s m args below meth c Q H locs cells slots n0 k0 lsC X hS hR hL _ _ kk
      exact lv_if_eq X.1 X.2.1 hd ht (fun q => absurd ((am_eq (am_wS_h hS) am_ok0).mp q) hx) (fun _ => kk H locs cells slots lsC (am_wS_t hS) hR hL)
  · cases h
theorem s_icmp_ne {off : Int} (hd : decode T.2.1 pc = .ok (.if_icmp .ne off, 3)) (ht : (pc : Int) + off = (t : Int)) (hn : pc + 3 = n) : am_G E tb P T pc (i_icmp_ne t n) := by
  subst hn
  refine am_G.ofStep (fun ls st M x h => ?_)
  unfold i_icmp_ne at h
  dsimp only at h
  split at h
  · next b a st' =>
    split at h
    · next hx =>
      cases h
      refine ⟨_, rfl, Nat.le_refl _, Nat.le_refl _, ?_⟩
      intro p l e R s m args below meth c Q H locs cells slots n0 k0 lsC X hS hR hL _ _ kk
      exact lv_icmp_ne X.1 X.2.1 hd ht (fun _ => kk H locs cells slots lsC (am_wS_t (am_wS_t hS)) hR hL) (fun q => absurd ((am_eq (am_wS_h (am_wS_t hS)) (am_wS_h hS)).mp q) hx)
    · next hx =>
      cases h
      refine ⟨_, rfl, Nat.le_refl _, Nat.le_refl _, ?_⟩
      intro p l e R s m args below meth c Q H locs cells slots n0 k0 lsC X hS hR hL _ _ kk
      exact lv_icmp_ne X.1 X.2.1 hd ht (fun q => absurd ((am_eq (am_wS_h (am_wS_t hS)) (am_wS_h hS)).mpr (Classical.not_not.mp hx)) q) (fun _ => kk H locs cells slots lsC (am_wS_t (am_wS_t hS)) hR hL)
  · cases h
theorem s_if_ne {off : Int} (hd : decode T.2.1 pc = .ok (.ifCond .ne off, 3)) (ht : (pc : Int) + off = (t : Int)) (hn : pc + 3 = n) : am_G E tb P T pc (i_if_ne t n) := by
  subst hn
  refine am_G.ofStep (fun ls st M x h => ?_)
  unfold i_if_ne at h
  dsimp only at h
  split at h
  · next a st' =>
    split at h
    · next hx =>
      cases h
      refine ⟨_, rfl, Nat.le_refl _, Nat.le_refl _, ?_⟩
      intro p l e R s m args below meth c Q H locs cells slots n0 k0 lsC X hS hR hL _ _ kk
      exact lv_if_ne X.1 X.2.1 hd ht (fun _ => kk H locs cells slots lsC (am_wS_t hS) hR hL) (fun q => absurd ((am_eq (y := 0) (am_wS_h hS) am_ok0).mp q) hx)
    · next hx =>
      cases h
      refine ⟨_, rfl, Nat.le_refl _, Nat.le_refl _, ?_⟩
      intro p l e R s m args below meth c Q H locs cells slots n0 k0 lsC X hS hR hL _ _ kk
      exact lv_if_ne X.1 X.2.1 hd ht (fun q => absurd ((am_eq (y := 0) (am_wS_h hS) am_ok0).mpr (Classical.not_not.mp hx)) q) (fun _ => kk H locs cells slots lsC (am_wS_t hS) hR hL)
  · cases h
theorem s_icmp_lt {off : Int} (hd : decode T.2.1 pc = .ok (.if_icmp .lt off, 3)) (ht : (pc : Int) + off = (t : Int)) (hn : pc + 3 = n) : am_G E tb P T pc (i_icmp_lt t n) := by
  subst hn
  refine am_G.ofStep (fun ls st M x h => ?_)
  unfold i_icmp_lt at h
  dsimp only at h
  split at h
  · next b a st' =>
    split at h
    · next hx =>
      cases h
      refine ⟨_, rfl, Nat.le_refl _, Nat.le_refl _, ?_⟩
      intro p l e R s m args below meth c Q H locs cells slots n0 k0 lsC X hS hR hL _ _ kk
      exact lv_icmp_lt X.1 X.2.1 hd ht (fun _ => kk H locs cells slots lsC (am_wS_t (am_wS_t hS)) hR hL) (fun q => absurd ((am_lt (am_wS_h (am_wS_t hS)) (am_wS_h hS)).mpr hx) q)
    · next hx =>
      cases h
      refine ⟨_, rfl, Nat.le_refl _, Nat.le_refl _, ?_⟩
      intro p l e R s m args below meth c Q H locs cells slots n0 k0 lsC X hS hR hL _ _ kk
      exact lv_icmp_lt X.1 X.2.1 hd ht (fun q => absurd ((am_lt (am_wS_h (am_wS_t hS)) (am_wS_h hS)).mp q) hx) (fun _ => kk H locs cells slots lsC (am_wS_t (am_wS_t hS)) hR hL)
  · cases h
theorem s_if_lt {off : Int} (hd : decode T.2.1 pc = .ok (.ifCond .lt off, 3)) (ht : (pc : Int) + off = (t : Int)) (hn : pc + 3 = n) : am_G E tb P T pc (i_if_lt t n) := by
  subst hn
  refine am_G.ofStep (fun ls st M x h => ?_)
  unfold i_if_lt at h
  dsimp only at h
  split at h
  · next a st' =>
    split at h
    · next hx =>
      cases h
      refine ⟨_, rfl, Nat.le_refl _, Nat.le_refl _, ?_⟩
      intro p l e R s m args below meth c Q H locs cells slots n0 k0 lsC X hS hR hL _ _ kk
      exact lv_if_lt X.1 X.2.1 hd ht (fun _ => kk H locs cells slots lsC (am_wS_t hS) hR hL) (fun q => absurd ((am_lt (am_wS_h hS) am_ok0).mpr hx) q)
    · next hx =>
      cases h
      refine ⟨_, rfl, Nat.le_refl _, Nat.le_refl _, ?_⟩
      intro p l e R s m args below meth c Q H locs cells slots n0 k0 lsC X hS hR hL _ _ kk
      exact lv_if_lt X.1 X.2.1 hd ht (fun q => absurd ((am_lt (am_wS_h hS) am_ok0).mp q) hx) (fun _ => kk H locs cells slots lsC (am_wS_t hS) hR hL)
  · cases h
theorem s_icmp_ge {off : Int} (hd : decode T.2.1 pc = .ok (.if_icmp .ge off, 3)) (ht : (pc : Int) + off = (t : Int)) (hn : pc + 3 = n) : am_G E tb P T pc (i_icmp_ge t n) := by
  subst hn
  refine am_G.ofStep (fun ls st M x h => ?_)
  unfold i_icmp_ge at h
  dsimp only at h
  split at h
  · next b a st' =>
    split at h
    · next hx =>
      cases h
      refine ⟨_, rfl, Nat.le_refl _, Nat.le_refl _, ?_⟩
      intro p l e R s m args below meth c Q H locs cells slots n0 k0 lsC X hS hR hL _ _ kk
      exact lv_icmp_ge X.1 X.2.1 hd ht (fun _ => kk H locs cells slots lsC (am_wS_t (am_wS_t hS)) hR hL) (fun q => absurd ((am_le (am_wS_h hS) (am_wS_h (am_wS_t hS))).mpr hx) q)
    · next hx =>
      cases h
      refine ⟨_, rfl, Nat.le_refl _, Nat.le_refl _, ?_⟩
      intro p l e R s m args below meth c Q H locs cells slots n0 k0 lsC X hS hR hL _ _ kk
      exact lv_icmp_ge X.1 X.2.1 hd ht (fun q => absurd ((am_le (am_wS_h hS) (am_wS_h (am_wS_t hS))).mp q) hx) (fun _ => kk H locs cells slots lsC (am_wS_t (am_wS_t hS)) hR hL)
  · cases h
theorem s_if_ge {off : Int} (hd : decode T.2.1 pc = .ok (.ifCond .ge off, 3)) (ht : (pc : Int) + off = (t : Int)) (hn : pc + 3 = n) : am_G E tb P T pc (i_if_ge t n) := by
  subst hn
  refine am_G.ofStep (fun ls st M x h => ?_)
  unfold i_if_ge at h
  dsimp only at h
  split at h
  · next a st' =>
    split at h
    · next hx =>
      cases h
      refine ⟨_, rfl, Nat.le_refl _, Nat.le_refl _, ?_⟩
      intro p l e R s m args below meth c Q H locs cells slots n0 k0 lsC X hS hR hL _ _ kk
      exact lv_if_ge X.1 X.2.1 hd ht (fun _ => kk H locs cells slots lsC (am_wS_t hS) hR hL) (fun q => absurd ((am_le am_ok0 (am_wS_h hS)).mpr hx) q)
    · next hx =>
      cases h
      refine ⟨_, rfl, Nat.le_refl _, Nat.le_refl _, ?_⟩
      intro p l e R s m args below meth c Q H locs cells slots n0 k0 lsC X hS hR hL _ _ kk
      exact lv_if_ge X.1 X.2.1 hd ht (fun q => absurd ((am_le am_ok0 (am_wS_h hS)).mp q) hx) (fun _ => kk H locs cells slots lsC (am_wS_t hS) hR hL)
  · cases h
theorem s_icmp_gt {off : Int} (hd : decode T.2.1 pc = .ok (.if_icmp .gt off, 3)) (ht : (pc : Int) + off = (t : Int)) (hn : pc + 3 = n) : am_G E tb P T pc (i_icmp_gt t n) := by
  subst hn
  refine am_G.ofStep (fun ls st M x h => ?_)
  unfold i_icmp_gt at h
  dsimp only at h
  split at h
  · next b a st' =>
    split at h
    · next hx =>
      cases h
      refine ⟨_, rfl, Nat.le_refl _, Nat.le_refl _, ?_⟩
      intro p l e R s m args below meth c Q H locs cells slots n0 k0 lsC X hS hR hL _ _ kk
      exact lv_icmp_gt X.1 X.2.1 hd ht (fun _ => kk H locs cells slots lsC (am_wS_t (am_wS_t hS)) hR hL) (fun q => absurd ((am_lt (am_wS_h hS) (am_wS_h (am_wS_t hS))).mpr hx) q)
    · next hx =>
      cases h
      refine ⟨_, rfl, Nat.le_refl _, Nat.le_refl _, ?_⟩
      intro p l e R s m args below meth c Q H locs cells slots n0 k0 lsC X hS hR hL _ _ kk
      exact lv_icmp_gt X.1 X.2.1 hd ht (fun q => absurd ((am_lt (am_wS_h hS) (am_wS_h (am_wS_t hS))).mp q) hx) (fun _ => kk H locs cells slots lsC (am_wS_t (am_wS_t hS)) hR hL)
  · cases h
theorem s_if_gt {off : Int} (hd : decode T.2.1 pc = .ok (.ifCond .gt off, 3)) (ht : (pc : Int) + off = (t : Int)) (hn : pc + 3 = n) : am_G E tb P T pc (i_if_gt t n) := by
  subst hn
  refine am_G.ofStep (fun ls st M x h => ?_)
  unfold i_if_gt at h
  dsimp only at h
  split at h
  · next a st' =>
    split at h
    · next hx =>
      cases h
      refine ⟨_, rfl, Nat.le_refl _, Nat.le_refl _, ?_⟩
      intro p l e R s m args below meth c Q H locs cells slots n0 k0 lsC X hS hR hL _ _ kk
      exact lv_if_gt X.1 X.2.1 hd ht (fun _ => kk H locs cells slots lsC (am_wS_t hS) hR hL) (fun q => absurd ((am_lt am_ok0 (am_wS_h hS)).mpr hx) q)
    · next hx =>
      cases h
      refine ⟨_, rfl, Nat.le_refl _, Nat.le_refl _, ?_⟩
      intro p l e R s m args below meth c Q H locs cells slots n0 k0 lsC X hS hR hL _ _ kk
      exact lv_if_gt X.1 X.2.1 hd ht (fun q => absurd ((am_lt am_ok0 (am_wS_h hS)).mp q) hx) (fun _ => kk H locs cells slots lsC (am_wS_t hS) hR hL)
  · cases h
theorem s_icmp_le {off : Int} (hd : decode T.2.1 pc = .ok (.if_icmp .le off, 3)) (ht : (pc : Int) + off = (t : Int)) (hn : pc + 3 = n) : am_G E tb P T pc (i_icmp_le t n) := by
  subst hn
  refine am_G.ofStep (fun ls st M x h => ?_)
  unfold i_icmp_le at h
  dsimp only at h
  split at h
  · next b a st' =>
    split at h
    · next hx =>
      cases h
      refine ⟨_, rfl, Nat.le_refl _, Nat.le_refl _, ?_⟩
      intro p l e R s m args below meth c Q H locs cells slots n0 k0 lsC X hS hR hL _ _ kk
      exact lv_icmp_le X.1 X.2.1 hd ht (fun _ => kk H locs cells slots lsC (am_wS_t (am_wS_t hS)) hR hL) (fun q => absurd ((am_le (am_wS_h (am_wS_t hS)) (am_wS_h hS)).mpr hx) q)
    · next hx =>
      cases h
      refine ⟨_, rfl, Nat.le_refl _, Nat.le_refl _, ?_⟩
      intro p l e R s m args below meth c Q H locs cells slots n0 k0 lsC X hS hR hL _ _ kk
      exact lv_icmp_le X.1 X.2.1 hd ht (fun q => absurd ((am_le (am_wS_h (am_wS_t hS)) (am_wS_h hS)).mp q) hx) (fun _ => kk H locs cells slots lsC (am_wS_t (am_wS_t hS)) hR hL)
  · cases h
theorem s_if_le {off : Int} (hd : decode T.2.1 pc = .ok (.ifCond .le off, 3)) (ht : (pc : Int) + off = (t : Int)) (hn : pc + 3 = n) : am_G E tb P T pc (i_if_le t n) := by
  subst hn
  refine am_G.ofStep (fun ls st M x h => ?_)
  unfold i_if_le at h
  dsimp only at h
  split at h
  · next a st' =>
    split at h
    · next hx =>
      cases h
      refine ⟨_, rfl, Nat.le_refl _, Nat.le_refl _, ?_⟩
      intro p l e R s m args below meth c Q H locs cells slots n0 k0 lsC X hS hR hL _ _ kk
      exact lv_if_le X.1 X.2.1 hd ht (fun _ => kk H locs cells slots lsC (am_wS_t hS) hR hL) (fun q => absurd ((am_le (am_wS_h hS) am_ok0).mpr hx) q)
    · next hx =>
      cases h
      refine ⟨_, rfl, Nat.le_refl _, Nat.le_refl _, ?_⟩
      intro p l e R s m args below meth c Q H locs cells slots n0 k0 lsC X hS hR hL _ _ kk
      exact lv_if_le X.1 X.2.1 hd ht (fun q => absurd ((am_le (am_wS_h hS) am_ok0).mp q) hx) (fun _ => kk H locs cells slots lsC (am_wS_t hS) hR hL)
  · cases h
theorem s_ifnull {off : Int} (hd : decode T.2.1 pc = .ok (.ifnull off, 3)) (ht : (pc : Int) + off = (t : Int)) (hn : pc + 3 = n) : am_G E tb P T pc (i_ifnull t n) := by
  subst hn
  refine am_G.ofStep (fun ls st M x h => ?_)
  unfold i_ifnull at h
  dsimp only at h
  split at h
  · next st' =>
    cases h
    refine ⟨_, rfl, Nat.le_refl _, Nat.le_refl _, ?_⟩
    intro p l e R s m args below meth c Q H locs cells slots n0 k0 lsC X hS hR hL _ _ kk
    exact lv_ifnullN X.1 X.2.1 hd ht (kk H locs cells slots lsC (am_wS_t hS) hR hL)
  · next a st' =>
    cases h
    refine ⟨_, rfl, Nat.le_refl _, Nat.le_refl _, ?_⟩
    intro p l e R s m args below meth c Q H locs cells slots n0 k0 lsC X hS hR hL _ _ kk
    exact lv_ifnull X.1 X.2.1 hd (kk H locs cells slots lsC (am_wS_t hS) hR hL)
  · cases h
theorem s_ifnonnull {off : Int} (hd : decode T.2.1 pc = .ok (.ifnonnull off, 3)) (ht : (pc : Int) + off = (t : Int)) (hn : pc + 3 = n) : am_G E tb P T pc (i_ifnonnull t n) := by
  subst hn
  refine am_G.ofStep (fun ls st M x h => ?_)
  unfold i_ifnonnull at h
  dsimp only at h
  split at h
  · next st' =>
    cases h
    refine ⟨_, rfl, Nat.le_refl _, Nat.le_refl _, ?_⟩
    intro p l e R s m args below meth c Q H locs cells slots n0 k0 lsC X hS hR hL _ _ kk
    exact lv_ifnonnullN X.1 X.2.1 hd (kk H locs cells slots lsC (am_wS_t hS) hR hL)
  · next a st' =>
    cases h
    refine ⟨_, rfl, Nat.le_refl _, Nat.le_refl _, ?_⟩
    intro p l e R s m args below meth c Q H locs cells slots n0 k0 lsC X hS hR hL _ _ kk
    exact lv_ifnonnull X.1 X.2.1 hd ht (kk H locs cells slots lsC (am_wS_t hS) hR hL)
  · cases h
def am_swc (pc : Nat) : List (Int × Int) → List (Int × Nat) → Bool
  | [], [] => true
  | u :: l, v :: l' => decide (u.1 = v.1) && (decide ((pc : Int) + u.2 = (v.2 : Int)) && am_swc pc l l')
  | _, _ => false
theorem am_swc_ok {pc t0 : Nat} {dflt x : Int} (hd : (pc : Int) + dflt = (t0 : Int)) : ∀ (l : List (Int × Int)) (l' : List (Int × Nat)), am_swc pc l l' = true → (pc : Int) + Op.lookupswitch.offset l dflt x = ((am_lk l' t0 x : Nat) : Int) := by
  intro l
  induction l with
  | nil =>
    intro l' h
    cases l' with
    | nil => exact hd
    | cons v l' => cases h
  | cons u l ih =>
    intro l' h
    cases l' with
    | nil => cases h
    | cons v l' =>
      obtain ⟨a, o⟩ := u
      simp only [am_swc, Bool.and_eq_true, decide_eq_true_eq] at h
      rw [Op.lookupswitch.offset_cons]
      unfold am_lk
      by_cases hx : x = v.1
      · rw [if_pos hx, if_pos (by rw [h.1, hx])]
        exact h.2.1
      · rw [if_neg hx, if_neg (fun q => hx (by rw [← h.1, q]))]
        exact ih l' h.2.2
theorem s_lsw {dflt : Int} {ps : Array (Int × Int)} {len t0 : Nat} {l' : List (Int × Nat)} (hd : decode T.2.1 pc = .ok (.lookupswitch dflt ps, len)) (hp : (ps.toList.zip (ps.toList.drop 1)).all (fun (a, next) => a.1 < next.1) = true) (h0 : (pc : Int) + dflt = (t0 : Int)) (hc : am_swc pc ps.toList l' = true) : am_G E tb P T pc (i_lsw l' t0) := by
  refine am_G.ofStep (fun ls st M x h => ?_)
  unfold i_lsw at h
  dsimp only at h
  split at h
  · next a st' =>
    cases h
    refine ⟨_, rfl, Nat.le_refl _, Nat.le_refl _, ?_⟩
    intro p l e R s m args below meth c Q H locs cells slots n0 k0 lsC X hS hR hL _ _ kk
    refine lv_lookup X.1 X.2.1 hd hp rfl ?_ (kk H locs cells slots lsC (am_wS_t hS) hR hL)
    rw [am_ti (am_wS_h hS)]
    exact am_swc_ok h0 ps.toList l' hc
  · cases h
theorem s_tsw {dflt lo hi : Int} {offs : Array Int} {len t0 : Nat} {ts : List Nat} (hd : decode T.2.1 pc = .ok (.tableswitch dflt lo hi offs, len)) (h0 : (pc : Int) + dflt = (t0 : Int)) (hh : hi + 1 = lo + ts.length) (hc : ∀ i, i < ts.length → ∃ o, offs[i]? = some o ∧ (pc : Int) + o = ((ts.getD i t0 : Nat) : Int)) : am_G E tb P T pc (i_tsw lo ts t0) := by
  refine am_G.ofStep (fun ls st M x h => ?_)
  unfold i_tsw at h
  dsimp only at h
  split at h
  · next a st' =>
    cases h
    refine ⟨_, rfl, Nat.le_refl _, Nat.le_refl _, ?_⟩
    intro p l e R s m args below meth c Q H locs cells slots n0 k0 lsC X hS hR hL _ _ kk
    have k2 := kk H locs cells slots lsC (am_wS_t hS) hR hL
    dsimp only at k2
    have ea := am_ti (am_wS_h hS)
    unfold am_ts at k2
    by_cases hr : lo ≤ a ∧ a < lo + ts.length
    · rw [if_pos hr] at k2
      obtain ⟨o, h1, h2⟩ := hc (a - lo).toNat (by omega)
      exact lv_tableIn X.1 X.2.1 hd (by rw [ea]; omega) (by rw [ea]; omega) (by rw [ea]; exact h1) h2 k2
    · rw [if_neg hr] at k2
      exact lv_tableOut X.1 X.2.1 hd (by rw [ea]; omega) h0 k2
  · cases h
/-- an end -/
theorem am_G.ofRet {f : am_I} (h : ∀ (ls : am_L) (st : List am_V) (M : am_M) (x : am_F ⊕ (am_Y ⊕ (Nat × List am_V × am_F))), f (pc, ls, st, M) = some x → ∃ r, x = .inr (.inl (r, M)) ∧ am_Rt T pc st r) : am_G E tb P T pc f := by
  refine ⟨fun ls st M => ⟨fun q hq => ?_, fun y hy => ?_, fun w hw => ?_⟩, fun ls st M => ⟨fun q hq => ?_, fun y hy => ?_, fun w hw => ?_⟩⟩
  · obtain ⟨r, e1, -⟩ := h ls st M _ hq
    cases e1
  · obtain ⟨r, e1, -⟩ := h ls st M _ hy
    cases e1
    rfl
  · obtain ⟨r, e1, -⟩ := h ls st M _ hw
    cases e1
  · obtain ⟨r, e1, -⟩ := h ls st M _ hq
    cases e1
  · obtain ⟨r, e1, h2⟩ := h ls st M _ hy
    cases e1
    exact h2
  · obtain ⟨r, e1, -⟩ := h ls st M _ hw
    cases e1
theorem s_iret (hd : decode T.2.1 pc = .ok (.ireturn, 1)) (hr : T.2.2.2 = some .int) : am_G E tb P T pc i_iret := by
  refine am_G.ofRet (fun ls st M x h => ?_)
  unfold i_iret at h
  dsimp only at h
  split at h
  · next z =>
    cases h
    exact ⟨_, rfl, Or.inl ⟨hd, z, rfl, rfl, Or.inl hr⟩⟩
  · cases h
theorem s_zret (hd : decode T.2.1 pc = .ok (.ireturn, 1)) (hr : T.2.2.2 = some .boolean) : am_G E tb P T pc i_zret := by
  refine am_G.ofRet (fun ls st M x h => ?_)
  unfold i_zret at h
  dsimp only at h
  split at h
  · next z =>
    split at h
    · next hz =>
      cases h
      exact ⟨_, rfl, Or.inl ⟨hd, z, rfl, rfl, Or.inr ⟨hr, hz⟩⟩⟩
    · cases h
  · cases h
theorem s_aret {rt : FieldType} (hd : decode T.2.1 pc = .ok (.areturn, 1)) (hr : T.2.2.2 = some rt) (ho : (∃ n, rt = .object n) ∨ ∃ t, rt = .array t) : am_G E tb P T pc i_aret := by
  refine am_G.ofRet (fun ls st M x h => ?_)
  unfold i_aret at h
  dsimp only at h
  split at h
  · next v =>
    cases h
    exact ⟨_, rfl, Or.inr (Or.inl ⟨hd, v, rfl, rfl, rt, hr, ho⟩)⟩
  · cases h
theorem s_vret (hd : decode T.2.1 pc = .ok (.return_, 1)) (hr : T.2.2.2 = none) : am_G E tb P T pc i_vret := by
  refine am_G.ofRet (fun ls st M x h => ?_)
  unfold i_vret at h
  dsimp only at h
  split at h
  · cases h
    exact ⟨_, rfl, Or.inr (Or.inr ⟨hd, rfl, rfl, hr⟩)⟩
  · cases h
end AmS
end
section
/-! SOUNDNESS, third part: instructions that read or write the heap -/
theorem am_P1 {D : va_G} {cl : List vw_C} {q : Nat × va_E} {H : Heap} (h : va_at D cl q H) : va_P D cl [q] H := by
  intro k q' hk
  cases k with
  | zero =>
    cases hk
    exact h
  | succ n => simp at hk
theorem am_Re.at {E : am_E} {H0 : Heap} {n0 k0 : Nat} {M : am_M} {H : Heap} {locs : List Loc} {cells slots a : Nat} {c : am_C} (h : am_Re E H0 n0 k0 M H locs cells slots) (hm : M.2.2 a = some c) : 1 ≤ a ∧ va_at (e_D E) (e_cl E) (e_h E + a, am_cE E c) H := h.1.2.2 a c hm
theorem am_Re.up {E : am_E} {H0 : Heap} {n0 k0 : Nat} {M : am_M} {H H' : Heap} {locs : List Loc} {cells slots a i : Nat} {c0 c : am_C} (h : am_Re E H0 n0 k0 M H locs cells slots) (hm : M.2.2 a = some c0) (hw : am_wC c) (hat : va_at (e_D E) (e_cl E) (e_h E + a, am_cE E c) H') (hz : H'.size = H.size) (ho : ∀ q, q ≠ e_h E + a → H'[q]? = H[q]?) : am_Re E H0 n0 k0 (M.1, M.2.1, am_up M.2.2 a c) H' (locs ++ [⟨e_h E + a, i⟩]) cells slots := by
  obtain ⟨⟨z1, z2, z3⟩, w1, c1, c2, l1, f1⟩ := h
  obtain ⟨ha, -⟩ := z3 a c0 hm
  refine ⟨⟨hz.trans z1, z2, fun x u hx => ?_⟩, fun x u hx => ?_, c1, c2, fun x hx => ?_, fun q hq => ?_⟩
  · by_cases hxa : x = a
    · subst hxa
      have e1 : am_up M.2.2 x c x = some u := hx
      rw [am_up_s] at e1
      cases e1
      exact ⟨ha, hat⟩
    · have e1 : am_up M.2.2 a c x = some u := hx
      rw [am_up_n hxa] at e1
      obtain ⟨g1, g2⟩ := z3 x u e1
      exact ⟨g1, g2.kept (ho _ (fun q => hxa (Nat.add_left_cancel q)))⟩
  · by_cases hxa : x = a
    · subst hxa
      have e1 : am_up M.2.2 x c x = some u := hx
      rw [am_up_s] at e1
      cases e1
      exact hw
    · have e1 : am_up M.2.2 a c x = some u := hx
      rw [am_up_n hxa] at e1
      exact w1 x u e1
  · rcases List.mem_append.mp hx with hx | hx
    · exact l1 x hx
    · rw [List.mem_singleton.mp hx]
      show e_h E + 1 ≤ e_h E + a
      omega
  · rw [ho q (by omega)]
    exact f1 q hq
theorem am_Re.mk {E : am_E} {H0 : Heap} {n0 k0 k : Nat} {M : am_M} {H H' : Heap} {locs : List Loc} {cells slots : Nat} {c : am_C} (h : am_Re E H0 n0 k0 M H locs cells slots) (hw : am_wC c) (hat : va_at (e_D E) (e_cl E) (e_h E + M.1, am_cE E c) H') (hz : H'.size = H.size + 1) (ho : ∀ q, q < H.size → H'[q]? = H[q]?) : am_Re E H0 n0 k0 (M.1 + 1, M.2.1 + k, am_up M.2.2 M.1 c) H' locs (cells + 1) (slots + k) := by
  obtain ⟨⟨z1, z2, z3⟩, w1, c1, c2, l1, f1⟩ := h
  refine ⟨⟨by show H'.size = e_h E + (M.1 + 1); omega, by show 1 ≤ M.1 + 1; omega, fun x u hx => ?_⟩, fun x u hx => ?_, by show M.1 + 1 = _; omega, by show M.2.1 + k = _; omega, l1, fun q hq => ?_⟩
  · have e1 : am_up M.2.2 M.1 c x = some u := hx
    by_cases hxa : x = M.1
    · rw [hxa, am_up_s] at e1
      cases e1
      rw [hxa]
      exact ⟨z2, hat⟩
    · rw [am_up_n hxa] at e1
      obtain ⟨g1, g2⟩ := z3 x u e1
      exact ⟨g1, g2.kept (ho _ g2.lt)⟩
  · have e1 : am_up M.2.2 M.1 c x = some u := hx
    by_cases hxa : x = M.1
    · rw [hxa, am_up_s] at e1
      cases e1
      exact hw
    · rw [am_up_n hxa] at e1
      exact w1 x u e1
  · rw [ho q (by omega)]
    exact f1 q hq
theorem am_fit_ok {E : am_E} {b : Nat} {v : am_V} {ty : FieldType} (h : am_fit b v = true) (hb : (b = 0 ∧ ty = .int) ∨ (b = 1 ∧ ty = .boolean) ∨ (b = 2 ∧ ((∃ C, ty = .object C) ∨ ∃ t, ty = .array t))) : narrow ty (am_cv E v) = am_cv E v ∧ fits ty (am_cv E v) = true := by
  rcases hb with ⟨rfl, rfl⟩ | ⟨rfl, rfl⟩ | ⟨rfl, ht⟩
  · rcases v with z | r
    · exact ⟨rfl, rfl⟩
    · cases h
  · rcases v with z | r
    · have hz : z = 0 ∨ z = 1 := by simpa [am_fit] using h
      rcases hz with rfl | rfl
      · exact ⟨show narrow .boolean (.int (Int32.ofInt 0)) = .int (Int32.ofInt 0) by decide, show fits .boolean (.int (Int32.ofInt 0)) = true by decide⟩
      · exact ⟨show narrow .boolean (.int (Int32.ofInt 1)) = .int (Int32.ofInt 1) by decide, show fits .boolean (.int (Int32.ofInt 1)) = true by decide⟩
    · cases h
  · rcases v with z | r
    · cases h
    · rcases ht with ⟨C, rfl⟩ | ⟨t, rfl⟩ <;> cases r <;> exact ⟨rfl, rfl⟩
theorem am_ix {i : Int} {N : Nat} (hi : am_ok i) (h0 : 0 ≤ i) (h1 : i < N) : ¬ (Int32.ofInt i < 0 ∨ N ≤ (Int32.ofInt i).toNatClampNeg) := by
  rw [am_cl hi]
  rintro (h | h)
  · have h2 : i < 0 := (am_lt hi am_ok0).mp h
    omega
  · omega
section AmH
variable {p : Program} {l : Launch} {e : Env} {R : Room} {s : State} {m : MethodId} {args : Array Value} {below : List Frame} {meth : Method} {c : Code} {H : Heap} {locs : List Loc} {cells slots : Nat} {Q : State → Prop}
variable {cc : ByteArray} {pc : Nat} {ls : Array Slot} {rest : List Value} {D : va_G} {cl : List vw_C} {a : Nat}
theorem am_Wput (hexec : p.tables.exec = Jvm.exec) (hb : c.code = cc) {own C : String} {Tf : u_T} {N ci index : Nat} {Ts : List Cond} (hts : ∀ w ∈ Ts, w.before args s = true) (hin : ∀ w ∈ u_ws C Tf N, w ∈ Ts) (ty0 : Nat → FieldType) (hty : ∀ k, k < N → parseFieldDescriptor (Tf k).2.2.1 = some (ty0 k)) (hnm : ∀ a, a < N → ∀ b, b < N → a ≠ b → (Tf a).2.1 ≠ (Tf b).2.1) (hown : s.vm.findClass own = some m.cls) (hK : va_K D cl [] s) {fs : List Value} (hat : va_at D cl (a, .inr (ci, fs)) H) (hc : cl[ci]? = some (C, Tf, N)) (k : Nat) (hk : k < N) (hlink : (Cond.fieldLink own index (Tf k).1 (Tf k).2.1 (Tf k).2.2.1).before args s = true) (hfin : (Tf k).2.2.2 = false ∨ ((Tf k).2.2.2 = true ∧ meth.name = "<init>" ∧ (Tf k).1 = own)) {ty : FieldType} {v : Value} (hd : parseFieldDescriptor (Tf k).2.2.1 = some ty) (hn : narrow ty v = v) (hfit : fits ty v = true) (hl : k < fs.length)
    (hdg : decode cc pc = .ok (.putfield index, 3)) (kk : ∀ (H1 : Heap) (i : Nat), va_at D cl (a, .inr (ci, fs.set k v)) H1 → H1.size = H.size → (∀ q, q ≠ a → H1[q]? = H[q]?) → W p l e R s m args below meth c H1 (locs ++ [⟨a, i⟩]) cells slots Q (F0 m (pc + 3) ls rest)) : W p l e R s m args below meth c H locs cells slots Q (F0 m pc ls (v :: .ref a :: rest)) := by
  have hap := va_apart (own := own) hts hin ty0 hty hnm hK hc
  obtain ⟨r, h1, cell, q1, q2, q3, q4⟩ := hat
  have hr : r = (C, Tf, N) := Option.some.inj (h1.symm.trans hc)
  subst hr
  obtain ⟨hS, hfc, kC, hkC, hkind⟩ := hK.1 ci _ hc
  obtain ⟨cf, kf, fi, f, hi, hsl⟩ := hS k hk
  have hst := (u_facts hfc hkC (u_lays hts hin hk) hi).1
  have fin : ∀ H' : Heap, H'[a]? = some (cell.setSlot f.slot v) → H'.size = H.size → (∀ q, q ≠ a → H'[q]? = H[q]?) → W p l e R s m args below meth c H' (locs ++ [⟨a, f.slot⟩]) cells slots Q (F0 m (pc + 3) ls rest) := by
    intro H' e1 e2 e3
    rw [hsl] at e1 ⊢
    exact kk H' _ ⟨_, hc, t_OB.to (V := updV (vp_V fs) k v) ⟨_, e1, q2, q3, t_set q4 hap hk v⟩ (fun j _ => vp_updV_set hl v j)⟩ e2 e3
  have hlay := hts _ (hin _ (u_in_lay hk))
  unfold u_lay at hlay
  rcases hfin with hfin | ⟨hfin, hin2, hdecl⟩
  · rw [if_neg (by rw [hfin]; decide)] at hlay
    have h6 := u_store hfc hkC hkind hlay hi hd hn hfit
    exact W.putK hexec hb (f := f) ⟨hown, hlink, ⟨_, _, _, hi⟩, hst⟩ (by rw [q2]; exact h6) q1 q3 (by rw [hsl]; exact k2_hasslot (q4 k hk)) rfl rfl hdg fin
  · rw [if_pos hfin] at hlay
    have hcf : m.cls = cf := by
      obtain ⟨_, _, c', _, _, _, -, -, hf', -, -, -, hown2, -⟩ := Cond.laysFinal_spec hlay
      have e1 : c' = cf := by have := hi.symm.trans hf'; simp at this; exact this.1.symm
      rw [hdecl] at hown2
      rw [← e1]; exact Option.some.inj (hown.symm.trans hown2)
    have h6 := u_fits hfc hkC hkind (Or.inr hlay) hi hd hn hfit
    exact W.putFinK hexec hb hown hlink hi hst hcf hin2 (by rw [q2]; exact h6) q1 q3 (by rw [hsl]; exact k2_hasslot (q4 k hk)) rfl rfl hdg fin
end AmH
section AmS2
variable {E : am_E} {tb : Nat → am_T} {P : am_P} {T : am_T} {pc n k t ci b : Nat}
theorem s_get {index N : Nat} {C : String} {Tf : u_T} (hc : (e_cl E)[ci]? = some (C, Tf, N)) (hin : ∀ w ∈ u_ws C Tf N, w ∈ e_Ts E) (hk : k < N) (hw : Cond.fieldLink T.1.cls index (Tf k).1 (Tf k).2.1 (Tf k).2.2.1 ∈ e_Ts E) (hd : decode T.2.1 pc = .ok (.getfield index, 3)) (hn : pc + 3 = n) : am_G E tb P T pc (i_get ci k n) := by
  subst hn
  refine am_G.ofStep (fun ls st M x h => ?_)
  unfold i_get at h
  dsimp only at h
  split at h
  · next a st' =>
    split at h
    · next o hm =>
      split at h
      · next ho =>
        split at h
        · next v hv =>
          cases h
          refine ⟨_, rfl, Nat.le_refl _, Nat.le_refl _, ?_⟩
          intro p l e R s m args below meth c Q H locs cells slots n0 k0 lsC X hS hR hL _ _ kk
          obtain ⟨ha, hat⟩ := hR.at hm
          subst ho
          have hwv : am_wV v := hR.2.1 a _ hm v (List.mem_of_getElem? hv)
          rw [List.map_cons, am_cv_p ha]
          refine va_get (D := e_D E) (cl := e_cl E) (ws := [(e_h E + a, am_cE E (.inl o))]) (tys := []) (ci := o.1) (v := am_cv E v) X.1 X.2.1 X.2.2.2.2.1 hin X.2.2.2.1 X.2.2.2.2.2.1.1 (am_P1 hat) 0 (fs := o.2.map (am_cv E)) rfl hc k hk (X.2.2.2.2.1 _ hw) (fun _ h9 => h9) (by rw [List.getElem?_map, hv]; rfl) hd ?_
          exact kk H locs cells slots lsC (am_wS_c hwv (am_wS_t hS)) hR hL
        · cases h
      · cases h
    · cases h
  · cases h
theorem s_put {index N : Nat} {C : String} {Tf : u_T} {ty : FieldType} (hc : (e_cl E)[ci]? = some (C, Tf, N)) (hin : ∀ w ∈ u_ws C Tf N, w ∈ e_Ts E) (ty0 : Nat → FieldType) (hty : ∀ k, k < N → parseFieldDescriptor (Tf k).2.2.1 = some (ty0 k)) (hnm : ∀ a, a < N → ∀ b, b < N → a ≠ b → (Tf a).2.1 ≠ (Tf b).2.1) (hk : k < N) (hw : Cond.fieldLink T.1.cls index (Tf k).1 (Tf k).2.1 (Tf k).2.2.1 ∈ e_Ts E) (hfin : (Tf k).2.2.2 = false ∨ ((Tf k).2.2.2 = true ∧ T.1.name = "<init>" ∧ (Tf k).1 = T.1.cls)) (hdt : parseFieldDescriptor (Tf k).2.2.1 = some ty) (hb : (b = 0 ∧ ty = .int) ∨ (b = 1 ∧ ty = .boolean) ∨ (b = 2 ∧ ((∃ C, ty = .object C) ∨ ∃ t, ty = .array t))) (hd : decode T.2.1 pc = .ok (.putfield index, 3)) (hn : pc + 3 = n) : am_G E tb P T pc (i_put ci k b n) := by
  subst hn
  refine am_G.ofStep (fun ls st M x h => ?_)
  unfold i_put at h
  dsimp only at h
  split at h
  · next v a st' =>
    split at h
    · next o hm =>
      split at h
      · next ho =>
        cases h
        refine ⟨_, rfl, Nat.le_refl _, Nat.le_refl _, ?_⟩
        intro p l e R s m args below meth c Q H locs cells slots n0 k0 lsC X hS hR hL _ _ kk
        obtain ⟨ha, hat⟩ := hR.at hm
        obtain ⟨ho, hl, hv⟩ := ho
        subst ho
        have hwv : am_wV v := am_wS_h hS
        have hwo : ∀ u ∈ o.2, am_wV u := hR.2.1 a _ hm
        obtain ⟨hnar, hfit⟩ := am_fit_ok (E := E) hv hb
        rw [List.map_cons, List.map_cons, am_cv_p ha]
        refine am_Wput (D := e_D E) (cl := e_cl E) (ci := o.1) X.1 X.2.1 X.2.2.2.2.1 hin ty0 hty hnm X.2.2.2.1 X.2.2.2.2.2.1.1 (fs := o.2.map (am_cv E)) hat hc k hk (X.2.2.2.2.1 _ hw) (hfin.imp id (fun g => ⟨g.1, X.2.2.2.2.2.2.1 g.2.1, g.2.2⟩)) hdt hnar hfit (by rw [List.length_map]; exact hl) hd (fun H1 i hat1 hz ho1 => ?_)
        refine kk H1 _ cells slots lsC (am_wS_t (am_wS_t hS)) (hR.up (c := .inl (o.1, o.2.set k v)) hm ?_ ?_ hz ho1) hL
        · intro u hu
          rcases List.mem_or_eq_of_mem_set hu with hu | rfl
          · exact hwo u hu
          · exact hwv
        · show va_at _ _ (_, .inr (o.1, (o.2.set k v).map (am_cv E))) H1
          rw [List.map_set]
          exact hat1
      · cases h
    · cases h
  · cases h
theorem s_iald (hkd : (e_kd E)[t]? = some .int) (hd : decode T.2.1 pc = .ok (.iaload, 1)) (hn : pc + 1 = n) : am_G E tb P T pc (i_iald t n) := by
  subst hn
  refine am_G.ofStep (fun ls st M x h => ?_)
  unfold i_iald at h
  dsimp only at h
  split at h
  · next i a st' =>
    split at h
    · next o hm =>
      split at h
      · next ho =>
        cases h
        refine ⟨_, rfl, Nat.le_refl _, Nat.le_refl _, ?_⟩
        intro p l e R s m args below meth c Q H locs cells slots n0 k0 lsC X hS hR hL _ _ kk
        obtain ⟨ha, hat⟩ := hR.at hm
        obtain ⟨ho, h0, h1⟩ := ho
        subst ho
        have hi : am_ok i := am_wS_h hS
        have hwo : ∀ j, j < o.2.1 → am_ok (o.2.2 j) := hR.2.1 a _ hm
        rw [List.map_cons, List.map_cons, am_cv_p ha]
        refine W.iald (v := .int (Int32.ofInt (o.2.2 i.toNat))) X.1 X.2.1 hat ((X.2.2.2.2.2.1.2.1 _ _ hkd).1 o.2.1 (fun j => .int (Int32.ofInt (o.2.2 j)))) (fun q => by cases q) (by show ¬ (Int32.ofInt i < 0 ∨ (arrV _ _ _).slots.size ≤ _); rw [arrV_size]; exact am_ix hi h0 h1) (by show (arrV _ _ _).slots[_]? = _; rw [am_cl hi, arrV_read _ _ (show i.toNat < o.2.1 by omega)]) rfl rfl hd ?_
        exact kk H locs cells slots lsC (am_wS_c (hwo _ (by omega)) (am_wS_t (am_wS_t hS))) hR hL
      · cases h
    · cases h
  · cases h
theorem s_zald (hkd : (e_kd E)[t]? = some .boolean) (hd : decode T.2.1 pc = .ok (.baload, 1)) (hn : pc + 1 = n) : am_G E tb P T pc (i_iald t n) := by
  subst hn
  refine am_G.ofStep (fun ls st M x h => ?_)
  unfold i_iald at h
  dsimp only at h
  split at h
  · next i a st' =>
    split at h
    · next o hm =>
      split at h
      · next ho =>
        cases h
        refine ⟨_, rfl, Nat.le_refl _, Nat.le_refl _, ?_⟩
        intro p l e R s m args below meth c Q H locs cells slots n0 k0 lsC X hS hR hL _ _ kk
        obtain ⟨ha, hat⟩ := hR.at hm
        obtain ⟨ho, h0, h1⟩ := ho
        subst ho
        have hi : am_ok i := am_wS_h hS
        have hwo : ∀ j, j < o.2.1 → am_ok (o.2.2 j) := hR.2.1 a _ hm
        rw [List.map_cons, List.map_cons, am_cv_p ha]
        refine W.zald (v := .int (Int32.ofInt (o.2.2 i.toNat))) X.1 X.2.1 hat ((X.2.2.2.2.2.1.2.1 _ _ hkd).1 o.2.1 (fun j => .int (Int32.ofInt (o.2.2 j)))) (fun q => by cases q) (by show ¬ (Int32.ofInt i < 0 ∨ (arrV _ _ _).slots.size ≤ _); rw [arrV_size]; exact am_ix hi h0 h1) (by show (arrV _ _ _).slots[_]? = _; rw [am_cl hi, arrV_read _ _ (show i.toNat < o.2.1 by omega)]) rfl rfl hd ?_
        exact kk H locs cells slots lsC (am_wS_c (hwo _ (by omega)) (am_wS_t (am_wS_t hS))) hR hL
      · cases h
    · cases h
  · cases h
theorem am_fu_c (f : Nat → Int) (i : Nat) (z : Int) : (fun j => Value.int (Int32.ofInt (am_fu f i z j))) = updV (fun j => Value.int (Int32.ofInt (f j))) i (.int (Int32.ofInt z)) := by
  funext j
  by_cases hj : j = i
  · simp [am_fu, updV, hj]
  · simp [am_fu, updV, hj]
theorem s_iast (hkd : (e_kd E)[t]? = some .int) (hd : decode T.2.1 pc = .ok (.iastore, 1)) (hn : pc + 1 = n) : am_G E tb P T pc (i_iast t b n) := by
  subst hn
  refine am_G.ofStep (fun ls st M x h => ?_)
  unfold i_iast at h
  dsimp only at h
  split at h
  · next z i a st' =>
    split at h
    · next o hm =>
      split at h
      · next ho =>
        cases h
        refine ⟨_, rfl, Nat.le_refl _, Nat.le_refl _, ?_⟩
        intro p l e R s m args below meth c Q H locs cells slots n0 k0 lsC X hS hR hL _ _ kk
        obtain ⟨ha, hat⟩ := hR.at hm
        obtain ⟨ho, ⟨h0, h1⟩, hv⟩ := ho
        subst ho
        have hi : am_ok i := am_wS_h (am_wS_t hS)
        have hz : am_ok z := am_wS_h hS
        have hwo : ∀ j, j < o.2.1 → am_ok (o.2.2 j) := hR.2.1 a _ hm
        rw [List.map_cons, List.map_cons, List.map_cons, am_cv_p ha]
        refine W.iast X.1 X.2.1 hat ((X.2.2.2.2.2.1.2.1 _ _ hkd).1 o.2.1 (fun j => .int (Int32.ofInt (o.2.2 j)))) (fun q => by cases q) (by show ¬ (Int32.ofInt i < 0 ∨ (arrV _ _ _).slots.size ≤ _); rw [arrV_size]; exact am_ix hi h0 h1) rfl rfl hd (fun H1 e1 hz1 ho1 => ?_)
        refine kk H1 _ cells slots lsC (am_wS_t (am_wS_t (am_wS_t hS))) (hR.up (c := .inr (.inl (o.1, o.2.1, am_fu o.2.2 i.toNat z))) hm ?_ ?_ hz1 ho1) hL
        · intro j hj
          show am_ok (am_fu o.2.2 i.toNat z j)
          unfold am_fu
          split
          · exact hz
          · exact hwo j hj
        · show H1[e_h E + a]? = some (arrV (e_dA E o.1) o.2.1 (fun j => .int (Int32.ofInt (am_fu o.2.2 i.toNat z j))))
          rw [am_fu_c, ← arrV_store, e1, am_cl hi]
          rfl
      · cases h
    · cases h
  · cases h
theorem s_zast (hkd : (e_kd E)[t]? = some .boolean) (hd : decode T.2.1 pc = .ok (.bastore, 1)) (hn : pc + 1 = n) : am_G E tb P T pc (i_iast t 1 n) := by
  subst hn
  refine am_G.ofStep (fun ls st M x h => ?_)
  unfold i_iast at h
  dsimp only at h
  split at h
  · next z i a st' =>
    split at h
    · next o hm =>
      split at h
      · next ho =>
        cases h
        refine ⟨_, rfl, Nat.le_refl _, Nat.le_refl _, ?_⟩
        intro p l e R s m args below meth c Q H locs cells slots n0 k0 lsC X hS hR hL _ _ kk
        obtain ⟨ha, hat⟩ := hR.at hm
        obtain ⟨ho, ⟨h0, h1⟩, hv⟩ := ho
        subst ho
        have hi : am_ok i := am_wS_h (am_wS_t hS)
        have hz : am_ok z := am_wS_h hS
        have hwo : ∀ j, j < o.2.1 → am_ok (o.2.2 j) := hR.2.1 a _ hm
        have hnar : narrow .boolean (.int (Int32.ofInt z)) = .int (Int32.ofInt z) := (am_fit_ok (E := E) (v := .inl z) hv (Or.inr (Or.inl ⟨rfl, rfl⟩))).1
        rw [List.map_cons, List.map_cons, List.map_cons, am_cv_p ha]
        refine W.zast X.1 X.2.1 hat ((X.2.2.2.2.2.1.2.1 _ _ hkd).1 o.2.1 (fun j => .int (Int32.ofInt (o.2.2 j)))) (fun q => by cases q) (by show ¬ (Int32.ofInt i < 0 ∨ (arrV _ _ _).slots.size ≤ _); rw [arrV_size]; exact am_ix hi h0 h1) rfl rfl hd (fun H1 e1 hz1 ho1 => ?_)
        rw [hnar] at e1
        refine kk H1 _ cells slots lsC (am_wS_t (am_wS_t (am_wS_t hS))) (hR.up (c := .inr (.inl (o.1, o.2.1, am_fu o.2.2 i.toNat z))) hm ?_ ?_ hz1 ho1) hL
        · intro j hj
          show am_ok (am_fu o.2.2 i.toNat z j)
          unfold am_fu
          split
          · exact hz
          · exact hwo j hj
        · show H1[e_h E + a]? = some (arrV (e_dA E o.1) o.2.1 (fun j => .int (Int32.ofInt (am_fu o.2.2 i.toNat z j))))
          rw [am_fu_c, ← arrV_store, e1, am_cl hi]
          rfl
      · cases h
    · cases h
  · cases h
theorem s_aald {C : String} (hkd : (e_kd E)[t]? = some (.object C)) (hd : decode T.2.1 pc = .ok (.aaload, 1)) (hn : pc + 1 = n) : am_G E tb P T pc (i_aald t n) := by
  subst hn
  refine am_G.ofStep (fun ls st M x h => ?_)
  unfold i_aald at h
  dsimp only at h
  split at h
  · next i a st' =>
    split at h
    · next o hm =>
      split at h
      · next ho =>
        cases h
        refine ⟨_, rfl, Nat.le_refl _, Nat.le_refl _, ?_⟩
        intro p l e R s m args below meth c Q H locs cells slots n0 k0 lsC X hS hR hL _ _ kk
        obtain ⟨ha, hat⟩ := hR.at hm
        obtain ⟨ho, h0, h1⟩ := ho
        subst ho
        have hi : am_ok i := am_wS_h hS
        rw [List.map_cons, List.map_cons, am_cv_p ha]
        refine W.aald (ty := .object C) (v := am_cv E (.inr (o.2.2 i.toNat))) X.1 X.2.1 hat ((X.2.2.2.2.2.1.2.1 _ _ hkd).1 o.2.1 (fun j => va_rf ((o.2.2 j).map (am_ad E)))) rfl (fun q => by cases q) (by show ¬ (Int32.ofInt i < 0 ∨ (arrV _ _ _).slots.size ≤ _); rw [arrV_size]; exact am_ix hi h0 h1) (by show (arrV _ _ _).slots[_]? = _; rw [am_cl hi, arrV_read _ _ (show i.toNat < o.2.1 by omega)]; rfl) rfl rfl hd ?_
        exact kk H locs cells slots lsC (am_wS_c trivial (am_wS_t (am_wS_t hS))) hR hL
      · cases h
    · cases h
  · cases h
theorem s_aast {q : vw_C} (hkd : (e_kd E)[t]? = some (.object q.1)) (hc : (e_cl E)[ci]? = some q) (hd : decode T.2.1 pc = .ok (.aastore, 1)) (hn : pc + 1 = n) : am_G E tb P T pc (i_aast t ci n) := by
  subst hn
  refine am_G.ofStep (fun ls st M x h => ?_)
  unfold i_aast at h
  dsimp only at h
  split at h
  · next v i a st' =>
    split at h
    · next o u hm hu =>
      split at h
      · next ho =>
        cases h
        refine ⟨_, rfl, Nat.le_refl _, Nat.le_refl _, ?_⟩
        intro p l e R s m args below meth c Q H locs cells slots n0 k0 lsC X hS hR hL _ _ kk
        obtain ⟨ha, hat⟩ := hR.at hm
        obtain ⟨hv, hvt⟩ := hR.at hu
        obtain ⟨ho, ⟨h0, h1⟩, huc⟩ := ho
        subst ho
        subst huc
        have hi : am_ok i := am_wS_h (am_wS_t hS)
        have K := X.2.2.2.2.2.1
        obtain ⟨r', hr', cellV, g1, g2, g3, -⟩ := hvt
        have hcls := (K.1.1 u.1 q hc).2
        obtain ⟨kA, comp, k1, k2, k3, -⟩ := (K.2.1 _ _ hkd).2
        have hcomp : comp = (e_D E).1 u.1 := Option.some.inj (k3.symm.trans hcls.1)
        subst hcomp
        obtain ⟨kC, hkC, -⟩ := hcls.2
        rw [List.map_cons, List.map_cons, List.map_cons, am_cv_p ha, am_cv_p hv]
        refine W.aast X.1 X.2.1 hat (fun q h => by cases h) (fun h => by cases h) k1 k2 rfl hkC ⟨fun h => (am_ix hi h0 h1) (Or.inl h), by show _ < (arrV _ _ _).slots.size; rw [arrV_size, am_cl hi]; exact (show i.toNat < o.2.1 by omega)⟩ g1 (fun q h => by rw [g3] at h; cases h) (by rw [g2]; exact hkC) (by rw [g2]; exact va_assign hcls) rfl rfl hd (fun H1 e1 hz1 ho1 => ?_)
        refine kk H1 _ cells slots lsC (am_wS_t (am_wS_t (am_wS_t hS))) (hR.up (c := .inr (.inr (o.1, o.2.1, am_fu o.2.2 i.toNat (some v)))) hm trivial ?_ hz1 ho1) hL
        show H1[e_h E + a]? = some (arrV (e_dA E o.1) o.2.1 (fun j => va_rf ((am_fu o.2.2 i.toNat (some v) j).map (am_ad E))))
        have ef : (fun j => va_rf ((am_fu o.2.2 i.toNat (some v) j).map (am_ad E))) = updV (fun j => va_rf ((o.2.2 j).map (am_ad E))) i.toNat (.ref (e_h E + v)) := by
          funext j
          by_cases hj : j = i.toNat
          · simp [am_fu, updV, hj, va_rf, am_ad_p hv]
          · simp [am_fu, updV, hj]
        rw [ef, ← arrV_store, e1, am_cl hi]
        rfl
      · cases h
    · cases h
  · cases h
theorem s_alen {ty : FieldType} (hkd : (e_kd E)[t]? = some ty) (hd : decode T.2.1 pc = .ok (.arraylength, 1)) (hn : pc + 1 = n) : am_G E tb P T pc (i_alen t n) := by
  subst hn
  refine am_G.ofStep (fun ls st M x h => ?_)
  unfold i_alen at h
  dsimp only at h
  split at h
  · next a st' =>
    split at h
    · next o hm =>
      split at h
      · next ho =>
        cases h
        refine ⟨_, rfl, Nat.le_refl _, Nat.le_refl _, ?_⟩
        intro p l e R s m args below meth c Q H locs cells slots n0 k0 lsC X hS hR hL _ _ kk
        obtain ⟨ha, hat⟩ := hR.at hm
        obtain ⟨ho, h1⟩ := ho
        subst ho
        rw [List.map_cons, am_cv_p ha]
        refine W.alen (n := Int32.ofInt (o.2.1 : Int)) X.1 X.2.1 hat ((X.2.2.2.2.2.1.2.1 _ _ hkd).1 o.2.1 (fun j => .int (Int32.ofInt (o.2.2 j)))) (by show (arrV _ _ _).slots.size.toInt32 = _; rw [arrV_size]; rfl) rfl rfl hd ?_
        exact kk H locs cells slots lsC (am_wS_c (by show am_ok (o.2.1 : Int); constructor <;> omega) (am_wS_t hS)) hR hL
      · cases h
    · next o hm =>
      split at h
      · next ho =>
        cases h
        refine ⟨_, rfl, Nat.le_refl _, Nat.le_refl _, ?_⟩
        intro p l e R s m args below meth c Q H locs cells slots n0 k0 lsC X hS hR hL _ _ kk
        obtain ⟨ha, hat⟩ := hR.at hm
        obtain ⟨ho, h1⟩ := ho
        subst ho
        rw [List.map_cons, am_cv_p ha]
        refine W.alen (n := Int32.ofInt (o.2.1 : Int)) X.1 X.2.1 hat ((X.2.2.2.2.2.1.2.1 _ _ hkd).1 o.2.1 (fun j => va_rf ((o.2.2 j).map (am_ad E)))) (by show (arrV _ _ _).slots.size.toInt32 = _; rw [arrV_size]; rfl) rfl rfl hd ?_
        exact kk H locs cells slots lsC (am_wS_c (by show am_ok (o.2.1 : Int); constructor <;> omega) (am_wS_t hS)) hR hL
      · cases h
    · cases h
  · cases h
theorem s_new {index N : Nat} {C : String} {Tf : u_T} {fs : List am_V} (hc : (e_cl E)[ci]? = some (C, Tf, N)) (hin : ∀ w ∈ u_ws C Tf N, w ∈ e_Ts E) (ty0 : Nat → FieldType) (hty : ∀ k, k < N → parseFieldDescriptor (Tf k).2.2.1 = some (ty0 k)) (hcl : Cond.classLink T.1.cls index C ∈ e_Ts E) (hins : Cond.instantiable C N ∈ e_Ts E) (hini : Cond.initialized C ∈ e_Ts E) (hl : fs.length = N) (hfs : ∀ j, j < N → defaultValue (ty0 j) = vp_V (fs.map (am_cv E)) j) (hwf : am_wS fs) (hd : decode T.2.1 pc = .ok (.new index, 3)) (hn : pc + 3 = n) : am_G E tb P T pc (i_new ci fs n) := by
  subst hn
  subst hl
  refine am_G.ofStep (fun ls st M x h => ?_)
  cases h
  refine ⟨_, rfl, Nat.le_succ _, Nat.le_add_right _ _, ?_⟩
  intro p l e R s m args below meth c Q H locs cells slots n0 k0 lsC X hS hR hL hb1 hb2 kk
  have hKn := X.2.2.2.2.2.1.1.1 ci _ hc
  have hsz : H.size = e_h E + M.1 := hR.1.1
  have c1 := hR.2.2.1
  have c2 := hR.2.2.2.1
  dsimp only at hb1 hb2
  refine W.newcK X.1 X.2.1 X.2.2.2.1 (X.2.2.2.2.1 _ hcl) (X.2.2.2.2.1 _ hins) (X.2.2.2.2.1 _ hini) rfl hd (by omega) (by omega) hKn.2.1 rfl (fun H1 kC hkC e1 z1 o1 => ?_)
  have hat : va_at (e_D E) (e_cl E) (e_h E + M.1, am_cE E (.inl (ci, fs))) H1 := by
    rw [← hsz]
    exact ⟨_, hc, (u_born ty0 X.2.2.2.2.1 hin hKn hkC e1 hty).to hfs⟩
  have k2 := kk H1 locs (cells + 1) (slots + fs.length) lsC (am_wS_c trivial hS) (hR.mk (c := .inl (ci, fs)) hwf hat z1 o1) hL
  dsimp only at k2
  rw [List.map_cons, am_cv_p hR.1.2.1, ← hsz] at k2
  exact k2
theorem s_newa {at0 : ArrayType} {ty : FieldType} (hat0 : newarray.typeOf at0 = ty) (hkd : (e_kd E)[t]? = some ty) (hp : ty = .int ∨ ty = .boolean) (hw : Cond.arrayClass ty ∈ e_Ts E) (hd : decode T.2.1 pc = .ok (.newarray at0, 2)) (hn : pc + 2 = n) : am_G E tb P T pc (i_newa t n) := by
  subst hn
  refine am_G.ofStep (fun ls st M x h => ?_)
  unfold i_newa at h
  dsimp only at h
  split at h
  · next i st' =>
    split at h
    · next hi0 =>
      cases h
      refine ⟨_, rfl, Nat.le_succ _, Nat.le_add_right _ _, ?_⟩
      intro p l e R s m args below meth c Q H locs cells slots n0 k0 lsC X hS hR hL hb1 hb2 kk
      have hsz : H.size = e_h E + M.1 := hR.1.1
      have c1 := hR.2.2.1
      have c2 := hR.2.2.2.1
      dsimp only at hb1 hb2
      have hi : am_ok i := am_wS_h hS
      subst hat0
      have hcb : componentBytes (newarray.typeOf at0) ≤ 4 := by
        rcases hp with hp | hp <;> rw [hp] <;> decide
      have hbytes : i.toNat * componentBytes (newarray.typeOf at0) ≤ 536870912 := Nat.le_trans (Nat.mul_le_mul (show i.toNat ≤ 100000 by omega) hcb) (by decide)
      have hdv : (fun _ : Nat => defaultValue (newarray.typeOf at0)) = fun _ => Value.int (Int32.ofInt 0) := by
        funext _
        rcases hp with hp | hp <;> rw [hp] <;> rfl
      refine va_newaK X.1 X.2.1 (X.2.2.2.2.1 _ hw) rfl hd rfl (fun q => by have := (am_lt hi am_ok0).mp q; omega) (am_cl hi) hbytes (by omega) (by omega) hsz (fun H1 cA e1 z1 o1 hAr hNm => ?_)
      have hcA : cA = e_dA E t := by
        have h2 := (X.2.2.2.2.2.1.2.1 _ _ hkd).2
        rcases hp with hp | hp
        · rw [hp] at h2 hNm
          exact Option.some.inj (hNm.symm.trans h2)
        · rw [hp] at h2 hNm
          exact Option.some.inj (hNm.symm.trans h2)
      have hat : va_at (e_D E) (e_cl E) (e_h E + M.1, am_cE E (.inr (.inl (t, i.toNat, fun _ => 0)))) H1 := by
        show H1[e_h E + M.1]? = some (arrV (e_dA E t) i.toNat (fun _ => .int (Int32.ofInt 0)))
        rw [e1, hdv, hcA]
      have k2 := kk H1 locs (cells + 1) (slots + i.toNat) lsC (am_wS_c trivial (am_wS_t hS)) (hR.mk (c := .inr (.inl (t, i.toNat, fun _ => 0))) (fun _ _ => am_ok0) hat (by rw [hsz]; exact z1) (by rw [hsz]; exact o1)) hL
      dsimp only at k2
      rw [List.map_cons, am_cv_p hR.1.2.1] at k2
      exact k2
    · cases h
  · cases h
theorem s_anewa {index : Nat} {C : String} (hkd : (e_kd E)[t]? = some (.object C)) (hcl : Cond.classLink T.1.cls index C ∈ e_Ts E) (hov : Cond.arrayOver (.object C) ∈ e_nw E) (hd : decode T.2.1 pc = .ok (.anewarray index, 3)) (hn : pc + 3 = n) : am_G E tb P T pc (i_anewa t n) := by
  subst hn
  refine am_G.ofStep (fun ls st M x h => ?_)
  unfold i_anewa at h
  dsimp only at h
  split at h
  · next i st' =>
    split at h
    · next hi0 =>
      cases h
      refine ⟨_, rfl, Nat.le_succ _, Nat.le_add_right _ _, ?_⟩
      intro p l e R s m args below meth c Q H locs cells slots n0 k0 lsC X hS hR hL hb1 hb2 kk
      have hsz : H.size = e_h E + M.1 := hR.1.1
      have c1 := hR.2.2.1
      have c2 := hR.2.2.2.1
      dsimp only at hb1 hb2
      have hi : am_ok i := am_wS_h hS
      refine W.anew X.1 X.2.1 X.2.2.2.1 (X.2.2.2.2.1 _ hcl) (va_AO.use (X.2.2.2.2.2.1.2.2.1 _ hov)) rfl hd rfl (fun q => by have := (am_lt hi am_ok0).mp q; omega) (by rw [am_cl hi]; omega) (by omega) (by rw [am_cl hi]; omega) (fun cA kA comp h1 h2 h3 h4 => ?_)
      have hcA : cA = e_dA E t := by
        obtain ⟨kA', comp', g1, g2, g3, g4⟩ := (X.2.2.2.2.2.1.2.1 _ _ hkd).2
        exact Option.some.inj (h1.symm.trans g4)
      rw [am_cl hi]
      have hat : va_at (e_D E) (e_cl E) (e_h E + M.1, am_cE E (.inr (.inr (t, i.toNat, fun _ => none)))) (H.push { cls := cA, slots := Array.replicate i.toNat .null, vm := .none }) := by
        show (H.push _)[e_h E + M.1]? = some (arrV (e_dA E t) i.toNat (fun _ => .null))
        rw [← hsz, ← arrV_new, hcA]
        simp
      have k2 := kk _ locs (cells + 1) (slots + i.toNat) lsC (am_wS_c trivial (am_wS_t hS)) (hR.mk (c := .inr (.inr (t, i.toNat, fun _ => none))) trivial hat (by simp) (fun q hq => by rw [Array.getElem?_push, if_neg (Nat.ne_of_lt hq)])) hL
      dsimp only at k2
      rw [List.map_cons, am_cv_p hR.1.2.1, ← hsz] at k2
      exact k2
    · cases h
  · cases h
theorem s_sld {n : Nat} {xs : Nat → Int} (hN : am_nN E) (hxs : ∀ j, xs j = (e_xs E j).toInt) (hd : decode T.2.1 pc = .ok (.iaload, 1)) (hn : pc + 1 = n) : am_G E tb P T pc (i_sld (e_L E) xs n) := by
  subst hn
  refine am_G.ofStep (fun ls st M x h => ?_)
  unfold i_sld at h
  dsimp only at h
  split at h
  · next i st' =>
    split at h
    · next hi0 =>
      cases h
      refine ⟨_, rfl, Nat.le_refl _, Nat.le_refl _, ?_⟩
      intro p l e R s m args below meth c Q H locs cells slots n0 k0 lsC X hS hR hL _ _ kk
      have hi : am_ok i := am_wS_h hS
      obtain ⟨scr, g1, g2, g3, g4, g5⟩ := X.2.2.2.2.2.1.2.2.2
      have hcell : H[e_b E]? = some scr := by rw [hR.2.2.2.2.2 _ hN.1]; exact g1
      have e0 : am_cv E (.inl (xs i.toNat)) = .int (e_xs E i.toNat) := by
        show Value.int (Int32.ofInt (xs i.toNat)) = _
        rw [hxs, Int32.ofInt_toInt]
      refine W.iald (a := e_b E) (v := am_cv E (.inl (xs i.toNat))) X.1 X.2.1 hcell g2 g3 (by rw [g4]; exact am_ix hi hi0.1 hi0.2) (by rw [am_cl hi, g5 _ (by omega), e0]) rfl rfl hd ?_
      exact kk H locs cells slots lsC (am_wS_c (by show am_ok (xs i.toNat); rw [hxs]; exact am_okI _) (am_wS_t (am_wS_t hS))) hR hL
    · cases h
  · cases h
theorem s_slen {n : Nat} (hN : am_nN E) (hL0 : e_L E < 2147483648) (hd : decode T.2.1 pc = .ok (.arraylength, 1)) (hn : pc + 1 = n) : am_G E tb P T pc (i_slen (e_L E) n) := by
  subst hn
  refine am_G.ofStep (fun ls st M x h => ?_)
  unfold i_slen at h
  dsimp only at h
  split at h
  · next st' =>
    cases h
    refine ⟨_, rfl, Nat.le_refl _, Nat.le_refl _, ?_⟩
    intro p l e R s m args below meth c Q H locs cells slots n0 k0 lsC X hS hR hL _ _ kk
    obtain ⟨scr, g1, g2, g3, g4, g5⟩ := X.2.2.2.2.2.1.2.2.2
    have hcell : H[e_b E]? = some scr := by rw [hR.2.2.2.2.2 _ hN.1]; exact g1
    refine W.alen (a := e_b E) (n := Int32.ofInt (e_L E)) X.1 X.2.1 hcell g2 (by rw [g4]; rfl) rfl rfl hd ?_
    exact kk H locs cells slots lsC (am_wS_c (by show am_ok (e_L E); constructor <;> omega) (am_wS_t hS)) hR hL
  · cases h
end AmS2
end
section
/-! SOUNDNESS, fourth part: calls, bodies, contracts -/
theorem am_Pc_b {E : am_E} (hN : am_nN E) {as : List am_V} {M : am_M} : FrameBlind (am_Pc E as M) := by
  intro a U g mk q
  obtain ⟨q1, q2, q3⟩ := q
  exact ⟨q1, q2, am_KK.same (s := U) (U := U.calling g mk a) hN rfl rfl q3⟩
theorem am_Pc_i {E : am_E} (hN : am_nN E) {T : am_T} {p : Program} {s U : State} {m : MethodId} {args : Array Value} {meth : Method} {c : Code} {as : List am_V} {n0 k0 : Nat} {M : am_M} {H : Heap} {locs : List Loc} {cells slots : Nat} (X : am_X E T p s m args meth c) (hR : am_Re E s.heap n0 k0 M H locs cells slots) (hU : U.heap = H) (hW : s.WarmedH U.vm) : am_Pc E as M (as.map (am_cv E)).toArray U :=
  ⟨rfl, by rw [hU]; exact hR.1, X.2.2.2.2.2.1.moved hN hW (by rw [hU]; exact hR.2.2.2.2.2 _ hN.1)⟩
section AmC
variable {p : Program} {l : Launch} {e : Env} {R : Room} {s : State} {m : MethodId} {args : Array Value} {below : List Frame} {meth : Method} {c : Code} {H : Heap} {locs : List Loc} {cells slots : Nat} {Q : State → Prop}
theorem am_after {E : am_E} {y : am_Y} {a : Array Value} {free : Addr → Prop} {mc ms pc : Nat} {ls : Array Slot} {st0 rest : List Value} (hr : va_Run p l e R s m args below meth c H locs cells slots mc ms (F0 m pc ls st0) rest (am_Qc E y a) free)
    (kk : ∀ (H' : Heap) (L : List Loc), (∀ q ∈ L, free q.base) → am_H E y.2 H' → am_wM y.2 → (∀ v, y.1 = some v → am_wV v) → (∀ q : Nat, q ≤ e_h E → H'[q]? = H[q]?) → W p l e R s m args below meth c H' (locs ++ L) (cells + mc) (slots + ms) Q (F0 m (pc + 3) ls ((y.1.map (am_cv E)).toList ++ rest))) : W p l e R s m args below meth c H locs cells slots Q (F0 m pc ls st0) := by
  intro T hT X
  obtain ⟨v, st₀, t, T', L, h0, X', hL, e1, e2, ⟨hv, hH, hw1, hw2, hfr⟩, st⟩ := hr T hT X
  have hv' : v = y.1.map (am_cv E) := by injection hv
  subst hv'
  obtain ⟨t2, a1, b1⟩ := kk T'.heap L hL (by rw [e1]; exact hH) hw1 hw2 (fun q hq => by rw [e1, hfr q hq, h0]) T' rfl X'
  exact ⟨t2, st t2 a1, b1⟩
end AmC
theorem am_Re.call {E : am_E} {H0 : Heap} {n0 k0 : Nat} {M : am_M} {y : am_Y} {H H' : Heap} {locs L : List Loc} {cells slots : Nat} (h : am_Re E H0 n0 k0 M H locs cells slots) (hm : M.1 ≤ y.2.1 ∧ M.2.1 ≤ y.2.2.1) (hL : ∀ q ∈ L, e_h E + 1 ≤ q.base) (hH : am_H E y.2 H') (hw : am_wM y.2) (hf : ∀ q : Nat, q ≤ e_h E → H'[q]? = H[q]?) : am_Re E H0 n0 k0 y.2 H' (locs ++ L) (cells + (y.2.1 - M.1)) (slots + (y.2.2.1 - M.2.1)) := by
  obtain ⟨-, -, c1, c2, l1, f1⟩ := h
  obtain ⟨m1, m2⟩ := hm
  refine ⟨hH, hw, by omega, by omega, fun x hx => ?_, fun q hq => (hf q hq).trans (f1 q hq)⟩
  rcases List.mem_append.mp hx with hx | hx
  · exact l1 x hx
  · exact hL x hx
theorem am_wS_app {a b : List am_V} (h1 : am_wS a) (h2 : am_wS b) : am_wS (a ++ b) := by
  intro v hv
  rcases List.mem_append.mp hv with h | h
  · exact h1 v h
  · exact h2 v h
theorem am_wS_tk {a : List am_V} (k : Nat) (h : am_wS a) : am_wS (a.take k) := fun v hv => h v (List.mem_of_mem_take hv)
theorem am_wS_dr {a : List am_V} (k : Nat) (h : am_wS a) : am_wS (a.drop k) := fun v hv => h v (List.mem_of_mem_drop hv)
theorem am_wS_rv {a : List am_V} (h : am_wS a) : am_wS a.reverse := fun v hv => h v (List.mem_reverse.mp hv)
theorem am_wS_op {r : Option am_V} (h : ∀ v, r = some v → am_wV v) : am_wS r.toList := by
  intro v hv
  cases r with
  | none => cases hv
  | some u =>
    cases List.mem_singleton.mp hv
    exact h _ rfl
theorem am_opm {E : am_E} (r : Option am_V) (st : List am_V) : ((r.toList ++ st).map (am_cv E)) = (r.map (am_cv E)).toList ++ st.map (am_cv E) := by
  cases r <;> simp
theorem am_cats {E : am_E} (st : List am_V) : ((st.map (am_cv E)).map fun v => v.category).sum = st.length := by
  induction st with
  | nil => rfl
  | cons v st ih =>
    rw [List.map_cons, List.map_cons, List.sum_cons, ih, am_cv_c, List.length_cons]
    omega
/-- what is asked of a callee: its words are good, and are among ours -/
def am_TsOk (E : am_E) : Prop := ∀ w ∈ e_Ts E, (w.onTables && w.keeps) = true ∨ ∃ ty, w = .arrayClass ty
theorem am_gin {E : am_E} (h : am_TsOk E) {T' : am_T} (hc : Cond.code T'.1 T'.2.1 T'.2.2.1 T'.2.2.2 ∈ e_Ts E) : GoodIn (e_Ts E) (am_ws E T') := by
  intro w hw
  rcases List.mem_cons.mp hw with rfl | hw
  · exact ⟨hc, h _ hc⟩
  · exact ⟨hw, h w hw⟩
theorem am_split {st : List am_V} {na : Nat} {v : am_V} (h : st[na]? = some v) : st = st.take na ++ v :: st.drop (na + 1) := by
  have hl : na < st.length := (List.getElem?_eq_some_iff.mp h).1
  have e1 : st.drop na = v :: st.drop (na + 1) := by
    rw [List.drop_eq_getElem_cons hl]
    congr 1
    exact (List.getElem?_eq_some_iff.mp h).2
  rw [← e1, List.take_append_drop]
theorem am_taker {st : List am_V} {na : Nat} {v : am_V} (h : st[na]? = some v) : (st.take (na + 1)).reverse = v :: (st.take na).reverse := by
  rw [List.take_succ, h]
  simp
/-- the facts that a call's row wants of its callee -/
def am_Ce (E : am_E) (T T' : am_T) (na : Nat) : Prop := am_nN E ∧ am_TsOk E ∧ Cond.code T'.1 T'.2.1 T'.2.2.1 T'.2.2.2 ∈ e_Ts E ∧ Cond.initialized T'.1.cls ∈ e_Ts E ∧ (T'.1.cls ≠ "java/lang/invoke/MethodHandle" ∧ T'.1.cls ≠ "java/lang/invoke/VarHandle" ∧ (parseMethodDescriptor T'.1.desc).map (fun d => d.parameters.length) = some na) ∧ T'.2.2.1 ≤ 21
theorem am_G.ofCall {E : am_E} {tb : Nat → am_T} {P : am_P} {T : am_T} {pc : Nat} {f : am_I} (h : ∀ (ls : am_L) (st : List am_V) (M : am_M) (x : am_F ⊕ (am_Y ⊕ (Nat × List am_V × am_F))), f (pc, ls, st, M) = some x → ∃ w, x = .inr (.inr w) ∧ w.2.2.2.2.2 = M ∧ w.2.2.2.1 = ls ∧ am_Cl E tb P T pc ls st M w) : am_G E tb P T pc f := by
  refine ⟨fun ls st M => ⟨fun q hq => ?_, fun y hy => ?_, fun w hw => ?_⟩, fun ls st M => ⟨fun q hq => ?_, fun y hy => ?_, fun w hw => ?_⟩⟩
  · obtain ⟨r, e1, -⟩ := h ls st M _ hq
    cases e1
  · obtain ⟨r, e1, -⟩ := h ls st M _ hy
    cases e1
  · obtain ⟨r, e1, h1, h2, -⟩ := h ls st M _ hw
    cases e1
    exact ⟨h1, h2⟩
  · obtain ⟨r, e1, -⟩ := h ls st M _ hq
    cases e1
  · obtain ⟨r, e1, -⟩ := h ls st M _ hy
    cases e1
  · obtain ⟨r, e1, -, -, h3⟩ := h ls st M _ hw
    cases e1
    exact h3
theorem am_call_0 {P : am_P} {k d j : Nat} {as : List am_V} {M : am_M} {y : am_Y} (h : am_call P k d j as M = some y) : 1 ≤ d := by
  cases d with
  | zero => cases h
  | succ d => omega
section AmS3
variable {E : am_E} {tb : Nat → am_T} {P : am_P} {T : am_T} {pc n j na ci index : Nat}
theorem s_callS (hj : 3 ≤ j) (hC : am_Ce E T (tb j) na) (hl : Cond.methodLink T.1.cls index (tb j).1 ∈ e_Ts E) (hs : Cond.static (tb j).1 ∈ e_Ts E) (hd : decode T.2.1 pc = .ok (.invokestatic index, 3)) (hn : pc + 3 = n) : am_G E tb P T pc (i_callS j na n) := by
  subst hn
  refine am_G.ofCall (fun ls st M x h => ?_)
  unfold i_callS at h
  dsimp only at h
  split at h
  · next hlen =>
    cases h
    refine ⟨_, rfl, rfl, rfl, ?_⟩
    intro k d y p l e R s m args below meth c Q H locs cells slots n0 k0 lsC hI hy hm X hS hR hL hf1 hf2 hb1 hb2 kk
    have hd1 := am_call_0 hy
    obtain ⟨hN, hT, hcode, hini, hdd, hml⟩ := hC
    have hM := hI j _ M y hj hy (am_wS_rv (am_wS_tk na hS)) hR.2.1
    have hts := X.2.2.2.2.1
    have c1 := hR.2.2.1
    have c2 := hR.2.2.2.1
    obtain ⟨m1, m2⟩ := hm
    have cw : CallB R s args T.1.cls index (tb j).1 (tb j).2.1 (tb j).2.2.1 (tb j).2.2.2 (am_ws E (tb j)) (am_rm d M y.2) (y.2.1 - M.1) (y.2.2.1 - M.2.1) na := callB_of na hts (am_gin hT hcode) rfl rfl rfl (hts _ hini) (hts _ hl) hdd ⟨by show d - 1 + 1 ≤ R.frames; omega, by show 8 + ((tb j).2.2.1 + 11) + 40 * (d - 1) ≤ R.locals; omega⟩
    have est : st.map (am_cv E) = (((st.take na).reverse.map (am_cv E))).reverse ++ (st.drop na).map (am_cv E) := by
      rw [← List.map_reverse, List.reverse_reverse, ← List.map_append, List.take_append_drop]
    refine am_after (va_runS (As := (st.take na).reverse.map (am_cv E)) (rest := (st.drop na).map (am_cv E)) ⟨X.1, X.2.1, X.2.2.1, X.2.2.2.1, hts⟩ hM ⟨cw, hts _ hs⟩ ⟨am_Pc_b hN, fun U hU hW => am_Pc_i hN X hR hU hW⟩ rfl (by simp; omega) hL.1 est (lv_room (by rw [am_cats, List.length_drop]; omega)) hd ⟨by omega, by omega⟩) (fun H' L hLf hH' hw1 hw2 hfr => ?_)
    have k2 := kk H' _ _ _ (am_wS_app (am_wS_op hw2) (am_wS_dr na hS)) (hR.call ⟨m1, m2⟩ hLf hH' hw1 hfr)
    rw [am_opm] at k2
    exact k2
  · cases h
/-- the row for a receiver: any call that takes one -/
theorem am_vst {st : List am_V} {a : Nat} (h : st[na]? = some (.inr (some a))) (ha : 1 ≤ a) : st.map (am_cv E) = (((st.take na).reverse.map (am_cv E))).reverse ++ .ref (e_h E + a) :: (st.drop (na + 1)).map (am_cv E) := by
  conv => lhs; rw [am_split h]
  rw [← List.map_reverse, List.reverse_reverse, List.map_append, List.map_cons, am_cv_p ha]
theorem s_callV {q : vw_C} (hj : 3 ≤ j) (hC : am_Ce E T (tb j) na) (hc : (e_cl E)[ci]? = some q) (hq : q.1 = (tb j).1.cls) (hl : Cond.methodLink T.1.cls index (tb j).1 ∈ e_Ts E) (hs : Cond.instanceMethod (tb j).1 ∈ e_Ts E) (hse : Cond.selects (tb j).1.cls (tb j).1 (tb j).1 ∈ e_Ts E) (hd : decode T.2.1 pc = .ok (.invokevirtual index, 3)) (hn : pc + 3 = n) : am_G E tb P T pc (i_callV ci j na n) := by
  subst hn
  refine am_G.ofCall (fun ls st M x h => ?_)
  unfold i_callV at h
  dsimp only at h
  split at h
  · next hlen =>
    split at h
    · next a hst =>
      split at h
      · next o hm0 =>
        split at h
        · next ho =>
          cases h
          refine ⟨_, rfl, rfl, rfl, ?_⟩
          intro k d y p l e R s m args below meth c Q H locs cells slots n0 k0 lsC hI hy hm X hS hR hL hf1 hf2 hb1 hb2 kk
          have hd1 := am_call_0 hy
          obtain ⟨hN, hT, hcode, hini, hdd, hml⟩ := hC
          have hM := hI j _ M y hj hy (am_wS_rv (am_wS_tk (na + 1) hS)) hR.2.1
          have hts := X.2.2.2.2.1
          have c1 := hR.2.2.1
          have c2 := hR.2.2.2.1
          obtain ⟨m1, m2⟩ := hm
          subst ho
          obtain ⟨ha, hat⟩ := hR.at hm0
          have hcell : ∃ cellB : Cell, H[e_h E + a]? = some cellB ∧ cellB.vm.isStatics = false ∧ s.vm.findClass (tb j).1.cls = some cellB.cls := by
            rw [← hq]
            exact va_recv (tys := []) X.2.2.2.2.2.1.1 (am_P1 hat) (ci := o.1) (q0 := 0) (fs := o.2.map (am_cv E)) hc rfl
          rw [am_taker hst] at hM hy
          have cw : CallB R s args T.1.cls index (tb j).1 (tb j).2.1 (tb j).2.2.1 (tb j).2.2.2 (am_ws E (tb j)) (am_rm d M y.2) (y.2.1 - M.1) (y.2.2.1 - M.2.1) na := callB_of na hts (am_gin hT hcode) rfl rfl rfl (hts _ hini) (hts _ hl) hdd ⟨by show d - 1 + 1 ≤ R.frames; omega, by show 8 + ((tb j).2.2.1 + 11) + 40 * (d - 1) ≤ R.locals; omega⟩
          have ear : (((Sum.inr (some a) : am_V) :: (st.take na).reverse).map (am_cv E)) = .ref (e_h E + a) :: (st.take na).reverse.map (am_cv E) := by rw [List.map_cons, am_cv_p ha]
          refine am_after (va_runV (b := e_h E + a) (As := (st.take na).reverse.map (am_cv E)) (rest := (st.drop (na + 1)).map (am_cv E)) ⟨X.1, X.2.1, X.2.2.1, X.2.2.2.1, hts⟩ hM ⟨cw, hts _ hs, hts _ hse⟩ ⟨am_Pc_b hN, hcell, fun U hU hW => by rw [← ear]; exact am_Pc_i hN X hR hU hW⟩ rfl (by simp; omega) hL.1 (am_vst hst ha) (lv_room (by rw [am_cats, List.length_drop]; omega)) hd ⟨by omega, by omega⟩) (fun H' L hLf hH' hw1 hw2 hfr => ?_)
          have k2 := kk H' _ _ _ (am_wS_app (am_wS_op hw2) (am_wS_dr (na + 1) hS)) (hR.call ⟨m1, m2⟩ hLf hH' hw1 hfr)
          rw [am_opm] at k2
          exact k2
        · cases h
      · cases h
    · cases h
  · cases h
/-- a new object's own making: of a class of ours, by a link or a nest mate's link -/
theorem s_callI (hj : 3 ≤ j) (hC : am_Ce E T (tb j) na) (hr : (tb j).2.2.2 = none) (hnm : (tb j).1.name = "<init>") {host : String} (hl : Cond.methodLink T.1.cls index (tb j).1 ∈ e_Ts E ∨ Cond.methodLinkNest T.1.cls index (tb j).1 host ∈ e_nw E) (hs : Cond.instanceMethod (tb j).1 ∈ e_Ts E) (hd : decode T.2.1 pc = .ok (.invokespecial index, 3)) (hn : pc + 3 = n) : am_G E tb P T pc (i_callI j na n) := by
  subst hn
  refine am_G.ofCall (fun ls st M x h => ?_)
  unfold i_callI at h
  dsimp only at h
  split at h
  · next hlen =>
    split at h
    · next a hst =>
      cases h
      refine ⟨_, rfl, rfl, rfl, ?_⟩
      intro k d y p l e R s m args below meth c Q H locs cells slots n0 k0 lsC hI hy hm X hS hR hL hf1 hf2 hb1 hb2 kk
      have hd1 := am_call_0 hy
      obtain ⟨hN, hT, hcode, hini, hdd, hml⟩ := hC
      have hM := hI j _ M y hj hy (am_wS_rv (am_wS_tk (na + 1) hS)) hR.2.1
      have hts := X.2.2.2.2.1
      have c1 := hR.2.2.1
      have c2 := hR.2.2.2.1
      obtain ⟨m1, m2⟩ := hm
      rw [am_taker hst] at hM hy
      have est : st.map (am_cv E) = (((st.take na).reverse.map (am_cv E))).reverse ++ .ref (am_ad E a) :: (st.drop (na + 1)).map (am_cv E) := by
        conv => lhs; rw [am_split hst]
        rw [← List.map_reverse, List.reverse_reverse, List.map_append, List.map_cons]
        rfl
      have ear : (((Sum.inr (some a) : am_V) :: (st.take na).reverse).map (am_cv E)) = .ref (am_ad E a) :: (st.take na).reverse.map (am_cv E) := by rw [List.map_cons]; rfl
      have hP : PreS s H (am_Pc E (.inr (some a) :: (st.take na).reverse) M) (.ref (am_ad E a) :: (st.take na).reverse.map (am_cv E)) := ⟨am_Pc_b hN, fun U hU hW => by rw [← ear]; exact am_Pc_i hN X hR hU hW⟩
      have hRm : (am_rm d M y.2).frames + 1 ≤ R.frames ∧ 8 + ((tb j).2.2.1 + 11) + (am_rm d M y.2).locals ≤ R.locals := ⟨by show d - 1 + 1 ≤ R.frames; omega, by show 8 + ((tb j).2.2.1 + 11) + 40 * (d - 1) ≤ R.locals; omega⟩
      have hgo : va_Run p l e R s m args below meth c H locs cells slots (y.2.1 - M.1) (y.2.2.1 - M.2.1) (F0 m pc lsC (st.map (am_cv E))) ((st.drop (na + 1)).map (am_cv E)) (am_Qc E y (Value.ref (am_ad E a) :: (st.take na).reverse.map (am_cv E)).toArray) (fun q => e_h E + 1 ≤ q) := by
        rcases hl with hl | hl
        · have cw : CallB R s args T.1.cls index (tb j).1 (tb j).2.1 (tb j).2.2.1 (tb j).2.2.2 (am_ws E (tb j)) (am_rm d M y.2) (y.2.1 - M.1) (y.2.2.1 - M.2.1) na := callB_of na hts (am_gin hT hcode) rfl rfl rfl (hts _ hini) (hts _ hl) hdd hRm
          rw [hr] at cw
          exact va_runI (b := am_ad E a) (As := (st.take na).reverse.map (am_cv E)) (rest := (st.drop (na + 1)).map (am_cv E)) ⟨X.1, X.2.1, X.2.2.1, X.2.2.2.1, hts⟩ hM ⟨cw, hnm, hts _ hs⟩ hP rfl (by simp; omega) hL.1 est (lv_room (by rw [am_cats, List.length_drop]; omega)) hd ⟨by omega, by omega⟩
        · have cw : va_CN R s args T.1.cls index (tb j).1 host (tb j).2.1 (tb j).2.2.1 (tb j).2.2.2 (am_ws E (tb j)) (am_rm d M y.2) (y.2.1 - M.1) (y.2.2.1 - M.2.1) na := va_cnB na hts (am_gin hT hcode) rfl rfl rfl (X.2.2.2.2.2.1.2.2.1 _ hl) (hts _ hini) hdd hRm
          rw [hr] at cw
          exact va_runIN (b := am_ad E a) (As := (st.take na).reverse.map (am_cv E)) (rest := (st.drop (na + 1)).map (am_cv E)) ⟨X.1, X.2.1, X.2.2.1, X.2.2.2.1, hts⟩ hM ⟨cw, hnm, hts _ hs⟩ hP rfl (by simp; omega) hL.1 est (lv_room (by rw [am_cats, List.length_drop]; omega)) hd ⟨by omega, by omega⟩
      refine am_after hgo (fun H' L hLf hH' hw1 hw2 hfr => ?_)
      have k2 := kk H' _ _ _ (am_wS_app (am_wS_op hw2) (am_wS_dr (na + 1) hS)) (hR.call ⟨m1, m2⟩ hLf hH' hw1 hfr)
      rw [am_opm] at k2
      exact k2
    · cases h
  · cases h
end AmS3
/-- number 0: Object's own making; numbers 1 and 2: max and min -/
def am_P0 (P : am_P) : Prop := P 0 = (1, am_at [(0, i_vret)]) ∧ P 1 = (2, am_at [(0, i_max)]) ∧ P 2 = (2, am_at [(0, i_min)])
theorem am_call0 {P : am_P} (h : am_P0 P) {k d : Nat} {v : am_V} {M : am_M} {y : am_Y} (hy : am_call P k d 0 [v] M = some y) : y = (none, M) := by
  cases d with
  | zero => cases hy
  | succ d =>
    rw [am_call_s, h.1, if_pos (Nat.le_of_ble_eq_true rfl)] at hy
    cases k with
    | zero => cases hy
    | succ k =>
      rw [am_run_s] at hy
      cases hy
      rfl
theorem am_call1 {P : am_P} (h : am_P0 P) {k d : Nat} {a b : Int} {M : am_M} {y : am_Y} (hy : am_call P k d 1 [.inl a, .inl b] M = some y) : y = (some (.inl (if a < b then b else a)), M) := by
  cases d with
  | zero => cases hy
  | succ d =>
    rw [am_call_s, h.2.1, if_pos (Nat.le_of_ble_eq_true rfl)] at hy
    cases k with
    | zero => cases hy
    | succ k =>
      rw [am_run_s] at hy
      cases hy
      rfl
theorem am_call2 {P : am_P} (h : am_P0 P) {k d : Nat} {a b : Int} {M : am_M} {y : am_Y} (hy : am_call P k d 2 [.inl a, .inl b] M = some y) : y = (some (.inl (if b < a then b else a)), M) := by
  cases d with
  | zero => cases hy
  | succ d =>
    rw [am_call_s, h.2.2, if_pos (Nat.le_of_ble_eq_true rfl)] at hy
    cases k with
    | zero => cases hy
    | succ k =>
      rw [am_run_s] at hy
      cases hy
      rfl
/-- the two one-step methods take two numbers -/
def i_call2 (j n : Nat) : am_I := fun q => match q.2.2.1 with
  | .inl b :: .inl a :: st => if st.length ≤ 8 then some (.inr (.inr (j, [.inl a, .inl b], n, q.2.1, st, q.2.2.2))) else none
  | _ => none
theorem x_call2 {P : am_P} {d pc n j : Nat} {code : Nat → am_I} {ls : am_L} {st : List am_V} {M : am_M} {Q : Option am_V → am_M → Prop} {a b : Int} (hc : code pc = i_call2 j n) (h8 : st.length ≤ 8) (h : am_Wp P d j [.inl a, .inl b] M (fun r M' => am_Ex P d code (n, ls, r.toList ++ st, M') Q)) : am_Ex P d code (pc, ls, .inl b :: .inl a :: st, M) Q :=
  x_callw (w := (j, [.inl a, .inl b], n, ls, st, M)) (by show code pc _ = _; rw [hc]; simp [i_call2, h8]) h
theorem am_wmax {P : am_P} (h : am_P0 P) (d : Nat) {a b : Int} {M : am_M} {Q : Option am_V → am_M → Prop} (hQ : Q (some (.inl (if a < b then b else a))) M) : am_Wp P (d + 1) 1 [.inl a, .inl b] M Q := am_wp h.2.1 (Nat.le_of_ble_eq_true rfl) (x_max (pc := 0) rfl hQ)
theorem am_wmin {P : am_P} (h : am_P0 P) (d : Nat) {a b : Int} {M : am_M} {Q : Option am_V → am_M → Prop} (hQ : Q (some (.inl (if b < a then b else a))) M) : am_Wp P (d + 1) 2 [.inl a, .inl b] M Q := am_wp h.2.2 (Nat.le_of_ble_eq_true rfl) (x_min (pc := 0) rfl hQ)
theorem am_wobj {P : am_P} (h : am_P0 P) (d : Nat) {v : am_V} {M : am_M} {Q : Option am_V → am_M → Prop} (hQ : Q none M) : am_Wp P (d + 1) 0 [v] M Q := am_wp h.1 (Nat.le_refl 1) (x_vret (pc := 0) rfl hQ)
section AmS4
variable {E : am_E} {tb : Nat → am_T} {P : am_P} {T : am_T} {pc n j na ci index : Nat}
theorem s_obj (hP : am_P0 P) (hl : Cond.methodLink T.1.cls index Lib.objectInit ∈ e_Ts E) (hi : Cond.instanceMethod Lib.objectInit ∈ e_Ts E) (hcd : Cond.code Lib.objectInit ⟨#[0xb1]⟩ 1 none ∈ e_Ts E) (hd : decode T.2.1 pc = .ok (.invokespecial index, 3)) (hn : pc + 3 = n) : am_G E tb P T pc (i_callI 0 0 n) := by
  subst hn
  refine am_G.ofCall (fun ls st M x h => ?_)
  unfold i_callI at h
  dsimp only at h
  split at h
  · next hlen =>
    split at h
    · next a hst =>
      cases h
      refine ⟨_, rfl, rfl, rfl, ?_⟩
      intro k d y p l e R s m args below meth c Q H locs cells slots n0 k0 lsC hI hy hm X hS hR hL hf1 hf2 hb1 hb2 kk
      have hd1 := am_call_0 hy
      have hts := X.2.2.2.2.1
      obtain ⟨v, st', rfl⟩ : ∃ v st', st = v :: st' := by
        cases st with
        | nil => simp at hst
        | cons v st' => exact ⟨v, st', rfl⟩
      have hv : v = .inr (some a) := by simpa using hst
      subst hv
      have hy2 : y = (none, M) := am_call0 hP hy
      subst hy2
      have hls : st'.length ≤ 8 := by simp at hlen; omega
      have k2 := kk H locs cells slots (am_wS_t hS) hR
      refine W.objInit X.1 X.2.1 X.2.2.2.1 (hts _ hl) (hts _ hi) (hts _ hcd) (a := am_ad E a) (rest := st'.map (am_cv E)) rfl (by rw [X.2.2.1]; exact hL.1) rfl hd (by omega) (by show 2 * 0 + _ + 12 ≤ _; rw [am_cats]; omega) ?_
      exact k2
    · cases h
  · cases h
theorem s_max (hP : am_P0 P) (hl : Cond.methodLink T.1.cls index Lib.Math.max.name ∈ e_Ts E) (hs : Cond.static Lib.Math.max.name ∈ e_Ts E) (hi : Cond.initialized "java/lang/Math" ∈ e_Ts E) (hcd : Cond.code Lib.Math.max.name Lib.Math.max.code 2 (some .int) ∈ e_Ts E) (hd : decode T.2.1 pc = .ok (.invokestatic index, 3)) (hn : pc + 3 = n) : am_G E tb P T pc (i_call2 1 n) := by
  subst hn
  refine am_G.ofCall (fun ls st M x h => ?_)
  unfold i_call2 at h
  dsimp only at h
  split at h
  · next b a st' =>
    split at h
    · next hls =>
      cases h
      refine ⟨_, rfl, rfl, rfl, ?_⟩
      intro k d y p l e R s m args below meth c Q H locs cells slots n0 k0 lsC hI hy hm X hS hR hL hf1 hf2 hb1 hb2 kk
      have hd1 := am_call_0 hy
      have hts := X.2.2.2.2.1
      have hy2 : y = (some (.inl (if a < b then b else a)), M) := am_call1 hP hy
      subst hy2
      have hb : am_ok b := am_wS_h hS
      have ha : am_ok a := am_wS_h (am_wS_t hS)
      have c1 := hR.2.2.1
      have c2 := hR.2.2.2.1
      dsimp only at hb1 hb2
      have k2 := kk H locs cells slots (am_wS_c (by show am_ok (if a < b then b else a); split <;> assumption) (am_wS_t (am_wS_t hS))) hR
      refine va_mmax X.1 X.2.1 (by rw [X.2.2.1]; exact hL.1.symm) X.2.2.2.1 (hts _ hl) (hts _ hs) (hts _ hi) (hts _ hcd) (by omega) (by rw [am_cats]; omega) (by omega) (by omega) hd ?_
      have e1 : (if Int32.ofInt a < Int32.ofInt b then Int32.ofInt b else Int32.ofInt a) = Int32.ofInt (if a < b then b else a) := by
        by_cases hab : a < b
        · rw [if_pos hab, if_pos ((am_lt ha hb).mpr hab)]
        · rw [if_neg hab, if_neg (fun q => hab ((am_lt ha hb).mp q))]
      rw [e1]
      exact k2
    · cases h
  · cases h
theorem s_min (hP : am_P0 P) (hl : Cond.methodLink T.1.cls index Lib.Math.min.name ∈ e_Ts E) (hs : Cond.static Lib.Math.min.name ∈ e_Ts E) (hi : Cond.initialized "java/lang/Math" ∈ e_Ts E) (hcd : Cond.code Lib.Math.min.name Lib.Math.min.code 2 (some .int) ∈ e_Ts E) (hd : decode T.2.1 pc = .ok (.invokestatic index, 3)) (hn : pc + 3 = n) : am_G E tb P T pc (i_call2 2 n) := by
  subst hn
  refine am_G.ofCall (fun ls st M x h => ?_)
  unfold i_call2 at h
  dsimp only at h
  split at h
  · next b a st' =>
    split at h
    · next hls =>
      cases h
      refine ⟨_, rfl, rfl, rfl, ?_⟩
      intro k d y p l e R s m args below meth c Q H locs cells slots n0 k0 lsC hI hy hm X hS hR hL hf1 hf2 hb1 hb2 kk
      have hd1 := am_call_0 hy
      have hts := X.2.2.2.2.1
      have hy2 : y = (some (.inl (if b < a then b else a)), M) := am_call2 hP hy
      subst hy2
      have hb : am_ok b := am_wS_h hS
      have ha : am_ok a := am_wS_h (am_wS_t hS)
      have c1 := hR.2.2.1
      have c2 := hR.2.2.2.1
      dsimp only at hb1 hb2
      have k2 := kk H locs cells slots (am_wS_c (by show am_ok (if b < a then b else a); split <;> assumption) (am_wS_t (am_wS_t hS))) hR
      refine va_mmin X.1 X.2.1 (by rw [X.2.2.1]; exact hL.1.symm) X.2.2.2.1 (hts _ hl) (hts _ hs) (hts _ hi) (hts _ hcd) (by omega) (by rw [am_cats]; omega) (by omega) (by omega) hd ?_
      have e1 : (if Int32.ofInt b < Int32.ofInt a then Int32.ofInt b else Int32.ofInt a) = Int32.ofInt (if b < a then b else a) := by
        by_cases hab : b < a
        · rw [if_pos hab, if_pos ((am_lt hb ha).mpr hab)]
        · rw [if_neg hab, if_neg (fun q => hab ((am_lt hb ha).mp q))]
      rw [e1]
      exact k2
    · cases h
  · cases h
end AmS4
-- what runs make only grows
theorem am_run_mo {c : am_K} {code : Nat → am_I} (hG : ∀ pc, am_Mo pc (code pc)) (hc : ∀ j as M y, c j as M = some y → M.1 ≤ y.2.1 ∧ M.2.1 ≤ y.2.2.1) : ∀ (k : Nat) (q : am_F) (y : am_Y), am_run c code k q = some y → q.2.2.2.1 ≤ y.2.1 ∧ q.2.2.2.2.1 ≤ y.2.2.1 := by
  intro k
  induction k with
  | zero => intro q y h; cases h
  | succ k ih =>
    intro q y h
    rw [am_run_s] at h
    obtain ⟨h1, h2, h3⟩ := hG q.1 q.2.1 q.2.2.1 q.2.2.2
    cases hx : code q.1 q with
    | none => rw [hx] at h; cases h
    | some x =>
      rw [hx] at h
      rcases x with q' | y' | w
      · have g := h1 q' hx
        have g2 := ih q' y h
        exact ⟨Nat.le_trans g.1 g2.1, Nat.le_trans g.2 g2.2⟩
      · have g : y' = y := Option.some.inj h
        have g2 := h2 y' hx
        rw [← g, g2]
        exact ⟨Nat.le_refl _, Nat.le_refl _⟩
      · cases hr : c w.1 w.2.1 w.2.2.2.2.2 with
        | none => simp only [am_nx, hr] at h; cases h
        | some z =>
          rw [am_nx_c _ _ w hr] at h
          have g0 := hc _ _ _ _ hr
          rw [(h3 w hx).1] at g0
          have g2 := ih _ y h
          exact ⟨Nat.le_trans g0.1 g2.1, Nat.le_trans g0.2 g2.2⟩
theorem am_call_mo {P : am_P} (hG : ∀ j pc, am_Mo pc ((P j).2 pc)) : ∀ (d k j : Nat) (as : List am_V) (M : am_M) (y : am_Y), am_call P k d j as M = some y → M.1 ≤ y.2.1 ∧ M.2.1 ≤ y.2.2.1 := by
  intro d
  induction d with
  | zero => intro k j as M y h; cases h
  | succ d ih =>
    intro k j as M y h
    rw [am_call_s] at h
    by_cases hn : as.length ≤ (P j).1
    · rw [if_pos hn] at h
      exact am_run_mo (hG j) (ih k) k _ y h
    · rw [if_neg hn] at h
      cases h
/-- A BODY: a run of the abstract machine is a run of the machine -/
theorem am_body {E : am_E} {tb : Nat → am_T} {P : am_P} {T : am_T} {code : Nat → am_I} (hG : ∀ pc, am_G E tb P T pc (code pc)) {l : Launch} {kc d : Nat} (hI : am_IH E tb P l kc d) (hMo : ∀ j as M y, am_call P kc d j as M = some y → M.1 ≤ y.2.1 ∧ M.2.1 ≤ y.2.2.1)
    {p : Program} {e : Env} {R : Room} {s : State} {m : MethodId} {args : Array Value} {below : List Frame} {meth : Method} {c : Code} {Q : State → Prop} {n0 k0 : Nat} (X : am_X E T p s m args meth c) (hf1 : d ≤ R.frames) (hf2 : 40 * d ≤ R.locals) (y : am_Y) (hb1 : y.2.1 ≤ n0 + R.cells) (hb2 : y.2.2.1 ≤ k0 + R.slots)
    (hend : ∀ (pc : Nat) (st : List am_V) (H : Heap) (locs : List Loc) (cells slots : Nat) (lsC : Array Slot), am_Rt T pc st y.1 → am_wS st → am_Re E s.heap n0 k0 y.2 H locs cells slots → W p l e R s m args below meth c H locs cells slots Q (F0 m pc lsC (st.map (am_cv E)))) :
    ∀ (k : Nat) (q : am_F), am_run (am_call P kc d) code k q = some y → ∀ (H : Heap) (locs : List Loc) (cells slots : Nat) (lsC : Array Slot), am_wS q.2.2.1 → am_Re E s.heap n0 k0 q.2.2.2 H locs cells slots → am_Lr E T.2.2.1 q.2.1 lsC → W p l e R s m args below meth c H locs cells slots Q (F0 m q.1 lsC (q.2.2.1.map (am_cv E))) := by
  intro k
  induction k with
  | zero => intro q h; cases h
  | succ k ih =>
    intro q h H locs cells slots lsC hS hR hL
    rw [am_run_s] at h
    obtain ⟨g1, g2, g3⟩ := (hG q.1).2 q.2.1 q.2.2.1 q.2.2.2
    cases hx : code q.1 q with
    | none => rw [hx] at h; cases h
    | some x =>
      rw [hx] at h
      rcases x with q' | y' | w
      · have hm := am_run_mo (fun pc => (hG pc).1) hMo k q' y h
        exact g1 q' hx p l e R s m args below meth c Q H locs cells slots n0 k0 lsC X hS hR hL (Nat.le_trans hm.1 hb1) (Nat.le_trans hm.2 hb2) (fun H' locs' cells' slots' lsC' hS' hR' hL' => ih q' h H' locs' cells' slots' lsC' hS' hR' hL')
      · have e1 : y' = y := Option.some.inj h
        have e2 := ((hG q.1).1 q.2.1 q.2.2.1 q.2.2.2).2.1 y' hx
        rw [e1] at e2
        have hrt := g2 y' hx
        rw [e1] at hrt
        refine hend q.1 q.2.2.1 H locs cells slots lsC hrt hS ?_
        rw [e2]
        exact hR
      · have e3 := ((hG q.1).1 q.2.1 q.2.2.1 q.2.2.2).2.2 w hx
        cases hr : am_call P kc d w.1 w.2.1 w.2.2.2.2.2 with
        | none => simp only [am_nx, hr] at h; cases h
        | some z =>
          rw [am_nx_c _ _ w hr] at h
          rw [e3.1] at hr
          have hm := am_run_mo (fun pc => (hG pc).1) hMo k _ y h
          exact g3 w hx kc d z p l e R s m args below meth c Q H locs cells slots n0 k0 lsC hI hr (hMo _ _ _ _ hr) X hS hR hL hf1 hf2 (Nat.le_trans hm.1 hb1) (Nat.le_trans hm.2 hb2) (fun H' locs' cells' slots' hS' hR' => ih _ h H' locs' cells' slots' lsC hS' hR' (by rw [e3.2]; exact hL))
theorem am_ent_lr {E : am_E} {nL : Nat} {as : List am_V} (hn : as.length ≤ nL) (hw : am_wS as) : am_Lr E nL (am_ent nL as) (((as.map (am_cv E)).map Slot.val ++ List.replicate (nL - (as.map (am_cv E)).length) Slot.unset).toArray) := by
  have key : ∀ (i : Nat) (z : Slot), (((as.map (am_cv E)).map Slot.val ++ List.replicate (nL - (as.map (am_cv E)).length) Slot.unset).toArray)[i]? = some z → (∃ v, as[i]? = some v ∧ z = .val (am_cv E v)) ∨ z = .unset := by
    intro i z hz
    rw [List.getElem?_toArray] at hz
    by_cases hi : i < as.length
    · rw [List.getElem?_append_left (by simpa using hi)] at hz
      simp only [List.getElem?_map] at hz
      cases hv : as[i]? with
      | none => rw [hv] at hz; cases hz
      | some v =>
        rw [hv] at hz
        cases hz
        exact Or.inl ⟨v, rfl, rfl⟩
    · rw [List.getElem?_append_right (by simpa using hi)] at hz
      exact Or.inr (List.eq_of_mem_replicate (List.mem_of_getElem? hz))
  refine ⟨by simp; omega, ⟨fun i v hv hc => ?_, fun i hi => ?_⟩, by simp [am_ent]; omega, fun i v hv => ?_⟩
  · rcases key i _ hv with ⟨u, -, hu⟩ | hu
    · cases hu
      rw [am_cv_c] at hc
      cases hc
    · cases hu
  · rcases key i _ hi with ⟨u, -, hu⟩ | hu
    · cases hu
    · cases hu
  · have hi : as[i]? = some v := by
      unfold am_ent at hv
      by_cases hi : i < as.length
      · rw [List.getElem?_append_left (by simpa using hi), List.getElem?_map] at hv
        cases hu : as[i]? with
        | none => rw [hu] at hv; cases hv
        | some u =>
          rw [hu] at hv
          cases hv
          rfl
      · rw [List.getElem?_append_right (by simpa using hi)] at hv
        have := List.eq_of_mem_replicate (List.mem_of_getElem? hv)
        cases this
    refine ⟨?_, hw v (List.mem_of_getElem? hi)⟩
    have hlt := (List.getElem?_eq_some_iff.mp hi).1
    rw [List.getElem?_toArray, List.getElem?_append_left (by simpa using hlt)]
    simp [hi]
/-- A METHOD: its contract, from the contracts of what it calls -/
theorem am_met {E : am_E} {tb : Nat → am_T} {P : am_P} {j : Nat} {code : Nat → am_I} (hN : am_nN E) (hT : am_TsOk E) (hP : P j = ((tb j).2.2.1, code)) (hpl : plainName (tb j).1.cls = true) (hcode : Cond.code (tb j).1 (tb j).2.1 (tb j).2.2.1 (tb j).2.2.2 ∈ e_Ts E) (hG : ∀ pc, am_G E tb P (tb j) pc (code pc)) (hMo : ∀ j pc, am_Mo pc ((P j).2 pc)) {l : Launch} {k d : Nat} (hI : am_IH E tb P l k d) {as : List am_V} {M : am_M} {y : am_Y} (hy : am_call P k (d + 1) j as M = some y) (hwS : am_wS as) (hwM : am_wM M) :
    Met l (tb j).1 (am_ws E (tb j)) (am_rm (d + 1) M y.2) (am_Pc E as M) (am_Qc E y) (y.2.1 - M.1) (y.2.2.1 - M.2.1) (fun q => e_h E + 1 ≤ q) := by
  have hmo := am_call_mo hMo (d + 1) k j as M y hy
  rw [am_call_s, hP] at hy
  by_cases hn : as.length ≤ (tb j).2.2.1
  · rw [if_pos hn] at hy
    refine Met.ofW (cc := (tb j).2.1) (maxL := (tb j).2.2.1) (ret := (tb j).2.2.2) hpl rfl ?_
    intro p e s m args below meth c s₁ B hml hv
    obtain ⟨rfl, hH, hK⟩ := hv
    have hts0 := atoms_spec (ws := am_ws E (tb j)) B.pre
    have X : am_X E (tb j) p s m (as.map (am_cv E)).toArray meth c := ⟨B.exec, B.bytes, hml, findClass_of_methodNamed B.named, fun w hw => hts0 w (List.mem_cons_of_mem _ hw), hK, fun hi => (name_of_methodNamed B.named B.method).1.trans hi, B.returns, B.notSynchronized⟩
    have hR : am_Re E s.heap M.1 M.2.1 M s.heap [] 0 0 := ⟨hH, hwM, rfl, rfl, fun x hx => (by cases hx), fun q _ => rfl⟩
    rw [entry_eq m (as.map (am_cv E)) (fun v hv => by obtain ⟨u, -, rfl⟩ := List.mem_map.mp hv; exact am_cv_c E u)]
    refine am_body (Q := MQ below (am_Qc E y) (as.map (am_cv E)).toArray s (y.2.1 - M.1) (y.2.2.1 - M.2.1) (fun q => e_h E + 1 ≤ q)) hG hI (am_call_mo hMo d k) X (R := am_rm (d + 1) M y.2) (Nat.le_refl d) (Nat.le_refl _) y (n0 := M.1) (k0 := M.2.1) (by show y.2.1 ≤ M.1 + (y.2.1 - M.1); omega) (by show y.2.2.1 ≤ M.2.1 + (y.2.2.1 - M.2.1); omega) ?_ k (0, am_ent (tb j).2.2.1 as, [], M) hy s.heap [] 0 0 _ (fun v hv => by cases hv) hR (am_ent_lr hn hwS)
    intro pc st H locs cells slots lsC hrt hS hRe
    have e1 : cells = y.2.1 - M.1 := by have := hRe.2.2.1; omega
    have e2 : slots = y.2.2.1 - M.2.1 := by have := hRe.2.2.2.1; omega
    subst e1; subst e2
    have hq : ∀ t : State, t.heap = H → s.WarmedH t.vm → (∀ v, y.1 = some v → am_wV v) → am_Qc E y (as.map (am_cv E)).toArray s (.returned (y.1.map (am_cv E))) t := fun t ht _ hw => ⟨rfl, by rw [ht]; exact hRe.1, hRe.2.1, hw, fun q hq => by rw [ht]; exact hRe.2.2.2.2.2 q hq⟩
    have hlocks : meth.locks = false := B.notSynchronized
    rcases hrt with ⟨hd, z, rfl, hr, ht⟩ | ⟨hd, v, rfl, hr, rt, ht, ho⟩ | ⟨hd, rfl, hr, ht⟩
    · have hw : ∀ v, y.1 = some v → am_wV v := fun v hv => by rw [hr] at hv; cases hv; exact am_wS_h hS
      have hq2 : ∀ t : State, t.heap = H → s.WarmedH t.vm → am_Qc E y (as.map (am_cv E)).toArray s (.returned (some (.int (Int32.ofInt z)))) t := fun t h1 h2 => by have := hq t h1 h2 hw; rw [hr] at this; exact this
      rcases ht with ht | ⟨ht, hz⟩
      · exact W.iret B.exec B.bytes (B.returns.trans ht) hq2 hRe.2.2.2.2.1 hd hlocks
      · refine W.zret B.exec B.bytes (B.returns.trans ht) ?_ hq2 hRe.2.2.2.2.1 hd hlocks
        rcases hz with rfl | rfl <;> decide
    · have hw : ∀ v, y.1 = some v → am_wV v := fun v hv => by rw [hr] at hv; cases hv; exact trivial
      refine W.aret (v := am_cv E (.inr v)) B.exec B.bytes (B.returns.trans ht) ho ?_ (fun t h1 h2 => by have := hq t h1 h2 hw; rw [hr] at this; exact this) hRe.2.2.2.2.1 hd hlocks
      cases v with
      | none => exact Or.inl rfl
      | some a => exact Or.inr ⟨_, rfl⟩
    · have hw : ∀ v, y.1 = some v → am_wV v := fun v hv => by rw [hr] at hv; cases hv
      exact W.vret B.exec B.bytes (B.returns.trans ht) (fun t h1 h2 => by have := hq t h1 h2 hw; rw [hr] at this; exact this) hRe.2.2.2.2.1 hd hlocks
  · rw [if_neg hn] at hy
    cases hy
/-- ALL METHODS of a program, at every depth -/
def am_Prog (E : am_E) (tb : Nat → am_T) (P : am_P) (J : Nat) : Prop :=
  am_nN E ∧ am_TsOk E ∧ am_P0 P ∧ (∀ j, 3 ≤ j → j < J → (P j).1 = (tb j).2.2.1 ∧ plainName (tb j).1.cls = true ∧ Cond.code (tb j).1 (tb j).2.1 (tb j).2.2.1 (tb j).2.2.2 ∈ e_Ts E ∧ ∀ pc, am_G E tb P (tb j) pc ((P j).2 pc)) ∧ ∀ j, J ≤ j → ∀ pc, (P j).2 pc = i_fail
theorem am_Mo_at : ∀ (l : List (Nat × am_I)), (∀ q ∈ l, am_Mo q.1 q.2) → ∀ pc, am_Mo pc (am_at l pc) := by
  intro l
  induction l with
  | nil => intro _ pc ls st M; exact ⟨fun q h => (by cases h), fun y h => (by cases h), fun w h => (by cases h)⟩
  | cons q l ih =>
    intro h pc
    unfold am_at
    by_cases hp : pc = q.1
    · rw [if_pos hp, hp]
      exact h q List.mem_cons_self
    · rw [if_neg hp]
      exact ih (fun u hu => h u (List.mem_cons_of_mem _ hu)) pc
theorem am_Mo_v : am_Mo 0 i_vret := by
  intro ls st M
  refine ⟨fun q h => ?_, fun y h => ?_, fun w h => ?_⟩ <;> unfold i_vret at h <;> dsimp only at h <;> split at h <;> cases h
  rfl
theorem am_Mo_max : am_Mo 0 i_max := by
  intro ls st M
  refine ⟨fun q h => ?_, fun y h => ?_, fun w h => ?_⟩ <;> unfold i_max at h <;> dsimp only at h <;> split at h <;> cases h
  rfl
theorem am_Mo_min : am_Mo 0 i_min := by
  intro ls st M
  refine ⟨fun q h => ?_, fun y h => ?_, fun w h => ?_⟩ <;> unfold i_min at h <;> dsimp only at h <;> split at h <;> cases h
  rfl
theorem am_Prog.mo {E : am_E} {tb : Nat → am_T} {P : am_P} {J : Nat} (h : am_Prog E tb P J) : ∀ j pc, am_Mo pc ((P j).2 pc) := by
  intro j pc
  obtain ⟨-, -, h0, h1, h2⟩ := h
  by_cases hj : 3 ≤ j
  · by_cases hJ : j < J
    · exact ((h1 j hj hJ).2.2.2 pc).1
    · rw [h2 j (by omega) pc]
      intro ls st M
      exact ⟨fun q h => (by cases h), fun y h => (by cases h), fun w h => (by cases h)⟩
  · rcases (show j = 0 ∨ j = 1 ∨ j = 2 by omega) with rfl | rfl | rfl
    · rw [h0.1]
      exact am_Mo_at _ (fun q hq => by cases List.mem_singleton.mp hq; exact am_Mo_v) pc
    · rw [h0.2.1]
      exact am_Mo_at _ (fun q hq => by cases List.mem_singleton.mp hq; exact am_Mo_max) pc
    · rw [h0.2.2]
      exact am_Mo_at _ (fun q hq => by cases List.mem_singleton.mp hq; exact am_Mo_min) pc
theorem am_run_fail {c : am_K} {code : Nat → am_I} (h : ∀ pc, code pc = i_fail) (k : Nat) (q : am_F) : am_run c code k q = none := by
  cases k with
  | zero => rfl
  | succ k =>
    rw [am_run_s, h]
    rfl
theorem am_sound {E : am_E} {tb : Nat → am_T} {P : am_P} {J : Nat} (h : am_Prog E tb P J) (l : Launch) (k : Nat) : ∀ d, am_IH E tb P l k d := by
  intro d
  induction d with
  | zero => intro j as M y _ hy; cases hy
  | succ d ih =>
    intro j as M y hj hy hwS hwM
    have hMo := h.mo
    obtain ⟨hN, hT, -, h1, h2⟩ := h
    by_cases hJ : j < J
    · obtain ⟨e1, hpl, hcode, hG⟩ := h1 j hj hJ
      exact am_met (code := (P j).2) hN hT (by rw [← e1]) hpl hcode hG hMo ih hy hwS hwM
    · rw [am_call_s] at hy
      by_cases hn : as.length ≤ (P j).1
      · rw [if_pos hn, am_run_fail (h2 j (by omega))] at hy
        cases hy
      · rw [if_neg hn] at hy
        cases hy
end
section
/-! printed by wip/whole/gen/prog.py: names of classes, fields, words -/
def am_Tg : List Cond := lw_tbl.filter goodWord
theorem am_Tg_ok : ∀ w ∈ am_Tg, (w.onTables && w.keeps) = true ∨ ∃ ty, w = .arrayClass ty := fun w h => good_of_word (List.mem_filter.mp h).2
theorem tg (i : Nat) {w : Cond} (h : lw_tbl[i]? = some w) (hg : goodWord w = true) : w ∈ am_Tg := List.mem_filter.mpr ⟨List.mem_of_getElem? h, hg⟩
def cn_V : String := "MailViews"
def ft_V : u_T := fun k => match k with
  | 0 => ("MailViews", "mailboxes", "[LMailViews$Mailbox;", true)
  | 1 => ("MailViews", "sessions", "[LMailViews$Session;", true)
  | 2 => ("MailViews", "journal", "LMailViews$Journal;", true)
  | 3 => ("MailViews", "written", "LMailViews$Criterion;", true)
  | 4 => ("MailViews", "hits", "[I", true)
  | _ => ("MailViews", "hitCount", "I", false)
def fy_V : Nat → FieldType := fun k => match k with
  | 0 => .array (.object "MailViews$Mailbox")
  | 1 => .array (.object "MailViews$Session")
  | 2 => .object "MailViews$Journal"
  | 3 => .object "MailViews$Criterion"
  | 4 => .array .int
  | _ => .int
theorem fn_V : ∀ a, a < 6 → ∀ b, b < 6 → a ≠ b → (ft_V a).2.1 ≠ (ft_V b).2.1 := by decide +kernel
theorem fo_V : ∀ k, k < 6 → parseFieldDescriptor (ft_V k).2.2.1 = some (fy_V k) := by decide +kernel
theorem fi_V : ∀ w ∈ u_ws cn_V ft_V 6, w ∈ am_Tg := by
  intro w hw
  obtain ⟨k, hk, rfl⟩ := List.mem_map.mp hw
  have hk := List.mem_range.mp hk
  rcases (show k = 0 ∨ k = 1 ∨ k = 2 ∨ k = 3 ∨ k = 4 ∨ k = 5 by omega) with rfl | rfl | rfl | rfl | rfl | rfl
  · exact tg 180 (by decide +kernel) (by decide +kernel)
  · exact tg 182 (by decide +kernel) (by decide +kernel)
  · exact tg 184 (by decide +kernel) (by decide +kernel)
  · exact tg 186 (by decide +kernel) (by decide +kernel)
  · exact tg 188 (by decide +kernel) (by decide +kernel)
  · exact tg 190 (by decide +kernel) (by decide +kernel)
def cn_B : String := "MailViews$Mailbox"
def ft_B : u_T := fun k => match k with
  | 0 => ("MailViews$Mailbox", "uids", "[I", true)
  | 1 => ("MailViews$Mailbox", "flags", "[I", true)
  | 2 => ("MailViews$Mailbox", "sizes", "[I", true)
  | 3 => ("MailViews$Mailbox", "length", "I", false)
  | 4 => ("MailViews$Mailbox", "nextUid", "I", false)
  | _ => ("MailViews$Mailbox", "validity", "I", false)
def fy_B : Nat → FieldType := fun k => match k with
  | 0 => .array .int
  | 1 => .array .int
  | 2 => .array .int
  | 3 => .int
  | 4 => .int
  | _ => .int
theorem fn_B : ∀ a, a < 6 → ∀ b, b < 6 → a ≠ b → (ft_B a).2.1 ≠ (ft_B b).2.1 := by decide +kernel
theorem fo_B : ∀ k, k < 6 → parseFieldDescriptor (ft_B k).2.2.1 = some (fy_B k) := by decide +kernel
theorem fi_B : ∀ w ∈ u_ws cn_B ft_B 6, w ∈ am_Tg := by
  intro w hw
  obtain ⟨k, hk, rfl⟩ := List.mem_map.mp hw
  have hk := List.mem_range.mp hk
  rcases (show k = 0 ∨ k = 1 ∨ k = 2 ∨ k = 3 ∨ k = 4 ∨ k = 5 by omega) with rfl | rfl | rfl | rfl | rfl | rfl
  · exact tg 68 (by decide +kernel) (by decide +kernel)
  · exact tg 70 (by decide +kernel) (by decide +kernel)
  · exact tg 72 (by decide +kernel) (by decide +kernel)
  · exact tg 74 (by decide +kernel) (by decide +kernel)
  · exact tg 76 (by decide +kernel) (by decide +kernel)
  · exact tg 78 (by decide +kernel) (by decide +kernel)
def cn_J : String := "MailViews$Journal"
def ft_J : u_T := fun k => match k with
  | 0 => ("MailViews$Journal", "kinds", "[I", true)
  | 1 => ("MailViews$Journal", "boxes", "[I", true)
  | 2 => ("MailViews$Journal", "uids", "[I", true)
  | 3 => ("MailViews$Journal", "oldFlags", "[I", true)
  | 4 => ("MailViews$Journal", "oldSizes", "[I", true)
  | 5 => ("MailViews$Journal", "open", "I", false)
  | _ => ("MailViews$Journal", "durable", "I", false)
def fy_J : Nat → FieldType := fun k => match k with
  | 0 => .array .int
  | 1 => .array .int
  | 2 => .array .int
  | 3 => .array .int
  | 4 => .array .int
  | 5 => .int
  | _ => .int
theorem fn_J : ∀ a, a < 7 → ∀ b, b < 7 → a ≠ b → (ft_J a).2.1 ≠ (ft_J b).2.1 := by decide +kernel
theorem fo_J : ∀ k, k < 7 → parseFieldDescriptor (ft_J k).2.2.1 = some (fy_J k) := by decide +kernel
theorem fi_J : ∀ w ∈ u_ws cn_J ft_J 7, w ∈ am_Tg := by
  intro w hw
  obtain ⟨k, hk, rfl⟩ := List.mem_map.mp hw
  have hk := List.mem_range.mp hk
  rcases (show k = 0 ∨ k = 1 ∨ k = 2 ∨ k = 3 ∨ k = 4 ∨ k = 5 ∨ k = 6 by omega) with rfl | rfl | rfl | rfl | rfl | rfl | rfl
  · exact tg 130 (by decide +kernel) (by decide +kernel)
  · exact tg 132 (by decide +kernel) (by decide +kernel)
  · exact tg 134 (by decide +kernel) (by decide +kernel)
  · exact tg 136 (by decide +kernel) (by decide +kernel)
  · exact tg 138 (by decide +kernel) (by decide +kernel)
  · exact tg 140 (by decide +kernel) (by decide +kernel)
  · exact tg 142 (by decide +kernel) (by decide +kernel)
def cn_S : String := "MailViews$Session"
def ft_S : u_T := fun k => match k with
  | 0 => ("MailViews$Session", "uids", "[I", true)
  | 1 => ("MailViews$Session", "knownFlags", "[I", true)
  | 2 => ("MailViews$Session", "noticeKinds", "[I", true)
  | 3 => ("MailViews$Session", "noticeNumbers", "[I", true)
  | 4 => ("MailViews$Session", "mailbox", "I", false)
  | 5 => ("MailViews$Session", "readOnly", "Z", false)
  | 6 => ("MailViews$Session", "length", "I", false)
  | 7 => ("MailViews$Session", "notices", "I", false)
  | _ => ("MailViews$Session", "highestUid", "I", false)
def fy_S : Nat → FieldType := fun k => match k with
  | 0 => .array .int
  | 1 => .array .int
  | 2 => .array .int
  | 3 => .array .int
  | 4 => .int
  | 5 => .boolean
  | 6 => .int
  | 7 => .int
  | _ => .int
theorem fn_S : ∀ a, a < 9 → ∀ b, b < 9 → a ≠ b → (ft_S a).2.1 ≠ (ft_S b).2.1 := by decide +kernel
theorem fo_S : ∀ k, k < 9 → parseFieldDescriptor (ft_S k).2.2.1 = some (fy_S k) := by decide +kernel
theorem fi_S : ∀ w ∈ u_ws cn_S ft_S 9, w ∈ am_Tg := by
  intro w hw
  obtain ⟨k, hk, rfl⟩ := List.mem_map.mp hw
  have hk := List.mem_range.mp hk
  rcases (show k = 0 ∨ k = 1 ∨ k = 2 ∨ k = 3 ∨ k = 4 ∨ k = 5 ∨ k = 6 ∨ k = 7 ∨ k = 8 by omega) with rfl | rfl | rfl | rfl | rfl | rfl | rfl | rfl | rfl
  · exact tg 98 (by decide +kernel) (by decide +kernel)
  · exact tg 100 (by decide +kernel) (by decide +kernel)
  · exact tg 102 (by decide +kernel) (by decide +kernel)
  · exact tg 104 (by decide +kernel) (by decide +kernel)
  · exact tg 106 (by decide +kernel) (by decide +kernel)
  · exact tg 108 (by decide +kernel) (by decide +kernel)
  · exact tg 110 (by decide +kernel) (by decide +kernel)
  · exact tg 112 (by decide +kernel) (by decide +kernel)
  · exact tg 114 (by decide +kernel) (by decide +kernel)
def cn_C : String := "MailViews$Criterion"
def ft_C : u_T := fun k => match k with
  | 0 => ("MailViews$Criterion", "ops", "[I", true)
  | 1 => ("MailViews$Criterion", "as", "[I", true)
  | 2 => ("MailViews$Criterion", "bs", "[I", true)
  | 3 => ("MailViews$Criterion", "ends", "[I", true)
  | 4 => ("MailViews$Criterion", "depths", "[I", true)
  | 5 => ("MailViews$Criterion", "holds", "[Z", true)
  | _ => ("MailViews$Criterion", "length", "I", false)
def fy_C : Nat → FieldType := fun k => match k with
  | 0 => .array .int
  | 1 => .array .int
  | 2 => .array .int
  | 3 => .array .int
  | 4 => .array .int
  | 5 => .array .boolean
  | _ => .int
theorem fn_C : ∀ a, a < 7 → ∀ b, b < 7 → a ≠ b → (ft_C a).2.1 ≠ (ft_C b).2.1 := by decide +kernel
theorem fo_C : ∀ k, k < 7 → parseFieldDescriptor (ft_C k).2.2.1 = some (fy_C k) := by decide +kernel
theorem fi_C : ∀ w ∈ u_ws cn_C ft_C 7, w ∈ am_Tg := by
  intro w hw
  obtain ⟨k, hk, rfl⟩ := List.mem_map.mp hw
  have hk := List.mem_range.mp hk
  rcases (show k = 0 ∨ k = 1 ∨ k = 2 ∨ k = 3 ∨ k = 4 ∨ k = 5 ∨ k = 6 by omega) with rfl | rfl | rfl | rfl | rfl | rfl | rfl
  · exact tg 158 (by decide +kernel) (by decide +kernel)
  · exact tg 160 (by decide +kernel) (by decide +kernel)
  · exact tg 162 (by decide +kernel) (by decide +kernel)
  · exact tg 164 (by decide +kernel) (by decide +kernel)
  · exact tg 166 (by decide +kernel) (by decide +kernel)
  · exact tg 168 (by decide +kernel) (by decide +kernel)
  · exact tg 170 (by decide +kernel) (by decide +kernel)
def cn_M : String := "MailViewsModel"
def ft_M : u_T := fun k => match k with
  | 0 => ("MailViewsModel", "changes", "I", false)
  | 1 => ("MailViewsModel", "durable", "I", false)
  | 2 => ("MailViewsModel", "change", "[I", true)
  | 3 => ("MailViewsModel", "many", "[I", true)
  | 4 => ("MailViewsModel", "message", "[I", true)
  | 5 => ("MailViewsModel", "next", "[I", true)
  | 6 => ("MailViewsModel", "validity", "[I", true)
  | 7 => ("MailViewsModel", "box", "[I", true)
  | 8 => ("MailViewsModel", "readOnly", "[Z", true)
  | 9 => ("MailViewsModel", "length", "[I", true)
  | 10 => ("MailViewsModel", "uid", "[I", true)
  | 11 => ("MailViewsModel", "known", "[I", true)
  | 12 => ("MailViewsModel", "top", "[I", true)
  | 13 => ("MailViewsModel", "told", "[I", true)
  | 14 => ("MailViewsModel", "notice", "[I", true)
  | 15 => ("MailViewsModel", "tokens", "I", false)
  | 16 => ("MailViewsModel", "token", "[I", true)
  | 17 => ("MailViewsModel", "found", "I", false)
  | 18 => ("MailViewsModel", "numbers", "[I", true)
  | 19 => ("MailViewsModel", "stack", "[Z", true)
  | _ => ("MailViewsModel", "open", "[I", true)
def fy_M : Nat → FieldType := fun k => match k with
  | 0 => .int
  | 1 => .int
  | 2 => .array .int
  | 3 => .array .int
  | 4 => .array .int
  | 5 => .array .int
  | 6 => .array .int
  | 7 => .array .int
  | 8 => .array .boolean
  | 9 => .array .int
  | 10 => .array .int
  | 11 => .array .int
  | 12 => .array .int
  | 13 => .array .int
  | 14 => .array .int
  | 15 => .int
  | 16 => .array .int
  | 17 => .int
  | 18 => .array .int
  | 19 => .array .boolean
  | _ => .array .int
theorem fn_M : ∀ a, a < 21 → ∀ b, b < 21 → a ≠ b → (ft_M a).2.1 ≠ (ft_M b).2.1 := by decide +kernel
theorem fo_M : ∀ k, k < 21 → parseFieldDescriptor (ft_M k).2.2.1 = some (fy_M k) := by decide +kernel
theorem fi_M : ∀ w ∈ u_ws cn_M ft_M 21, w ∈ am_Tg := by
  intro w hw
  obtain ⟨k, hk, rfl⟩ := List.mem_map.mp hw
  have hk := List.mem_range.mp hk
  rcases (show k = 0 ∨ k = 1 ∨ k = 2 ∨ k = 3 ∨ k = 4 ∨ k = 5 ∨ k = 6 ∨ k = 7 ∨ k = 8 ∨ k = 9 ∨ k = 10 ∨ k = 11 ∨ k = 12 ∨ k = 13 ∨ k = 14 ∨ k = 15 ∨ k = 16 ∨ k = 17 ∨ k = 18 ∨ k = 19 ∨ k = 20 by omega) with rfl | rfl | rfl | rfl | rfl | rfl | rfl | rfl | rfl | rfl | rfl | rfl | rfl | rfl | rfl | rfl | rfl | rfl | rfl | rfl | rfl
  · exact tg 573 (by decide +kernel) (by decide +kernel)
  · exact tg 575 (by decide +kernel) (by decide +kernel)
  · exact tg 577 (by decide +kernel) (by decide +kernel)
  · exact tg 579 (by decide +kernel) (by decide +kernel)
  · exact tg 581 (by decide +kernel) (by decide +kernel)
  · exact tg 583 (by decide +kernel) (by decide +kernel)
  · exact tg 585 (by decide +kernel) (by decide +kernel)
  · exact tg 587 (by decide +kernel) (by decide +kernel)
  · exact tg 589 (by decide +kernel) (by decide +kernel)
  · exact tg 591 (by decide +kernel) (by decide +kernel)
  · exact tg 593 (by decide +kernel) (by decide +kernel)
  · exact tg 595 (by decide +kernel) (by decide +kernel)
  · exact tg 597 (by decide +kernel) (by decide +kernel)
  · exact tg 599 (by decide +kernel) (by decide +kernel)
  · exact tg 601 (by decide +kernel) (by decide +kernel)
  · exact tg 603 (by decide +kernel) (by decide +kernel)
  · exact tg 605 (by decide +kernel) (by decide +kernel)
  · exact tg 607 (by decide +kernel) (by decide +kernel)
  · exact tg 609 (by decide +kernel) (by decide +kernel)
  · exact tg 611 (by decide +kernel) (by decide +kernel)
  · exact tg 613 (by decide +kernel) (by decide +kernel)
abbrev mv_cl : List vw_C := [(cn_V, ft_V, 6), (cn_B, ft_B, 6), (cn_J, ft_J, 7), (cn_S, ft_S, 9), (cn_C, ft_C, 7), (cn_M, ft_M, 21)]
abbrev am_kd : List FieldType := [.int, .boolean, .object "MailViews$Mailbox", .object "MailViews$Session"]
abbrev am_nw : List Cond := [Cond.arrayOver (FieldType.object "MailViews$Mailbox"), Cond.methodLinkNest "MailViews" 15 ⟨"MailViews$Mailbox", "<init>", "()V"⟩ "MailViews", Cond.arrayOver (FieldType.object "MailViews$Session"), Cond.methodLinkNest "MailViews" 22 ⟨"MailViews$Session", "<init>", "()V"⟩ "MailViews", Cond.methodLinkNest "MailViews" 25 ⟨"MailViews$Journal", "<init>", "()V"⟩ "MailViews", Cond.methodLinkNest "MailViews" 32 ⟨"MailViews$Criterion", "<init>", "()V"⟩ "MailViews"]
theorem nw_0 : Cond.arrayOver (FieldType.object "MailViews$Mailbox") ∈ am_nw := List.mem_of_getElem? (i := 0) rfl
theorem nw_1 : Cond.methodLinkNest "MailViews" 15 ⟨"MailViews$Mailbox", "<init>", "()V"⟩ "MailViews" ∈ am_nw := List.mem_of_getElem? (i := 1) rfl
theorem nw_2 : Cond.arrayOver (FieldType.object "MailViews$Session") ∈ am_nw := List.mem_of_getElem? (i := 2) rfl
theorem nw_3 : Cond.methodLinkNest "MailViews" 22 ⟨"MailViews$Session", "<init>", "()V"⟩ "MailViews" ∈ am_nw := List.mem_of_getElem? (i := 3) rfl
theorem nw_4 : Cond.methodLinkNest "MailViews" 25 ⟨"MailViews$Journal", "<init>", "()V"⟩ "MailViews" ∈ am_nw := List.mem_of_getElem? (i := 4) rfl
theorem nw_5 : Cond.methodLinkNest "MailViews" 32 ⟨"MailViews$Criterion", "<init>", "()V"⟩ "MailViews" ∈ am_nw := List.mem_of_getElem? (i := 5) rfl
theorem am_nw_in : ∀ w ∈ am_nw, w ∈ lw_tbl := by
  intro w hw
  rcases (by simpa [am_nw] using hw : w = Cond.arrayOver (FieldType.object "MailViews$Mailbox") ∨ w = Cond.methodLinkNest "MailViews" 15 ⟨"MailViews$Mailbox", "<init>", "()V"⟩ "MailViews" ∨ w = Cond.arrayOver (FieldType.object "MailViews$Session") ∨ w = Cond.methodLinkNest "MailViews" 22 ⟨"MailViews$Session", "<init>", "()V"⟩ "MailViews" ∨ w = Cond.methodLinkNest "MailViews" 25 ⟨"MailViews$Journal", "<init>", "()V"⟩ "MailViews" ∨ w = Cond.methodLinkNest "MailViews" 32 ⟨"MailViews$Criterion", "<init>", "()V"⟩ "MailViews") with rfl | rfl | rfl | rfl | rfl | rfl
  · exact List.mem_of_getElem? (i := 56) (by decide +kernel)
  · exact List.mem_of_getElem? (i := 58) (by decide +kernel)
  · exact List.mem_of_getElem? (i := 83) (by decide +kernel)
  · exact List.mem_of_getElem? (i := 85) (by decide +kernel)
  · exact List.mem_of_getElem? (i := 119) (by decide +kernel)
  · exact List.mem_of_getElem? (i := 147) (by decide +kernel)
abbrev am_En (D : va_G) (dA : Nat → ClassId) (h b L : Nat) (xs : Nat → Int32) : am_E := (D, mv_cl, am_kd, dA, am_nw, am_Tg, h, b, L, xs)
theorem fz_V {E : am_E} : ∀ j, j < 6 → defaultValue (fy_V j) = vp_V (([.inr none, .inr none, .inr none, .inr none, .inr none, .inl 0] : List am_V).map (am_cv E)) j := by
  intro j hj
  rcases (show j = 0 ∨ j = 1 ∨ j = 2 ∨ j = 3 ∨ j = 4 ∨ j = 5 by omega) with rfl | rfl | rfl | rfl | rfl | rfl <;> rfl
theorem fw_V : am_wS ([.inr none, .inr none, .inr none, .inr none, .inr none, .inl 0] : List am_V) := by
  intro v hv
  simp only [List.mem_cons, List.not_mem_nil, or_false] at hv
  rcases hv with rfl | rfl | rfl | rfl | rfl | rfl <;> first | exact trivial | exact am_ok0
theorem fz_B {E : am_E} : ∀ j, j < 6 → defaultValue (fy_B j) = vp_V (([.inr none, .inr none, .inr none, .inl 0, .inl 0, .inl 0] : List am_V).map (am_cv E)) j := by
  intro j hj
  rcases (show j = 0 ∨ j = 1 ∨ j = 2 ∨ j = 3 ∨ j = 4 ∨ j = 5 by omega) with rfl | rfl | rfl | rfl | rfl | rfl <;> rfl
theorem fw_B : am_wS ([.inr none, .inr none, .inr none, .inl 0, .inl 0, .inl 0] : List am_V) := by
  intro v hv
  simp only [List.mem_cons, List.not_mem_nil, or_false] at hv
  rcases hv with rfl | rfl | rfl | rfl | rfl | rfl <;> first | exact trivial | exact am_ok0
theorem fz_J {E : am_E} : ∀ j, j < 7 → defaultValue (fy_J j) = vp_V (([.inr none, .inr none, .inr none, .inr none, .inr none, .inl 0, .inl 0] : List am_V).map (am_cv E)) j := by
  intro j hj
  rcases (show j = 0 ∨ j = 1 ∨ j = 2 ∨ j = 3 ∨ j = 4 ∨ j = 5 ∨ j = 6 by omega) with rfl | rfl | rfl | rfl | rfl | rfl | rfl <;> rfl
theorem fw_J : am_wS ([.inr none, .inr none, .inr none, .inr none, .inr none, .inl 0, .inl 0] : List am_V) := by
  intro v hv
  simp only [List.mem_cons, List.not_mem_nil, or_false] at hv
  rcases hv with rfl | rfl | rfl | rfl | rfl | rfl | rfl <;> first | exact trivial | exact am_ok0
theorem fz_S {E : am_E} : ∀ j, j < 9 → defaultValue (fy_S j) = vp_V (([.inr none, .inr none, .inr none, .inr none, .inl 0, .inl 0, .inl 0, .inl 0, .inl 0] : List am_V).map (am_cv E)) j := by
  intro j hj
  rcases (show j = 0 ∨ j = 1 ∨ j = 2 ∨ j = 3 ∨ j = 4 ∨ j = 5 ∨ j = 6 ∨ j = 7 ∨ j = 8 by omega) with rfl | rfl | rfl | rfl | rfl | rfl | rfl | rfl | rfl <;> rfl
theorem fw_S : am_wS ([.inr none, .inr none, .inr none, .inr none, .inl 0, .inl 0, .inl 0, .inl 0, .inl 0] : List am_V) := by
  intro v hv
  simp only [List.mem_cons, List.not_mem_nil, or_false] at hv
  rcases hv with rfl | rfl | rfl | rfl | rfl | rfl | rfl | rfl | rfl <;> first | exact trivial | exact am_ok0
theorem fz_C {E : am_E} : ∀ j, j < 7 → defaultValue (fy_C j) = vp_V (([.inr none, .inr none, .inr none, .inr none, .inr none, .inr none, .inl 0] : List am_V).map (am_cv E)) j := by
  intro j hj
  rcases (show j = 0 ∨ j = 1 ∨ j = 2 ∨ j = 3 ∨ j = 4 ∨ j = 5 ∨ j = 6 by omega) with rfl | rfl | rfl | rfl | rfl | rfl | rfl <;> rfl
theorem fw_C : am_wS ([.inr none, .inr none, .inr none, .inr none, .inr none, .inr none, .inl 0] : List am_V) := by
  intro v hv
  simp only [List.mem_cons, List.not_mem_nil, or_false] at hv
  rcases hv with rfl | rfl | rfl | rfl | rfl | rfl | rfl <;> first | exact trivial | exact am_ok0
theorem fz_M {E : am_E} : ∀ j, j < 21 → defaultValue (fy_M j) = vp_V (([.inl 0, .inl 0, .inr none, .inr none, .inr none, .inr none, .inr none, .inr none, .inr none, .inr none, .inr none, .inr none, .inr none, .inr none, .inr none, .inl 0, .inr none, .inl 0, .inr none, .inr none, .inr none] : List am_V).map (am_cv E)) j := by
  intro j hj
  rcases (show j = 0 ∨ j = 1 ∨ j = 2 ∨ j = 3 ∨ j = 4 ∨ j = 5 ∨ j = 6 ∨ j = 7 ∨ j = 8 ∨ j = 9 ∨ j = 10 ∨ j = 11 ∨ j = 12 ∨ j = 13 ∨ j = 14 ∨ j = 15 ∨ j = 16 ∨ j = 17 ∨ j = 18 ∨ j = 19 ∨ j = 20 by omega) with rfl | rfl | rfl | rfl | rfl | rfl | rfl | rfl | rfl | rfl | rfl | rfl | rfl | rfl | rfl | rfl | rfl | rfl | rfl | rfl | rfl <;> rfl
theorem fw_M : am_wS ([.inl 0, .inl 0, .inr none, .inr none, .inr none, .inr none, .inr none, .inr none, .inr none, .inr none, .inr none, .inr none, .inr none, .inr none, .inr none, .inl 0, .inr none, .inl 0, .inr none, .inr none, .inr none] : List am_V) := by
  intro v hv
  simp only [List.mem_cons, List.not_mem_nil, or_false] at hv
  rcases hv with rfl | rfl | rfl | rfl | rfl | rfl | rfl | rfl | rfl | rfl | rfl | rfl | rfl | rfl | rfl | rfl | rfl | rfl | rfl | rfl | rfl <;> first | exact trivial | exact am_ok0
theorem am_tsc {pc t0 : Nat} {offs : Array Int} {ts : List Nat} (h : ((List.range ts.length).all (fun i => match offs[i]? with | some o => decide ((pc : Int) + o = ((ts.getD i t0 : Nat) : Int)) | none => false)) = true) : ∀ i, i < ts.length → ∃ o, offs[i]? = some o ∧ (pc : Int) + o = ((ts.getD i t0 : Nat) : Int) := by
  intro i hi
  have h1 := List.all_eq_true.mp h i (List.mem_range.mpr hi)
  split at h1
  · next o ho => exact ⟨o, ho, by simpa using h1⟩
  · cases h1
end
section
theorem tw_0 : Cond.selects "MailViews" ⟨"MailViews", "add", "(III)I"⟩ ⟨"MailViews", "add", "(III)I"⟩ ∈ am_Tg := tg 0 (by decide +kernel) (by decide +kernel)
theorem tw_1 : Cond.selects "MailViews$Mailbox" ⟨"MailViews$Mailbox", "move", "(II)V"⟩ ⟨"MailViews$Mailbox", "move", "(II)V"⟩ ∈ am_Tg := tg 1 (by decide +kernel) (by decide +kernel)
theorem tw_2 : Cond.selects "MailViews$Journal" ⟨"MailViews$Journal", "note", "(IIIII)V"⟩ ⟨"MailViews$Journal", "note", "(IIIII)V"⟩ ∈ am_Tg := tg 2 (by decide +kernel) (by decide +kernel)
theorem tw_3 : Cond.selects "MailViews$Session" ⟨"MailViews$Session", "takeInNew", "(LMailViews$Mailbox;)V"⟩ ⟨"MailViews$Session", "takeInNew", "(LMailViews$Mailbox;)V"⟩ ∈ am_Tg := tg 3 (by decide +kernel) (by decide +kernel)
theorem tw_4 : Cond.selects "MailViews" ⟨"MailViews", "hasMailbox", "(I)Z"⟩ ⟨"MailViews", "hasMailbox", "(I)Z"⟩ ∈ am_Tg := tg 4 (by decide +kernel) (by decide +kernel)
theorem tw_5 : Cond.selects "MailViews" ⟨"MailViews", "removeDeleted", "(I)I"⟩ ⟨"MailViews", "removeDeleted", "(I)I"⟩ ∈ am_Tg := tg 5 (by decide +kernel) (by decide +kernel)
theorem tw_6 : Cond.selects "MailViews" ⟨"MailViews", "update", "(IZ)V"⟩ ⟨"MailViews", "update", "(IZ)V"⟩ ∈ am_Tg := tg 6 (by decide +kernel) (by decide +kernel)
theorem tw_7 : Cond.selects "MailViews" ⟨"MailViews", "mailboxOf", "(I)LMailViews$Mailbox;"⟩ ⟨"MailViews", "mailboxOf", "(I)LMailViews$Mailbox;"⟩ ∈ am_Tg := tg 7 (by decide +kernel) (by decide +kernel)
theorem tw_8 : Cond.selects "MailViews$Session" ⟨"MailViews$Session", "dropGone", "(LMailViews$Mailbox;)V"⟩ ⟨"MailViews$Session", "dropGone", "(LMailViews$Mailbox;)V"⟩ ∈ am_Tg := tg 8 (by decide +kernel) (by decide +kernel)
theorem tw_9 : Cond.selects "MailViews$Session" ⟨"MailViews$Session", "tell", "(II)V"⟩ ⟨"MailViews$Session", "tell", "(II)V"⟩ ∈ am_Tg := tg 9 (by decide +kernel) (by decide +kernel)
theorem tw_10 : Cond.selects "MailViews$Session" ⟨"MailViews$Session", "learnFlags", "(LMailViews$Mailbox;)V"⟩ ⟨"MailViews$Session", "learnFlags", "(LMailViews$Mailbox;)V"⟩ ∈ am_Tg := tg 10 (by decide +kernel) (by decide +kernel)
theorem tw_11 : Cond.selects "MailViews" ⟨"MailViews", "isInView", "(II)Z"⟩ ⟨"MailViews", "isInView", "(II)Z"⟩ ∈ am_Tg := tg 11 (by decide +kernel) (by decide +kernel)
theorem tw_12 : Cond.selects "MailViews$Criterion" ⟨"MailViews$Criterion", "measure", "(I)V"⟩ ⟨"MailViews$Criterion", "measure", "(I)V"⟩ ∈ am_Tg := tg 12 (by decide +kernel) (by decide +kernel)
theorem tw_13 : Cond.selects "MailViews$Criterion" ⟨"MailViews$Criterion", "endFrom", "(I)I"⟩ ⟨"MailViews$Criterion", "endFrom", "(I)I"⟩ ∈ am_Tg := tg 13 (by decide +kernel) (by decide +kernel)
theorem tw_14 : Cond.selects "MailViews$Criterion" ⟨"MailViews$Criterion", "depthFrom", "(I)I"⟩ ⟨"MailViews$Criterion", "depthFrom", "(I)I"⟩ ∈ am_Tg := tg 14 (by decide +kernel) (by decide +kernel)
theorem tw_15 : Cond.selects "MailViews" ⟨"MailViews", "findHits", "(LMailViews$Session;LMailViews$Mailbox;)V"⟩ ⟨"MailViews", "findHits", "(LMailViews$Session;LMailViews$Mailbox;)V"⟩ ∈ am_Tg := tg 15 (by decide +kernel) (by decide +kernel)
theorem tw_16 : Cond.selects "MailViews$Criterion" ⟨"MailViews$Criterion", "leafHolds", "(ILMailViews$Mailbox;II)Z"⟩ ⟨"MailViews$Criterion", "leafHolds", "(ILMailViews$Mailbox;II)Z"⟩ ∈ am_Tg := tg 16 (by decide +kernel) (by decide +kernel)
theorem tw_17 : Cond.selects "MailViews$Criterion" ⟨"MailViews$Criterion", "joinHolds", "(I)Z"⟩ ⟨"MailViews$Criterion", "joinHolds", "(I)Z"⟩ ∈ am_Tg := tg 17 (by decide +kernel) (by decide +kernel)
theorem tw_18 : Cond.selects "MailViews$Criterion" ⟨"MailViews$Criterion", "holdsFrom", "(I)Z"⟩ ⟨"MailViews$Criterion", "holdsFrom", "(I)Z"⟩ ∈ am_Tg := tg 18 (by decide +kernel) (by decide +kernel)
theorem tw_19 : Cond.selects "MailViews$Journal" ⟨"MailViews$Journal", "takeBack", "(ILMailViews$Mailbox;)V"⟩ ⟨"MailViews$Journal", "takeBack", "(ILMailViews$Mailbox;)V"⟩ ∈ am_Tg := tg 19 (by decide +kernel) (by decide +kernel)
theorem tw_20 : Cond.selects "MailViews" ⟨"MailViews", "sessionsWith", "(I)I"⟩ ⟨"MailViews", "sessionsWith", "(I)I"⟩ ∈ am_Tg := tg 20 (by decide +kernel) (by decide +kernel)
theorem tw_21 : Cond.selects "MailViewsModel" ⟨"MailViewsModel", "add", "(III)I"⟩ ⟨"MailViewsModel", "add", "(III)I"⟩ ∈ am_Tg := tg 21 (by decide +kernel) (by decide +kernel)
theorem tw_22 : Cond.selects "MailViewsModel" ⟨"MailViewsModel", "note", "(IIIII)V"⟩ ⟨"MailViewsModel", "note", "(IIIII)V"⟩ ∈ am_Tg := tg 22 (by decide +kernel) (by decide +kernel)
theorem tw_23 : Cond.selects "MailViewsModel" ⟨"MailViewsModel", "apply", "(I)V"⟩ ⟨"MailViewsModel", "apply", "(I)V"⟩ ∈ am_Tg := tg 23 (by decide +kernel) (by decide +kernel)
theorem tw_24 : Cond.selects "MailViewsModel" ⟨"MailViewsModel", "place", "(II)I"⟩ ⟨"MailViewsModel", "place", "(II)I"⟩ ∈ am_Tg := tg 24 (by decide +kernel) (by decide +kernel)
theorem tw_25 : Cond.selects "MailViewsModel" ⟨"MailViewsModel", "gather", "(I)I"⟩ ⟨"MailViewsModel", "gather", "(I)I"⟩ ∈ am_Tg := tg 25 (by decide +kernel) (by decide +kernel)
theorem tw_26 : Cond.selects "MailViewsModel" ⟨"MailViewsModel", "none", "(I)Z"⟩ ⟨"MailViewsModel", "none", "(I)Z"⟩ ∈ am_Tg := tg 26 (by decide +kernel) (by decide +kernel)
theorem tw_27 : Cond.selects "MailViewsModel" ⟨"MailViewsModel", "purge", "(I)I"⟩ ⟨"MailViewsModel", "purge", "(I)I"⟩ ∈ am_Tg := tg 27 (by decide +kernel) (by decide +kernel)
theorem tw_28 : Cond.selects "MailViewsModel" ⟨"MailViewsModel", "update", "(IZ)V"⟩ ⟨"MailViewsModel", "update", "(IZ)V"⟩ ∈ am_Tg := tg 28 (by decide +kernel) (by decide +kernel)
theorem tw_29 : Cond.selects "MailViewsModel" ⟨"MailViewsModel", "gone", "(II)Z"⟩ ⟨"MailViewsModel", "gone", "(II)Z"⟩ ∈ am_Tg := tg 29 (by decide +kernel) (by decide +kernel)
theorem tw_30 : Cond.selects "MailViewsModel" ⟨"MailViewsModel", "uidOf", "(II)I"⟩ ⟨"MailViewsModel", "uidOf", "(II)I"⟩ ∈ am_Tg := tg 30 (by decide +kernel) (by decide +kernel)
theorem tw_31 : Cond.selects "MailViewsModel" ⟨"MailViewsModel", "leave", "(II)V"⟩ ⟨"MailViewsModel", "leave", "(II)V"⟩ ∈ am_Tg := tg 31 (by decide +kernel) (by decide +kernel)
theorem tw_32 : Cond.selects "MailViewsModel" ⟨"MailViewsModel", "tell", "(III)V"⟩ ⟨"MailViewsModel", "tell", "(III)V"⟩ ∈ am_Tg := tg 32 (by decide +kernel) (by decide +kernel)
theorem tw_33 : Cond.selects "MailViewsModel" ⟨"MailViewsModel", "flagsOf", "(II)I"⟩ ⟨"MailViewsModel", "flagsOf", "(II)I"⟩ ∈ am_Tg := tg 33 (by decide +kernel) (by decide +kernel)
theorem tw_34 : Cond.selects "MailViewsModel" ⟨"MailViewsModel", "bad", "(II)Z"⟩ ⟨"MailViewsModel", "bad", "(II)Z"⟩ ∈ am_Tg := tg 34 (by decide +kernel) (by decide +kernel)
theorem tw_35 : Cond.selects "MailViewsModel" ⟨"MailViewsModel", "good", "()Z"⟩ ⟨"MailViewsModel", "good", "()Z"⟩ ∈ am_Tg := tg 35 (by decide +kernel) (by decide +kernel)
theorem tw_36 : Cond.selects "MailViewsModel" ⟨"MailViewsModel", "parts", "(I)I"⟩ ⟨"MailViewsModel", "parts", "(I)I"⟩ ∈ am_Tg := tg 36 (by decide +kernel) (by decide +kernel)
theorem tw_37 : Cond.selects "MailViewsModel" ⟨"MailViewsModel", "fulfils", "(II)Z"⟩ ⟨"MailViewsModel", "fulfils", "(II)Z"⟩ ∈ am_Tg := tg 37 (by decide +kernel) (by decide +kernel)
theorem tw_38 : Cond.selects "MailViewsModel" ⟨"MailViewsModel", "leaf", "(III)Z"⟩ ⟨"MailViewsModel", "leaf", "(III)Z"⟩ ∈ am_Tg := tg 38 (by decide +kernel) (by decide +kernel)
theorem tw_40 : Cond.initialized "MailViews" ∈ am_Tg := tg 40 (by decide +kernel) (by decide +kernel)
theorem tw_41 : Cond.initialized "MailViews$Mailbox" ∈ am_Tg := tg 41 (by decide +kernel) (by decide +kernel)
theorem tw_42 : Cond.initialized "MailViews$Session" ∈ am_Tg := tg 42 (by decide +kernel) (by decide +kernel)
theorem tw_43 : Cond.initialized "MailViews$Journal" ∈ am_Tg := tg 43 (by decide +kernel) (by decide +kernel)
theorem tw_44 : Cond.initialized "MailViews$Criterion" ∈ am_Tg := tg 44 (by decide +kernel) (by decide +kernel)
theorem tw_45 : Cond.initialized "MailViewsModel" ∈ am_Tg := tg 45 (by decide +kernel) (by decide +kernel)
theorem tw_46 : Cond.initialized "java/lang/Math" ∈ am_Tg := tg 46 (by decide +kernel) (by decide +kernel)
theorem tw_47 : Cond.classLink "MailViewsLaw" 7 "MailViews" ∈ am_Tg := tg 47 (by decide +kernel) (by decide +kernel)
theorem tw_48 : Cond.instantiable "MailViews" 6 ∈ am_Tg := tg 48 (by decide +kernel) (by decide +kernel)
theorem tw_49 : Cond.methodLink "MailViewsLaw" 9 ⟨"MailViews", "<init>", "()V"⟩ ∈ am_Tg := tg 49 (by decide +kernel) (by decide +kernel)
theorem tw_50 : Cond.instanceMethod ⟨"MailViews", "<init>", "()V"⟩ ∈ am_Tg := tg 50 (by decide +kernel) (by decide +kernel)
theorem tw_51 : Cond.code ⟨"MailViews", "<init>", "()V"⟩ prog_1_method_1_code 2 none ∈ am_Tg := tg 51 (by decide +kernel) (by decide +kernel)
theorem tw_52 : Cond.methodLink "MailViews" 1 ⟨"java/lang/Object", "<init>", "()V"⟩ ∈ am_Tg := tg 52 (by decide +kernel) (by decide +kernel)
theorem tw_53 : Cond.instanceMethod ⟨"java/lang/Object", "<init>", "()V"⟩ ∈ am_Tg := tg 53 (by decide +kernel) (by decide +kernel)
theorem tw_54 : Cond.code ⟨"java/lang/Object", "<init>", "()V"⟩ object_method_1_code 1 none ∈ am_Tg := tg 54 (by decide +kernel) (by decide +kernel)
theorem tw_55 : Cond.classLink "MailViews" 9 "MailViews$Mailbox" ∈ am_Tg := tg 55 (by decide +kernel) (by decide +kernel)
theorem tw_57 : Cond.instantiable "MailViews$Mailbox" 6 ∈ am_Tg := tg 57 (by decide +kernel) (by decide +kernel)
theorem tw_59 : Cond.instanceMethod ⟨"MailViews$Mailbox", "<init>", "()V"⟩ ∈ am_Tg := tg 59 (by decide +kernel) (by decide +kernel)
theorem tw_60 : Cond.code ⟨"MailViews$Mailbox", "<init>", "()V"⟩ prog_4_method_1_code 1 none ∈ am_Tg := tg 60 (by decide +kernel) (by decide +kernel)
theorem tw_61 : Cond.methodLink "MailViews$Mailbox" 3 ⟨"java/lang/Object", "<init>", "()V"⟩ ∈ am_Tg := tg 61 (by decide +kernel) (by decide +kernel)
theorem tw_62 : Cond.fieldLink "MailViews$Mailbox" 9 "MailViews$Mailbox" "uids" "[I" ∈ am_Tg := tg 62 (by decide +kernel) (by decide +kernel)
theorem tw_63 : Cond.fieldLink "MailViews$Mailbox" 15 "MailViews$Mailbox" "flags" "[I" ∈ am_Tg := tg 63 (by decide +kernel) (by decide +kernel)
theorem tw_64 : Cond.fieldLink "MailViews$Mailbox" 18 "MailViews$Mailbox" "sizes" "[I" ∈ am_Tg := tg 64 (by decide +kernel) (by decide +kernel)
theorem tw_65 : Cond.fieldLink "MailViews$Mailbox" 21 "MailViews$Mailbox" "length" "I" ∈ am_Tg := tg 65 (by decide +kernel) (by decide +kernel)
theorem tw_66 : Cond.fieldLink "MailViews$Mailbox" 25 "MailViews$Mailbox" "nextUid" "I" ∈ am_Tg := tg 66 (by decide +kernel) (by decide +kernel)
theorem tw_67 : Cond.fieldLink "MailViews$Mailbox" 28 "MailViews$Mailbox" "validity" "I" ∈ am_Tg := tg 67 (by decide +kernel) (by decide +kernel)
theorem tw_81 : Cond.arrayClass FieldType.int ∈ am_Tg := tg 81 (by decide +kernel) (by decide +kernel)
theorem tw_82 : Cond.classLink "MailViews" 16 "MailViews$Session" ∈ am_Tg := tg 82 (by decide +kernel) (by decide +kernel)
theorem tw_84 : Cond.instantiable "MailViews$Session" 9 ∈ am_Tg := tg 84 (by decide +kernel) (by decide +kernel)
theorem tw_86 : Cond.instanceMethod ⟨"MailViews$Session", "<init>", "()V"⟩ ∈ am_Tg := tg 86 (by decide +kernel) (by decide +kernel)
theorem tw_87 : Cond.code ⟨"MailViews$Session", "<init>", "()V"⟩ prog_5_method_1_code 1 none ∈ am_Tg := tg 87 (by decide +kernel) (by decide +kernel)
theorem tw_88 : Cond.methodLink "MailViews$Session" 3 ⟨"java/lang/Object", "<init>", "()V"⟩ ∈ am_Tg := tg 88 (by decide +kernel) (by decide +kernel)
theorem tw_89 : Cond.fieldLink "MailViews$Session" 9 "MailViews$Session" "uids" "[I" ∈ am_Tg := tg 89 (by decide +kernel) (by decide +kernel)
theorem tw_90 : Cond.fieldLink "MailViews$Session" 15 "MailViews$Session" "knownFlags" "[I" ∈ am_Tg := tg 90 (by decide +kernel) (by decide +kernel)
theorem tw_91 : Cond.fieldLink "MailViews$Session" 18 "MailViews$Session" "noticeKinds" "[I" ∈ am_Tg := tg 91 (by decide +kernel) (by decide +kernel)
theorem tw_92 : Cond.fieldLink "MailViews$Session" 21 "MailViews$Session" "noticeNumbers" "[I" ∈ am_Tg := tg 92 (by decide +kernel) (by decide +kernel)
theorem tw_93 : Cond.fieldLink "MailViews$Session" 24 "MailViews$Session" "mailbox" "I" ∈ am_Tg := tg 93 (by decide +kernel) (by decide +kernel)
theorem tw_94 : Cond.fieldLink "MailViews$Session" 28 "MailViews$Session" "readOnly" "Z" ∈ am_Tg := tg 94 (by decide +kernel) (by decide +kernel)
theorem tw_95 : Cond.fieldLink "MailViews$Session" 32 "MailViews$Session" "length" "I" ∈ am_Tg := tg 95 (by decide +kernel) (by decide +kernel)
theorem tw_96 : Cond.fieldLink "MailViews$Session" 35 "MailViews$Session" "notices" "I" ∈ am_Tg := tg 96 (by decide +kernel) (by decide +kernel)
theorem tw_97 : Cond.fieldLink "MailViews$Session" 38 "MailViews$Session" "highestUid" "I" ∈ am_Tg := tg 97 (by decide +kernel) (by decide +kernel)
theorem tw_117 : Cond.classLink "MailViews" 23 "MailViews$Journal" ∈ am_Tg := tg 117 (by decide +kernel) (by decide +kernel)
theorem tw_118 : Cond.instantiable "MailViews$Journal" 7 ∈ am_Tg := tg 118 (by decide +kernel) (by decide +kernel)
theorem tw_120 : Cond.instanceMethod ⟨"MailViews$Journal", "<init>", "()V"⟩ ∈ am_Tg := tg 120 (by decide +kernel) (by decide +kernel)
theorem tw_121 : Cond.code ⟨"MailViews$Journal", "<init>", "()V"⟩ prog_3_method_1_code 1 none ∈ am_Tg := tg 121 (by decide +kernel) (by decide +kernel)
theorem tw_122 : Cond.methodLink "MailViews$Journal" 1 ⟨"java/lang/Object", "<init>", "()V"⟩ ∈ am_Tg := tg 122 (by decide +kernel) (by decide +kernel)
theorem tw_123 : Cond.fieldLink "MailViews$Journal" 9 "MailViews$Journal" "kinds" "[I" ∈ am_Tg := tg 123 (by decide +kernel) (by decide +kernel)
theorem tw_124 : Cond.fieldLink "MailViews$Journal" 13 "MailViews$Journal" "boxes" "[I" ∈ am_Tg := tg 124 (by decide +kernel) (by decide +kernel)
theorem tw_125 : Cond.fieldLink "MailViews$Journal" 16 "MailViews$Journal" "uids" "[I" ∈ am_Tg := tg 125 (by decide +kernel) (by decide +kernel)
theorem tw_126 : Cond.fieldLink "MailViews$Journal" 19 "MailViews$Journal" "oldFlags" "[I" ∈ am_Tg := tg 126 (by decide +kernel) (by decide +kernel)
theorem tw_127 : Cond.fieldLink "MailViews$Journal" 22 "MailViews$Journal" "oldSizes" "[I" ∈ am_Tg := tg 127 (by decide +kernel) (by decide +kernel)
theorem tw_128 : Cond.fieldLink "MailViews$Journal" 25 "MailViews$Journal" "open" "I" ∈ am_Tg := tg 128 (by decide +kernel) (by decide +kernel)
theorem tw_129 : Cond.fieldLink "MailViews$Journal" 29 "MailViews$Journal" "durable" "I" ∈ am_Tg := tg 129 (by decide +kernel) (by decide +kernel)
theorem tw_145 : Cond.classLink "MailViews" 30 "MailViews$Criterion" ∈ am_Tg := tg 145 (by decide +kernel) (by decide +kernel)
theorem tw_146 : Cond.instantiable "MailViews$Criterion" 7 ∈ am_Tg := tg 146 (by decide +kernel) (by decide +kernel)
theorem tw_148 : Cond.instanceMethod ⟨"MailViews$Criterion", "<init>", "()V"⟩ ∈ am_Tg := tg 148 (by decide +kernel) (by decide +kernel)
theorem tw_149 : Cond.code ⟨"MailViews$Criterion", "<init>", "()V"⟩ prog_2_method_1_code 1 none ∈ am_Tg := tg 149 (by decide +kernel) (by decide +kernel)
theorem tw_150 : Cond.methodLink "MailViews$Criterion" 3 ⟨"java/lang/Object", "<init>", "()V"⟩ ∈ am_Tg := tg 150 (by decide +kernel) (by decide +kernel)
theorem tw_151 : Cond.fieldLink "MailViews$Criterion" 9 "MailViews$Criterion" "ops" "[I" ∈ am_Tg := tg 151 (by decide +kernel) (by decide +kernel)
theorem tw_152 : Cond.fieldLink "MailViews$Criterion" 13 "MailViews$Criterion" "as" "[I" ∈ am_Tg := tg 152 (by decide +kernel) (by decide +kernel)
theorem tw_153 : Cond.fieldLink "MailViews$Criterion" 16 "MailViews$Criterion" "bs" "[I" ∈ am_Tg := tg 153 (by decide +kernel) (by decide +kernel)
theorem tw_154 : Cond.fieldLink "MailViews$Criterion" 19 "MailViews$Criterion" "ends" "[I" ∈ am_Tg := tg 154 (by decide +kernel) (by decide +kernel)
theorem tw_155 : Cond.fieldLink "MailViews$Criterion" 22 "MailViews$Criterion" "depths" "[I" ∈ am_Tg := tg 155 (by decide +kernel) (by decide +kernel)
theorem tw_156 : Cond.fieldLink "MailViews$Criterion" 25 "MailViews$Criterion" "holds" "[Z" ∈ am_Tg := tg 156 (by decide +kernel) (by decide +kernel)
theorem tw_157 : Cond.fieldLink "MailViews$Criterion" 29 "MailViews$Criterion" "length" "I" ∈ am_Tg := tg 157 (by decide +kernel) (by decide +kernel)
theorem tw_173 : Cond.arrayClass FieldType.boolean ∈ am_Tg := tg 173 (by decide +kernel) (by decide +kernel)
theorem tw_174 : Cond.fieldLink "MailViews" 11 "MailViews" "mailboxes" "[LMailViews$Mailbox;" ∈ am_Tg := tg 174 (by decide +kernel) (by decide +kernel)
theorem tw_175 : Cond.fieldLink "MailViews" 18 "MailViews" "sessions" "[LMailViews$Session;" ∈ am_Tg := tg 175 (by decide +kernel) (by decide +kernel)
theorem tw_176 : Cond.fieldLink "MailViews" 26 "MailViews" "journal" "LMailViews$Journal;" ∈ am_Tg := tg 176 (by decide +kernel) (by decide +kernel)
theorem tw_177 : Cond.fieldLink "MailViews" 33 "MailViews" "written" "LMailViews$Criterion;" ∈ am_Tg := tg 177 (by decide +kernel) (by decide +kernel)
theorem tw_178 : Cond.fieldLink "MailViews" 37 "MailViews" "hits" "[I" ∈ am_Tg := tg 178 (by decide +kernel) (by decide +kernel)
theorem tw_179 : Cond.fieldLink "MailViews" 41 "MailViews" "hitCount" "I" ∈ am_Tg := tg 179 (by decide +kernel) (by decide +kernel)
theorem tw_193 : Cond.methodLink "MailViewsLaw" 13 ⟨"MailViews", "append", "(III)I"⟩ ∈ am_Tg := tg 193 (by decide +kernel) (by decide +kernel)
theorem tw_194 : Cond.instanceMethod ⟨"MailViews", "append", "(III)I"⟩ ∈ am_Tg := tg 194 (by decide +kernel) (by decide +kernel)
theorem tw_195 : Cond.selects "MailViews" ⟨"MailViews", "append", "(III)I"⟩ ⟨"MailViews", "append", "(III)I"⟩ ∈ am_Tg := tg 195 (by decide +kernel) (by decide +kernel)
theorem tw_196 : Cond.code ⟨"MailViews", "append", "(III)I"⟩ prog_1_method_2_code 4 (some FieldType.int) ∈ am_Tg := tg 196 (by decide +kernel) (by decide +kernel)
theorem tw_197 : Cond.methodLink "MailViews" 45 ⟨"MailViews", "isMailbox", "(I)Z"⟩ ∈ am_Tg := tg 197 (by decide +kernel) (by decide +kernel)
theorem tw_198 : Cond.static ⟨"MailViews", "isMailbox", "(I)Z"⟩ ∈ am_Tg := tg 198 (by decide +kernel) (by decide +kernel)
theorem tw_199 : Cond.code ⟨"MailViews", "isMailbox", "(I)Z"⟩ prog_1_method_20_code 1 (some FieldType.boolean) ∈ am_Tg := tg 199 (by decide +kernel) (by decide +kernel)
theorem tw_200 : Cond.methodLink "MailViews" 49 ⟨"MailViews", "areFlags", "(I)Z"⟩ ∈ am_Tg := tg 200 (by decide +kernel) (by decide +kernel)
theorem tw_201 : Cond.static ⟨"MailViews", "areFlags", "(I)Z"⟩ ∈ am_Tg := tg 201 (by decide +kernel) (by decide +kernel)
theorem tw_202 : Cond.code ⟨"MailViews", "areFlags", "(I)Z"⟩ prog_1_method_22_code 1 (some FieldType.boolean) ∈ am_Tg := tg 202 (by decide +kernel) (by decide +kernel)
theorem tw_203 : Cond.methodLink "MailViews" 52 ⟨"MailViews", "add", "(III)I"⟩ ∈ am_Tg := tg 203 (by decide +kernel) (by decide +kernel)
theorem tw_205 : Cond.instanceMethod ⟨"MailViews", "add", "(III)I"⟩ ∈ am_Tg := tg 205 (by decide +kernel) (by decide +kernel)
theorem tw_206 : Cond.code ⟨"MailViews", "add", "(III)I"⟩ prog_1_method_28_code 6 (some FieldType.int) ∈ am_Tg := tg 206 (by decide +kernel) (by decide +kernel)
theorem tw_207 : Cond.methodLink "MailViews" 193 ⟨"MailViews$Mailbox", "isFull", "()Z"⟩ ∈ am_Tg := tg 207 (by decide +kernel) (by decide +kernel)
theorem tw_208 : Cond.instanceMethod ⟨"MailViews$Mailbox", "isFull", "()Z"⟩ ∈ am_Tg := tg 208 (by decide +kernel) (by decide +kernel)
theorem tw_209 : Cond.selects "MailViews$Mailbox" ⟨"MailViews$Mailbox", "isFull", "()Z"⟩ ⟨"MailViews$Mailbox", "isFull", "()Z"⟩ ∈ am_Tg := tg 209 (by decide +kernel) (by decide +kernel)
theorem tw_210 : Cond.code ⟨"MailViews$Mailbox", "isFull", "()Z"⟩ prog_4_method_3_code 1 (some FieldType.boolean) ∈ am_Tg := tg 210 (by decide +kernel) (by decide +kernel)
theorem tw_211 : Cond.methodLink "MailViews" 194 ⟨"MailViews$Mailbox", "addNew", "(II)I"⟩ ∈ am_Tg := tg 211 (by decide +kernel) (by decide +kernel)
theorem tw_212 : Cond.instanceMethod ⟨"MailViews$Mailbox", "addNew", "(II)I"⟩ ∈ am_Tg := tg 212 (by decide +kernel) (by decide +kernel)
theorem tw_213 : Cond.selects "MailViews$Mailbox" ⟨"MailViews$Mailbox", "addNew", "(II)I"⟩ ⟨"MailViews$Mailbox", "addNew", "(II)I"⟩ ∈ am_Tg := tg 213 (by decide +kernel) (by decide +kernel)
theorem tw_214 : Cond.code ⟨"MailViews$Mailbox", "addNew", "(II)I"⟩ prog_4_method_12_code 4 (some FieldType.int) ∈ am_Tg := tg 214 (by decide +kernel) (by decide +kernel)
theorem tw_215 : Cond.methodLink "MailViews$Mailbox" 31 ⟨"MailViews$Mailbox", "insert", "(III)V"⟩ ∈ am_Tg := tg 215 (by decide +kernel) (by decide +kernel)
theorem tw_216 : Cond.instanceMethod ⟨"MailViews$Mailbox", "insert", "(III)V"⟩ ∈ am_Tg := tg 216 (by decide +kernel) (by decide +kernel)
theorem tw_217 : Cond.selects "MailViews$Mailbox" ⟨"MailViews$Mailbox", "insert", "(III)V"⟩ ⟨"MailViews$Mailbox", "insert", "(III)V"⟩ ∈ am_Tg := tg 217 (by decide +kernel) (by decide +kernel)
theorem tw_218 : Cond.code ⟨"MailViews$Mailbox", "insert", "(III)V"⟩ prog_4_method_14_code 5 none ∈ am_Tg := tg 218 (by decide +kernel) (by decide +kernel)
theorem tw_219 : Cond.methodLink "MailViews$Mailbox" 43 ⟨"MailViews$Mailbox", "isFull", "()Z"⟩ ∈ am_Tg := tg 219 (by decide +kernel) (by decide +kernel)
theorem tw_220 : Cond.methodLink "MailViews$Mailbox" 47 ⟨"MailViews$Mailbox", "move", "(II)V"⟩ ∈ am_Tg := tg 220 (by decide +kernel) (by decide +kernel)
theorem tw_222 : Cond.instanceMethod ⟨"MailViews$Mailbox", "move", "(II)V"⟩ ∈ am_Tg := tg 222 (by decide +kernel) (by decide +kernel)
theorem tw_223 : Cond.code ⟨"MailViews$Mailbox", "move", "(II)V"⟩ prog_4_method_17_code 3 none ∈ am_Tg := tg 223 (by decide +kernel) (by decide +kernel)
theorem tw_224 : Cond.methodLink "MailViews" 198 ⟨"MailViews$Journal", "noteAdded", "(II)V"⟩ ∈ am_Tg := tg 224 (by decide +kernel) (by decide +kernel)
theorem tw_225 : Cond.instanceMethod ⟨"MailViews$Journal", "noteAdded", "(II)V"⟩ ∈ am_Tg := tg 225 (by decide +kernel) (by decide +kernel)
theorem tw_226 : Cond.selects "MailViews$Journal" ⟨"MailViews$Journal", "noteAdded", "(II)V"⟩ ⟨"MailViews$Journal", "noteAdded", "(II)V"⟩ ∈ am_Tg := tg 226 (by decide +kernel) (by decide +kernel)
theorem tw_227 : Cond.code ⟨"MailViews$Journal", "noteAdded", "(II)V"⟩ prog_3_method_4_code 3 none ∈ am_Tg := tg 227 (by decide +kernel) (by decide +kernel)
theorem tw_228 : Cond.methodLink "MailViews$Journal" 32 ⟨"MailViews$Journal", "note", "(IIIII)V"⟩ ∈ am_Tg := tg 228 (by decide +kernel) (by decide +kernel)
theorem tw_230 : Cond.instanceMethod ⟨"MailViews$Journal", "note", "(IIIII)V"⟩ ∈ am_Tg := tg 230 (by decide +kernel) (by decide +kernel)
theorem tw_231 : Cond.code ⟨"MailViews$Journal", "note", "(IIIII)V"⟩ prog_3_method_11_code 6 none ∈ am_Tg := tg 231 (by decide +kernel) (by decide +kernel)
theorem tw_232 : Cond.methodLink "MailViews$Journal" 54 ⟨"MailViews$Journal", "makeAllDurable", "()V"⟩ ∈ am_Tg := tg 232 (by decide +kernel) (by decide +kernel)
theorem tw_233 : Cond.instanceMethod ⟨"MailViews$Journal", "makeAllDurable", "()V"⟩ ∈ am_Tg := tg 233 (by decide +kernel) (by decide +kernel)
theorem tw_234 : Cond.selects "MailViews$Journal" ⟨"MailViews$Journal", "makeAllDurable", "()V"⟩ ⟨"MailViews$Journal", "makeAllDurable", "()V"⟩ ∈ am_Tg := tg 234 (by decide +kernel) (by decide +kernel)
theorem tw_235 : Cond.code ⟨"MailViews$Journal", "makeAllDurable", "()V"⟩ prog_3_method_7_code 1 none ∈ am_Tg := tg 235 (by decide +kernel) (by decide +kernel)
theorem tw_236 : Cond.methodLink "MailViewsLaw" 18 ⟨"MailViews", "select", "(IIZ)I"⟩ ∈ am_Tg := tg 236 (by decide +kernel) (by decide +kernel)
theorem tw_237 : Cond.instanceMethod ⟨"MailViews", "select", "(IIZ)I"⟩ ∈ am_Tg := tg 237 (by decide +kernel) (by decide +kernel)
theorem tw_238 : Cond.selects "MailViews" ⟨"MailViews", "select", "(IIZ)I"⟩ ⟨"MailViews", "select", "(IIZ)I"⟩ ∈ am_Tg := tg 238 (by decide +kernel) (by decide +kernel)
theorem tw_239 : Cond.code ⟨"MailViews", "select", "(IIZ)I"⟩ prog_1_method_3_code 4 (some FieldType.int) ∈ am_Tg := tg 239 (by decide +kernel) (by decide +kernel)
theorem tw_240 : Cond.methodLink "MailViews" 56 ⟨"MailViews", "isSession", "(I)Z"⟩ ∈ am_Tg := tg 240 (by decide +kernel) (by decide +kernel)
theorem tw_241 : Cond.static ⟨"MailViews", "isSession", "(I)Z"⟩ ∈ am_Tg := tg 241 (by decide +kernel) (by decide +kernel)
theorem tw_242 : Cond.code ⟨"MailViews", "isSession", "(I)Z"⟩ prog_1_method_21_code 1 (some FieldType.boolean) ∈ am_Tg := tg 242 (by decide +kernel) (by decide +kernel)
theorem tw_243 : Cond.methodLink "MailViews" 59 ⟨"MailViews$Session", "open", "(IZLMailViews$Mailbox;)V"⟩ ∈ am_Tg := tg 243 (by decide +kernel) (by decide +kernel)
theorem tw_244 : Cond.instanceMethod ⟨"MailViews$Session", "open", "(IZLMailViews$Mailbox;)V"⟩ ∈ am_Tg := tg 244 (by decide +kernel) (by decide +kernel)
theorem tw_245 : Cond.selects "MailViews$Session" ⟨"MailViews$Session", "open", "(IZLMailViews$Mailbox;)V"⟩ ⟨"MailViews$Session", "open", "(IZLMailViews$Mailbox;)V"⟩ ∈ am_Tg := tg 245 (by decide +kernel) (by decide +kernel)
theorem tw_246 : Cond.code ⟨"MailViews$Session", "open", "(IZLMailViews$Mailbox;)V"⟩ prog_5_method_2_code 4 none ∈ am_Tg := tg 246 (by decide +kernel) (by decide +kernel)
theorem tw_247 : Cond.methodLink "MailViews$Session" 41 ⟨"MailViews$Session", "takeInNew", "(LMailViews$Mailbox;)V"⟩ ∈ am_Tg := tg 247 (by decide +kernel) (by decide +kernel)
theorem tw_249 : Cond.instanceMethod ⟨"MailViews$Session", "takeInNew", "(LMailViews$Mailbox;)V"⟩ ∈ am_Tg := tg 249 (by decide +kernel) (by decide +kernel)
theorem tw_250 : Cond.code ⟨"MailViews$Session", "takeInNew", "(LMailViews$Mailbox;)V"⟩ prog_5_method_15_code 3 none ∈ am_Tg := tg 250 (by decide +kernel) (by decide +kernel)
theorem tw_251 : Cond.methodLink "MailViews$Session" 61 ⟨"MailViews$Mailbox", "messageCount", "()I"⟩ ∈ am_Tg := tg 251 (by decide +kernel) (by decide +kernel)
theorem tw_252 : Cond.instanceMethod ⟨"MailViews$Mailbox", "messageCount", "()I"⟩ ∈ am_Tg := tg 252 (by decide +kernel) (by decide +kernel)
theorem tw_253 : Cond.selects "MailViews$Mailbox" ⟨"MailViews$Mailbox", "messageCount", "()I"⟩ ⟨"MailViews$Mailbox", "messageCount", "()I"⟩ ∈ am_Tg := tg 253 (by decide +kernel) (by decide +kernel)
theorem tw_254 : Cond.code ⟨"MailViews$Mailbox", "messageCount", "()I"⟩ prog_4_method_2_code 1 (some FieldType.int) ∈ am_Tg := tg 254 (by decide +kernel) (by decide +kernel)
theorem tw_255 : Cond.methodLink "MailViews$Session" 65 ⟨"MailViews$Mailbox", "uidAt", "(I)I"⟩ ∈ am_Tg := tg 255 (by decide +kernel) (by decide +kernel)
theorem tw_256 : Cond.instanceMethod ⟨"MailViews$Mailbox", "uidAt", "(I)I"⟩ ∈ am_Tg := tg 256 (by decide +kernel) (by decide +kernel)
theorem tw_257 : Cond.selects "MailViews$Mailbox" ⟨"MailViews$Mailbox", "uidAt", "(I)I"⟩ ⟨"MailViews$Mailbox", "uidAt", "(I)I"⟩ ∈ am_Tg := tg 257 (by decide +kernel) (by decide +kernel)
theorem tw_258 : Cond.code ⟨"MailViews$Mailbox", "uidAt", "(I)I"⟩ prog_4_method_7_code 2 (some FieldType.int) ∈ am_Tg := tg 258 (by decide +kernel) (by decide +kernel)
theorem tw_259 : Cond.methodLink "MailViews$Session" 68 ⟨"MailViews$Mailbox", "flagsAt", "(I)I"⟩ ∈ am_Tg := tg 259 (by decide +kernel) (by decide +kernel)
theorem tw_260 : Cond.instanceMethod ⟨"MailViews$Mailbox", "flagsAt", "(I)I"⟩ ∈ am_Tg := tg 260 (by decide +kernel) (by decide +kernel)
theorem tw_261 : Cond.selects "MailViews$Mailbox" ⟨"MailViews$Mailbox", "flagsAt", "(I)I"⟩ ⟨"MailViews$Mailbox", "flagsAt", "(I)I"⟩ ∈ am_Tg := tg 261 (by decide +kernel) (by decide +kernel)
theorem tw_262 : Cond.code ⟨"MailViews$Mailbox", "flagsAt", "(I)I"⟩ prog_4_method_8_code 2 (some FieldType.int) ∈ am_Tg := tg 262 (by decide +kernel) (by decide +kernel)
theorem tw_263 : Cond.methodLink "MailViews" 63 ⟨"MailViews$Session", "viewLength", "()I"⟩ ∈ am_Tg := tg 263 (by decide +kernel) (by decide +kernel)
theorem tw_264 : Cond.instanceMethod ⟨"MailViews$Session", "viewLength", "()I"⟩ ∈ am_Tg := tg 264 (by decide +kernel) (by decide +kernel)
theorem tw_265 : Cond.selects "MailViews$Session" ⟨"MailViews$Session", "viewLength", "()I"⟩ ⟨"MailViews$Session", "viewLength", "()I"⟩ ∈ am_Tg := tg 265 (by decide +kernel) (by decide +kernel)
theorem tw_266 : Cond.code ⟨"MailViews$Session", "viewLength", "()I"⟩ prog_5_method_6_code 1 (some FieldType.int) ∈ am_Tg := tg 266 (by decide +kernel) (by decide +kernel)
theorem tw_267 : Cond.methodLink "MailViewsLaw" 23 ⟨"MailViews", "close", "(I)I"⟩ ∈ am_Tg := tg 267 (by decide +kernel) (by decide +kernel)
theorem tw_268 : Cond.instanceMethod ⟨"MailViews", "close", "(I)I"⟩ ∈ am_Tg := tg 268 (by decide +kernel) (by decide +kernel)
theorem tw_269 : Cond.selects "MailViews" ⟨"MailViews", "close", "(I)I"⟩ ⟨"MailViews", "close", "(I)I"⟩ ∈ am_Tg := tg 269 (by decide +kernel) (by decide +kernel)
theorem tw_270 : Cond.code ⟨"MailViews", "close", "(I)I"⟩ prog_1_method_4_code 4 (some FieldType.int) ∈ am_Tg := tg 270 (by decide +kernel) (by decide +kernel)
theorem tw_271 : Cond.methodLink "MailViews" 67 ⟨"MailViews", "hasMailbox", "(I)Z"⟩ ∈ am_Tg := tg 271 (by decide +kernel) (by decide +kernel)
theorem tw_273 : Cond.instanceMethod ⟨"MailViews", "hasMailbox", "(I)Z"⟩ ∈ am_Tg := tg 273 (by decide +kernel) (by decide +kernel)
theorem tw_274 : Cond.code ⟨"MailViews", "hasMailbox", "(I)Z"⟩ prog_1_method_23_code 2 (some FieldType.boolean) ∈ am_Tg := tg 274 (by decide +kernel) (by decide +kernel)
theorem tw_275 : Cond.methodLink "MailViews" 74 ⟨"MailViews$Session", "mailboxNumber", "()I"⟩ ∈ am_Tg := tg 275 (by decide +kernel) (by decide +kernel)
theorem tw_276 : Cond.instanceMethod ⟨"MailViews$Session", "mailboxNumber", "()I"⟩ ∈ am_Tg := tg 276 (by decide +kernel) (by decide +kernel)
theorem tw_277 : Cond.selects "MailViews$Session" ⟨"MailViews$Session", "mailboxNumber", "()I"⟩ ⟨"MailViews$Session", "mailboxNumber", "()I"⟩ ∈ am_Tg := tg 277 (by decide +kernel) (by decide +kernel)
theorem tw_278 : Cond.code ⟨"MailViews$Session", "mailboxNumber", "()I"⟩ prog_5_method_4_code 1 (some FieldType.int) ∈ am_Tg := tg 278 (by decide +kernel) (by decide +kernel)
theorem tw_279 : Cond.methodLink "MailViews" 70 ⟨"MailViews$Session", "isReadOnly", "()Z"⟩ ∈ am_Tg := tg 279 (by decide +kernel) (by decide +kernel)
theorem tw_280 : Cond.instanceMethod ⟨"MailViews$Session", "isReadOnly", "()Z"⟩ ∈ am_Tg := tg 280 (by decide +kernel) (by decide +kernel)
theorem tw_281 : Cond.selects "MailViews$Session" ⟨"MailViews$Session", "isReadOnly", "()Z"⟩ ⟨"MailViews$Session", "isReadOnly", "()Z"⟩ ∈ am_Tg := tg 281 (by decide +kernel) (by decide +kernel)
theorem tw_282 : Cond.code ⟨"MailViews$Session", "isReadOnly", "()Z"⟩ prog_5_method_5_code 1 (some FieldType.boolean) ∈ am_Tg := tg 282 (by decide +kernel) (by decide +kernel)
theorem tw_283 : Cond.methodLink "MailViews" 77 ⟨"MailViews", "removeDeleted", "(I)I"⟩ ∈ am_Tg := tg 283 (by decide +kernel) (by decide +kernel)
theorem tw_285 : Cond.instanceMethod ⟨"MailViews", "removeDeleted", "(I)I"⟩ ∈ am_Tg := tg 285 (by decide +kernel) (by decide +kernel)
theorem tw_286 : Cond.code ⟨"MailViews", "removeDeleted", "(I)I"⟩ prog_1_method_29_code 6 (some FieldType.int) ∈ am_Tg := tg 286 (by decide +kernel) (by decide +kernel)
theorem tw_287 : Cond.methodLink "MailViews" 163 ⟨"MailViews$Mailbox", "messageCount", "()I"⟩ ∈ am_Tg := tg 287 (by decide +kernel) (by decide +kernel)
theorem tw_288 : Cond.methodLink "MailViews" 105 ⟨"MailViews$Mailbox", "flagsAt", "(I)I"⟩ ∈ am_Tg := tg 288 (by decide +kernel) (by decide +kernel)
theorem tw_289 : Cond.methodLink "MailViews" 166 ⟨"MailViews$Mailbox", "uidAt", "(I)I"⟩ ∈ am_Tg := tg 289 (by decide +kernel) (by decide +kernel)
theorem tw_290 : Cond.methodLink "MailViews" 122 ⟨"MailViews$Mailbox", "sizeAt", "(I)I"⟩ ∈ am_Tg := tg 290 (by decide +kernel) (by decide +kernel)
theorem tw_291 : Cond.instanceMethod ⟨"MailViews$Mailbox", "sizeAt", "(I)I"⟩ ∈ am_Tg := tg 291 (by decide +kernel) (by decide +kernel)
theorem tw_292 : Cond.selects "MailViews$Mailbox" ⟨"MailViews$Mailbox", "sizeAt", "(I)I"⟩ ⟨"MailViews$Mailbox", "sizeAt", "(I)I"⟩ ∈ am_Tg := tg 292 (by decide +kernel) (by decide +kernel)
theorem tw_293 : Cond.code ⟨"MailViews$Mailbox", "sizeAt", "(I)I"⟩ prog_4_method_9_code 2 (some FieldType.int) ∈ am_Tg := tg 293 (by decide +kernel) (by decide +kernel)
theorem tw_294 : Cond.methodLink "MailViews" 201 ⟨"MailViews$Journal", "noteRemoved", "(IIII)V"⟩ ∈ am_Tg := tg 294 (by decide +kernel) (by decide +kernel)
theorem tw_295 : Cond.instanceMethod ⟨"MailViews$Journal", "noteRemoved", "(IIII)V"⟩ ∈ am_Tg := tg 295 (by decide +kernel) (by decide +kernel)
theorem tw_296 : Cond.selects "MailViews$Journal" ⟨"MailViews$Journal", "noteRemoved", "(IIII)V"⟩ ⟨"MailViews$Journal", "noteRemoved", "(IIII)V"⟩ ∈ am_Tg := tg 296 (by decide +kernel) (by decide +kernel)
theorem tw_297 : Cond.code ⟨"MailViews$Journal", "noteRemoved", "(IIII)V"⟩ prog_3_method_5_code 5 none ∈ am_Tg := tg 297 (by decide +kernel) (by decide +kernel)
theorem tw_298 : Cond.methodLink "MailViews" 205 ⟨"MailViews$Mailbox", "removeAt", "(I)V"⟩ ∈ am_Tg := tg 298 (by decide +kernel) (by decide +kernel)
theorem tw_299 : Cond.instanceMethod ⟨"MailViews$Mailbox", "removeAt", "(I)V"⟩ ∈ am_Tg := tg 299 (by decide +kernel) (by decide +kernel)
theorem tw_300 : Cond.selects "MailViews$Mailbox" ⟨"MailViews$Mailbox", "removeAt", "(I)V"⟩ ⟨"MailViews$Mailbox", "removeAt", "(I)V"⟩ ∈ am_Tg := tg 300 (by decide +kernel) (by decide +kernel)
theorem tw_301 : Cond.code ⟨"MailViews$Mailbox", "removeAt", "(I)V"⟩ prog_4_method_15_code 3 none ∈ am_Tg := tg 301 (by decide +kernel) (by decide +kernel)
theorem tw_302 : Cond.methodLink "MailViews" 81 ⟨"MailViews$Session", "leave", "()V"⟩ ∈ am_Tg := tg 302 (by decide +kernel) (by decide +kernel)
theorem tw_303 : Cond.instanceMethod ⟨"MailViews$Session", "leave", "()V"⟩ ∈ am_Tg := tg 303 (by decide +kernel) (by decide +kernel)
theorem tw_304 : Cond.selects "MailViews$Session" ⟨"MailViews$Session", "leave", "()V"⟩ ⟨"MailViews$Session", "leave", "()V"⟩ ∈ am_Tg := tg 304 (by decide +kernel) (by decide +kernel)
theorem tw_305 : Cond.code ⟨"MailViews$Session", "leave", "()V"⟩ prog_5_method_3_code 1 none ∈ am_Tg := tg 305 (by decide +kernel) (by decide +kernel)
theorem tw_306 : Cond.methodLink "MailViewsLaw" 28 ⟨"MailViews", "check", "(I)I"⟩ ∈ am_Tg := tg 306 (by decide +kernel) (by decide +kernel)
theorem tw_307 : Cond.instanceMethod ⟨"MailViews", "check", "(I)I"⟩ ∈ am_Tg := tg 307 (by decide +kernel) (by decide +kernel)
theorem tw_308 : Cond.selects "MailViews" ⟨"MailViews", "check", "(I)I"⟩ ⟨"MailViews", "check", "(I)I"⟩ ∈ am_Tg := tg 308 (by decide +kernel) (by decide +kernel)
theorem tw_309 : Cond.code ⟨"MailViews", "check", "(I)I"⟩ prog_1_method_5_code 2 (some FieldType.int) ∈ am_Tg := tg 309 (by decide +kernel) (by decide +kernel)
theorem tw_310 : Cond.methodLink "MailViews" 84 ⟨"MailViews", "update", "(IZ)V"⟩ ∈ am_Tg := tg 310 (by decide +kernel) (by decide +kernel)
theorem tw_312 : Cond.instanceMethod ⟨"MailViews", "update", "(IZ)V"⟩ ∈ am_Tg := tg 312 (by decide +kernel) (by decide +kernel)
theorem tw_313 : Cond.code ⟨"MailViews", "update", "(IZ)V"⟩ prog_1_method_27_code 3 none ∈ am_Tg := tg 313 (by decide +kernel) (by decide +kernel)
theorem tw_314 : Cond.methodLink "MailViews" 95 ⟨"MailViews", "mailboxOf", "(I)LMailViews$Mailbox;"⟩ ∈ am_Tg := tg 314 (by decide +kernel) (by decide +kernel)
theorem tw_316 : Cond.instanceMethod ⟨"MailViews", "mailboxOf", "(I)LMailViews$Mailbox;"⟩ ∈ am_Tg := tg 316 (by decide +kernel) (by decide +kernel)
theorem tw_317 : Cond.code ⟨"MailViews", "mailboxOf", "(I)LMailViews$Mailbox;"⟩ prog_1_method_25_code 2 (some (FieldType.object "MailViews$Mailbox")) ∈ am_Tg := tg 317 (by decide +kernel) (by decide +kernel)
theorem tw_318 : Cond.methodLink "MailViews" 190 ⟨"MailViews$Session", "update", "(LMailViews$Mailbox;Z)V"⟩ ∈ am_Tg := tg 318 (by decide +kernel) (by decide +kernel)
theorem tw_319 : Cond.instanceMethod ⟨"MailViews$Session", "update", "(LMailViews$Mailbox;Z)V"⟩ ∈ am_Tg := tg 319 (by decide +kernel) (by decide +kernel)
theorem tw_320 : Cond.selects "MailViews$Session" ⟨"MailViews$Session", "update", "(LMailViews$Mailbox;Z)V"⟩ ⟨"MailViews$Session", "update", "(LMailViews$Mailbox;Z)V"⟩ ∈ am_Tg := tg 320 (by decide +kernel) (by decide +kernel)
theorem tw_321 : Cond.code ⟨"MailViews$Session", "update", "(LMailViews$Mailbox;Z)V"⟩ prog_5_method_13_code 4 none ∈ am_Tg := tg 321 (by decide +kernel) (by decide +kernel)
theorem tw_322 : Cond.methodLink "MailViews$Session" 45 ⟨"MailViews$Session", "dropGone", "(LMailViews$Mailbox;)V"⟩ ∈ am_Tg := tg 322 (by decide +kernel) (by decide +kernel)
theorem tw_324 : Cond.instanceMethod ⟨"MailViews$Session", "dropGone", "(LMailViews$Mailbox;)V"⟩ ∈ am_Tg := tg 324 (by decide +kernel) (by decide +kernel)
theorem tw_325 : Cond.code ⟨"MailViews$Session", "dropGone", "(LMailViews$Mailbox;)V"⟩ prog_5_method_14_code 4 none ∈ am_Tg := tg 325 (by decide +kernel) (by decide +kernel)
theorem tw_326 : Cond.methodLink "MailViews$Session" 55 ⟨"MailViews$Mailbox", "positionOf", "(I)I"⟩ ∈ am_Tg := tg 326 (by decide +kernel) (by decide +kernel)
theorem tw_327 : Cond.instanceMethod ⟨"MailViews$Mailbox", "positionOf", "(I)I"⟩ ∈ am_Tg := tg 327 (by decide +kernel) (by decide +kernel)
theorem tw_328 : Cond.selects "MailViews$Mailbox" ⟨"MailViews$Mailbox", "positionOf", "(I)I"⟩ ⟨"MailViews$Mailbox", "positionOf", "(I)I"⟩ ∈ am_Tg := tg 328 (by decide +kernel) (by decide +kernel)
theorem tw_329 : Cond.code ⟨"MailViews$Mailbox", "positionOf", "(I)I"⟩ prog_4_method_11_code 3 (some FieldType.int) ∈ am_Tg := tg 329 (by decide +kernel) (by decide +kernel)
theorem tw_330 : Cond.methodLink "MailViews$Session" 48 ⟨"MailViews$Session", "tell", "(II)V"⟩ ∈ am_Tg := tg 330 (by decide +kernel) (by decide +kernel)
theorem tw_332 : Cond.instanceMethod ⟨"MailViews$Session", "tell", "(II)V"⟩ ∈ am_Tg := tg 332 (by decide +kernel) (by decide +kernel)
theorem tw_333 : Cond.code ⟨"MailViews$Session", "tell", "(II)V"⟩ prog_5_method_17_code 3 none ∈ am_Tg := tg 333 (by decide +kernel) (by decide +kernel)
theorem tw_334 : Cond.methodLink "MailViews$Session" 52 ⟨"MailViews$Session", "learnFlags", "(LMailViews$Mailbox;)V"⟩ ∈ am_Tg := tg 334 (by decide +kernel) (by decide +kernel)
theorem tw_336 : Cond.instanceMethod ⟨"MailViews$Session", "learnFlags", "(LMailViews$Mailbox;)V"⟩ ∈ am_Tg := tg 336 (by decide +kernel) (by decide +kernel)
theorem tw_337 : Cond.code ⟨"MailViews$Session", "learnFlags", "(LMailViews$Mailbox;)V"⟩ prog_5_method_16_code 4 none ∈ am_Tg := tg 337 (by decide +kernel) (by decide +kernel)
theorem tw_338 : Cond.methodLink "MailViews$Session" 71 ⟨"MailViews$Session", "uidOf", "(I)I"⟩ ∈ am_Tg := tg 338 (by decide +kernel) (by decide +kernel)
theorem tw_339 : Cond.instanceMethod ⟨"MailViews$Session", "uidOf", "(I)I"⟩ ∈ am_Tg := tg 339 (by decide +kernel) (by decide +kernel)
theorem tw_340 : Cond.selects "MailViews$Session" ⟨"MailViews$Session", "uidOf", "(I)I"⟩ ⟨"MailViews$Session", "uidOf", "(I)I"⟩ ∈ am_Tg := tg 340 (by decide +kernel) (by decide +kernel)
theorem tw_341 : Cond.code ⟨"MailViews$Session", "uidOf", "(I)I"⟩ prog_5_method_7_code 2 (some FieldType.int) ∈ am_Tg := tg 341 (by decide +kernel) (by decide +kernel)
theorem tw_342 : Cond.methodLink "MailViews$Session" 74 ⟨"MailViews$Session", "knownFlagsOf", "(I)I"⟩ ∈ am_Tg := tg 342 (by decide +kernel) (by decide +kernel)
theorem tw_343 : Cond.instanceMethod ⟨"MailViews$Session", "knownFlagsOf", "(I)I"⟩ ∈ am_Tg := tg 343 (by decide +kernel) (by decide +kernel)
theorem tw_344 : Cond.selects "MailViews$Session" ⟨"MailViews$Session", "knownFlagsOf", "(I)I"⟩ ⟨"MailViews$Session", "knownFlagsOf", "(I)I"⟩ ∈ am_Tg := tg 344 (by decide +kernel) (by decide +kernel)
theorem tw_345 : Cond.code ⟨"MailViews$Session", "knownFlagsOf", "(I)I"⟩ prog_5_method_8_code 2 (some FieldType.int) ∈ am_Tg := tg 345 (by decide +kernel) (by decide +kernel)
theorem tw_346 : Cond.methodLink "MailViews$Session" 77 ⟨"MailViews$Session", "know", "(II)V"⟩ ∈ am_Tg := tg 346 (by decide +kernel) (by decide +kernel)
theorem tw_347 : Cond.instanceMethod ⟨"MailViews$Session", "know", "(II)V"⟩ ∈ am_Tg := tg 347 (by decide +kernel) (by decide +kernel)
theorem tw_348 : Cond.selects "MailViews$Session" ⟨"MailViews$Session", "know", "(II)V"⟩ ⟨"MailViews$Session", "know", "(II)V"⟩ ∈ am_Tg := tg 348 (by decide +kernel) (by decide +kernel)
theorem tw_349 : Cond.code ⟨"MailViews$Session", "know", "(II)V"⟩ prog_5_method_9_code 3 none ∈ am_Tg := tg 349 (by decide +kernel) (by decide +kernel)
theorem tw_350 : Cond.methodLink "MailViews" 88 ⟨"MailViews$Session", "noticeCount", "()I"⟩ ∈ am_Tg := tg 350 (by decide +kernel) (by decide +kernel)
theorem tw_351 : Cond.instanceMethod ⟨"MailViews$Session", "noticeCount", "()I"⟩ ∈ am_Tg := tg 351 (by decide +kernel) (by decide +kernel)
theorem tw_352 : Cond.selects "MailViews$Session" ⟨"MailViews$Session", "noticeCount", "()I"⟩ ⟨"MailViews$Session", "noticeCount", "()I"⟩ ∈ am_Tg := tg 352 (by decide +kernel) (by decide +kernel)
theorem tw_353 : Cond.code ⟨"MailViews$Session", "noticeCount", "()I"⟩ prog_5_method_10_code 1 (some FieldType.int) ∈ am_Tg := tg 353 (by decide +kernel) (by decide +kernel)
theorem tw_354 : Cond.methodLink "MailViewsLaw" 32 ⟨"MailViews", "fetch", "(II)I"⟩ ∈ am_Tg := tg 354 (by decide +kernel) (by decide +kernel)
theorem tw_355 : Cond.instanceMethod ⟨"MailViews", "fetch", "(II)I"⟩ ∈ am_Tg := tg 355 (by decide +kernel) (by decide +kernel)
theorem tw_356 : Cond.selects "MailViews" ⟨"MailViews", "fetch", "(II)I"⟩ ⟨"MailViews", "fetch", "(II)I"⟩ ∈ am_Tg := tg 356 (by decide +kernel) (by decide +kernel)
theorem tw_357 : Cond.code ⟨"MailViews", "fetch", "(II)I"⟩ prog_1_method_6_code 5 (some FieldType.int) ∈ am_Tg := tg 357 (by decide +kernel) (by decide +kernel)
theorem tw_358 : Cond.methodLink "MailViews" 91 ⟨"MailViews", "isInView", "(II)Z"⟩ ∈ am_Tg := tg 358 (by decide +kernel) (by decide +kernel)
theorem tw_360 : Cond.instanceMethod ⟨"MailViews", "isInView", "(II)Z"⟩ ∈ am_Tg := tg 360 (by decide +kernel) (by decide +kernel)
theorem tw_361 : Cond.code ⟨"MailViews", "isInView", "(II)Z"⟩ prog_1_method_24_code 3 (some FieldType.boolean) ∈ am_Tg := tg 361 (by decide +kernel) (by decide +kernel)
theorem tw_362 : Cond.methodLink "MailViews" 99 ⟨"MailViews$Session", "uidOf", "(I)I"⟩ ∈ am_Tg := tg 362 (by decide +kernel) (by decide +kernel)
theorem tw_363 : Cond.methodLink "MailViews" 102 ⟨"MailViews$Mailbox", "positionOf", "(I)I"⟩ ∈ am_Tg := tg 363 (by decide +kernel) (by decide +kernel)
theorem tw_364 : Cond.methodLink "MailViews" 108 ⟨"MailViews$Session", "know", "(II)V"⟩ ∈ am_Tg := tg 364 (by decide +kernel) (by decide +kernel)
theorem tw_365 : Cond.methodLink "MailViewsLaw" 37 ⟨"MailViews", "store", "(IIII)I"⟩ ∈ am_Tg := tg 365 (by decide +kernel) (by decide +kernel)
theorem tw_366 : Cond.instanceMethod ⟨"MailViews", "store", "(IIII)I"⟩ ∈ am_Tg := tg 366 (by decide +kernel) (by decide +kernel)
theorem tw_367 : Cond.selects "MailViews" ⟨"MailViews", "store", "(IIII)I"⟩ ⟨"MailViews", "store", "(IIII)I"⟩ ∈ am_Tg := tg 367 (by decide +kernel) (by decide +kernel)
theorem tw_368 : Cond.code ⟨"MailViews", "store", "(IIII)I"⟩ prog_1_method_7_code 10 (some FieldType.int) ∈ am_Tg := tg 368 (by decide +kernel) (by decide +kernel)
theorem tw_369 : Cond.methodLink "MailViews" 112 ⟨"MailViews", "changedFlags", "(III)I"⟩ ∈ am_Tg := tg 369 (by decide +kernel) (by decide +kernel)
theorem tw_370 : Cond.static ⟨"MailViews", "changedFlags", "(III)I"⟩ ∈ am_Tg := tg 370 (by decide +kernel) (by decide +kernel)
theorem tw_371 : Cond.code ⟨"MailViews", "changedFlags", "(III)I"⟩ prog_1_method_30_code 3 (some FieldType.int) ∈ am_Tg := tg 371 (by decide +kernel) (by decide +kernel)
theorem tw_372 : Cond.methodLink "MailViews" 115 ⟨"MailViews$Mailbox", "setFlagsAt", "(II)V"⟩ ∈ am_Tg := tg 372 (by decide +kernel) (by decide +kernel)
theorem tw_373 : Cond.instanceMethod ⟨"MailViews$Mailbox", "setFlagsAt", "(II)V"⟩ ∈ am_Tg := tg 373 (by decide +kernel) (by decide +kernel)
theorem tw_374 : Cond.selects "MailViews$Mailbox" ⟨"MailViews$Mailbox", "setFlagsAt", "(II)V"⟩ ⟨"MailViews$Mailbox", "setFlagsAt", "(II)V"⟩ ∈ am_Tg := tg 374 (by decide +kernel) (by decide +kernel)
theorem tw_375 : Cond.code ⟨"MailViews$Mailbox", "setFlagsAt", "(II)V"⟩ prog_4_method_10_code 3 none ∈ am_Tg := tg 375 (by decide +kernel) (by decide +kernel)
theorem tw_376 : Cond.methodLink "MailViews" 118 ⟨"MailViews$Journal", "noteFlagsSet", "(III)V"⟩ ∈ am_Tg := tg 376 (by decide +kernel) (by decide +kernel)
theorem tw_377 : Cond.instanceMethod ⟨"MailViews$Journal", "noteFlagsSet", "(III)V"⟩ ∈ am_Tg := tg 377 (by decide +kernel) (by decide +kernel)
theorem tw_378 : Cond.selects "MailViews$Journal" ⟨"MailViews$Journal", "noteFlagsSet", "(III)V"⟩ ⟨"MailViews$Journal", "noteFlagsSet", "(III)V"⟩ ∈ am_Tg := tg 378 (by decide +kernel) (by decide +kernel)
theorem tw_379 : Cond.code ⟨"MailViews$Journal", "noteFlagsSet", "(III)V"⟩ prog_3_method_6_code 4 none ∈ am_Tg := tg 379 (by decide +kernel) (by decide +kernel)
theorem tw_380 : Cond.methodLink "MailViewsLaw" 42 ⟨"MailViews", "expunge", "(I)I"⟩ ∈ am_Tg := tg 380 (by decide +kernel) (by decide +kernel)
theorem tw_381 : Cond.instanceMethod ⟨"MailViews", "expunge", "(I)I"⟩ ∈ am_Tg := tg 381 (by decide +kernel) (by decide +kernel)
theorem tw_382 : Cond.selects "MailViews" ⟨"MailViews", "expunge", "(I)I"⟩ ⟨"MailViews", "expunge", "(I)I"⟩ ∈ am_Tg := tg 382 (by decide +kernel) (by decide +kernel)
theorem tw_383 : Cond.code ⟨"MailViews", "expunge", "(I)I"⟩ prog_1_method_8_code 3 (some FieldType.int) ∈ am_Tg := tg 383 (by decide +kernel) (by decide +kernel)
theorem tw_384 : Cond.methodLink "MailViewsLaw" 46 ⟨"MailViews", "copy", "(III)I"⟩ ∈ am_Tg := tg 384 (by decide +kernel) (by decide +kernel)
theorem tw_385 : Cond.instanceMethod ⟨"MailViews", "copy", "(III)I"⟩ ∈ am_Tg := tg 385 (by decide +kernel) (by decide +kernel)
theorem tw_386 : Cond.selects "MailViews" ⟨"MailViews", "copy", "(III)I"⟩ ⟨"MailViews", "copy", "(III)I"⟩ ∈ am_Tg := tg 386 (by decide +kernel) (by decide +kernel)
theorem tw_387 : Cond.code ⟨"MailViews", "copy", "(III)I"⟩ prog_1_method_9_code 7 (some FieldType.int) ∈ am_Tg := tg 387 (by decide +kernel) (by decide +kernel)
theorem tw_388 : Cond.methodLink "MailViewsLaw" 50 ⟨"MailViews", "criterion", "(III)I"⟩ ∈ am_Tg := tg 388 (by decide +kernel) (by decide +kernel)
theorem tw_389 : Cond.instanceMethod ⟨"MailViews", "criterion", "(III)I"⟩ ∈ am_Tg := tg 389 (by decide +kernel) (by decide +kernel)
theorem tw_390 : Cond.selects "MailViews" ⟨"MailViews", "criterion", "(III)I"⟩ ⟨"MailViews", "criterion", "(III)I"⟩ ∈ am_Tg := tg 390 (by decide +kernel) (by decide +kernel)
theorem tw_391 : Cond.code ⟨"MailViews", "criterion", "(III)I"⟩ prog_1_method_10_code 4 (some FieldType.int) ∈ am_Tg := tg 391 (by decide +kernel) (by decide +kernel)
theorem tw_392 : Cond.methodLink "MailViews" 125 ⟨"MailViews$Criterion", "isOp", "(I)Z"⟩ ∈ am_Tg := tg 392 (by decide +kernel) (by decide +kernel)
theorem tw_393 : Cond.static ⟨"MailViews$Criterion", "isOp", "(I)Z"⟩ ∈ am_Tg := tg 393 (by decide +kernel) (by decide +kernel)
theorem tw_394 : Cond.code ⟨"MailViews$Criterion", "isOp", "(I)Z"⟩ prog_2_method_2_code 1 (some FieldType.boolean) ∈ am_Tg := tg 394 (by decide +kernel) (by decide +kernel)
theorem tw_395 : Cond.methodLink "MailViews" 128 ⟨"MailViews$Criterion", "isFull", "()Z"⟩ ∈ am_Tg := tg 395 (by decide +kernel) (by decide +kernel)
theorem tw_396 : Cond.instanceMethod ⟨"MailViews$Criterion", "isFull", "()Z"⟩ ∈ am_Tg := tg 396 (by decide +kernel) (by decide +kernel)
theorem tw_397 : Cond.selects "MailViews$Criterion" ⟨"MailViews$Criterion", "isFull", "()Z"⟩ ⟨"MailViews$Criterion", "isFull", "()Z"⟩ ∈ am_Tg := tg 397 (by decide +kernel) (by decide +kernel)
theorem tw_398 : Cond.code ⟨"MailViews$Criterion", "isFull", "()Z"⟩ prog_2_method_4_code 1 (some FieldType.boolean) ∈ am_Tg := tg 398 (by decide +kernel) (by decide +kernel)
theorem tw_399 : Cond.methodLink "MailViews" 131 ⟨"MailViews$Criterion", "write", "(III)V"⟩ ∈ am_Tg := tg 399 (by decide +kernel) (by decide +kernel)
theorem tw_400 : Cond.instanceMethod ⟨"MailViews$Criterion", "write", "(III)V"⟩ ∈ am_Tg := tg 400 (by decide +kernel) (by decide +kernel)
theorem tw_401 : Cond.selects "MailViews$Criterion" ⟨"MailViews$Criterion", "write", "(III)V"⟩ ⟨"MailViews$Criterion", "write", "(III)V"⟩ ∈ am_Tg := tg 401 (by decide +kernel) (by decide +kernel)
theorem tw_402 : Cond.code ⟨"MailViews$Criterion", "write", "(III)V"⟩ prog_2_method_6_code 4 none ∈ am_Tg := tg 402 (by decide +kernel) (by decide +kernel)
theorem tw_403 : Cond.methodLink "MailViews" 134 ⟨"MailViews$Criterion", "tokenCount", "()I"⟩ ∈ am_Tg := tg 403 (by decide +kernel) (by decide +kernel)
theorem tw_404 : Cond.instanceMethod ⟨"MailViews$Criterion", "tokenCount", "()I"⟩ ∈ am_Tg := tg 404 (by decide +kernel) (by decide +kernel)
theorem tw_405 : Cond.selects "MailViews$Criterion" ⟨"MailViews$Criterion", "tokenCount", "()I"⟩ ⟨"MailViews$Criterion", "tokenCount", "()I"⟩ ∈ am_Tg := tg 405 (by decide +kernel) (by decide +kernel)
theorem tw_406 : Cond.code ⟨"MailViews$Criterion", "tokenCount", "()I"⟩ prog_2_method_3_code 1 (some FieldType.int) ∈ am_Tg := tg 406 (by decide +kernel) (by decide +kernel)
theorem tw_407 : Cond.methodLink "MailViewsLaw" 54 ⟨"MailViews", "search", "(I)I"⟩ ∈ am_Tg := tg 407 (by decide +kernel) (by decide +kernel)
theorem tw_408 : Cond.instanceMethod ⟨"MailViews", "search", "(I)I"⟩ ∈ am_Tg := tg 408 (by decide +kernel) (by decide +kernel)
theorem tw_409 : Cond.selects "MailViews" ⟨"MailViews", "search", "(I)I"⟩ ⟨"MailViews", "search", "(I)I"⟩ ∈ am_Tg := tg 409 (by decide +kernel) (by decide +kernel)
theorem tw_410 : Cond.code ⟨"MailViews", "search", "(I)I"⟩ prog_1_method_11_code 2 (some FieldType.int) ∈ am_Tg := tg 410 (by decide +kernel) (by decide +kernel)
theorem tw_411 : Cond.methodLink "MailViews" 137 ⟨"MailViews$Criterion", "isGood", "()Z"⟩ ∈ am_Tg := tg 411 (by decide +kernel) (by decide +kernel)
theorem tw_412 : Cond.instanceMethod ⟨"MailViews$Criterion", "isGood", "()Z"⟩ ∈ am_Tg := tg 412 (by decide +kernel) (by decide +kernel)
theorem tw_413 : Cond.selects "MailViews$Criterion" ⟨"MailViews$Criterion", "isGood", "()Z"⟩ ⟨"MailViews$Criterion", "isGood", "()Z"⟩ ∈ am_Tg := tg 413 (by decide +kernel) (by decide +kernel)
theorem tw_414 : Cond.code ⟨"MailViews$Criterion", "isGood", "()Z"⟩ prog_2_method_7_code 2 (some FieldType.boolean) ∈ am_Tg := tg 414 (by decide +kernel) (by decide +kernel)
theorem tw_415 : Cond.methodLink "MailViews$Criterion" 33 ⟨"MailViews$Criterion", "measure", "(I)V"⟩ ∈ am_Tg := tg 415 (by decide +kernel) (by decide +kernel)
theorem tw_417 : Cond.instanceMethod ⟨"MailViews$Criterion", "measure", "(I)V"⟩ ∈ am_Tg := tg 417 (by decide +kernel) (by decide +kernel)
theorem tw_418 : Cond.code ⟨"MailViews$Criterion", "measure", "(I)V"⟩ prog_2_method_9_code 4 none ∈ am_Tg := tg 418 (by decide +kernel) (by decide +kernel)
theorem tw_419 : Cond.methodLink "MailViews$Criterion" 45 ⟨"MailViews$Criterion", "endFrom", "(I)I"⟩ ∈ am_Tg := tg 419 (by decide +kernel) (by decide +kernel)
theorem tw_421 : Cond.instanceMethod ⟨"MailViews$Criterion", "endFrom", "(I)I"⟩ ∈ am_Tg := tg 421 (by decide +kernel) (by decide +kernel)
theorem tw_422 : Cond.code ⟨"MailViews$Criterion", "endFrom", "(I)I"⟩ prog_2_method_12_code 2 (some FieldType.int) ∈ am_Tg := tg 422 (by decide +kernel) (by decide +kernel)
theorem tw_423 : Cond.methodLink "MailViews$Criterion" 49 ⟨"MailViews$Criterion", "depthFrom", "(I)I"⟩ ∈ am_Tg := tg 423 (by decide +kernel) (by decide +kernel)
theorem tw_425 : Cond.instanceMethod ⟨"MailViews$Criterion", "depthFrom", "(I)I"⟩ ∈ am_Tg := tg 425 (by decide +kernel) (by decide +kernel)
theorem tw_426 : Cond.code ⟨"MailViews$Criterion", "depthFrom", "(I)I"⟩ prog_2_method_13_code 2 (some FieldType.int) ∈ am_Tg := tg 426 (by decide +kernel) (by decide +kernel)
theorem tw_427 : Cond.methodLink "MailViews$Criterion" 52 ⟨"java/lang/Math", "max", "(II)I"⟩ ∈ am_Tg := tg 427 (by decide +kernel) (by decide +kernel)
theorem tw_428 : Cond.static ⟨"java/lang/Math", "max", "(II)I"⟩ ∈ am_Tg := tg 428 (by decide +kernel) (by decide +kernel)
theorem tw_429 : Cond.code ⟨"java/lang/Math", "max", "(II)I"⟩ prog_8_method_65_code 2 (some FieldType.int) ∈ am_Tg := tg 429 (by decide +kernel) (by decide +kernel)
theorem tw_430 : Cond.methodLink "MailViews" 140 ⟨"MailViews$Criterion", "wipe", "()V"⟩ ∈ am_Tg := tg 430 (by decide +kernel) (by decide +kernel)
theorem tw_431 : Cond.instanceMethod ⟨"MailViews$Criterion", "wipe", "()V"⟩ ∈ am_Tg := tg 431 (by decide +kernel) (by decide +kernel)
theorem tw_432 : Cond.selects "MailViews$Criterion" ⟨"MailViews$Criterion", "wipe", "()V"⟩ ⟨"MailViews$Criterion", "wipe", "()V"⟩ ∈ am_Tg := tg 432 (by decide +kernel) (by decide +kernel)
theorem tw_433 : Cond.code ⟨"MailViews$Criterion", "wipe", "()V"⟩ prog_2_method_5_code 1 none ∈ am_Tg := tg 433 (by decide +kernel) (by decide +kernel)
theorem tw_434 : Cond.methodLink "MailViews" 143 ⟨"MailViews", "findHits", "(LMailViews$Session;LMailViews$Mailbox;)V"⟩ ∈ am_Tg := tg 434 (by decide +kernel) (by decide +kernel)
theorem tw_436 : Cond.instanceMethod ⟨"MailViews", "findHits", "(LMailViews$Session;LMailViews$Mailbox;)V"⟩ ∈ am_Tg := tg 436 (by decide +kernel) (by decide +kernel)
theorem tw_437 : Cond.code ⟨"MailViews", "findHits", "(LMailViews$Session;LMailViews$Mailbox;)V"⟩ prog_1_method_31_code 5 none ∈ am_Tg := tg 437 (by decide +kernel) (by decide +kernel)
theorem tw_438 : Cond.methodLink "MailViews" 209 ⟨"MailViews$Criterion", "isFulfilledBy", "(LMailViews$Mailbox;II)Z"⟩ ∈ am_Tg := tg 438 (by decide +kernel) (by decide +kernel)
theorem tw_439 : Cond.instanceMethod ⟨"MailViews$Criterion", "isFulfilledBy", "(LMailViews$Mailbox;II)Z"⟩ ∈ am_Tg := tg 439 (by decide +kernel) (by decide +kernel)
theorem tw_440 : Cond.selects "MailViews$Criterion" ⟨"MailViews$Criterion", "isFulfilledBy", "(LMailViews$Mailbox;II)Z"⟩ ⟨"MailViews$Criterion", "isFulfilledBy", "(LMailViews$Mailbox;II)Z"⟩ ∈ am_Tg := tg 440 (by decide +kernel) (by decide +kernel)
theorem tw_441 : Cond.code ⟨"MailViews$Criterion", "isFulfilledBy", "(LMailViews$Mailbox;II)Z"⟩ prog_2_method_8_code 5 (some FieldType.boolean) ∈ am_Tg := tg 441 (by decide +kernel) (by decide +kernel)
theorem tw_442 : Cond.methodLink "MailViews$Criterion" 37 ⟨"MailViews$Criterion", "leafHolds", "(ILMailViews$Mailbox;II)Z"⟩ ∈ am_Tg := tg 442 (by decide +kernel) (by decide +kernel)
theorem tw_444 : Cond.instanceMethod ⟨"MailViews$Criterion", "leafHolds", "(ILMailViews$Mailbox;II)Z"⟩ ∈ am_Tg := tg 444 (by decide +kernel) (by decide +kernel)
theorem tw_445 : Cond.code ⟨"MailViews$Criterion", "leafHolds", "(ILMailViews$Mailbox;II)Z"⟩ prog_2_method_10_code 5 (some FieldType.boolean) ∈ am_Tg := tg 445 (by decide +kernel) (by decide +kernel)
theorem tw_446 : Cond.methodLink "MailViews$Criterion" 58 ⟨"MailViews$Mailbox", "flagsAt", "(I)I"⟩ ∈ am_Tg := tg 446 (by decide +kernel) (by decide +kernel)
theorem tw_447 : Cond.methodLink "MailViews$Criterion" 63 ⟨"MailViews$Mailbox", "sizeAt", "(I)I"⟩ ∈ am_Tg := tg 447 (by decide +kernel) (by decide +kernel)
theorem tw_448 : Cond.methodLink "MailViews$Criterion" 66 ⟨"MailViews$Mailbox", "uidAt", "(I)I"⟩ ∈ am_Tg := tg 448 (by decide +kernel) (by decide +kernel)
theorem tw_449 : Cond.methodLink "MailViews$Criterion" 41 ⟨"MailViews$Criterion", "joinHolds", "(I)Z"⟩ ∈ am_Tg := tg 449 (by decide +kernel) (by decide +kernel)
theorem tw_451 : Cond.instanceMethod ⟨"MailViews$Criterion", "joinHolds", "(I)Z"⟩ ∈ am_Tg := tg 451 (by decide +kernel) (by decide +kernel)
theorem tw_452 : Cond.code ⟨"MailViews$Criterion", "joinHolds", "(I)Z"⟩ prog_2_method_11_code 4 (some FieldType.boolean) ∈ am_Tg := tg 452 (by decide +kernel) (by decide +kernel)
theorem tw_453 : Cond.methodLink "MailViews$Criterion" 69 ⟨"MailViews$Criterion", "holdsFrom", "(I)Z"⟩ ∈ am_Tg := tg 453 (by decide +kernel) (by decide +kernel)
theorem tw_455 : Cond.instanceMethod ⟨"MailViews$Criterion", "holdsFrom", "(I)Z"⟩ ∈ am_Tg := tg 455 (by decide +kernel) (by decide +kernel)
theorem tw_456 : Cond.code ⟨"MailViews$Criterion", "holdsFrom", "(I)Z"⟩ prog_2_method_14_code 2 (some FieldType.boolean) ∈ am_Tg := tg 456 (by decide +kernel) (by decide +kernel)
theorem tw_457 : Cond.methodLink "MailViewsLaw" 58 ⟨"MailViews", "found", "(I)I"⟩ ∈ am_Tg := tg 457 (by decide +kernel) (by decide +kernel)
theorem tw_458 : Cond.instanceMethod ⟨"MailViews", "found", "(I)I"⟩ ∈ am_Tg := tg 458 (by decide +kernel) (by decide +kernel)
theorem tw_459 : Cond.selects "MailViews" ⟨"MailViews", "found", "(I)I"⟩ ⟨"MailViews", "found", "(I)I"⟩ ∈ am_Tg := tg 459 (by decide +kernel) (by decide +kernel)
theorem tw_460 : Cond.code ⟨"MailViews", "found", "(I)I"⟩ prog_1_method_12_code 2 (some FieldType.int) ∈ am_Tg := tg 460 (by decide +kernel) (by decide +kernel)
theorem tw_461 : Cond.methodLink "MailViewsLaw" 62 ⟨"MailViews", "sync", "()I"⟩ ∈ am_Tg := tg 461 (by decide +kernel) (by decide +kernel)
theorem tw_462 : Cond.instanceMethod ⟨"MailViews", "sync", "()I"⟩ ∈ am_Tg := tg 462 (by decide +kernel) (by decide +kernel)
theorem tw_463 : Cond.selects "MailViews" ⟨"MailViews", "sync", "()I"⟩ ⟨"MailViews", "sync", "()I"⟩ ∈ am_Tg := tg 463 (by decide +kernel) (by decide +kernel)
theorem tw_464 : Cond.code ⟨"MailViews", "sync", "()I"⟩ prog_1_method_13_code 1 (some FieldType.int) ∈ am_Tg := tg 464 (by decide +kernel) (by decide +kernel)
theorem tw_465 : Cond.methodLink "MailViews" 147 ⟨"MailViews$Journal", "makeAllDurable", "()V"⟩ ∈ am_Tg := tg 465 (by decide +kernel) (by decide +kernel)
theorem tw_466 : Cond.methodLink "MailViews" 150 ⟨"MailViews$Journal", "changeCount", "()I"⟩ ∈ am_Tg := tg 466 (by decide +kernel) (by decide +kernel)
theorem tw_467 : Cond.instanceMethod ⟨"MailViews$Journal", "changeCount", "()I"⟩ ∈ am_Tg := tg 467 (by decide +kernel) (by decide +kernel)
theorem tw_468 : Cond.selects "MailViews$Journal" ⟨"MailViews$Journal", "changeCount", "()I"⟩ ⟨"MailViews$Journal", "changeCount", "()I"⟩ ∈ am_Tg := tg 468 (by decide +kernel) (by decide +kernel)
theorem tw_469 : Cond.code ⟨"MailViews$Journal", "changeCount", "()I"⟩ prog_3_method_2_code 1 (some FieldType.int) ∈ am_Tg := tg 469 (by decide +kernel) (by decide +kernel)
theorem tw_470 : Cond.methodLink "MailViewsLaw" 67 ⟨"MailViews", "crash", "()I"⟩ ∈ am_Tg := tg 470 (by decide +kernel) (by decide +kernel)
theorem tw_471 : Cond.instanceMethod ⟨"MailViews", "crash", "()I"⟩ ∈ am_Tg := tg 471 (by decide +kernel) (by decide +kernel)
theorem tw_472 : Cond.selects "MailViews" ⟨"MailViews", "crash", "()I"⟩ ⟨"MailViews", "crash", "()I"⟩ ∈ am_Tg := tg 472 (by decide +kernel) (by decide +kernel)
theorem tw_473 : Cond.code ⟨"MailViews", "crash", "()I"⟩ prog_1_method_14_code 2 (some FieldType.int) ∈ am_Tg := tg 473 (by decide +kernel) (by decide +kernel)
theorem tw_474 : Cond.methodLink "MailViews" 153 ⟨"MailViews$Journal", "hasOpenAdditionTo", "(I)Z"⟩ ∈ am_Tg := tg 474 (by decide +kernel) (by decide +kernel)
theorem tw_475 : Cond.instanceMethod ⟨"MailViews$Journal", "hasOpenAdditionTo", "(I)Z"⟩ ∈ am_Tg := tg 475 (by decide +kernel) (by decide +kernel)
theorem tw_476 : Cond.selects "MailViews$Journal" ⟨"MailViews$Journal", "hasOpenAdditionTo", "(I)Z"⟩ ⟨"MailViews$Journal", "hasOpenAdditionTo", "(I)Z"⟩ ∈ am_Tg := tg 476 (by decide +kernel) (by decide +kernel)
theorem tw_477 : Cond.code ⟨"MailViews$Journal", "hasOpenAdditionTo", "(I)Z"⟩ prog_3_method_8_code 3 (some FieldType.boolean) ∈ am_Tg := tg 477 (by decide +kernel) (by decide +kernel)
theorem tw_478 : Cond.methodLink "MailViews" 156 ⟨"MailViews$Mailbox", "growValidity", "()V"⟩ ∈ am_Tg := tg 478 (by decide +kernel) (by decide +kernel)
theorem tw_479 : Cond.instanceMethod ⟨"MailViews$Mailbox", "growValidity", "()V"⟩ ∈ am_Tg := tg 479 (by decide +kernel) (by decide +kernel)
theorem tw_480 : Cond.selects "MailViews$Mailbox" ⟨"MailViews$Mailbox", "growValidity", "()V"⟩ ⟨"MailViews$Mailbox", "growValidity", "()V"⟩ ∈ am_Tg := tg 480 (by decide +kernel) (by decide +kernel)
theorem tw_481 : Cond.code ⟨"MailViews$Mailbox", "growValidity", "()V"⟩ prog_4_method_6_code 1 none ∈ am_Tg := tg 481 (by decide +kernel) (by decide +kernel)
theorem tw_482 : Cond.methodLink "MailViews" 159 ⟨"MailViews$Journal", "takeBackAll", "([LMailViews$Mailbox;)V"⟩ ∈ am_Tg := tg 482 (by decide +kernel) (by decide +kernel)
theorem tw_483 : Cond.instanceMethod ⟨"MailViews$Journal", "takeBackAll", "([LMailViews$Mailbox;)V"⟩ ∈ am_Tg := tg 483 (by decide +kernel) (by decide +kernel)
theorem tw_484 : Cond.selects "MailViews$Journal" ⟨"MailViews$Journal", "takeBackAll", "([LMailViews$Mailbox;)V"⟩ ⟨"MailViews$Journal", "takeBackAll", "([LMailViews$Mailbox;)V"⟩ ∈ am_Tg := tg 484 (by decide +kernel) (by decide +kernel)
theorem tw_485 : Cond.code ⟨"MailViews$Journal", "takeBackAll", "([LMailViews$Mailbox;)V"⟩ prog_3_method_9_code 3 none ∈ am_Tg := tg 485 (by decide +kernel) (by decide +kernel)
theorem tw_486 : Cond.methodLink "MailViews$Journal" 36 ⟨"MailViews$Journal", "takeBack", "(ILMailViews$Mailbox;)V"⟩ ∈ am_Tg := tg 486 (by decide +kernel) (by decide +kernel)
theorem tw_488 : Cond.instanceMethod ⟨"MailViews$Journal", "takeBack", "(ILMailViews$Mailbox;)V"⟩ ∈ am_Tg := tg 488 (by decide +kernel) (by decide +kernel)
theorem tw_489 : Cond.code ⟨"MailViews$Journal", "takeBack", "(ILMailViews$Mailbox;)V"⟩ prog_3_method_10_code 3 none ∈ am_Tg := tg 489 (by decide +kernel) (by decide +kernel)
theorem tw_490 : Cond.methodLink "MailViews$Journal" 40 ⟨"MailViews$Mailbox", "takeBackAdded", "(I)V"⟩ ∈ am_Tg := tg 490 (by decide +kernel) (by decide +kernel)
theorem tw_491 : Cond.instanceMethod ⟨"MailViews$Mailbox", "takeBackAdded", "(I)V"⟩ ∈ am_Tg := tg 491 (by decide +kernel) (by decide +kernel)
theorem tw_492 : Cond.selects "MailViews$Mailbox" ⟨"MailViews$Mailbox", "takeBackAdded", "(I)V"⟩ ⟨"MailViews$Mailbox", "takeBackAdded", "(I)V"⟩ ∈ am_Tg := tg 492 (by decide +kernel) (by decide +kernel)
theorem tw_493 : Cond.code ⟨"MailViews$Mailbox", "takeBackAdded", "(I)V"⟩ prog_4_method_13_code 2 none ∈ am_Tg := tg 493 (by decide +kernel) (by decide +kernel)
theorem tw_494 : Cond.methodLink "MailViews$Mailbox" 35 ⟨"MailViews$Mailbox", "positionOf", "(I)I"⟩ ∈ am_Tg := tg 494 (by decide +kernel) (by decide +kernel)
theorem tw_495 : Cond.methodLink "MailViews$Mailbox" 39 ⟨"MailViews$Mailbox", "removeAt", "(I)V"⟩ ∈ am_Tg := tg 495 (by decide +kernel) (by decide +kernel)
theorem tw_496 : Cond.methodLink "MailViews$Journal" 46 ⟨"MailViews$Mailbox", "insert", "(III)V"⟩ ∈ am_Tg := tg 496 (by decide +kernel) (by decide +kernel)
theorem tw_497 : Cond.methodLink "MailViews$Journal" 50 ⟨"MailViews$Mailbox", "restoreFlags", "(II)V"⟩ ∈ am_Tg := tg 497 (by decide +kernel) (by decide +kernel)
theorem tw_498 : Cond.instanceMethod ⟨"MailViews$Mailbox", "restoreFlags", "(II)V"⟩ ∈ am_Tg := tg 498 (by decide +kernel) (by decide +kernel)
theorem tw_499 : Cond.selects "MailViews$Mailbox" ⟨"MailViews$Mailbox", "restoreFlags", "(II)V"⟩ ⟨"MailViews$Mailbox", "restoreFlags", "(II)V"⟩ ∈ am_Tg := tg 499 (by decide +kernel) (by decide +kernel)
theorem tw_500 : Cond.code ⟨"MailViews$Mailbox", "restoreFlags", "(II)V"⟩ prog_4_method_16_code 4 none ∈ am_Tg := tg 500 (by decide +kernel) (by decide +kernel)
theorem tw_501 : Cond.methodLink "MailViewsLaw" 71 ⟨"MailViews", "message", "(III)I"⟩ ∈ am_Tg := tg 501 (by decide +kernel) (by decide +kernel)
theorem tw_502 : Cond.instanceMethod ⟨"MailViews", "message", "(III)I"⟩ ∈ am_Tg := tg 502 (by decide +kernel) (by decide +kernel)
theorem tw_503 : Cond.selects "MailViews" ⟨"MailViews", "message", "(III)I"⟩ ⟨"MailViews", "message", "(III)I"⟩ ∈ am_Tg := tg 503 (by decide +kernel) (by decide +kernel)
theorem tw_504 : Cond.code ⟨"MailViews", "message", "(III)I"⟩ prog_1_method_15_code 4 (some FieldType.int) ∈ am_Tg := tg 504 (by decide +kernel) (by decide +kernel)
theorem tw_505 : Cond.methodLink "MailViewsLaw" 75 ⟨"MailViews", "seen", "(III)I"⟩ ∈ am_Tg := tg 505 (by decide +kernel) (by decide +kernel)
theorem tw_506 : Cond.instanceMethod ⟨"MailViews", "seen", "(III)I"⟩ ∈ am_Tg := tg 506 (by decide +kernel) (by decide +kernel)
theorem tw_507 : Cond.selects "MailViews" ⟨"MailViews", "seen", "(III)I"⟩ ⟨"MailViews", "seen", "(III)I"⟩ ∈ am_Tg := tg 507 (by decide +kernel) (by decide +kernel)
theorem tw_508 : Cond.code ⟨"MailViews", "seen", "(III)I"⟩ prog_1_method_16_code 4 (some FieldType.int) ∈ am_Tg := tg 508 (by decide +kernel) (by decide +kernel)
theorem tw_509 : Cond.methodLink "MailViews" 169 ⟨"MailViews$Session", "knownFlagsOf", "(I)I"⟩ ∈ am_Tg := tg 509 (by decide +kernel) (by decide +kernel)
theorem tw_510 : Cond.methodLink "MailViewsLaw" 79 ⟨"MailViews", "notice", "(III)I"⟩ ∈ am_Tg := tg 510 (by decide +kernel) (by decide +kernel)
theorem tw_511 : Cond.instanceMethod ⟨"MailViews", "notice", "(III)I"⟩ ∈ am_Tg := tg 511 (by decide +kernel) (by decide +kernel)
theorem tw_512 : Cond.selects "MailViews" ⟨"MailViews", "notice", "(III)I"⟩ ⟨"MailViews", "notice", "(III)I"⟩ ∈ am_Tg := tg 512 (by decide +kernel) (by decide +kernel)
theorem tw_513 : Cond.code ⟨"MailViews", "notice", "(III)I"⟩ prog_1_method_17_code 4 (some FieldType.int) ∈ am_Tg := tg 513 (by decide +kernel) (by decide +kernel)
theorem tw_514 : Cond.methodLink "MailViews" 172 ⟨"MailViews$Session", "noticeKindAt", "(I)I"⟩ ∈ am_Tg := tg 514 (by decide +kernel) (by decide +kernel)
theorem tw_515 : Cond.instanceMethod ⟨"MailViews$Session", "noticeKindAt", "(I)I"⟩ ∈ am_Tg := tg 515 (by decide +kernel) (by decide +kernel)
theorem tw_516 : Cond.selects "MailViews$Session" ⟨"MailViews$Session", "noticeKindAt", "(I)I"⟩ ⟨"MailViews$Session", "noticeKindAt", "(I)I"⟩ ∈ am_Tg := tg 516 (by decide +kernel) (by decide +kernel)
theorem tw_517 : Cond.code ⟨"MailViews$Session", "noticeKindAt", "(I)I"⟩ prog_5_method_11_code 2 (some FieldType.int) ∈ am_Tg := tg 517 (by decide +kernel) (by decide +kernel)
theorem tw_518 : Cond.methodLink "MailViews" 175 ⟨"MailViews$Session", "noticeNumberAt", "(I)I"⟩ ∈ am_Tg := tg 518 (by decide +kernel) (by decide +kernel)
theorem tw_519 : Cond.instanceMethod ⟨"MailViews$Session", "noticeNumberAt", "(I)I"⟩ ∈ am_Tg := tg 519 (by decide +kernel) (by decide +kernel)
theorem tw_520 : Cond.selects "MailViews$Session" ⟨"MailViews$Session", "noticeNumberAt", "(I)I"⟩ ⟨"MailViews$Session", "noticeNumberAt", "(I)I"⟩ ∈ am_Tg := tg 520 (by decide +kernel) (by decide +kernel)
theorem tw_521 : Cond.code ⟨"MailViews$Session", "noticeNumberAt", "(I)I"⟩ prog_5_method_12_code 2 (some FieldType.int) ∈ am_Tg := tg 521 (by decide +kernel) (by decide +kernel)
theorem tw_522 : Cond.methodLink "MailViewsLaw" 83 ⟨"MailViews", "mailbox", "(II)I"⟩ ∈ am_Tg := tg 522 (by decide +kernel) (by decide +kernel)
theorem tw_523 : Cond.instanceMethod ⟨"MailViews", "mailbox", "(II)I"⟩ ∈ am_Tg := tg 523 (by decide +kernel) (by decide +kernel)
theorem tw_524 : Cond.selects "MailViews" ⟨"MailViews", "mailbox", "(II)I"⟩ ⟨"MailViews", "mailbox", "(II)I"⟩ ∈ am_Tg := tg 524 (by decide +kernel) (by decide +kernel)
theorem tw_525 : Cond.code ⟨"MailViews", "mailbox", "(II)I"⟩ prog_1_method_18_code 3 (some FieldType.int) ∈ am_Tg := tg 525 (by decide +kernel) (by decide +kernel)
theorem tw_526 : Cond.methodLink "MailViews" 178 ⟨"MailViews$Mailbox", "nextUid", "()I"⟩ ∈ am_Tg := tg 526 (by decide +kernel) (by decide +kernel)
theorem tw_527 : Cond.instanceMethod ⟨"MailViews$Mailbox", "nextUid", "()I"⟩ ∈ am_Tg := tg 527 (by decide +kernel) (by decide +kernel)
theorem tw_528 : Cond.selects "MailViews$Mailbox" ⟨"MailViews$Mailbox", "nextUid", "()I"⟩ ⟨"MailViews$Mailbox", "nextUid", "()I"⟩ ∈ am_Tg := tg 528 (by decide +kernel) (by decide +kernel)
theorem tw_529 : Cond.code ⟨"MailViews$Mailbox", "nextUid", "()I"⟩ prog_4_method_4_code 1 (some FieldType.int) ∈ am_Tg := tg 529 (by decide +kernel) (by decide +kernel)
theorem tw_530 : Cond.methodLink "MailViews" 181 ⟨"MailViews$Mailbox", "validity", "()I"⟩ ∈ am_Tg := tg 530 (by decide +kernel) (by decide +kernel)
theorem tw_531 : Cond.instanceMethod ⟨"MailViews$Mailbox", "validity", "()I"⟩ ∈ am_Tg := tg 531 (by decide +kernel) (by decide +kernel)
theorem tw_532 : Cond.selects "MailViews$Mailbox" ⟨"MailViews$Mailbox", "validity", "()I"⟩ ⟨"MailViews$Mailbox", "validity", "()I"⟩ ∈ am_Tg := tg 532 (by decide +kernel) (by decide +kernel)
theorem tw_533 : Cond.code ⟨"MailViews$Mailbox", "validity", "()I"⟩ prog_4_method_5_code 1 (some FieldType.int) ∈ am_Tg := tg 533 (by decide +kernel) (by decide +kernel)
theorem tw_534 : Cond.methodLink "MailViews" 184 ⟨"MailViews", "sessionsWith", "(I)I"⟩ ∈ am_Tg := tg 534 (by decide +kernel) (by decide +kernel)
theorem tw_536 : Cond.instanceMethod ⟨"MailViews", "sessionsWith", "(I)I"⟩ ∈ am_Tg := tg 536 (by decide +kernel) (by decide +kernel)
theorem tw_537 : Cond.code ⟨"MailViews", "sessionsWith", "(I)I"⟩ prog_1_method_26_code 4 (some FieldType.int) ∈ am_Tg := tg 537 (by decide +kernel) (by decide +kernel)
theorem tw_538 : Cond.methodLink "MailViewsLaw" 87 ⟨"MailViews", "count", "(I)I"⟩ ∈ am_Tg := tg 538 (by decide +kernel) (by decide +kernel)
theorem tw_539 : Cond.instanceMethod ⟨"MailViews", "count", "(I)I"⟩ ∈ am_Tg := tg 539 (by decide +kernel) (by decide +kernel)
theorem tw_540 : Cond.selects "MailViews" ⟨"MailViews", "count", "(I)I"⟩ ⟨"MailViews", "count", "(I)I"⟩ ∈ am_Tg := tg 540 (by decide +kernel) (by decide +kernel)
theorem tw_541 : Cond.code ⟨"MailViews", "count", "(I)I"⟩ prog_1_method_19_code 2 (some FieldType.int) ∈ am_Tg := tg 541 (by decide +kernel) (by decide +kernel)
theorem tw_542 : Cond.methodLink "MailViews" 187 ⟨"MailViews$Journal", "durableCount", "()I"⟩ ∈ am_Tg := tg 542 (by decide +kernel) (by decide +kernel)
theorem tw_543 : Cond.instanceMethod ⟨"MailViews$Journal", "durableCount", "()I"⟩ ∈ am_Tg := tg 543 (by decide +kernel) (by decide +kernel)
theorem tw_544 : Cond.selects "MailViews$Journal" ⟨"MailViews$Journal", "durableCount", "()I"⟩ ⟨"MailViews$Journal", "durableCount", "()I"⟩ ∈ am_Tg := tg 544 (by decide +kernel) (by decide +kernel)
theorem tw_545 : Cond.code ⟨"MailViews$Journal", "durableCount", "()I"⟩ prog_3_method_3_code 1 (some FieldType.int) ∈ am_Tg := tg 545 (by decide +kernel) (by decide +kernel)
theorem tw_546 : Cond.classLink "MailViewsLaw" 10 "MailViewsModel" ∈ am_Tg := tg 546 (by decide +kernel) (by decide +kernel)
theorem tw_547 : Cond.instantiable "MailViewsModel" 21 ∈ am_Tg := tg 547 (by decide +kernel) (by decide +kernel)
theorem tw_548 : Cond.methodLink "MailViewsLaw" 12 ⟨"MailViewsModel", "<init>", "()V"⟩ ∈ am_Tg := tg 548 (by decide +kernel) (by decide +kernel)
theorem tw_549 : Cond.instanceMethod ⟨"MailViewsModel", "<init>", "()V"⟩ ∈ am_Tg := tg 549 (by decide +kernel) (by decide +kernel)
theorem tw_550 : Cond.code ⟨"MailViewsModel", "<init>", "()V"⟩ prog_7_method_1_code 2 none ∈ am_Tg := tg 550 (by decide +kernel) (by decide +kernel)
theorem tw_551 : Cond.methodLink "MailViewsModel" 1 ⟨"java/lang/Object", "<init>", "()V"⟩ ∈ am_Tg := tg 551 (by decide +kernel) (by decide +kernel)
theorem tw_552 : Cond.fieldLink "MailViewsModel" 66 "MailViewsModel" "changes" "I" ∈ am_Tg := tg 552 (by decide +kernel) (by decide +kernel)
theorem tw_553 : Cond.fieldLink "MailViewsModel" 74 "MailViewsModel" "durable" "I" ∈ am_Tg := tg 553 (by decide +kernel) (by decide +kernel)
theorem tw_554 : Cond.fieldLink "MailViewsModel" 7 "MailViewsModel" "change" "[I" ∈ am_Tg := tg 554 (by decide +kernel) (by decide +kernel)
theorem tw_555 : Cond.fieldLink "MailViewsModel" 13 "MailViewsModel" "many" "[I" ∈ am_Tg := tg 555 (by decide +kernel) (by decide +kernel)
theorem tw_556 : Cond.fieldLink "MailViewsModel" 16 "MailViewsModel" "message" "[I" ∈ am_Tg := tg 556 (by decide +kernel) (by decide +kernel)
theorem tw_557 : Cond.fieldLink "MailViewsModel" 19 "MailViewsModel" "next" "[I" ∈ am_Tg := tg 557 (by decide +kernel) (by decide +kernel)
theorem tw_558 : Cond.fieldLink "MailViewsModel" 22 "MailViewsModel" "validity" "[I" ∈ am_Tg := tg 558 (by decide +kernel) (by decide +kernel)
theorem tw_559 : Cond.fieldLink "MailViewsModel" 25 "MailViewsModel" "box" "[I" ∈ am_Tg := tg 559 (by decide +kernel) (by decide +kernel)
theorem tw_560 : Cond.fieldLink "MailViewsModel" 28 "MailViewsModel" "readOnly" "[Z" ∈ am_Tg := tg 560 (by decide +kernel) (by decide +kernel)
theorem tw_561 : Cond.fieldLink "MailViewsModel" 32 "MailViewsModel" "length" "[I" ∈ am_Tg := tg 561 (by decide +kernel) (by decide +kernel)
theorem tw_562 : Cond.fieldLink "MailViewsModel" 35 "MailViewsModel" "uid" "[I" ∈ am_Tg := tg 562 (by decide +kernel) (by decide +kernel)
theorem tw_563 : Cond.fieldLink "MailViewsModel" 38 "MailViewsModel" "known" "[I" ∈ am_Tg := tg 563 (by decide +kernel) (by decide +kernel)
theorem tw_564 : Cond.fieldLink "MailViewsModel" 41 "MailViewsModel" "top" "[I" ∈ am_Tg := tg 564 (by decide +kernel) (by decide +kernel)
theorem tw_565 : Cond.fieldLink "MailViewsModel" 44 "MailViewsModel" "told" "[I" ∈ am_Tg := tg 565 (by decide +kernel) (by decide +kernel)
theorem tw_566 : Cond.fieldLink "MailViewsModel" 47 "MailViewsModel" "notice" "[I" ∈ am_Tg := tg 566 (by decide +kernel) (by decide +kernel)
theorem tw_567 : Cond.fieldLink "MailViewsModel" 125 "MailViewsModel" "tokens" "I" ∈ am_Tg := tg 567 (by decide +kernel) (by decide +kernel)
theorem tw_568 : Cond.fieldLink "MailViewsModel" 50 "MailViewsModel" "token" "[I" ∈ am_Tg := tg 568 (by decide +kernel) (by decide +kernel)
theorem tw_569 : Cond.fieldLink "MailViewsModel" 138 "MailViewsModel" "found" "I" ∈ am_Tg := tg 569 (by decide +kernel) (by decide +kernel)
theorem tw_570 : Cond.fieldLink "MailViewsModel" 53 "MailViewsModel" "numbers" "[I" ∈ am_Tg := tg 570 (by decide +kernel) (by decide +kernel)
theorem tw_571 : Cond.fieldLink "MailViewsModel" 56 "MailViewsModel" "stack" "[Z" ∈ am_Tg := tg 571 (by decide +kernel) (by decide +kernel)
theorem tw_572 : Cond.fieldLink "MailViewsModel" 59 "MailViewsModel" "open" "[I" ∈ am_Tg := tg 572 (by decide +kernel) (by decide +kernel)
theorem tw_616 : Cond.methodLink "MailViewsLaw" 17 ⟨"MailViewsModel", "append", "(III)I"⟩ ∈ am_Tg := tg 616 (by decide +kernel) (by decide +kernel)
theorem tw_617 : Cond.instanceMethod ⟨"MailViewsModel", "append", "(III)I"⟩ ∈ am_Tg := tg 617 (by decide +kernel) (by decide +kernel)
theorem tw_618 : Cond.selects "MailViewsModel" ⟨"MailViewsModel", "append", "(III)I"⟩ ⟨"MailViewsModel", "append", "(III)I"⟩ ∈ am_Tg := tg 618 (by decide +kernel) (by decide +kernel)
theorem tw_619 : Cond.code ⟨"MailViewsModel", "append", "(III)I"⟩ prog_7_method_9_code 4 (some FieldType.int) ∈ am_Tg := tg 619 (by decide +kernel) (by decide +kernel)
theorem tw_620 : Cond.methodLink "MailViewsModel" 81 ⟨"MailViewsModel", "in", "(III)Z"⟩ ∈ am_Tg := tg 620 (by decide +kernel) (by decide +kernel)
theorem tw_621 : Cond.static ⟨"MailViewsModel", "in", "(III)Z"⟩ ∈ am_Tg := tg 621 (by decide +kernel) (by decide +kernel)
theorem tw_622 : Cond.code ⟨"MailViewsModel", "in", "(III)Z"⟩ prog_7_method_2_code 3 (some FieldType.boolean) ∈ am_Tg := tg 622 (by decide +kernel) (by decide +kernel)
theorem tw_623 : Cond.methodLink "MailViewsModel" 85 ⟨"MailViewsModel", "add", "(III)I"⟩ ∈ am_Tg := tg 623 (by decide +kernel) (by decide +kernel)
theorem tw_625 : Cond.instanceMethod ⟨"MailViewsModel", "add", "(III)I"⟩ ∈ am_Tg := tg 625 (by decide +kernel) (by decide +kernel)
theorem tw_626 : Cond.code ⟨"MailViewsModel", "add", "(III)I"⟩ prog_7_method_7_code 4 (some FieldType.int) ∈ am_Tg := tg 626 (by decide +kernel) (by decide +kernel)
theorem tw_627 : Cond.methodLink "MailViewsModel" 77 ⟨"MailViewsModel", "note", "(IIIII)V"⟩ ∈ am_Tg := tg 627 (by decide +kernel) (by decide +kernel)
theorem tw_629 : Cond.instanceMethod ⟨"MailViewsModel", "note", "(IIIII)V"⟩ ∈ am_Tg := tg 629 (by decide +kernel) (by decide +kernel)
theorem tw_630 : Cond.code ⟨"MailViewsModel", "note", "(IIIII)V"⟩ prog_7_method_6_code 7 none ∈ am_Tg := tg 630 (by decide +kernel) (by decide +kernel)
theorem tw_631 : Cond.methodLink "MailViewsModel" 70 ⟨"MailViewsModel", "apply", "(I)V"⟩ ∈ am_Tg := tg 631 (by decide +kernel) (by decide +kernel)
theorem tw_633 : Cond.instanceMethod ⟨"MailViewsModel", "apply", "(I)V"⟩ ∈ am_Tg := tg 633 (by decide +kernel) (by decide +kernel)
theorem tw_634 : Cond.code ⟨"MailViewsModel", "apply", "(I)V"⟩ prog_7_method_5_code 7 none ∈ am_Tg := tg 634 (by decide +kernel) (by decide +kernel)
theorem tw_635 : Cond.methodLink "MailViewsModel" 62 ⟨"MailViewsModel", "place", "(II)I"⟩ ∈ am_Tg := tg 635 (by decide +kernel) (by decide +kernel)
theorem tw_637 : Cond.instanceMethod ⟨"MailViewsModel", "place", "(II)I"⟩ ∈ am_Tg := tg 637 (by decide +kernel) (by decide +kernel)
theorem tw_638 : Cond.code ⟨"MailViewsModel", "place", "(II)I"⟩ prog_7_method_3_code 4 (some FieldType.int) ∈ am_Tg := tg 638 (by decide +kernel) (by decide +kernel)
theorem tw_639 : Cond.methodLink "MailViewsLaw" 22 ⟨"MailViewsModel", "select", "(IIZ)I"⟩ ∈ am_Tg := tg 639 (by decide +kernel) (by decide +kernel)
theorem tw_640 : Cond.instanceMethod ⟨"MailViewsModel", "select", "(IIZ)I"⟩ ∈ am_Tg := tg 640 (by decide +kernel) (by decide +kernel)
theorem tw_641 : Cond.selects "MailViewsModel" ⟨"MailViewsModel", "select", "(IIZ)I"⟩ ⟨"MailViewsModel", "select", "(IIZ)I"⟩ ∈ am_Tg := tg 641 (by decide +kernel) (by decide +kernel)
theorem tw_642 : Cond.code ⟨"MailViewsModel", "select", "(IIZ)I"⟩ prog_7_method_18_code 4 (some FieldType.int) ∈ am_Tg := tg 642 (by decide +kernel) (by decide +kernel)
theorem tw_643 : Cond.methodLink "MailViewsModel" 108 ⟨"MailViewsModel", "gather", "(I)I"⟩ ∈ am_Tg := tg 643 (by decide +kernel) (by decide +kernel)
theorem tw_645 : Cond.instanceMethod ⟨"MailViewsModel", "gather", "(I)I"⟩ ∈ am_Tg := tg 645 (by decide +kernel) (by decide +kernel)
theorem tw_646 : Cond.code ⟨"MailViewsModel", "gather", "(I)I"⟩ prog_7_method_16_code 6 (some FieldType.int) ∈ am_Tg := tg 646 (by decide +kernel) (by decide +kernel)
theorem tw_647 : Cond.methodLink "MailViewsLaw" 27 ⟨"MailViewsModel", "close", "(I)I"⟩ ∈ am_Tg := tg 647 (by decide +kernel) (by decide +kernel)
theorem tw_648 : Cond.instanceMethod ⟨"MailViewsModel", "close", "(I)I"⟩ ∈ am_Tg := tg 648 (by decide +kernel) (by decide +kernel)
theorem tw_649 : Cond.selects "MailViewsModel" ⟨"MailViewsModel", "close", "(I)I"⟩ ⟨"MailViewsModel", "close", "(I)I"⟩ ∈ am_Tg := tg 649 (by decide +kernel) (by decide +kernel)
theorem tw_650 : Cond.code ⟨"MailViewsModel", "close", "(I)I"⟩ prog_7_method_19_code 3 (some FieldType.int) ∈ am_Tg := tg 650 (by decide +kernel) (by decide +kernel)
theorem tw_651 : Cond.methodLink "MailViewsModel" 89 ⟨"MailViewsModel", "none", "(I)Z"⟩ ∈ am_Tg := tg 651 (by decide +kernel) (by decide +kernel)
theorem tw_653 : Cond.instanceMethod ⟨"MailViewsModel", "none", "(I)Z"⟩ ∈ am_Tg := tg 653 (by decide +kernel) (by decide +kernel)
theorem tw_654 : Cond.code ⟨"MailViewsModel", "none", "(I)Z"⟩ prog_7_method_10_code 2 (some FieldType.boolean) ∈ am_Tg := tg 654 (by decide +kernel) (by decide +kernel)
theorem tw_655 : Cond.methodLink "MailViewsModel" 115 ⟨"MailViewsModel", "purge", "(I)I"⟩ ∈ am_Tg := tg 655 (by decide +kernel) (by decide +kernel)
theorem tw_657 : Cond.instanceMethod ⟨"MailViewsModel", "purge", "(I)I"⟩ ∈ am_Tg := tg 657 (by decide +kernel) (by decide +kernel)
theorem tw_658 : Cond.code ⟨"MailViewsModel", "purge", "(I)I"⟩ prog_7_method_8_code 4 (some FieldType.int) ∈ am_Tg := tg 658 (by decide +kernel) (by decide +kernel)
theorem tw_659 : Cond.methodLink "MailViewsLaw" 31 ⟨"MailViewsModel", "check", "(I)I"⟩ ∈ am_Tg := tg 659 (by decide +kernel) (by decide +kernel)
theorem tw_660 : Cond.instanceMethod ⟨"MailViewsModel", "check", "(I)I"⟩ ∈ am_Tg := tg 660 (by decide +kernel) (by decide +kernel)
theorem tw_661 : Cond.selects "MailViewsModel" ⟨"MailViewsModel", "check", "(I)I"⟩ ⟨"MailViewsModel", "check", "(I)I"⟩ ∈ am_Tg := tg 661 (by decide +kernel) (by decide +kernel)
theorem tw_662 : Cond.code ⟨"MailViewsModel", "check", "(I)I"⟩ prog_7_method_20_code 2 (some FieldType.int) ∈ am_Tg := tg 662 (by decide +kernel) (by decide +kernel)
theorem tw_663 : Cond.methodLink "MailViewsModel" 118 ⟨"MailViewsModel", "update", "(IZ)V"⟩ ∈ am_Tg := tg 663 (by decide +kernel) (by decide +kernel)
theorem tw_665 : Cond.instanceMethod ⟨"MailViewsModel", "update", "(IZ)V"⟩ ∈ am_Tg := tg 665 (by decide +kernel) (by decide +kernel)
theorem tw_666 : Cond.code ⟨"MailViewsModel", "update", "(IZ)V"⟩ prog_7_method_17_code 6 none ∈ am_Tg := tg 666 (by decide +kernel) (by decide +kernel)
theorem tw_667 : Cond.methodLink "MailViewsModel" 96 ⟨"MailViewsModel", "gone", "(II)Z"⟩ ∈ am_Tg := tg 667 (by decide +kernel) (by decide +kernel)
theorem tw_669 : Cond.instanceMethod ⟨"MailViewsModel", "gone", "(II)Z"⟩ ∈ am_Tg := tg 669 (by decide +kernel) (by decide +kernel)
theorem tw_670 : Cond.code ⟨"MailViewsModel", "gone", "(II)Z"⟩ prog_7_method_13_code 3 (some FieldType.boolean) ∈ am_Tg := tg 670 (by decide +kernel) (by decide +kernel)
theorem tw_671 : Cond.methodLink "MailViewsModel" 93 ⟨"MailViewsModel", "uidOf", "(II)I"⟩ ∈ am_Tg := tg 671 (by decide +kernel) (by decide +kernel)
theorem tw_673 : Cond.instanceMethod ⟨"MailViewsModel", "uidOf", "(II)I"⟩ ∈ am_Tg := tg 673 (by decide +kernel) (by decide +kernel)
theorem tw_674 : Cond.code ⟨"MailViewsModel", "uidOf", "(II)I"⟩ prog_7_method_12_code 3 (some FieldType.int) ∈ am_Tg := tg 674 (by decide +kernel) (by decide +kernel)
theorem tw_675 : Cond.methodLink "MailViewsModel" 100 ⟨"MailViewsModel", "leave", "(II)V"⟩ ∈ am_Tg := tg 675 (by decide +kernel) (by decide +kernel)
theorem tw_677 : Cond.instanceMethod ⟨"MailViewsModel", "leave", "(II)V"⟩ ∈ am_Tg := tg 677 (by decide +kernel) (by decide +kernel)
theorem tw_678 : Cond.code ⟨"MailViewsModel", "leave", "(II)V"⟩ prog_7_method_15_code 4 none ∈ am_Tg := tg 678 (by decide +kernel) (by decide +kernel)
theorem tw_679 : Cond.methodLink "MailViewsModel" 104 ⟨"MailViewsModel", "tell", "(III)V"⟩ ∈ am_Tg := tg 679 (by decide +kernel) (by decide +kernel)
theorem tw_681 : Cond.instanceMethod ⟨"MailViewsModel", "tell", "(III)V"⟩ ∈ am_Tg := tg 681 (by decide +kernel) (by decide +kernel)
theorem tw_682 : Cond.code ⟨"MailViewsModel", "tell", "(III)V"⟩ prog_7_method_14_code 4 none ∈ am_Tg := tg 682 (by decide +kernel) (by decide +kernel)
theorem tw_683 : Cond.methodLink "MailViewsModel" 112 ⟨"MailViewsModel", "flagsOf", "(II)I"⟩ ∈ am_Tg := tg 683 (by decide +kernel) (by decide +kernel)
theorem tw_685 : Cond.instanceMethod ⟨"MailViewsModel", "flagsOf", "(II)I"⟩ ∈ am_Tg := tg 685 (by decide +kernel) (by decide +kernel)
theorem tw_686 : Cond.code ⟨"MailViewsModel", "flagsOf", "(II)I"⟩ prog_7_method_4_code 3 (some FieldType.int) ∈ am_Tg := tg 686 (by decide +kernel) (by decide +kernel)
theorem tw_687 : Cond.methodLink "MailViewsLaw" 36 ⟨"MailViewsModel", "fetch", "(II)I"⟩ ∈ am_Tg := tg 687 (by decide +kernel) (by decide +kernel)
theorem tw_688 : Cond.instanceMethod ⟨"MailViewsModel", "fetch", "(II)I"⟩ ∈ am_Tg := tg 688 (by decide +kernel) (by decide +kernel)
theorem tw_689 : Cond.selects "MailViewsModel" ⟨"MailViewsModel", "fetch", "(II)I"⟩ ⟨"MailViewsModel", "fetch", "(II)I"⟩ ∈ am_Tg := tg 689 (by decide +kernel) (by decide +kernel)
theorem tw_690 : Cond.code ⟨"MailViewsModel", "fetch", "(II)I"⟩ prog_7_method_21_code 4 (some FieldType.int) ∈ am_Tg := tg 690 (by decide +kernel) (by decide +kernel)
theorem tw_691 : Cond.methodLink "MailViewsModel" 122 ⟨"MailViewsModel", "bad", "(II)Z"⟩ ∈ am_Tg := tg 691 (by decide +kernel) (by decide +kernel)
theorem tw_693 : Cond.instanceMethod ⟨"MailViewsModel", "bad", "(II)Z"⟩ ∈ am_Tg := tg 693 (by decide +kernel) (by decide +kernel)
theorem tw_694 : Cond.code ⟨"MailViewsModel", "bad", "(II)Z"⟩ prog_7_method_11_code 3 (some FieldType.boolean) ∈ am_Tg := tg 694 (by decide +kernel) (by decide +kernel)
theorem tw_695 : Cond.methodLink "MailViewsLaw" 41 ⟨"MailViewsModel", "store", "(IIII)I"⟩ ∈ am_Tg := tg 695 (by decide +kernel) (by decide +kernel)
theorem tw_696 : Cond.instanceMethod ⟨"MailViewsModel", "store", "(IIII)I"⟩ ∈ am_Tg := tg 696 (by decide +kernel) (by decide +kernel)
theorem tw_697 : Cond.selects "MailViewsModel" ⟨"MailViewsModel", "store", "(IIII)I"⟩ ⟨"MailViewsModel", "store", "(IIII)I"⟩ ∈ am_Tg := tg 697 (by decide +kernel) (by decide +kernel)
theorem tw_698 : Cond.code ⟨"MailViewsModel", "store", "(IIII)I"⟩ prog_7_method_22_code 8 (some FieldType.int) ∈ am_Tg := tg 698 (by decide +kernel) (by decide +kernel)
theorem tw_699 : Cond.methodLink "MailViewsLaw" 45 ⟨"MailViewsModel", "expunge", "(I)I"⟩ ∈ am_Tg := tg 699 (by decide +kernel) (by decide +kernel)
theorem tw_700 : Cond.instanceMethod ⟨"MailViewsModel", "expunge", "(I)I"⟩ ∈ am_Tg := tg 700 (by decide +kernel) (by decide +kernel)
theorem tw_701 : Cond.selects "MailViewsModel" ⟨"MailViewsModel", "expunge", "(I)I"⟩ ⟨"MailViewsModel", "expunge", "(I)I"⟩ ∈ am_Tg := tg 701 (by decide +kernel) (by decide +kernel)
theorem tw_702 : Cond.code ⟨"MailViewsModel", "expunge", "(I)I"⟩ prog_7_method_23_code 3 (some FieldType.int) ∈ am_Tg := tg 702 (by decide +kernel) (by decide +kernel)
theorem tw_703 : Cond.methodLink "MailViewsLaw" 49 ⟨"MailViewsModel", "copy", "(III)I"⟩ ∈ am_Tg := tg 703 (by decide +kernel) (by decide +kernel)
theorem tw_704 : Cond.instanceMethod ⟨"MailViewsModel", "copy", "(III)I"⟩ ∈ am_Tg := tg 704 (by decide +kernel) (by decide +kernel)
theorem tw_705 : Cond.selects "MailViewsModel" ⟨"MailViewsModel", "copy", "(III)I"⟩ ⟨"MailViewsModel", "copy", "(III)I"⟩ ∈ am_Tg := tg 705 (by decide +kernel) (by decide +kernel)
theorem tw_706 : Cond.code ⟨"MailViewsModel", "copy", "(III)I"⟩ prog_7_method_24_code 6 (some FieldType.int) ∈ am_Tg := tg 706 (by decide +kernel) (by decide +kernel)
theorem tw_707 : Cond.methodLink "MailViewsLaw" 53 ⟨"MailViewsModel", "criterion", "(III)I"⟩ ∈ am_Tg := tg 707 (by decide +kernel) (by decide +kernel)
theorem tw_708 : Cond.instanceMethod ⟨"MailViewsModel", "criterion", "(III)I"⟩ ∈ am_Tg := tg 708 (by decide +kernel) (by decide +kernel)
theorem tw_709 : Cond.selects "MailViewsModel" ⟨"MailViewsModel", "criterion", "(III)I"⟩ ⟨"MailViewsModel", "criterion", "(III)I"⟩ ∈ am_Tg := tg 709 (by decide +kernel) (by decide +kernel)
theorem tw_710 : Cond.code ⟨"MailViewsModel", "criterion", "(III)I"⟩ prog_7_method_25_code 4 (some FieldType.int) ∈ am_Tg := tg 710 (by decide +kernel) (by decide +kernel)
theorem tw_711 : Cond.methodLink "MailViewsLaw" 57 ⟨"MailViewsModel", "search", "(I)I"⟩ ∈ am_Tg := tg 711 (by decide +kernel) (by decide +kernel)
theorem tw_712 : Cond.instanceMethod ⟨"MailViewsModel", "search", "(I)I"⟩ ∈ am_Tg := tg 712 (by decide +kernel) (by decide +kernel)
theorem tw_713 : Cond.selects "MailViewsModel" ⟨"MailViewsModel", "search", "(I)I"⟩ ⟨"MailViewsModel", "search", "(I)I"⟩ ∈ am_Tg := tg 713 (by decide +kernel) (by decide +kernel)
theorem tw_714 : Cond.code ⟨"MailViewsModel", "search", "(I)I"⟩ prog_7_method_30_code 4 (some FieldType.int) ∈ am_Tg := tg 714 (by decide +kernel) (by decide +kernel)
theorem tw_715 : Cond.methodLink "MailViewsModel" 134 ⟨"MailViewsModel", "good", "()Z"⟩ ∈ am_Tg := tg 715 (by decide +kernel) (by decide +kernel)
theorem tw_717 : Cond.instanceMethod ⟨"MailViewsModel", "good", "()Z"⟩ ∈ am_Tg := tg 717 (by decide +kernel) (by decide +kernel)
theorem tw_718 : Cond.code ⟨"MailViewsModel", "good", "()Z"⟩ prog_7_method_27_code 3 (some FieldType.boolean) ∈ am_Tg := tg 718 (by decide +kernel) (by decide +kernel)
theorem tw_719 : Cond.methodLink "MailViewsModel" 128 ⟨"MailViewsModel", "parts", "(I)I"⟩ ∈ am_Tg := tg 719 (by decide +kernel) (by decide +kernel)
theorem tw_721 : Cond.instanceMethod ⟨"MailViewsModel", "parts", "(I)I"⟩ ∈ am_Tg := tg 721 (by decide +kernel) (by decide +kernel)
theorem tw_722 : Cond.code ⟨"MailViewsModel", "parts", "(I)I"⟩ prog_7_method_26_code 3 (some FieldType.int) ∈ am_Tg := tg 722 (by decide +kernel) (by decide +kernel)
theorem tw_723 : Cond.methodLink "MailViewsModel" 141 ⟨"MailViewsModel", "fulfils", "(II)Z"⟩ ∈ am_Tg := tg 723 (by decide +kernel) (by decide +kernel)
theorem tw_725 : Cond.instanceMethod ⟨"MailViewsModel", "fulfils", "(II)Z"⟩ ∈ am_Tg := tg 725 (by decide +kernel) (by decide +kernel)
theorem tw_726 : Cond.code ⟨"MailViewsModel", "fulfils", "(II)Z"⟩ prog_7_method_29_code 8 (some FieldType.boolean) ∈ am_Tg := tg 726 (by decide +kernel) (by decide +kernel)
theorem tw_727 : Cond.methodLink "MailViewsModel" 131 ⟨"MailViewsModel", "leaf", "(III)Z"⟩ ∈ am_Tg := tg 727 (by decide +kernel) (by decide +kernel)
theorem tw_729 : Cond.instanceMethod ⟨"MailViewsModel", "leaf", "(III)Z"⟩ ∈ am_Tg := tg 729 (by decide +kernel) (by decide +kernel)
theorem tw_730 : Cond.code ⟨"MailViewsModel", "leaf", "(III)Z"⟩ prog_7_method_28_code 9 (some FieldType.boolean) ∈ am_Tg := tg 730 (by decide +kernel) (by decide +kernel)
theorem tw_731 : Cond.methodLink "MailViewsLaw" 61 ⟨"MailViewsModel", "found", "(I)I"⟩ ∈ am_Tg := tg 731 (by decide +kernel) (by decide +kernel)
theorem tw_732 : Cond.instanceMethod ⟨"MailViewsModel", "found", "(I)I"⟩ ∈ am_Tg := tg 732 (by decide +kernel) (by decide +kernel)
theorem tw_733 : Cond.selects "MailViewsModel" ⟨"MailViewsModel", "found", "(I)I"⟩ ⟨"MailViewsModel", "found", "(I)I"⟩ ∈ am_Tg := tg 733 (by decide +kernel) (by decide +kernel)
theorem tw_734 : Cond.code ⟨"MailViewsModel", "found", "(I)I"⟩ prog_7_method_31_code 2 (some FieldType.int) ∈ am_Tg := tg 734 (by decide +kernel) (by decide +kernel)
theorem tw_735 : Cond.methodLink "MailViewsLaw" 66 ⟨"MailViewsModel", "sync", "()I"⟩ ∈ am_Tg := tg 735 (by decide +kernel) (by decide +kernel)
theorem tw_736 : Cond.instanceMethod ⟨"MailViewsModel", "sync", "()I"⟩ ∈ am_Tg := tg 736 (by decide +kernel) (by decide +kernel)
theorem tw_737 : Cond.selects "MailViewsModel" ⟨"MailViewsModel", "sync", "()I"⟩ ⟨"MailViewsModel", "sync", "()I"⟩ ∈ am_Tg := tg 737 (by decide +kernel) (by decide +kernel)
theorem tw_738 : Cond.code ⟨"MailViewsModel", "sync", "()I"⟩ prog_7_method_32_code 1 (some FieldType.int) ∈ am_Tg := tg 738 (by decide +kernel) (by decide +kernel)
theorem tw_739 : Cond.methodLink "MailViewsLaw" 70 ⟨"MailViewsModel", "crash", "()I"⟩ ∈ am_Tg := tg 739 (by decide +kernel) (by decide +kernel)
theorem tw_740 : Cond.instanceMethod ⟨"MailViewsModel", "crash", "()I"⟩ ∈ am_Tg := tg 740 (by decide +kernel) (by decide +kernel)
theorem tw_741 : Cond.selects "MailViewsModel" ⟨"MailViewsModel", "crash", "()I"⟩ ⟨"MailViewsModel", "crash", "()I"⟩ ∈ am_Tg := tg 741 (by decide +kernel) (by decide +kernel)
theorem tw_742 : Cond.code ⟨"MailViewsModel", "crash", "()I"⟩ prog_7_method_33_code 4 (some FieldType.int) ∈ am_Tg := tg 742 (by decide +kernel) (by decide +kernel)
theorem tw_743 : Cond.methodLink "MailViewsLaw" 74 ⟨"MailViewsModel", "message", "(III)I"⟩ ∈ am_Tg := tg 743 (by decide +kernel) (by decide +kernel)
theorem tw_744 : Cond.instanceMethod ⟨"MailViewsModel", "message", "(III)I"⟩ ∈ am_Tg := tg 744 (by decide +kernel) (by decide +kernel)
theorem tw_745 : Cond.selects "MailViewsModel" ⟨"MailViewsModel", "message", "(III)I"⟩ ⟨"MailViewsModel", "message", "(III)I"⟩ ∈ am_Tg := tg 745 (by decide +kernel) (by decide +kernel)
theorem tw_746 : Cond.code ⟨"MailViewsModel", "message", "(III)I"⟩ prog_7_method_34_code 4 (some FieldType.int) ∈ am_Tg := tg 746 (by decide +kernel) (by decide +kernel)
theorem tw_747 : Cond.methodLink "MailViewsLaw" 78 ⟨"MailViewsModel", "seen", "(III)I"⟩ ∈ am_Tg := tg 747 (by decide +kernel) (by decide +kernel)
theorem tw_748 : Cond.instanceMethod ⟨"MailViewsModel", "seen", "(III)I"⟩ ∈ am_Tg := tg 748 (by decide +kernel) (by decide +kernel)
theorem tw_749 : Cond.selects "MailViewsModel" ⟨"MailViewsModel", "seen", "(III)I"⟩ ⟨"MailViewsModel", "seen", "(III)I"⟩ ∈ am_Tg := tg 749 (by decide +kernel) (by decide +kernel)
theorem tw_750 : Cond.code ⟨"MailViewsModel", "seen", "(III)I"⟩ prog_7_method_35_code 4 (some FieldType.int) ∈ am_Tg := tg 750 (by decide +kernel) (by decide +kernel)
theorem tw_751 : Cond.methodLink "MailViewsLaw" 82 ⟨"MailViewsModel", "notice", "(III)I"⟩ ∈ am_Tg := tg 751 (by decide +kernel) (by decide +kernel)
theorem tw_752 : Cond.instanceMethod ⟨"MailViewsModel", "notice", "(III)I"⟩ ∈ am_Tg := tg 752 (by decide +kernel) (by decide +kernel)
theorem tw_753 : Cond.selects "MailViewsModel" ⟨"MailViewsModel", "notice", "(III)I"⟩ ⟨"MailViewsModel", "notice", "(III)I"⟩ ∈ am_Tg := tg 753 (by decide +kernel) (by decide +kernel)
theorem tw_754 : Cond.code ⟨"MailViewsModel", "notice", "(III)I"⟩ prog_7_method_36_code 4 (some FieldType.int) ∈ am_Tg := tg 754 (by decide +kernel) (by decide +kernel)
theorem tw_755 : Cond.methodLink "MailViewsLaw" 86 ⟨"MailViewsModel", "mailbox", "(II)I"⟩ ∈ am_Tg := tg 755 (by decide +kernel) (by decide +kernel)
theorem tw_756 : Cond.instanceMethod ⟨"MailViewsModel", "mailbox", "(II)I"⟩ ∈ am_Tg := tg 756 (by decide +kernel) (by decide +kernel)
theorem tw_757 : Cond.selects "MailViewsModel" ⟨"MailViewsModel", "mailbox", "(II)I"⟩ ⟨"MailViewsModel", "mailbox", "(II)I"⟩ ∈ am_Tg := tg 757 (by decide +kernel) (by decide +kernel)
theorem tw_758 : Cond.code ⟨"MailViewsModel", "mailbox", "(II)I"⟩ prog_7_method_37_code 5 (some FieldType.int) ∈ am_Tg := tg 758 (by decide +kernel) (by decide +kernel)
theorem tw_759 : Cond.methodLink "MailViewsLaw" 90 ⟨"MailViewsModel", "count", "(I)I"⟩ ∈ am_Tg := tg 759 (by decide +kernel) (by decide +kernel)
theorem tw_760 : Cond.instanceMethod ⟨"MailViewsModel", "count", "(I)I"⟩ ∈ am_Tg := tg 760 (by decide +kernel) (by decide +kernel)
theorem tw_761 : Cond.selects "MailViewsModel" ⟨"MailViewsModel", "count", "(I)I"⟩ ⟨"MailViewsModel", "count", "(I)I"⟩ ∈ am_Tg := tg 761 (by decide +kernel) (by decide +kernel)
theorem tw_762 : Cond.code ⟨"MailViewsModel", "count", "(I)I"⟩ prog_7_method_38_code 2 (some FieldType.int) ∈ am_Tg := tg 762 (by decide +kernel) (by decide +kernel)
theorem ac_0 : Cond.arrayClass FieldType.int ∈ am_Tg := tw_81
theorem ac_1 : Cond.arrayClass FieldType.boolean ∈ am_Tg := tw_173
theorem ao_B : Cond.arrayOver (FieldType.object "MailViews$Mailbox") ∈ am_nw := nw_0
theorem ao_S : Cond.arrayOver (FieldType.object "MailViews$Session") ∈ am_nw := nw_2
end
section
/-! printed by wip/whole/gen/prog.py: the program for the abstract machine -/
abbrev jV_init : Nat := 3
abbrev jV_append : Nat := 4
abbrev jV_select : Nat := 5
abbrev jV_close : Nat := 6
abbrev jV_check : Nat := 7
abbrev jV_fetch : Nat := 8
abbrev jV_store : Nat := 9
abbrev jV_expunge : Nat := 10
abbrev jV_copy : Nat := 11
abbrev jV_criterion : Nat := 12
abbrev jV_search : Nat := 13
abbrev jV_found : Nat := 14
abbrev jV_sync : Nat := 15
abbrev jV_crash : Nat := 16
abbrev jV_message : Nat := 17
abbrev jV_seen : Nat := 18
abbrev jV_notice : Nat := 19
abbrev jV_mailbox : Nat := 20
abbrev jV_count : Nat := 21
abbrev jV_isMailbox : Nat := 22
abbrev jV_isSession : Nat := 23
abbrev jV_areFlags : Nat := 24
abbrev jV_hasMailbox : Nat := 25
abbrev jV_isInView : Nat := 26
abbrev jV_mailboxOf : Nat := 27
abbrev jV_sessionsWith : Nat := 28
abbrev jV_update : Nat := 29
abbrev jV_add : Nat := 30
abbrev jV_removeDeleted : Nat := 31
abbrev jV_changedFlags : Nat := 32
abbrev jV_findHits : Nat := 33
abbrev jB_init : Nat := 34
abbrev jB_messageCount : Nat := 35
abbrev jB_isFull : Nat := 36
abbrev jB_nextUid : Nat := 37
abbrev jB_validity : Nat := 38
abbrev jB_growValidity : Nat := 39
abbrev jB_uidAt : Nat := 40
abbrev jB_flagsAt : Nat := 41
abbrev jB_sizeAt : Nat := 42
abbrev jB_setFlagsAt : Nat := 43
abbrev jB_positionOf : Nat := 44
abbrev jB_addNew : Nat := 45
abbrev jB_takeBackAdded : Nat := 46
abbrev jB_insert : Nat := 47
abbrev jB_removeAt : Nat := 48
abbrev jB_restoreFlags : Nat := 49
abbrev jB_move : Nat := 50
abbrev jJ_init : Nat := 51
abbrev jJ_changeCount : Nat := 52
abbrev jJ_durableCount : Nat := 53
abbrev jJ_noteAdded : Nat := 54
abbrev jJ_noteRemoved : Nat := 55
abbrev jJ_noteFlagsSet : Nat := 56
abbrev jJ_makeAllDurable : Nat := 57
abbrev jJ_hasOpenAdditionTo : Nat := 58
abbrev jJ_takeBackAll : Nat := 59
abbrev jJ_takeBack : Nat := 60
abbrev jJ_note : Nat := 61
abbrev jS_init : Nat := 62
abbrev jS_open : Nat := 63
abbrev jS_leave : Nat := 64
abbrev jS_mailboxNumber : Nat := 65
abbrev jS_isReadOnly : Nat := 66
abbrev jS_viewLength : Nat := 67
abbrev jS_uidOf : Nat := 68
abbrev jS_knownFlagsOf : Nat := 69
abbrev jS_know : Nat := 70
abbrev jS_noticeCount : Nat := 71
abbrev jS_noticeKindAt : Nat := 72
abbrev jS_noticeNumberAt : Nat := 73
abbrev jS_update : Nat := 74
abbrev jS_dropGone : Nat := 75
abbrev jS_takeInNew : Nat := 76
abbrev jS_learnFlags : Nat := 77
abbrev jS_tell : Nat := 78
abbrev jC_init : Nat := 79
abbrev jC_isOp : Nat := 80
abbrev jC_tokenCount : Nat := 81
abbrev jC_isFull : Nat := 82
abbrev jC_wipe : Nat := 83
abbrev jC_write : Nat := 84
abbrev jC_isGood : Nat := 85
abbrev jC_isFulfilledBy : Nat := 86
abbrev jC_measure : Nat := 87
abbrev jC_leafHolds : Nat := 88
abbrev jC_joinHolds : Nat := 89
abbrev jC_endFrom : Nat := 90
abbrev jC_depthFrom : Nat := 91
abbrev jC_holdsFrom : Nat := 92
abbrev jM_init : Nat := 93
abbrev jM_in : Nat := 94
abbrev jM_place : Nat := 95
abbrev jM_flagsOf : Nat := 96
abbrev jM_apply : Nat := 97
abbrev jM_note : Nat := 98
abbrev jM_add : Nat := 99
abbrev jM_purge : Nat := 100
abbrev jM_append : Nat := 101
abbrev jM_none : Nat := 102
abbrev jM_bad : Nat := 103
abbrev jM_uidOf : Nat := 104
abbrev jM_gone : Nat := 105
abbrev jM_tell : Nat := 106
abbrev jM_leave : Nat := 107
abbrev jM_gather : Nat := 108
abbrev jM_update : Nat := 109
abbrev jM_select : Nat := 110
abbrev jM_close : Nat := 111
abbrev jM_check : Nat := 112
abbrev jM_fetch : Nat := 113
abbrev jM_store : Nat := 114
abbrev jM_expunge : Nat := 115
abbrev jM_copy : Nat := 116
abbrev jM_criterion : Nat := 117
abbrev jM_parts : Nat := 118
abbrev jM_good : Nat := 119
abbrev jM_leaf : Nat := 120
abbrev jM_fulfils : Nat := 121
abbrev jM_search : Nat := 122
abbrev jM_found : Nat := 123
abbrev jM_sync : Nat := 124
abbrev jM_crash : Nat := 125
abbrev jM_message : Nat := 126
abbrev jM_seen : Nat := 127
abbrev jM_notice : Nat := 128
abbrev jM_mailbox : Nat := 129
abbrev jM_count : Nat := 130
def tV_init : am_T := (⟨"MailViews", "<init>", "()V"⟩, prog_1_method_1_code, 2, none)
def kV_init : List (Nat × am_I) := [(0, i_aload 0 1), (1, i_callI 0 0 4), (4, i_aload 0 5), (5, i_const 3 6), (6, i_anewa 2 9), (9, i_put 0 0 2 12), (12, i_const 0 13), (13, i_istore 1 14), (14, i_iload 1 15), (15, i_const 3 16), (16, i_icmp_ge 38 19), (19, i_aload 0 20), (20, i_get 0 0 23), (23, i_iload 1 24), (24, i_new 1 [.inr none, .inr none, .inr none, .inl 0, .inl 0, .inl 0] 27), (27, i_dup 28), (28, i_callI jB_init 0 31), (31, i_aast 2 1 32), (32, i_iinc 1 1 35), (35, i_goto 14), (38, i_aload 0 39), (39, i_const 4 40), (40, i_anewa 3 43), (43, i_put 0 1 2 46), (46, i_const 0 47), (47, i_istore 1 48), (48, i_iload 1 49), (49, i_const 4 50), (50, i_icmp_ge 72 53), (53, i_aload 0 54), (54, i_get 0 1 57), (57, i_iload 1 58), (58, i_new 3 [.inr none, .inr none, .inr none, .inr none, .inl 0, .inl 0, .inl 0, .inl 0, .inl 0] 61), (61, i_dup 62), (62, i_callI jS_init 0 65), (65, i_aast 3 3 66), (66, i_iinc 1 1 69), (69, i_goto 48), (72, i_aload 0 73), (73, i_new 2 [.inr none, .inr none, .inr none, .inr none, .inr none, .inl 0, .inl 0] 76), (76, i_dup 77), (77, i_callI jJ_init 0 80), (80, i_put 0 2 2 83), (83, i_aload 0 84), (84, i_new 4 [.inr none, .inr none, .inr none, .inr none, .inr none, .inr none, .inl 0] 87), (87, i_dup 88), (88, i_callI jC_init 0 91), (91, i_put 0 3 2 94), (94, i_aload 0 95), (95, i_const 24 97), (97, i_newa 0 99), (99, i_put 0 4 2 102), (102, i_aload 0 103), (103, i_const 0 104), (104, i_put 0 5 0 107), (107, i_vret)]
def tV_append : am_T := (⟨"MailViews", "append", "(III)I"⟩, prog_1_method_2_code, 4, some .int)
def kV_append : List (Nat × am_I) := [(0, i_iload 1 1), (1, i_callS jV_isMailbox 1 4), (4, i_if_eq 26 7), (7, i_iload 2 8), (8, i_callS jV_areFlags 1 11), (11, i_if_eq 26 14), (14, i_iload 3 15), (15, i_const 1 16), (16, i_icmp_lt 26 19), (19, i_iload 3 20), (20, i_const 999 23), (23, i_icmp_le 28 26), (26, i_const (-1) 27), (27, i_iret), (28, i_aload 0 29), (29, i_iload 1 30), (30, i_iload 2 31), (31, i_iload 3 32), (32, i_callV 0 jV_add 3 35), (35, i_iret)]
def tV_select : am_T := (⟨"MailViews", "select", "(IIZ)I"⟩, prog_1_method_3_code, 4, some .int)
def kV_select : List (Nat × am_I) := [(0, i_iload 1 1), (1, i_callS jV_isSession 1 4), (4, i_if_eq 14 7), (7, i_iload 2 8), (8, i_callS jV_isMailbox 1 11), (11, i_if_ne 16 14), (14, i_const (-1) 15), (15, i_iret), (16, i_aload 0 17), (17, i_get 0 1 20), (20, i_iload 1 21), (21, i_aald 3 22), (22, i_iload 2 23), (23, i_iload 3 24), (24, i_aload 0 25), (25, i_get 0 0 28), (28, i_iload 2 29), (29, i_aald 2 30), (30, i_callV 3 jS_open 3 33), (33, i_aload 0 34), (34, i_get 0 1 37), (37, i_iload 1 38), (38, i_aald 3 39), (39, i_callV 3 jS_viewLength 0 42), (42, i_iret)]
def tV_close : am_T := (⟨"MailViews", "close", "(I)I"⟩, prog_1_method_4_code, 4, some .int)
def kV_close : List (Nat × am_I) := [(0, i_aload 0 1), (1, i_iload 1 2), (2, i_callV 0 jV_hasMailbox 1 5), (5, i_if_ne 10 8), (8, i_const (-1) 9), (9, i_iret), (10, i_aload 0 11), (11, i_get 0 1 14), (14, i_iload 1 15), (15, i_aald 3 16), (16, i_astore 2 17), (17, i_aload 2 18), (18, i_callV 3 jS_isReadOnly 0 21), (21, i_if_eq 28 24), (24, i_const 0 25), (25, i_goto 36), (28, i_aload 0 29), (29, i_aload 2 30), (30, i_callV 3 jS_mailboxNumber 0 33), (33, i_callV 0 jV_removeDeleted 1 36), (36, i_istore 3 37), (37, i_aload 2 38), (38, i_callV 3 jS_leave 0 41), (41, i_iload 3 42), (42, i_iret)]
def tV_check : am_T := (⟨"MailViews", "check", "(I)I"⟩, prog_1_method_5_code, 2, some .int)
def kV_check : List (Nat × am_I) := [(0, i_aload 0 1), (1, i_iload 1 2), (2, i_callV 0 jV_hasMailbox 1 5), (5, i_if_ne 10 8), (8, i_const (-1) 9), (9, i_iret), (10, i_aload 0 11), (11, i_iload 1 12), (12, i_const 1 13), (13, i_callV 0 jV_update 2 16), (16, i_aload 0 17), (17, i_get 0 1 20), (20, i_iload 1 21), (21, i_aald 3 22), (22, i_callV 3 jS_noticeCount 0 25), (25, i_iret)]
def tV_fetch : am_T := (⟨"MailViews", "fetch", "(II)I"⟩, prog_1_method_6_code, 5, some .int)
def kV_fetch : List (Nat × am_I) := [(0, i_aload 0 1), (1, i_iload 1 2), (2, i_iload 2 3), (3, i_callV 0 jV_isInView 2 6), (6, i_if_ne 11 9), (9, i_const (-1) 10), (10, i_iret), (11, i_aload 0 12), (12, i_iload 1 13), (13, i_callV 0 jV_mailboxOf 1 16), (16, i_astore 3 17), (17, i_aload 3 18), (18, i_aload 0 19), (19, i_get 0 1 22), (22, i_iload 1 23), (23, i_aald 3 24), (24, i_iload 2 25), (25, i_callV 3 jS_uidOf 1 28), (28, i_callV 1 jB_positionOf 1 31), (31, i_istore 4 33), (33, i_iload 4 35), (35, i_const (-1) 36), (36, i_icmp_ne 42 39), (39, i_const (-3) 41), (41, i_iret), (42, i_aload 0 43), (43, i_get 0 1 46), (46, i_iload 1 47), (47, i_aald 3 48), (48, i_iload 2 49), (49, i_aload 3 50), (50, i_iload 4 52), (52, i_callV 1 jB_flagsAt 1 55), (55, i_callV 3 jS_know 2 58), (58, i_aload 3 59), (59, i_iload 4 61), (61, i_callV 1 jB_flagsAt 1 64), (64, i_iret)]
def tV_store : am_T := (⟨"MailViews", "store", "(IIII)I"⟩, prog_1_method_7_code, 10, some .int)
def kV_store : List (Nat × am_I) := [(0, i_iload 3 1), (1, i_if_lt 26 4), (4, i_iload 3 5), (5, i_const 2 6), (6, i_icmp_gt 26 9), (9, i_iload 4 11), (11, i_callS jV_areFlags 1 14), (14, i_if_eq 26 17), (17, i_aload 0 18), (18, i_iload 1 19), (19, i_iload 2 20), (20, i_callV 0 jV_isInView 2 23), (23, i_if_ne 28 26), (26, i_const (-1) 27), (27, i_iret), (28, i_aload 0 29), (29, i_get 0 1 32), (32, i_iload 1 33), (33, i_aald 3 34), (34, i_callV 3 jS_isReadOnly 0 37), (37, i_if_eq 43 40), (40, i_const (-4) 42), (42, i_iret), (43, i_aload 0 44), (44, i_iload 1 45), (45, i_callV 0 jV_mailboxOf 1 48), (48, i_astore 5 50), (50, i_aload 0 51), (51, i_get 0 1 54), (54, i_iload 1 55), (55, i_aald 3 56), (56, i_iload 2 57), (57, i_callV 3 jS_uidOf 1 60), (60, i_istore 6 62), (62, i_aload 5 64), (64, i_iload 6 66), (66, i_callV 1 jB_positionOf 1 69), (69, i_istore 7 71), (71, i_iload 7 73), (73, i_const (-1) 74), (74, i_icmp_ne 80 77), (77, i_const (-3) 79), (79, i_iret), (80, i_aload 5 82), (82, i_iload 7 84), (84, i_callV 1 jB_flagsAt 1 87), (87, i_istore 8 89), (89, i_iload 8 91), (91, i_iload 3 92), (92, i_iload 4 94), (94, i_callS jV_changedFlags 3 97), (97, i_istore 9 99), (99, i_aload 5 101), (101, i_iload 7 103), (103, i_iload 9 105), (105, i_callV 1 jB_setFlagsAt 2 108), (108, i_aload 0 109), (109, i_get 0 2 112), (112, i_aload 0 113), (113, i_get 0 1 116), (116, i_iload 1 117), (117, i_aald 3 118), (118, i_callV 3 jS_mailboxNumber 0 121), (121, i_iload 6 123), (123, i_iload 8 125), (125, i_callV 2 jJ_noteFlagsSet 3 128), (128, i_aload 0 129), (129, i_get 0 1 132), (132, i_iload 1 133), (133, i_aald 3 134), (134, i_iload 2 135), (135, i_iload 9 137), (137, i_callV 3 jS_know 2 140), (140, i_aload 0 141), (141, i_iload 1 142), (142, i_const 0 143), (143, i_callV 0 jV_update 2 146), (146, i_iload 9 148), (148, i_iret)]
def tV_expunge : am_T := (⟨"MailViews", "expunge", "(I)I"⟩, prog_1_method_8_code, 3, some .int)
def kV_expunge : List (Nat × am_I) := [(0, i_aload 0 1), (1, i_iload 1 2), (2, i_callV 0 jV_hasMailbox 1 5), (5, i_if_ne 10 8), (8, i_const (-1) 9), (9, i_iret), (10, i_aload 0 11), (11, i_get 0 1 14), (14, i_iload 1 15), (15, i_aald 3 16), (16, i_callV 3 jS_isReadOnly 0 19), (19, i_if_eq 25 22), (22, i_const (-4) 24), (24, i_iret), (25, i_aload 0 26), (26, i_aload 0 27), (27, i_get 0 1 30), (30, i_iload 1 31), (31, i_aald 3 32), (32, i_callV 3 jS_mailboxNumber 0 35), (35, i_callV 0 jV_removeDeleted 1 38), (38, i_istore 2 39), (39, i_aload 0 40), (40, i_iload 1 41), (41, i_const 1 42), (42, i_callV 0 jV_update 2 45), (45, i_iload 2 46), (46, i_iret)]
def tV_copy : am_T := (⟨"MailViews", "copy", "(III)I"⟩, prog_1_method_9_code, 7, some .int)
def kV_copy : List (Nat × am_I) := [(0, i_iload 3 1), (1, i_callS jV_isMailbox 1 4), (4, i_if_eq 16 7), (7, i_aload 0 8), (8, i_iload 1 9), (9, i_iload 2 10), (10, i_callV 0 jV_isInView 2 13), (13, i_if_ne 18 16), (16, i_const (-1) 17), (17, i_iret), (18, i_aload 0 19), (19, i_iload 1 20), (20, i_callV 0 jV_mailboxOf 1 23), (23, i_astore 4 25), (25, i_aload 4 27), (27, i_aload 0 28), (28, i_get 0 1 31), (31, i_iload 1 32), (32, i_aald 3 33), (33, i_iload 2 34), (34, i_callV 3 jS_uidOf 1 37), (37, i_callV 1 jB_positionOf 1 40), (40, i_istore 5 42), (42, i_iload 5 44), (44, i_const (-1) 45), (45, i_icmp_ne 51 48), (48, i_const (-3) 50), (50, i_iret), (51, i_aload 0 52), (52, i_iload 3 53), (53, i_aload 4 55), (55, i_iload 5 57), (57, i_callV 1 jB_flagsAt 1 60), (60, i_aload 4 62), (62, i_iload 5 64), (64, i_callV 1 jB_sizeAt 1 67), (67, i_callV 0 jV_add 3 70), (70, i_istore 6 72), (72, i_iload 6 74), (74, i_const (-2) 76), (76, i_icmp_ne 82 79), (79, i_const (-2) 81), (81, i_iret), (82, i_aload 0 83), (83, i_iload 1 84), (84, i_const 1 85), (85, i_callV 0 jV_update 2 88), (88, i_iload 6 90), (90, i_iret)]
def tV_criterion : am_T := (⟨"MailViews", "criterion", "(III)I"⟩, prog_1_method_10_code, 4, some .int)
def kV_criterion : List (Nat × am_I) := [(0, i_iload 1 1), (1, i_callS jC_isOp 1 4), (4, i_if_ne 9 7), (7, i_const (-1) 8), (8, i_iret), (9, i_aload 0 10), (10, i_get 0 3 13), (13, i_callV 4 jC_isFull 0 16), (16, i_if_eq 22 19), (19, i_const (-2) 21), (21, i_iret), (22, i_aload 0 23), (23, i_get 0 3 26), (26, i_iload 1 27), (27, i_iload 2 28), (28, i_iload 3 29), (29, i_callV 4 jC_write 3 32), (32, i_aload 0 33), (33, i_get 0 3 36), (36, i_callV 4 jC_tokenCount 0 39), (39, i_iret)]
def tV_search : am_T := (⟨"MailViews", "search", "(I)I"⟩, prog_1_method_11_code, 2, some .int)
def kV_search : List (Nat × am_I) := [(0, i_aload 0 1), (1, i_iload 1 2), (2, i_callV 0 jV_hasMailbox 1 5), (5, i_if_ne 10 8), (8, i_const (-1) 9), (9, i_iret), (10, i_aload 0 11), (11, i_get 0 3 14), (14, i_callV 4 jC_isGood 0 17), (17, i_if_ne 30 20), (20, i_aload 0 21), (21, i_get 0 3 24), (24, i_callV 4 jC_wipe 0 27), (27, i_const (-5) 29), (29, i_iret), (30, i_aload 0 31), (31, i_aload 0 32), (32, i_get 0 1 35), (35, i_iload 1 36), (36, i_aald 3 37), (37, i_aload 0 38), (38, i_iload 1 39), (39, i_callV 0 jV_mailboxOf 1 42), (42, i_callV 0 jV_findHits 2 45), (45, i_aload 0 46), (46, i_get 0 3 49), (49, i_callV 4 jC_wipe 0 52), (52, i_aload 0 53), (53, i_iload 1 54), (54, i_const 0 55), (55, i_callV 0 jV_update 2 58), (58, i_aload 0 59), (59, i_get 0 5 62), (62, i_iret)]
def tV_found : am_T := (⟨"MailViews", "found", "(I)I"⟩, prog_1_method_12_code, 2, some .int)
def kV_found : List (Nat × am_I) := [(0, i_iload 1 1), (1, i_if_lt 21 4), (4, i_iload 1 5), (5, i_aload 0 6), (6, i_get 0 5 9), (9, i_icmp_ge 21 12), (12, i_aload 0 13), (13, i_get 0 4 16), (16, i_iload 1 17), (17, i_iald 0 18), (18, i_goto 22), (21, i_const (-1) 22), (22, i_iret)]
def tV_sync : am_T := (⟨"MailViews", "sync", "()I"⟩, prog_1_method_13_code, 1, some .int)
def kV_sync : List (Nat × am_I) := [(0, i_aload 0 1), (1, i_get 0 2 4), (4, i_callV 2 jJ_makeAllDurable 0 7), (7, i_aload 0 8), (8, i_get 0 2 11), (11, i_callV 2 jJ_changeCount 0 14), (14, i_iret)]
def tV_crash : am_T := (⟨"MailViews", "crash", "()I"⟩, prog_1_method_14_code, 2, some .int)
def kV_crash : List (Nat × am_I) := [(0, i_const 0 1), (1, i_istore 1 2), (2, i_iload 1 3), (3, i_const 4 4), (4, i_icmp_ge 22 7), (7, i_aload 0 8), (8, i_get 0 1 11), (11, i_iload 1 12), (12, i_aald 3 13), (13, i_callV 3 jS_leave 0 16), (16, i_iinc 1 1 19), (19, i_goto 2), (22, i_const 0 23), (23, i_istore 1 24), (24, i_iload 1 25), (25, i_const 3 26), (26, i_icmp_ge 55 29), (29, i_aload 0 30), (30, i_get 0 2 33), (33, i_iload 1 34), (34, i_callV 2 jJ_hasOpenAdditionTo 1 37), (37, i_if_eq 49 40), (40, i_aload 0 41), (41, i_get 0 0 44), (44, i_iload 1 45), (45, i_aald 2 46), (46, i_callV 1 jB_growValidity 0 49), (49, i_iinc 1 1 52), (52, i_goto 24), (55, i_aload 0 56), (56, i_get 0 2 59), (59, i_aload 0 60), (60, i_get 0 0 63), (63, i_callV 2 jJ_takeBackAll 1 66), (66, i_aload 0 67), (67, i_get 0 2 70), (70, i_callV 2 jJ_changeCount 0 73), (73, i_iret)]
def tV_message : am_T := (⟨"MailViews", "message", "(III)I"⟩, prog_1_method_15_code, 4, some .int)
def kV_message : List (Nat × am_I) := [(0, i_iload 1 1), (1, i_callS jV_isMailbox 1 4), (4, i_if_eq 24 7), (7, i_iload 2 8), (8, i_if_lt 24 11), (11, i_iload 2 12), (12, i_aload 0 13), (13, i_get 0 0 16), (16, i_iload 1 17), (17, i_aald 2 18), (18, i_callV 1 jB_messageCount 0 21), (21, i_icmp_lt 26 24), (24, i_const (-1) 25), (25, i_iret), (26, i_iload 3 27), (27, i_tsw 0 [52, 63, 74] 85), (52, i_aload 0 53), (53, i_get 0 0 56), (56, i_iload 1 57), (57, i_aald 2 58), (58, i_iload 2 59), (59, i_callV 1 jB_uidAt 1 62), (62, i_iret), (63, i_aload 0 64), (64, i_get 0 0 67), (67, i_iload 1 68), (68, i_aald 2 69), (69, i_iload 2 70), (70, i_callV 1 jB_flagsAt 1 73), (73, i_iret), (74, i_aload 0 75), (75, i_get 0 0 78), (78, i_iload 1 79), (79, i_aald 2 80), (80, i_iload 2 81), (81, i_callV 1 jB_sizeAt 1 84), (84, i_iret), (85, i_const (-1) 86), (86, i_iret)]
def tV_seen : am_T := (⟨"MailViews", "seen", "(III)I"⟩, prog_1_method_16_code, 4, some .int)
def kV_seen : List (Nat × am_I) := [(0, i_aload 0 1), (1, i_iload 1 2), (2, i_iload 2 3), (3, i_callV 0 jV_isInView 2 6), (6, i_if_ne 11 9), (9, i_const (-1) 10), (10, i_iret), (11, i_iload 3 12), (12, i_lsw [(0, 40), (1, 51)] 62), (40, i_aload 0 41), (41, i_get 0 1 44), (44, i_iload 1 45), (45, i_aald 3 46), (46, i_iload 2 47), (47, i_callV 3 jS_uidOf 1 50), (50, i_iret), (51, i_aload 0 52), (52, i_get 0 1 55), (55, i_iload 1 56), (56, i_aald 3 57), (57, i_iload 2 58), (58, i_callV 3 jS_knownFlagsOf 1 61), (61, i_iret), (62, i_const (-1) 63), (63, i_iret)]
def tV_notice : am_T := (⟨"MailViews", "notice", "(III)I"⟩, prog_1_method_17_code, 4, some .int)
def kV_notice : List (Nat × am_I) := [(0, i_aload 0 1), (1, i_iload 1 2), (2, i_callV 0 jV_hasMailbox 1 5), (5, i_if_eq 25 8), (8, i_iload 2 9), (9, i_if_lt 25 12), (12, i_iload 2 13), (13, i_aload 0 14), (14, i_get 0 1 17), (17, i_iload 1 18), (18, i_aald 3 19), (19, i_callV 3 jS_noticeCount 0 22), (22, i_icmp_lt 27 25), (25, i_const (-1) 26), (26, i_iret), (27, i_iload 3 28), (28, i_lsw [(0, 56), (1, 67)] 78), (56, i_aload 0 57), (57, i_get 0 1 60), (60, i_iload 1 61), (61, i_aald 3 62), (62, i_iload 2 63), (63, i_callV 3 jS_noticeKindAt 1 66), (66, i_iret), (67, i_aload 0 68), (68, i_get 0 1 71), (71, i_iload 1 72), (72, i_aald 3 73), (73, i_iload 2 74), (74, i_callV 3 jS_noticeNumberAt 1 77), (77, i_iret), (78, i_const (-1) 79), (79, i_iret)]
def tV_mailbox : am_T := (⟨"MailViews", "mailbox", "(II)I"⟩, prog_1_method_18_code, 3, some .int)
def kV_mailbox : List (Nat × am_I) := [(0, i_iload 1 1), (1, i_callS jV_isMailbox 1 4), (4, i_if_ne 9 7), (7, i_const (-1) 8), (8, i_iret), (9, i_iload 2 10), (10, i_tsw 0 [40, 50, 60, 70] 76), (40, i_aload 0 41), (41, i_get 0 0 44), (44, i_iload 1 45), (45, i_aald 2 46), (46, i_callV 1 jB_messageCount 0 49), (49, i_iret), (50, i_aload 0 51), (51, i_get 0 0 54), (54, i_iload 1 55), (55, i_aald 2 56), (56, i_callV 1 jB_nextUid 0 59), (59, i_iret), (60, i_aload 0 61), (61, i_get 0 0 64), (64, i_iload 1 65), (65, i_aald 2 66), (66, i_callV 1 jB_validity 0 69), (69, i_iret), (70, i_aload 0 71), (71, i_iload 1 72), (72, i_callV 0 jV_sessionsWith 1 75), (75, i_iret), (76, i_const (-1) 77), (77, i_iret)]
def tV_count : am_T := (⟨"MailViews", "count", "(I)I"⟩, prog_1_method_19_code, 2, some .int)
def kV_count : List (Nat × am_I) := [(0, i_iload 1 1), (1, i_tsw 0 [32, 40, 48, 56] 61), (32, i_aload 0 33), (33, i_get 0 2 36), (36, i_callV 2 jJ_changeCount 0 39), (39, i_iret), (40, i_aload 0 41), (41, i_get 0 2 44), (44, i_callV 2 jJ_durableCount 0 47), (47, i_iret), (48, i_aload 0 49), (49, i_get 0 3 52), (52, i_callV 4 jC_tokenCount 0 55), (55, i_iret), (56, i_aload 0 57), (57, i_get 0 5 60), (60, i_iret), (61, i_const (-1) 62), (62, i_iret)]
def tV_isMailbox : am_T := (⟨"MailViews", "isMailbox", "(I)Z"⟩, prog_1_method_20_code, 1, some .boolean)
def kV_isMailbox : List (Nat × am_I) := [(0, i_iload 0 1), (1, i_if_lt 13 4), (4, i_iload 0 5), (5, i_const 3 6), (6, i_icmp_ge 13 9), (9, i_const 1 10), (10, i_goto 14), (13, i_const 0 14), (14, i_zret)]
def tV_isSession : am_T := (⟨"MailViews", "isSession", "(I)Z"⟩, prog_1_method_21_code, 1, some .boolean)
def kV_isSession : List (Nat × am_I) := [(0, i_iload 0 1), (1, i_if_lt 13 4), (4, i_iload 0 5), (5, i_const 4 6), (6, i_icmp_ge 13 9), (9, i_const 1 10), (10, i_goto 14), (13, i_const 0 14), (14, i_zret)]
def tV_areFlags : am_T := (⟨"MailViews", "areFlags", "(I)Z"⟩, prog_1_method_22_code, 1, some .boolean)
def kV_areFlags : List (Nat × am_I) := [(0, i_iload 0 1), (1, i_if_lt 14 4), (4, i_iload 0 5), (5, i_const 31 7), (7, i_icmp_gt 14 10), (10, i_const 1 11), (11, i_goto 15), (14, i_const 0 15), (15, i_zret)]
def tV_hasMailbox : am_T := (⟨"MailViews", "hasMailbox", "(I)Z"⟩, prog_1_method_23_code, 2, some .boolean)
def kV_hasMailbox : List (Nat × am_I) := [(0, i_iload 1 1), (1, i_callS jV_isSession 1 4), (4, i_if_eq 24 7), (7, i_aload 0 8), (8, i_get 0 1 11), (11, i_iload 1 12), (12, i_aald 3 13), (13, i_callV 3 jS_mailboxNumber 0 16), (16, i_const (-1) 17), (17, i_icmp_eq 24 20), (20, i_const 1 21), (21, i_goto 25), (24, i_const 0 25), (25, i_zret)]
def tV_isInView : am_T := (⟨"MailViews", "isInView", "(II)Z"⟩, prog_1_method_24_code, 3, some .boolean)
def kV_isInView : List (Nat × am_I) := [(0, i_aload 0 1), (1, i_iload 1 2), (2, i_callV 0 jV_hasMailbox 1 5), (5, i_if_eq 30 8), (8, i_iload 2 9), (9, i_const 1 10), (10, i_icmp_lt 30 13), (13, i_iload 2 14), (14, i_aload 0 15), (15, i_get 0 1 18), (18, i_iload 1 19), (19, i_aald 3 20), (20, i_callV 3 jS_viewLength 0 23), (23, i_icmp_gt 30 26), (26, i_const 1 27), (27, i_goto 31), (30, i_const 0 31), (31, i_zret)]
def tV_mailboxOf : am_T := (⟨"MailViews", "mailboxOf", "(I)LMailViews$Mailbox;"⟩, prog_1_method_25_code, 2, some (.object "MailViews$Mailbox"))
def kV_mailboxOf : List (Nat × am_I) := [(0, i_aload 0 1), (1, i_get 0 0 4), (4, i_aload 0 5), (5, i_get 0 1 8), (8, i_iload 1 9), (9, i_aald 3 10), (10, i_callV 3 jS_mailboxNumber 0 13), (13, i_aald 2 14), (14, i_aret)]
def tV_sessionsWith : am_T := (⟨"MailViews", "sessionsWith", "(I)I"⟩, prog_1_method_26_code, 4, some .int)
def kV_sessionsWith : List (Nat × am_I) := [(0, i_const 0 1), (1, i_istore 2 2), (2, i_const 0 3), (3, i_istore 3 4), (4, i_iload 3 5), (5, i_const 4 6), (6, i_icmp_ge 31 9), (9, i_aload 0 10), (10, i_get 0 1 13), (13, i_iload 3 14), (14, i_aald 3 15), (15, i_callV 3 jS_mailboxNumber 0 18), (18, i_iload 1 19), (19, i_icmp_ne 25 22), (22, i_iinc 2 1 25), (25, i_iinc 3 1 28), (28, i_goto 4), (31, i_iload 2 32), (32, i_iret)]
def tV_update : am_T := (⟨"MailViews", "update", "(IZ)V"⟩, prog_1_method_27_code, 3, none)
def kV_update : List (Nat × am_I) := [(0, i_aload 0 1), (1, i_get 0 1 4), (4, i_iload 1 5), (5, i_aald 3 6), (6, i_aload 0 7), (7, i_iload 1 8), (8, i_callV 0 jV_mailboxOf 1 11), (11, i_iload 2 12), (12, i_callV 3 jS_update 2 15), (15, i_vret)]
def tV_add : am_T := (⟨"MailViews", "add", "(III)I"⟩, prog_1_method_28_code, 6, some .int)
def kV_add : List (Nat × am_I) := [(0, i_aload 0 1), (1, i_get 0 0 4), (4, i_iload 1 5), (5, i_aald 2 6), (6, i_astore 4 8), (8, i_aload 4 10), (10, i_callV 1 jB_isFull 0 13), (13, i_if_eq 19 16), (16, i_const (-2) 18), (18, i_iret), (19, i_aload 4 21), (21, i_iload 2 22), (22, i_iload 3 23), (23, i_callV 1 jB_addNew 2 26), (26, i_istore 5 28), (28, i_aload 0 29), (29, i_get 0 2 32), (32, i_iload 1 33), (33, i_iload 5 35), (35, i_callV 2 jJ_noteAdded 2 38), (38, i_iload 5 40), (40, i_iret)]
def tV_removeDeleted : am_T := (⟨"MailViews", "removeDeleted", "(I)I"⟩, prog_1_method_29_code, 6, some .int)
def kV_removeDeleted : List (Nat × am_I) := [(0, i_aload 0 1), (1, i_get 0 0 4), (4, i_iload 1 5), (5, i_aald 2 6), (6, i_astore 2 7), (7, i_const 0 8), (8, i_istore 3 9), (9, i_const 0 10), (10, i_istore 4 12), (12, i_aload 2 13), (13, i_callV 1 jB_messageCount 0 16), (16, i_istore 5 18), (18, i_iload 5 20), (20, i_if_le 82 23), (23, i_aload 2 24), (24, i_iload 4 26), (26, i_callV 1 jB_flagsAt 1 29), (29, i_const 8 31), (31, i_iand 32), (32, i_if_eq 73 35), (35, i_aload 0 36), (36, i_get 0 2 39), (39, i_iload 1 40), (40, i_aload 2 41), (41, i_iload 4 43), (43, i_callV 1 jB_uidAt 1 46), (46, i_aload 2 47), (47, i_iload 4 49), (49, i_callV 1 jB_flagsAt 1 52), (52, i_aload 2 53), (53, i_iload 4 55), (55, i_callV 1 jB_sizeAt 1 58), (58, i_callV 2 jJ_noteRemoved 4 61), (61, i_aload 2 62), (62, i_iload 4 64), (64, i_callV 1 jB_removeAt 1 67), (67, i_iinc 3 1 70), (70, i_goto 76), (73, i_iinc 4 1 76), (76, i_iinc 5 (-1) 79), (79, i_goto 18), (82, i_iload 3 83), (83, i_iret)]
def tV_changedFlags : am_T := (⟨"MailViews", "changedFlags", "(III)I"⟩, prog_1_method_30_code, 3, some .int)
def kV_changedFlags : List (Nat × am_I) := [(0, i_iload 1 1), (1, i_lsw [(1, 28), (2, 32)] 38), (28, i_iload 0 29), (29, i_iload 2 30), (30, i_ior 31), (31, i_iret), (32, i_iload 0 33), (33, i_iload 2 34), (34, i_const (-1) 35), (35, i_ixor 36), (36, i_iand 37), (37, i_iret), (38, i_iload 2 39), (39, i_iret)]
def tV_findHits : am_T := (⟨"MailViews", "findHits", "(LMailViews$Session;LMailViews$Mailbox;)V"⟩, prog_1_method_31_code, 5, none)
def kV_findHits : List (Nat × am_I) := [(0, i_aload 0 1), (1, i_const 0 2), (2, i_put 0 5 0 5), (5, i_const 1 6), (6, i_istore 3 7), (7, i_iload 3 8), (8, i_aload 1 9), (9, i_callV 3 jS_viewLength 0 12), (12, i_icmp_gt 72 15), (15, i_aload 2 16), (16, i_aload 1 17), (17, i_iload 3 18), (18, i_callV 3 jS_uidOf 1 21), (21, i_callV 1 jB_positionOf 1 24), (24, i_istore 4 26), (26, i_iload 4 28), (28, i_const (-1) 29), (29, i_icmp_eq 66 32), (32, i_aload 0 33), (33, i_get 0 3 36), (36, i_aload 2 37), (37, i_iload 4 39), (39, i_iload 3 40), (40, i_callV 4 jC_isFulfilledBy 3 43), (43, i_if_eq 66 46), (46, i_aload 0 47), (47, i_get 0 4 50), (50, i_aload 0 51), (51, i_get 0 5 54), (54, i_iload 3 55), (55, i_iast 0 0 56), (56, i_aload 0 57), (57, i_dup 58), (58, i_get 0 5 61), (61, i_const 1 62), (62, i_iadd 63), (63, i_put 0 5 0 66), (66, i_iinc 3 1 69), (69, i_goto 7), (72, i_vret)]
def tB_init : am_T := (⟨"MailViews$Mailbox", "<init>", "()V"⟩, prog_4_method_1_code, 1, none)
def kB_init : List (Nat × am_I) := [(0, i_aload 0 1), (1, i_callI 0 0 4), (4, i_aload 0 5), (5, i_const 12 7), (7, i_newa 0 9), (9, i_put 1 0 2 12), (12, i_aload 0 13), (13, i_const 12 15), (15, i_newa 0 17), (17, i_put 1 1 2 20), (20, i_aload 0 21), (21, i_const 12 23), (23, i_newa 0 25), (25, i_put 1 2 2 28), (28, i_aload 0 29), (29, i_const 0 30), (30, i_put 1 3 0 33), (33, i_aload 0 34), (34, i_const 1 35), (35, i_put 1 4 0 38), (38, i_aload 0 39), (39, i_const 1 40), (40, i_put 1 5 0 43), (43, i_vret)]
def tB_messageCount : am_T := (⟨"MailViews$Mailbox", "messageCount", "()I"⟩, prog_4_method_2_code, 1, some .int)
def kB_messageCount : List (Nat × am_I) := [(0, i_aload 0 1), (1, i_get 1 3 4), (4, i_iret)]
def tB_isFull : am_T := (⟨"MailViews$Mailbox", "isFull", "()Z"⟩, prog_4_method_3_code, 1, some .boolean)
def kB_isFull : List (Nat × am_I) := [(0, i_aload 0 1), (1, i_get 1 3 4), (4, i_const 12 6), (6, i_icmp_lt 13 9), (9, i_const 1 10), (10, i_goto 14), (13, i_const 0 14), (14, i_zret)]
def tB_nextUid : am_T := (⟨"MailViews$Mailbox", "nextUid", "()I"⟩, prog_4_method_4_code, 1, some .int)
def kB_nextUid : List (Nat × am_I) := [(0, i_aload 0 1), (1, i_get 1 4 4), (4, i_iret)]
def tB_validity : am_T := (⟨"MailViews$Mailbox", "validity", "()I"⟩, prog_4_method_5_code, 1, some .int)
def kB_validity : List (Nat × am_I) := [(0, i_aload 0 1), (1, i_get 1 5 4), (4, i_iret)]
def tB_growValidity : am_T := (⟨"MailViews$Mailbox", "growValidity", "()V"⟩, prog_4_method_6_code, 1, none)
def kB_growValidity : List (Nat × am_I) := [(0, i_aload 0 1), (1, i_dup 2), (2, i_get 1 5 5), (5, i_const 1 6), (6, i_iadd 7), (7, i_put 1 5 0 10), (10, i_vret)]
def tB_uidAt : am_T := (⟨"MailViews$Mailbox", "uidAt", "(I)I"⟩, prog_4_method_7_code, 2, some .int)
def kB_uidAt : List (Nat × am_I) := [(0, i_aload 0 1), (1, i_get 1 0 4), (4, i_iload 1 5), (5, i_iald 0 6), (6, i_iret)]
def tB_flagsAt : am_T := (⟨"MailViews$Mailbox", "flagsAt", "(I)I"⟩, prog_4_method_8_code, 2, some .int)
def kB_flagsAt : List (Nat × am_I) := [(0, i_aload 0 1), (1, i_get 1 1 4), (4, i_iload 1 5), (5, i_iald 0 6), (6, i_iret)]
def tB_sizeAt : am_T := (⟨"MailViews$Mailbox", "sizeAt", "(I)I"⟩, prog_4_method_9_code, 2, some .int)
def kB_sizeAt : List (Nat × am_I) := [(0, i_aload 0 1), (1, i_get 1 2 4), (4, i_iload 1 5), (5, i_iald 0 6), (6, i_iret)]
def tB_setFlagsAt : am_T := (⟨"MailViews$Mailbox", "setFlagsAt", "(II)V"⟩, prog_4_method_10_code, 3, none)
def kB_setFlagsAt : List (Nat × am_I) := [(0, i_aload 0 1), (1, i_get 1 1 4), (4, i_iload 1 5), (5, i_iload 2 6), (6, i_iast 0 0 7), (7, i_vret)]
def tB_positionOf : am_T := (⟨"MailViews$Mailbox", "positionOf", "(I)I"⟩, prog_4_method_11_code, 3, some .int)
def kB_positionOf : List (Nat × am_I) := [(0, i_const 0 1), (1, i_istore 2 2), (2, i_iload 2 3), (3, i_aload 0 4), (4, i_get 1 3 7), (7, i_icmp_ge 28 10), (10, i_aload 0 11), (11, i_get 1 0 14), (14, i_iload 2 15), (15, i_iald 0 16), (16, i_iload 1 17), (17, i_icmp_ne 22 20), (20, i_iload 2 21), (21, i_iret), (22, i_iinc 2 1 25), (25, i_goto 2), (28, i_const (-1) 29), (29, i_iret)]
def tB_addNew : am_T := (⟨"MailViews$Mailbox", "addNew", "(II)I"⟩, prog_4_method_12_code, 4, some .int)
def kB_addNew : List (Nat × am_I) := [(0, i_aload 0 1), (1, i_get 1 4 4), (4, i_istore 3 5), (5, i_aload 0 6), (6, i_dup 7), (7, i_get 1 4 10), (10, i_const 1 11), (11, i_iadd 12), (12, i_put 1 4 0 15), (15, i_aload 0 16), (16, i_iload 3 17), (17, i_iload 1 18), (18, i_iload 2 19), (19, i_callV 1 jB_insert 3 22), (22, i_iload 3 23), (23, i_iret)]
def tB_takeBackAdded : am_T := (⟨"MailViews$Mailbox", "takeBackAdded", "(I)V"⟩, prog_4_method_13_code, 2, none)
def kB_takeBackAdded : List (Nat × am_I) := [(0, i_aload 0 1), (1, i_aload 0 2), (2, i_iload 1 3), (3, i_callV 1 jB_positionOf 1 6), (6, i_callV 1 jB_removeAt 1 9), (9, i_aload 0 10), (10, i_iload 1 11), (11, i_put 1 4 0 14), (14, i_vret)]
def tB_insert : am_T := (⟨"MailViews$Mailbox", "insert", "(III)V"⟩, prog_4_method_14_code, 5, none)
def kB_insert : List (Nat × am_I) := [(0, i_aload 0 1), (1, i_callV 1 jB_isFull 0 4), (4, i_if_eq 8 7), (7, i_vret), (8, i_aload 0 9), (9, i_get 1 3 12), (12, i_istore 4 14), (14, i_iload 4 16), (16, i_if_le 48 19), (19, i_aload 0 20), (20, i_get 1 0 23), (23, i_iload 4 25), (25, i_const 1 26), (26, i_isub 27), (27, i_iald 0 28), (28, i_iload 1 29), (29, i_icmp_le 48 32), (32, i_aload 0 33), (33, i_iload 4 35), (35, i_const 1 36), (36, i_isub 37), (37, i_iload 4 39), (39, i_callV 1 jB_move 2 42), (42, i_iinc 4 (-1) 45), (45, i_goto 14), (48, i_aload 0 49), (49, i_get 1 0 52), (52, i_iload 4 54), (54, i_iload 1 55), (55, i_iast 0 0 56), (56, i_aload 0 57), (57, i_get 1 1 60), (60, i_iload 4 62), (62, i_iload 2 63), (63, i_iast 0 0 64), (64, i_aload 0 65), (65, i_get 1 2 68), (68, i_iload 4 70), (70, i_iload 3 71), (71, i_iast 0 0 72), (72, i_aload 0 73), (73, i_dup 74), (74, i_get 1 3 77), (77, i_const 1 78), (78, i_iadd 79), (79, i_put 1 3 0 82), (82, i_vret)]
def tB_removeAt : am_T := (⟨"MailViews$Mailbox", "removeAt", "(I)V"⟩, prog_4_method_15_code, 3, none)
def kB_removeAt : List (Nat × am_I) := [(0, i_iload 1 1), (1, i_if_lt 12 4), (4, i_iload 1 5), (5, i_aload 0 6), (6, i_get 1 3 9), (9, i_icmp_lt 13 12), (12, i_vret), (13, i_iload 1 14), (14, i_const 1 15), (15, i_iadd 16), (16, i_istore 2 17), (17, i_iload 2 18), (18, i_aload 0 19), (19, i_get 1 3 22), (22, i_icmp_ge 39 25), (25, i_aload 0 26), (26, i_iload 2 27), (27, i_iload 2 28), (28, i_const 1 29), (29, i_isub 30), (30, i_callV 1 jB_move 2 33), (33, i_iinc 2 1 36), (36, i_goto 17), (39, i_aload 0 40), (40, i_dup 41), (41, i_get 1 3 44), (44, i_const 1 45), (45, i_isub 46), (46, i_put 1 3 0 49), (49, i_vret)]
def tB_restoreFlags : am_T := (⟨"MailViews$Mailbox", "restoreFlags", "(II)V"⟩, prog_4_method_16_code, 4, none)
def kB_restoreFlags : List (Nat × am_I) := [(0, i_aload 0 1), (1, i_iload 1 2), (2, i_callV 1 jB_positionOf 1 5), (5, i_istore 3 6), (6, i_iload 3 7), (7, i_const (-1) 8), (8, i_icmp_eq 18 11), (11, i_aload 0 12), (12, i_get 1 1 15), (15, i_iload 3 16), (16, i_iload 2 17), (17, i_iast 0 0 18), (18, i_vret)]
def tB_move : am_T := (⟨"MailViews$Mailbox", "move", "(II)V"⟩, prog_4_method_17_code, 3, none)
def kB_move : List (Nat × am_I) := [(0, i_aload 0 1), (1, i_get 1 0 4), (4, i_iload 2 5), (5, i_aload 0 6), (6, i_get 1 0 9), (9, i_iload 1 10), (10, i_iald 0 11), (11, i_iast 0 0 12), (12, i_aload 0 13), (13, i_get 1 1 16), (16, i_iload 2 17), (17, i_aload 0 18), (18, i_get 1 1 21), (21, i_iload 1 22), (22, i_iald 0 23), (23, i_iast 0 0 24), (24, i_aload 0 25), (25, i_get 1 2 28), (28, i_iload 2 29), (29, i_aload 0 30), (30, i_get 1 2 33), (33, i_iload 1 34), (34, i_iald 0 35), (35, i_iast 0 0 36), (36, i_vret)]
def tJ_init : am_T := (⟨"MailViews$Journal", "<init>", "()V"⟩, prog_3_method_1_code, 1, none)
def kJ_init : List (Nat × am_I) := [(0, i_aload 0 1), (1, i_callI 0 0 4), (4, i_aload 0 5), (5, i_const 8 7), (7, i_newa 0 9), (9, i_put 2 0 2 12), (12, i_aload 0 13), (13, i_const 8 15), (15, i_newa 0 17), (17, i_put 2 1 2 20), (20, i_aload 0 21), (21, i_const 8 23), (23, i_newa 0 25), (25, i_put 2 2 2 28), (28, i_aload 0 29), (29, i_const 8 31), (31, i_newa 0 33), (33, i_put 2 3 2 36), (36, i_aload 0 37), (37, i_const 8 39), (39, i_newa 0 41), (41, i_put 2 4 2 44), (44, i_aload 0 45), (45, i_const 0 46), (46, i_put 2 5 0 49), (49, i_aload 0 50), (50, i_const 0 51), (51, i_put 2 6 0 54), (54, i_vret)]
def tJ_changeCount : am_T := (⟨"MailViews$Journal", "changeCount", "()I"⟩, prog_3_method_2_code, 1, some .int)
def kJ_changeCount : List (Nat × am_I) := [(0, i_aload 0 1), (1, i_get 2 6 4), (4, i_aload 0 5), (5, i_get 2 5 8), (8, i_iadd 9), (9, i_iret)]
def tJ_durableCount : am_T := (⟨"MailViews$Journal", "durableCount", "()I"⟩, prog_3_method_3_code, 1, some .int)
def kJ_durableCount : List (Nat × am_I) := [(0, i_aload 0 1), (1, i_get 2 6 4), (4, i_iret)]
def tJ_noteAdded : am_T := (⟨"MailViews$Journal", "noteAdded", "(II)V"⟩, prog_3_method_4_code, 3, none)
def kJ_noteAdded : List (Nat × am_I) := [(0, i_aload 0 1), (1, i_const 0 2), (2, i_iload 1 3), (3, i_iload 2 4), (4, i_const 0 5), (5, i_const 0 6), (6, i_callV 2 jJ_note 5 9), (9, i_vret)]
def tJ_noteRemoved : am_T := (⟨"MailViews$Journal", "noteRemoved", "(IIII)V"⟩, prog_3_method_5_code, 5, none)
def kJ_noteRemoved : List (Nat × am_I) := [(0, i_aload 0 1), (1, i_const 1 2), (2, i_iload 1 3), (3, i_iload 2 4), (4, i_iload 3 5), (5, i_iload 4 7), (7, i_callV 2 jJ_note 5 10), (10, i_vret)]
def tJ_noteFlagsSet : am_T := (⟨"MailViews$Journal", "noteFlagsSet", "(III)V"⟩, prog_3_method_6_code, 4, none)
def kJ_noteFlagsSet : List (Nat × am_I) := [(0, i_aload 0 1), (1, i_const 2 2), (2, i_iload 1 3), (3, i_iload 2 4), (4, i_iload 3 5), (5, i_const 0 6), (6, i_callV 2 jJ_note 5 9), (9, i_vret)]
def tJ_makeAllDurable : am_T := (⟨"MailViews$Journal", "makeAllDurable", "()V"⟩, prog_3_method_7_code, 1, none)
def kJ_makeAllDurable : List (Nat × am_I) := [(0, i_aload 0 1), (1, i_dup 2), (2, i_get 2 6 5), (5, i_aload 0 6), (6, i_get 2 5 9), (9, i_iadd 10), (10, i_put 2 6 0 13), (13, i_aload 0 14), (14, i_const 0 15), (15, i_put 2 5 0 18), (18, i_vret)]
def tJ_hasOpenAdditionTo : am_T := (⟨"MailViews$Journal", "hasOpenAdditionTo", "(I)Z"⟩, prog_3_method_8_code, 3, some .boolean)
def kJ_hasOpenAdditionTo : List (Nat × am_I) := [(0, i_const 0 1), (1, i_istore 2 2), (2, i_iload 2 3), (3, i_aload 0 4), (4, i_get 2 5 7), (7, i_icmp_ge 37 10), (10, i_aload 0 11), (11, i_get 2 0 14), (14, i_iload 2 15), (15, i_iald 0 16), (16, i_if_ne 31 19), (19, i_aload 0 20), (20, i_get 2 1 23), (23, i_iload 2 24), (24, i_iald 0 25), (25, i_iload 1 26), (26, i_icmp_ne 31 29), (29, i_const 1 30), (30, i_zret), (31, i_iinc 2 1 34), (34, i_goto 2), (37, i_const 0 38), (38, i_zret)]
def tJ_takeBackAll : am_T := (⟨"MailViews$Journal", "takeBackAll", "([LMailViews$Mailbox;)V"⟩, prog_3_method_9_code, 3, none)
def kJ_takeBackAll : List (Nat × am_I) := [(0, i_aload 0 1), (1, i_get 2 5 4), (4, i_const 1 5), (5, i_isub 6), (6, i_istore 2 7), (7, i_iload 2 8), (8, i_if_lt 30 11), (11, i_aload 0 12), (12, i_iload 2 13), (13, i_aload 1 14), (14, i_aload 0 15), (15, i_get 2 1 18), (18, i_iload 2 19), (19, i_iald 0 20), (20, i_aald 2 21), (21, i_callV 2 jJ_takeBack 2 24), (24, i_iinc 2 (-1) 27), (27, i_goto 7), (30, i_aload 0 31), (31, i_const 0 32), (32, i_put 2 5 0 35), (35, i_vret)]
def tJ_takeBack : am_T := (⟨"MailViews$Journal", "takeBack", "(ILMailViews$Mailbox;)V"⟩, prog_3_method_10_code, 3, none)
def kJ_takeBack : List (Nat × am_I) := [(0, i_aload 0 1), (1, i_get 2 0 4), (4, i_iload 1 5), (5, i_iald 0 6), (6, i_lsw [(0, 32), (1, 45)] 70), (32, i_aload 2 33), (33, i_aload 0 34), (34, i_get 2 2 37), (37, i_iload 1 38), (38, i_iald 0 39), (39, i_callV 1 jB_takeBackAdded 1 42), (42, i_goto 86), (45, i_aload 2 46), (46, i_aload 0 47), (47, i_get 2 2 50), (50, i_iload 1 51), (51, i_iald 0 52), (52, i_aload 0 53), (53, i_get 2 3 56), (56, i_iload 1 57), (57, i_iald 0 58), (58, i_aload 0 59), (59, i_get 2 4 62), (62, i_iload 1 63), (63, i_iald 0 64), (64, i_callV 1 jB_insert 3 67), (67, i_goto 86), (70, i_aload 2 71), (71, i_aload 0 72), (72, i_get 2 2 75), (75, i_iload 1 76), (76, i_iald 0 77), (77, i_aload 0 78), (78, i_get 2 3 81), (81, i_iload 1 82), (82, i_iald 0 83), (83, i_callV 1 jB_restoreFlags 2 86), (86, i_vret)]
def tJ_note : am_T := (⟨"MailViews$Journal", "note", "(IIIII)V"⟩, prog_3_method_11_code, 6, none)
def kJ_note : List (Nat × am_I) := [(0, i_aload 0 1), (1, i_get 2 0 4), (4, i_aload 0 5), (5, i_get 2 5 8), (8, i_iload 1 9), (9, i_iast 0 0 10), (10, i_aload 0 11), (11, i_get 2 1 14), (14, i_aload 0 15), (15, i_get 2 5 18), (18, i_iload 2 19), (19, i_iast 0 0 20), (20, i_aload 0 21), (21, i_get 2 2 24), (24, i_aload 0 25), (25, i_get 2 5 28), (28, i_iload 3 29), (29, i_iast 0 0 30), (30, i_aload 0 31), (31, i_get 2 3 34), (34, i_aload 0 35), (35, i_get 2 5 38), (38, i_iload 4 40), (40, i_iast 0 0 41), (41, i_aload 0 42), (42, i_get 2 4 45), (45, i_aload 0 46), (46, i_get 2 5 49), (49, i_iload 5 51), (51, i_iast 0 0 52), (52, i_aload 0 53), (53, i_dup 54), (54, i_get 2 5 57), (57, i_const 1 58), (58, i_iadd 59), (59, i_put 2 5 0 62), (62, i_aload 0 63), (63, i_get 2 5 66), (66, i_const 8 68), (68, i_icmp_lt 75 71), (71, i_aload 0 72), (72, i_callV 2 jJ_makeAllDurable 0 75), (75, i_vret)]
def tS_init : am_T := (⟨"MailViews$Session", "<init>", "()V"⟩, prog_5_method_1_code, 1, none)
def kS_init : List (Nat × am_I) := [(0, i_aload 0 1), (1, i_callI 0 0 4), (4, i_aload 0 5), (5, i_const 24 7), (7, i_newa 0 9), (9, i_put 3 0 2 12), (12, i_aload 0 13), (13, i_const 24 15), (15, i_newa 0 17), (17, i_put 3 1 2 20), (20, i_aload 0 21), (21, i_const 49 23), (23, i_newa 0 25), (25, i_put 3 2 2 28), (28, i_aload 0 29), (29, i_const 49 31), (31, i_newa 0 33), (33, i_put 3 3 2 36), (36, i_aload 0 37), (37, i_const (-1) 38), (38, i_put 3 4 0 41), (41, i_aload 0 42), (42, i_const 0 43), (43, i_put 3 5 1 46), (46, i_aload 0 47), (47, i_const 0 48), (48, i_put 3 6 0 51), (51, i_aload 0 52), (52, i_const 0 53), (53, i_put 3 7 0 56), (56, i_aload 0 57), (57, i_const 0 58), (58, i_put 3 8 0 61), (61, i_vret)]
def tS_open : am_T := (⟨"MailViews$Session", "open", "(IZLMailViews$Mailbox;)V"⟩, prog_5_method_2_code, 4, none)
def kS_open : List (Nat × am_I) := [(0, i_aload 0 1), (1, i_iload 1 2), (2, i_put 3 4 0 5), (5, i_aload 0 6), (6, i_iload 2 7), (7, i_put 3 5 1 10), (10, i_aload 0 11), (11, i_const 0 12), (12, i_put 3 6 0 15), (15, i_aload 0 16), (16, i_const 0 17), (17, i_put 3 8 0 20), (20, i_aload 0 21), (21, i_aload 3 22), (22, i_callV 3 jS_takeInNew 1 25), (25, i_aload 0 26), (26, i_const 0 27), (27, i_put 3 7 0 30), (30, i_vret)]
def tS_leave : am_T := (⟨"MailViews$Session", "leave", "()V"⟩, prog_5_method_3_code, 1, none)
def kS_leave : List (Nat × am_I) := [(0, i_aload 0 1), (1, i_const (-1) 2), (2, i_put 3 4 0 5), (5, i_aload 0 6), (6, i_const 0 7), (7, i_put 3 5 1 10), (10, i_aload 0 11), (11, i_const 0 12), (12, i_put 3 6 0 15), (15, i_aload 0 16), (16, i_const 0 17), (17, i_put 3 7 0 20), (20, i_vret)]
def tS_mailboxNumber : am_T := (⟨"MailViews$Session", "mailboxNumber", "()I"⟩, prog_5_method_4_code, 1, some .int)
def kS_mailboxNumber : List (Nat × am_I) := [(0, i_aload 0 1), (1, i_get 3 4 4), (4, i_iret)]
def tS_isReadOnly : am_T := (⟨"MailViews$Session", "isReadOnly", "()Z"⟩, prog_5_method_5_code, 1, some .boolean)
def kS_isReadOnly : List (Nat × am_I) := [(0, i_aload 0 1), (1, i_get 3 5 4), (4, i_zret)]
def tS_viewLength : am_T := (⟨"MailViews$Session", "viewLength", "()I"⟩, prog_5_method_6_code, 1, some .int)
def kS_viewLength : List (Nat × am_I) := [(0, i_aload 0 1), (1, i_get 3 6 4), (4, i_iret)]
def tS_uidOf : am_T := (⟨"MailViews$Session", "uidOf", "(I)I"⟩, prog_5_method_7_code, 2, some .int)
def kS_uidOf : List (Nat × am_I) := [(0, i_aload 0 1), (1, i_get 3 0 4), (4, i_iload 1 5), (5, i_const 1 6), (6, i_isub 7), (7, i_iald 0 8), (8, i_iret)]
def tS_knownFlagsOf : am_T := (⟨"MailViews$Session", "knownFlagsOf", "(I)I"⟩, prog_5_method_8_code, 2, some .int)
def kS_knownFlagsOf : List (Nat × am_I) := [(0, i_aload 0 1), (1, i_get 3 1 4), (4, i_iload 1 5), (5, i_const 1 6), (6, i_isub 7), (7, i_iald 0 8), (8, i_iret)]
def tS_know : am_T := (⟨"MailViews$Session", "know", "(II)V"⟩, prog_5_method_9_code, 3, none)
def kS_know : List (Nat × am_I) := [(0, i_aload 0 1), (1, i_get 3 1 4), (4, i_iload 1 5), (5, i_const 1 6), (6, i_isub 7), (7, i_iload 2 8), (8, i_iast 0 0 9), (9, i_vret)]
def tS_noticeCount : am_T := (⟨"MailViews$Session", "noticeCount", "()I"⟩, prog_5_method_10_code, 1, some .int)
def kS_noticeCount : List (Nat × am_I) := [(0, i_aload 0 1), (1, i_get 3 7 4), (4, i_iret)]
def tS_noticeKindAt : am_T := (⟨"MailViews$Session", "noticeKindAt", "(I)I"⟩, prog_5_method_11_code, 2, some .int)
def kS_noticeKindAt : List (Nat × am_I) := [(0, i_aload 0 1), (1, i_get 3 2 4), (4, i_iload 1 5), (5, i_iald 0 6), (6, i_iret)]
def tS_noticeNumberAt : am_T := (⟨"MailViews$Session", "noticeNumberAt", "(I)I"⟩, prog_5_method_12_code, 2, some .int)
def kS_noticeNumberAt : List (Nat × am_I) := [(0, i_aload 0 1), (1, i_get 3 3 4), (4, i_iload 1 5), (5, i_iald 0 6), (6, i_iret)]
def tS_update : am_T := (⟨"MailViews$Session", "update", "(LMailViews$Mailbox;Z)V"⟩, prog_5_method_13_code, 4, none)
def kS_update : List (Nat × am_I) := [(0, i_aload 0 1), (1, i_const 0 2), (2, i_put 3 7 0 5), (5, i_iload 2 6), (6, i_if_eq 14 9), (9, i_aload 0 10), (10, i_aload 1 11), (11, i_callV 3 jS_dropGone 1 14), (14, i_aload 0 15), (15, i_get 3 6 18), (18, i_istore 3 19), (19, i_aload 0 20), (20, i_aload 1 21), (21, i_callV 3 jS_takeInNew 1 24), (24, i_aload 0 25), (25, i_get 3 6 28), (28, i_iload 3 29), (29, i_icmp_le 41 32), (32, i_aload 0 33), (33, i_const 2 34), (34, i_aload 0 35), (35, i_get 3 6 38), (38, i_callV 3 jS_tell 2 41), (41, i_aload 0 42), (42, i_aload 1 43), (43, i_callV 3 jS_learnFlags 1 46), (46, i_vret)]
def tS_dropGone : am_T := (⟨"MailViews$Session", "dropGone", "(LMailViews$Mailbox;)V"⟩, prog_5_method_14_code, 4, none)
def kS_dropGone : List (Nat × am_I) := [(0, i_const 0 1), (1, i_istore 2 2), (2, i_const 0 3), (3, i_istore 3 4), (4, i_iload 3 5), (5, i_aload 0 6), (6, i_get 3 6 9), (9, i_icmp_ge 70 12), (12, i_aload 1 13), (13, i_aload 0 14), (14, i_get 3 0 17), (17, i_iload 3 18), (18, i_iald 0 19), (19, i_callV 1 jB_positionOf 1 22), (22, i_const (-1) 23), (23, i_icmp_ne 37 26), (26, i_aload 0 27), (27, i_const 1 28), (28, i_iload 2 29), (29, i_const 1 30), (30, i_iadd 31), (31, i_callV 3 jS_tell 2 34), (34, i_goto 64), (37, i_aload 0 38), (38, i_get 3 0 41), (41, i_iload 2 42), (42, i_aload 0 43), (43, i_get 3 0 46), (46, i_iload 3 47), (47, i_iald 0 48), (48, i_iast 0 0 49), (49, i_aload 0 50), (50, i_get 3 1 53), (53, i_iload 2 54), (54, i_aload 0 55), (55, i_get 3 1 58), (58, i_iload 3 59), (59, i_iald 0 60), (60, i_iast 0 0 61), (61, i_iinc 2 1 64), (64, i_iinc 3 1 67), (67, i_goto 4), (70, i_aload 0 71), (71, i_iload 2 72), (72, i_put 3 6 0 75), (75, i_vret)]
def tS_takeInNew : am_T := (⟨"MailViews$Session", "takeInNew", "(LMailViews$Mailbox;)V"⟩, prog_5_method_15_code, 3, none)
def kS_takeInNew : List (Nat × am_I) := [(0, i_const 0 1), (1, i_istore 2 2), (2, i_iload 2 3), (3, i_aload 1 4), (4, i_callV 1 jB_messageCount 0 7), (7, i_icmp_ge 83 10), (10, i_aload 0 11), (11, i_get 3 6 14), (14, i_const 24 16), (16, i_icmp_ge 83 19), (19, i_aload 1 20), (20, i_iload 2 21), (21, i_callV 1 jB_uidAt 1 24), (24, i_aload 0 25), (25, i_get 3 8 28), (28, i_icmp_le 77 31), (31, i_aload 0 32), (32, i_aload 1 33), (33, i_iload 2 34), (34, i_callV 1 jB_uidAt 1 37), (37, i_put 3 8 0 40), (40, i_aload 0 41), (41, i_get 3 0 44), (44, i_aload 0 45), (45, i_get 3 6 48), (48, i_aload 0 49), (49, i_get 3 8 52), (52, i_iast 0 0 53), (53, i_aload 0 54), (54, i_get 3 1 57), (57, i_aload 0 58), (58, i_get 3 6 61), (61, i_aload 1 62), (62, i_iload 2 63), (63, i_callV 1 jB_flagsAt 1 66), (66, i_iast 0 0 67), (67, i_aload 0 68), (68, i_dup 69), (69, i_get 3 6 72), (72, i_const 1 73), (73, i_iadd 74), (74, i_put 3 6 0 77), (77, i_iinc 2 1 80), (80, i_goto 2), (83, i_vret)]
def tS_learnFlags : am_T := (⟨"MailViews$Session", "learnFlags", "(LMailViews$Mailbox;)V"⟩, prog_5_method_16_code, 4, none)
def kS_learnFlags : List (Nat × am_I) := [(0, i_const 1 1), (1, i_istore 2 2), (2, i_iload 2 3), (3, i_aload 0 4), (4, i_get 3 6 7), (7, i_icmp_gt 60 10), (10, i_aload 1 11), (11, i_aload 0 12), (12, i_iload 2 13), (13, i_callV 3 jS_uidOf 1 16), (16, i_callV 1 jB_positionOf 1 19), (19, i_istore 3 20), (20, i_iload 3 21), (21, i_const (-1) 22), (22, i_icmp_eq 54 25), (25, i_aload 1 26), (26, i_iload 3 27), (27, i_callV 1 jB_flagsAt 1 30), (30, i_aload 0 31), (31, i_iload 2 32), (32, i_callV 3 jS_knownFlagsOf 1 35), (35, i_icmp_eq 54 38), (38, i_aload 0 39), (39, i_iload 2 40), (40, i_aload 1 41), (41, i_iload 3 42), (42, i_callV 1 jB_flagsAt 1 45), (45, i_callV 3 jS_know 2 48), (48, i_aload 0 49), (49, i_const 3 50), (50, i_iload 2 51), (51, i_callV 3 jS_tell 2 54), (54, i_iinc 2 1 57), (57, i_goto 2), (60, i_vret)]
def tS_tell : am_T := (⟨"MailViews$Session", "tell", "(II)V"⟩, prog_5_method_17_code, 3, none)
def kS_tell : List (Nat × am_I) := [(0, i_aload 0 1), (1, i_get 3 7 4), (4, i_const 49 6), (6, i_icmp_ge 39 9), (9, i_aload 0 10), (10, i_get 3 2 13), (13, i_aload 0 14), (14, i_get 3 7 17), (17, i_iload 1 18), (18, i_iast 0 0 19), (19, i_aload 0 20), (20, i_get 3 3 23), (23, i_aload 0 24), (24, i_get 3 7 27), (27, i_iload 2 28), (28, i_iast 0 0 29), (29, i_aload 0 30), (30, i_dup 31), (31, i_get 3 7 34), (34, i_const 1 35), (35, i_iadd 36), (36, i_put 3 7 0 39), (39, i_vret)]
def tC_init : am_T := (⟨"MailViews$Criterion", "<init>", "()V"⟩, prog_2_method_1_code, 1, none)
def kC_init : List (Nat × am_I) := [(0, i_aload 0 1), (1, i_callI 0 0 4), (4, i_aload 0 5), (5, i_const 14 7), (7, i_newa 0 9), (9, i_put 4 0 2 12), (12, i_aload 0 13), (13, i_const 14 15), (15, i_newa 0 17), (17, i_put 4 1 2 20), (20, i_aload 0 21), (21, i_const 14 23), (23, i_newa 0 25), (25, i_put 4 2 2 28), (28, i_aload 0 29), (29, i_const 14 31), (31, i_newa 0 33), (33, i_put 4 3 2 36), (36, i_aload 0 37), (37, i_const 14 39), (39, i_newa 0 41), (41, i_put 4 4 2 44), (44, i_aload 0 45), (45, i_const 14 47), (47, i_newa 1 49), (49, i_put 4 5 2 52), (52, i_aload 0 53), (53, i_const 0 54), (54, i_put 4 6 0 57), (57, i_vret)]
def tC_isOp : am_T := (⟨"MailViews$Criterion", "isOp", "(I)Z"⟩, prog_2_method_2_code, 1, some .boolean)
def kC_isOp : List (Nat × am_I) := [(0, i_iload 0 1), (1, i_if_lt 14 4), (4, i_iload 0 5), (5, i_const 8 7), (7, i_icmp_gt 14 10), (10, i_const 1 11), (11, i_goto 15), (14, i_const 0 15), (15, i_zret)]
def tC_tokenCount : am_T := (⟨"MailViews$Criterion", "tokenCount", "()I"⟩, prog_2_method_3_code, 1, some .int)
def kC_tokenCount : List (Nat × am_I) := [(0, i_aload 0 1), (1, i_get 4 6 4), (4, i_iret)]
def tC_isFull : am_T := (⟨"MailViews$Criterion", "isFull", "()Z"⟩, prog_2_method_4_code, 1, some .boolean)
def kC_isFull : List (Nat × am_I) := [(0, i_aload 0 1), (1, i_get 4 6 4), (4, i_const 14 6), (6, i_icmp_lt 13 9), (9, i_const 1 10), (10, i_goto 14), (13, i_const 0 14), (14, i_zret)]
def tC_wipe : am_T := (⟨"MailViews$Criterion", "wipe", "()V"⟩, prog_2_method_5_code, 1, none)
def kC_wipe : List (Nat × am_I) := [(0, i_aload 0 1), (1, i_const 0 2), (2, i_put 4 6 0 5), (5, i_vret)]
def tC_write : am_T := (⟨"MailViews$Criterion", "write", "(III)V"⟩, prog_2_method_6_code, 4, none)
def kC_write : List (Nat × am_I) := [(0, i_aload 0 1), (1, i_get 4 0 4), (4, i_aload 0 5), (5, i_get 4 6 8), (8, i_iload 1 9), (9, i_iast 0 0 10), (10, i_aload 0 11), (11, i_get 4 1 14), (14, i_aload 0 15), (15, i_get 4 6 18), (18, i_iload 2 19), (19, i_iast 0 0 20), (20, i_aload 0 21), (21, i_get 4 2 24), (24, i_aload 0 25), (25, i_get 4 6 28), (28, i_iload 3 29), (29, i_iast 0 0 30), (30, i_aload 0 31), (31, i_dup 32), (32, i_get 4 6 35), (35, i_const 1 36), (36, i_iadd 37), (37, i_put 4 6 0 40), (40, i_vret)]
def tC_isGood : am_T := (⟨"MailViews$Criterion", "isGood", "()Z"⟩, prog_2_method_7_code, 2, some .boolean)
def kC_isGood : List (Nat × am_I) := [(0, i_aload 0 1), (1, i_get 4 6 4), (4, i_const 1 5), (5, i_isub 6), (6, i_istore 1 7), (7, i_iload 1 8), (8, i_if_lt 22 11), (11, i_aload 0 12), (12, i_iload 1 13), (13, i_callV 4 jC_measure 1 16), (16, i_iinc 1 (-1) 19), (19, i_goto 7), (22, i_aload 0 23), (23, i_get 4 6 26), (26, i_if_le 56 29), (29, i_aload 0 30), (30, i_get 4 3 33), (33, i_const 0 34), (34, i_iald 0 35), (35, i_aload 0 36), (36, i_get 4 6 39), (39, i_icmp_ne 56 42), (42, i_aload 0 43), (43, i_get 4 4 46), (46, i_const 0 47), (47, i_iald 0 48), (48, i_const 5 49), (49, i_icmp_gt 56 52), (52, i_const 1 53), (53, i_goto 57), (56, i_const 0 57), (57, i_zret)]
def tC_isFulfilledBy : am_T := (⟨"MailViews$Criterion", "isFulfilledBy", "(LMailViews$Mailbox;II)Z"⟩, prog_2_method_8_code, 5, some .boolean)
def kC_isFulfilledBy : List (Nat × am_I) := [(0, i_aload 0 1), (1, i_get 4 6 4), (4, i_const 1 5), (5, i_isub 6), (6, i_istore 4 8), (8, i_iload 4 10), (10, i_if_lt 56 13), (13, i_aload 0 14), (14, i_get 4 5 17), (17, i_iload 4 19), (19, i_aload 0 20), (20, i_get 4 0 23), (23, i_iload 4 25), (25, i_iald 0 26), (26, i_const 6 28), (28, i_icmp_ge 43 31), (31, i_aload 0 32), (32, i_iload 4 34), (34, i_aload 1 35), (35, i_iload 2 36), (36, i_iload 3 37), (37, i_callV 4 jC_leafHolds 4 40), (40, i_goto 49), (43, i_aload 0 44), (44, i_iload 4 46), (46, i_callV 4 jC_joinHolds 1 49), (49, i_iast 1 1 50), (50, i_iinc 4 (-1) 53), (53, i_goto 8), (56, i_aload 0 57), (57, i_get 4 6 60), (60, i_if_le 76 63), (63, i_aload 0 64), (64, i_get 4 5 67), (67, i_const 0 68), (68, i_iald 1 69), (69, i_if_eq 76 72), (72, i_const 1 73), (73, i_goto 77), (76, i_const 0 77), (77, i_zret)]
def tC_measure : am_T := (⟨"MailViews$Criterion", "measure", "(I)V"⟩, prog_2_method_9_code, 4, none)
def kC_measure : List (Nat × am_I) := [(0, i_iload 1 1), (1, i_const 1 2), (2, i_iadd 3), (3, i_istore 2 4), (4, i_aload 0 5), (5, i_iload 2 6), (6, i_callV 4 jC_endFrom 1 9), (9, i_istore 3 10), (10, i_aload 0 11), (11, i_get 4 0 14), (14, i_iload 1 15), (15, i_iald 0 16), (16, i_const 6 18), (18, i_icmp_ge 38 21), (21, i_aload 0 22), (22, i_get 4 3 25), (25, i_iload 1 26), (26, i_iload 2 27), (27, i_iast 0 0 28), (28, i_aload 0 29), (29, i_get 4 4 32), (32, i_iload 1 33), (33, i_const 0 34), (34, i_iast 0 0 35), (35, i_goto 104), (38, i_aload 0 39), (39, i_get 4 0 42), (42, i_iload 1 43), (43, i_iald 0 44), (44, i_const 6 46), (46, i_icmp_ne 72 49), (49, i_aload 0 50), (50, i_get 4 3 53), (53, i_iload 1 54), (54, i_iload 3 55), (55, i_iast 0 0 56), (56, i_aload 0 57), (57, i_get 4 4 60), (60, i_iload 1 61), (61, i_const 1 62), (62, i_aload 0 63), (63, i_iload 2 64), (64, i_callV 4 jC_depthFrom 1 67), (67, i_iadd 68), (68, i_iast 0 0 69), (69, i_goto 104), (72, i_aload 0 73), (73, i_get 4 3 76), (76, i_iload 1 77), (77, i_aload 0 78), (78, i_iload 3 79), (79, i_callV 4 jC_endFrom 1 82), (82, i_iast 0 0 83), (83, i_aload 0 84), (84, i_get 4 4 87), (87, i_iload 1 88), (88, i_const 1 89), (89, i_aload 0 90), (90, i_iload 2 91), (91, i_callV 4 jC_depthFrom 1 94), (94, i_aload 0 95), (95, i_iload 3 96), (96, i_callV 4 jC_depthFrom 1 99), (99, i_call2 1 102), (102, i_iadd 103), (103, i_iast 0 0 104), (104, i_vret)]
def tC_leafHolds : am_T := (⟨"MailViews$Criterion", "leafHolds", "(ILMailViews$Mailbox;II)Z"⟩, prog_2_method_10_code, 5, some .boolean)
def kC_leafHolds : List (Nat × am_I) := [(0, i_aload 0 1), (1, i_get 4 0 4), (4, i_iload 1 5), (5, i_iald 0 6), (6, i_tsw 1 [40, 61, 81, 101, 135] 163), (40, i_aload 2 41), (41, i_iload 3 42), (42, i_callV 1 jB_flagsAt 1 45), (45, i_aload 0 46), (46, i_get 4 1 49), (49, i_iload 1 50), (50, i_iald 0 51), (51, i_iand 52), (52, i_if_eq 59 55), (55, i_const 1 56), (56, i_goto 60), (59, i_const 0 60), (60, i_zret), (61, i_aload 2 62), (62, i_iload 3 63), (63, i_callV 1 jB_sizeAt 1 66), (66, i_aload 0 67), (67, i_get 4 1 70), (70, i_iload 1 71), (71, i_iald 0 72), (72, i_icmp_le 79 75), (75, i_const 1 76), (76, i_goto 80), (79, i_const 0 80), (80, i_zret), (81, i_aload 2 82), (82, i_iload 3 83), (83, i_callV 1 jB_sizeAt 1 86), (86, i_aload 0 87), (87, i_get 4 1 90), (90, i_iload 1 91), (91, i_iald 0 92), (92, i_icmp_ge 99 95), (95, i_const 1 96), (96, i_goto 100), (99, i_const 0 100), (100, i_zret), (101, i_aload 0 102), (102, i_get 4 1 105), (105, i_iload 1 106), (106, i_iald 0 107), (107, i_aload 2 108), (108, i_iload 3 109), (109, i_callV 1 jB_uidAt 1 112), (112, i_icmp_gt 133 115), (115, i_aload 2 116), (116, i_iload 3 117), (117, i_callV 1 jB_uidAt 1 120), (120, i_aload 0 121), (121, i_get 4 2 124), (124, i_iload 1 125), (125, i_iald 0 126), (126, i_icmp_gt 133 129), (129, i_const 1 130), (130, i_goto 134), (133, i_const 0 134), (134, i_zret), (135, i_aload 0 136), (136, i_get 4 1 139), (139, i_iload 1 140), (140, i_iald 0 141), (141, i_iload 4 143), (143, i_icmp_gt 161 146), (146, i_iload 4 148), (148, i_aload 0 149), (149, i_get 4 2 152), (152, i_iload 1 153), (153, i_iald 0 154), (154, i_icmp_gt 161 157), (157, i_const 1 158), (158, i_goto 162), (161, i_const 0 162), (162, i_zret), (163, i_const 1 164), (164, i_zret)]
def tC_joinHolds : am_T := (⟨"MailViews$Criterion", "joinHolds", "(I)Z"⟩, prog_2_method_11_code, 4, some .boolean)
def kC_joinHolds : List (Nat × am_I) := [(0, i_aload 0 1), (1, i_iload 1 2), (2, i_const 1 3), (3, i_iadd 4), (4, i_callV 4 jC_holdsFrom 1 7), (7, i_istore 2 8), (8, i_aload 0 9), (9, i_aload 0 10), (10, i_iload 1 11), (11, i_const 1 12), (12, i_iadd 13), (13, i_callV 4 jC_endFrom 1 16), (16, i_callV 4 jC_holdsFrom 1 19), (19, i_istore 3 20), (20, i_aload 0 21), (21, i_get 4 0 24), (24, i_iload 1 25), (25, i_iald 0 26), (26, i_lsw [(7, 52), (8, 66)] 80), (52, i_iload 2 53), (53, i_if_eq 64 56), (56, i_iload 3 57), (57, i_if_eq 64 60), (60, i_const 1 61), (61, i_goto 65), (64, i_const 0 65), (65, i_zret), (66, i_iload 2 67), (67, i_if_ne 74 70), (70, i_iload 3 71), (71, i_if_eq 78 74), (74, i_const 1 75), (75, i_goto 79), (78, i_const 0 79), (79, i_zret), (80, i_iload 2 81), (81, i_if_ne 88 84), (84, i_const 1 85), (85, i_goto 89), (88, i_const 0 89), (89, i_zret)]
def tC_endFrom : am_T := (⟨"MailViews$Criterion", "endFrom", "(I)I"⟩, prog_2_method_12_code, 2, some .int)
def kC_endFrom : List (Nat × am_I) := [(0, i_iload 1 1), (1, i_aload 0 2), (2, i_get 4 6 5), (5, i_icmp_ge 17 8), (8, i_aload 0 9), (9, i_get 4 3 12), (12, i_iload 1 13), (13, i_iald 0 14), (14, i_goto 19), (17, i_const 15 19), (19, i_iret)]
def tC_depthFrom : am_T := (⟨"MailViews$Criterion", "depthFrom", "(I)I"⟩, prog_2_method_13_code, 2, some .int)
def kC_depthFrom : List (Nat × am_I) := [(0, i_iload 1 1), (1, i_aload 0 2), (2, i_get 4 6 5), (5, i_icmp_ge 17 8), (8, i_aload 0 9), (9, i_get 4 4 12), (12, i_iload 1 13), (13, i_iald 0 14), (14, i_goto 18), (17, i_const 0 18), (18, i_iret)]
def tC_holdsFrom : am_T := (⟨"MailViews$Criterion", "holdsFrom", "(I)Z"⟩, prog_2_method_14_code, 2, some .boolean)
def kC_holdsFrom : List (Nat × am_I) := [(0, i_iload 1 1), (1, i_aload 0 2), (2, i_get 4 6 5), (5, i_icmp_ge 21 8), (8, i_aload 0 9), (9, i_get 4 5 12), (12, i_iload 1 13), (13, i_iald 1 14), (14, i_if_eq 21 17), (17, i_const 1 18), (18, i_goto 22), (21, i_const 0 22), (22, i_zret)]
def tM_init : am_T := (⟨"MailViewsModel", "<init>", "()V"⟩, prog_7_method_1_code, 2, none)
def kM_init : List (Nat × am_I) := [(0, i_aload 0 1), (1, i_callI 0 0 4), (4, i_aload 0 5), (5, i_const 8000 8), (8, i_newa 0 10), (10, i_put 5 2 2 13), (13, i_aload 0 14), (14, i_const 3 15), (15, i_newa 0 17), (17, i_put 5 3 2 20), (20, i_aload 0 21), (21, i_const 108 23), (23, i_newa 0 25), (25, i_put 5 4 2 28), (28, i_aload 0 29), (29, i_const 3 30), (30, i_newa 0 32), (32, i_put 5 5 2 35), (35, i_aload 0 36), (36, i_const 3 37), (37, i_newa 0 39), (39, i_put 5 6 2 42), (42, i_aload 0 43), (43, i_const 4 44), (44, i_newa 0 46), (46, i_put 5 7 2 49), (49, i_aload 0 50), (50, i_const 4 51), (51, i_newa 1 53), (53, i_put 5 8 2 56), (56, i_aload 0 57), (57, i_const 4 58), (58, i_newa 0 60), (60, i_put 5 9 2 63), (63, i_aload 0 64), (64, i_const 96 66), (66, i_newa 0 68), (68, i_put 5 10 2 71), (71, i_aload 0 72), (72, i_const 96 74), (74, i_newa 0 76), (76, i_put 5 11 2 79), (79, i_aload 0 80), (80, i_const 4 81), (81, i_newa 0 83), (83, i_put 5 12 2 86), (86, i_aload 0 87), (87, i_const 4 88), (88, i_newa 0 90), (90, i_put 5 13 2 93), (93, i_aload 0 94), (94, i_const 400 97), (97, i_newa 0 99), (99, i_put 5 14 2 102), (102, i_aload 0 103), (103, i_const 42 105), (105, i_newa 0 107), (107, i_put 5 16 2 110), (110, i_aload 0 111), (111, i_const 24 113), (113, i_newa 0 115), (115, i_put 5 18 2 118), (118, i_aload 0 119), (119, i_const 20 121), (121, i_newa 1 123), (123, i_put 5 19 2 126), (126, i_aload 0 127), (127, i_const 20 129), (129, i_newa 0 131), (131, i_put 5 20 2 134), (134, i_const 0 135), (135, i_istore 1 136), (136, i_iload 1 137), (137, i_const 3 138), (138, i_icmp_ge 161 141), (141, i_aload 0 142), (142, i_get 5 5 145), (145, i_iload 1 146), (146, i_const 1 147), (147, i_iast 0 0 148), (148, i_aload 0 149), (149, i_get 5 6 152), (152, i_iload 1 153), (153, i_const 1 154), (154, i_iast 0 0 155), (155, i_iinc 1 1 158), (158, i_goto 136), (161, i_const 0 162), (162, i_istore 1 163), (163, i_iload 1 164), (164, i_const 4 165), (165, i_icmp_ge 181 168), (168, i_aload 0 169), (169, i_get 5 7 172), (172, i_iload 1 173), (173, i_const (-1) 174), (174, i_iast 0 0 175), (175, i_iinc 1 1 178), (178, i_goto 163), (181, i_vret)]
def tM_in : am_T := (⟨"MailViewsModel", "in", "(III)Z"⟩, prog_7_method_2_code, 3, some .boolean)
def kM_in : List (Nat × am_I) := [(0, i_iload 0 1), (1, i_iload 1 2), (2, i_icmp_lt 14 5), (5, i_iload 0 6), (6, i_iload 2 7), (7, i_icmp_gt 14 10), (10, i_const 1 11), (11, i_goto 15), (14, i_const 0 15), (15, i_zret)]
def tM_place : am_T := (⟨"MailViewsModel", "place", "(II)I"⟩, prog_7_method_3_code, 4, some .int)
def kM_place : List (Nat × am_I) := [(0, i_const 0 1), (1, i_istore 3 2), (2, i_iload 3 3), (3, i_aload 0 4), (4, i_get 5 3 7), (7, i_iload 1 8), (8, i_iald 0 9), (9, i_icmp_ge 37 12), (12, i_aload 0 13), (13, i_get 5 4 16), (16, i_const 36 18), (18, i_iload 1 19), (19, i_imul 20), (20, i_const 3 21), (21, i_iload 3 22), (22, i_imul 23), (23, i_iadd 24), (24, i_iald 0 25), (25, i_iload 2 26), (26, i_icmp_ne 31 29), (29, i_iload 3 30), (30, i_iret), (31, i_iinc 3 1 34), (34, i_goto 2), (37, i_const (-1) 38), (38, i_iret)]
def tM_flagsOf : am_T := (⟨"MailViewsModel", "flagsOf", "(II)I"⟩, prog_7_method_4_code, 3, some .int)
def kM_flagsOf : List (Nat × am_I) := [(0, i_aload 0 1), (1, i_get 5 4 4), (4, i_const 36 6), (6, i_iload 1 7), (7, i_imul 8), (8, i_const 3 9), (9, i_aload 0 10), (10, i_iload 1 11), (11, i_iload 2 12), (12, i_callV 5 jM_place 2 15), (15, i_imul 16), (16, i_iadd 17), (17, i_const 1 18), (18, i_iadd 19), (19, i_iald 0 20), (20, i_iret)]
def tM_apply : am_T := (⟨"MailViewsModel", "apply", "(I)V"⟩, prog_7_method_5_code, 7, none)
def kM_apply : List (Nat × am_I) := [(0, i_const 5 1), (1, i_iload 1 2), (2, i_imul 3), (3, i_istore 2 4), (4, i_aload 0 5), (5, i_get 5 2 8), (8, i_iload 2 9), (9, i_const 1 10), (10, i_iadd 11), (11, i_iald 0 12), (12, i_istore 3 13), (13, i_aload 0 14), (14, i_get 5 2 17), (17, i_iload 2 18), (18, i_const 2 19), (19, i_iadd 20), (20, i_iald 0 21), (21, i_istore 4 23), (23, i_aload 0 24), (24, i_get 5 2 27), (27, i_iload 2 28), (28, i_iald 0 29), (29, i_const 3 30), (30, i_icmp_ne 62 33), (33, i_aload 0 34), (34, i_get 5 4 37), (37, i_const 36 39), (39, i_iload 3 40), (40, i_imul 41), (41, i_const 3 42), (42, i_aload 0 43), (43, i_iload 3 44), (44, i_iload 4 46), (46, i_callV 5 jM_place 2 49), (49, i_imul 50), (50, i_iadd 51), (51, i_const 1 52), (52, i_iadd 53), (53, i_aload 0 54), (54, i_get 5 2 57), (57, i_iload 2 58), (58, i_const 3 59), (59, i_iadd 60), (60, i_iald 0 61), (61, i_iast 0 0 62), (62, i_aload 0 63), (63, i_get 5 2 66), (66, i_iload 2 67), (67, i_iald 0 68), (68, i_const 2 69), (69, i_icmp_ne 142 72), (72, i_aload 0 73), (73, i_iload 3 74), (74, i_iload 4 76), (76, i_callV 5 jM_place 2 79), (79, i_istore 5 81), (81, i_aload 0 82), (82, i_get 5 3 85), (85, i_iload 3 86), (86, i_dup2 87), (87, i_iald 0 88), (88, i_const 1 89), (89, i_isub 90), (90, i_iast 0 0 91), (91, i_const 36 93), (93, i_iload 3 94), (94, i_imul 95), (95, i_const 3 96), (96, i_iload 5 98), (98, i_imul 99), (99, i_iadd 100), (100, i_istore 6 102), (102, i_iload 6 104), (104, i_const 36 106), (106, i_iload 3 107), (107, i_imul 108), (108, i_const 3 109), (109, i_aload 0 110), (110, i_get 5 3 113), (113, i_iload 3 114), (114, i_iald 0 115), (115, i_imul 116), (116, i_iadd 117), (117, i_icmp_ge 142 120), (120, i_aload 0 121), (121, i_get 5 4 124), (124, i_iload 6 126), (126, i_aload 0 127), (127, i_get 5 4 130), (130, i_iload 6 132), (132, i_const 3 133), (133, i_iadd 134), (134, i_iald 0 135), (135, i_iast 0 0 136), (136, i_iinc 6 1 139), (139, i_goto 102), (142, i_aload 0 143), (143, i_get 5 2 146), (146, i_iload 2 147), (147, i_iald 0 148), (148, i_const 1 149), (149, i_icmp_ne 230 152), (152, i_const 36 154), (154, i_iload 3 155), (155, i_imul 156), (156, i_const 3 157), (157, i_aload 0 158), (158, i_get 5 3 161), (161, i_iload 3 162), (162, i_iald 0 163), (163, i_imul 164), (164, i_iadd 165), (165, i_istore 5 167), (167, i_aload 0 168), (168, i_get 5 4 171), (171, i_iload 5 173), (173, i_iload 4 175), (175, i_iast 0 0 176), (176, i_aload 0 177), (177, i_get 5 4 180), (180, i_iload 5 182), (182, i_const 1 183), (183, i_iadd 184), (184, i_aload 0 185), (185, i_get 5 2 188), (188, i_iload 2 189), (189, i_const 3 190), (190, i_iadd 191), (191, i_iald 0 192), (192, i_iast 0 0 193), (193, i_aload 0 194), (194, i_get 5 4 197), (197, i_iload 5 199), (199, i_const 2 200), (200, i_iadd 201), (201, i_aload 0 202), (202, i_get 5 2 205), (205, i_iload 2 206), (206, i_const 4 207), (207, i_iadd 208), (208, i_iald 0 209), (209, i_iast 0 0 210), (210, i_aload 0 211), (211, i_get 5 3 214), (214, i_iload 3 215), (215, i_dup2 216), (216, i_iald 0 217), (217, i_const 1 218), (218, i_iadd 219), (219, i_iast 0 0 220), (220, i_aload 0 221), (221, i_get 5 5 224), (224, i_iload 3 225), (225, i_iload 4 227), (227, i_const 1 228), (228, i_iadd 229), (229, i_iast 0 0 230), (230, i_vret)]
def tM_note : am_T := (⟨"MailViewsModel", "note", "(IIIII)V"⟩, prog_7_method_6_code, 7, none)
def kM_note : List (Nat × am_I) := [(0, i_const 5 1), (1, i_aload 0 2), (2, i_get 5 0 5), (5, i_imul 6), (6, i_istore 6 8), (8, i_aload 0 9), (9, i_get 5 2 12), (12, i_iload 6 14), (14, i_iload 1 15), (15, i_iast 0 0 16), (16, i_aload 0 17), (17, i_get 5 2 20), (20, i_iload 6 22), (22, i_const 1 23), (23, i_iadd 24), (24, i_iload 2 25), (25, i_iast 0 0 26), (26, i_aload 0 27), (27, i_get 5 2 30), (30, i_iload 6 32), (32, i_const 2 33), (33, i_iadd 34), (34, i_iload 3 35), (35, i_iast 0 0 36), (36, i_aload 0 37), (37, i_get 5 2 40), (40, i_iload 6 42), (42, i_const 3 43), (43, i_iadd 44), (44, i_iload 4 46), (46, i_iast 0 0 47), (47, i_aload 0 48), (48, i_get 5 2 51), (51, i_iload 6 53), (53, i_const 4 54), (54, i_iadd 55), (55, i_iload 5 57), (57, i_iast 0 0 58), (58, i_aload 0 59), (59, i_aload 0 60), (60, i_get 5 0 63), (63, i_callV 5 jM_apply 1 66), (66, i_aload 0 67), (67, i_dup 68), (68, i_get 5 0 71), (71, i_const 1 72), (72, i_iadd 73), (73, i_put 5 0 0 76), (76, i_aload 0 77), (77, i_get 5 0 80), (80, i_aload 0 81), (81, i_get 5 1 84), (84, i_isub 85), (85, i_const 8 87), (87, i_icmp_ne 98 90), (90, i_aload 0 91), (91, i_aload 0 92), (92, i_get 5 0 95), (95, i_put 5 1 0 98), (98, i_vret)]
def tM_add : am_T := (⟨"MailViewsModel", "add", "(III)I"⟩, prog_7_method_7_code, 4, some .int)
def kM_add : List (Nat × am_I) := [(0, i_aload 0 1), (1, i_get 5 3 4), (4, i_iload 1 5), (5, i_iald 0 6), (6, i_const 12 8), (8, i_icmp_ne 14 11), (11, i_const (-2) 13), (13, i_iret), (14, i_aload 0 15), (15, i_const 1 16), (16, i_iload 1 17), (17, i_aload 0 18), (18, i_get 5 5 21), (21, i_iload 1 22), (22, i_iald 0 23), (23, i_iload 2 24), (24, i_iload 3 25), (25, i_callV 5 jM_note 5 28), (28, i_aload 0 29), (29, i_get 5 5 32), (32, i_iload 1 33), (33, i_iald 0 34), (34, i_const 1 35), (35, i_isub 36), (36, i_iret)]
def tM_purge : am_T := (⟨"MailViewsModel", "purge", "(I)I"⟩, prog_7_method_8_code, 4, some .int)
def kM_purge : List (Nat × am_I) := [(0, i_const 0 1), (1, i_istore 2 2), (2, i_const 0 3), (3, i_istore 3 4), (4, i_iload 3 5), (5, i_aload 0 6), (6, i_get 5 3 9), (9, i_iload 1 10), (10, i_iald 0 11), (11, i_icmp_ge 68 14), (14, i_aload 0 15), (15, i_get 5 4 18), (18, i_const 36 20), (20, i_iload 1 21), (21, i_imul 22), (22, i_const 3 23), (23, i_iload 3 24), (24, i_imul 25), (25, i_iadd 26), (26, i_const 1 27), (27, i_iadd 28), (28, i_iald 0 29), (29, i_const 8 31), (31, i_iand 32), (32, i_if_ne 41 35), (35, i_iinc 3 1 38), (38, i_goto 4), (41, i_aload 0 42), (42, i_const 2 43), (43, i_iload 1 44), (44, i_aload 0 45), (45, i_get 5 4 48), (48, i_const 36 50), (50, i_iload 1 51), (51, i_imul 52), (52, i_const 3 53), (53, i_iload 3 54), (54, i_imul 55), (55, i_iadd 56), (56, i_iald 0 57), (57, i_const 0 58), (58, i_const 0 59), (59, i_callV 5 jM_note 5 62), (62, i_iinc 2 1 65), (65, i_goto 4), (68, i_iload 2 69), (69, i_iret)]
def tM_append : am_T := (⟨"MailViewsModel", "append", "(III)I"⟩, prog_7_method_9_code, 4, some .int)
def kM_append : List (Nat × am_I) := [(0, i_iload 1 1), (1, i_const 0 2), (2, i_const 2 3), (3, i_callS jM_in 3 6), (6, i_if_eq 30 9), (9, i_iload 2 10), (10, i_const 0 11), (11, i_const 31 13), (13, i_callS jM_in 3 16), (16, i_if_eq 30 19), (19, i_iload 3 20), (20, i_const 1 21), (21, i_const 999 24), (24, i_callS jM_in 3 27), (27, i_if_ne 32 30), (30, i_const (-1) 31), (31, i_iret), (32, i_aload 0 33), (33, i_iload 1 34), (34, i_iload 2 35), (35, i_iload 3 36), (36, i_callV 5 jM_add 3 39), (39, i_iret)]
def tM_none : am_T := (⟨"MailViewsModel", "none", "(I)Z"⟩, prog_7_method_10_code, 2, some .boolean)
def kM_none : List (Nat × am_I) := [(0, i_iload 1 1), (1, i_const 0 2), (2, i_const 3 3), (3, i_callS jM_in 3 6), (6, i_if_eq 18 9), (9, i_aload 0 10), (10, i_get 5 7 13), (13, i_iload 1 14), (14, i_iald 0 15), (15, i_if_ge 22 18), (18, i_const 1 19), (19, i_goto 23), (22, i_const 0 23), (23, i_zret)]
def tM_bad : am_T := (⟨"MailViewsModel", "bad", "(II)Z"⟩, prog_7_method_11_code, 3, some .boolean)
def kM_bad : List (Nat × am_I) := [(0, i_aload 0 1), (1, i_iload 1 2), (2, i_callV 5 jM_none 1 5), (5, i_if_ne 22 8), (8, i_iload 2 9), (9, i_const 1 10), (10, i_aload 0 11), (11, i_get 5 9 14), (14, i_iload 1 15), (15, i_iald 0 16), (16, i_callS jM_in 3 19), (19, i_if_ne 26 22), (22, i_const 1 23), (23, i_goto 27), (26, i_const 0 27), (27, i_zret)]
def tM_uidOf : am_T := (⟨"MailViewsModel", "uidOf", "(II)I"⟩, prog_7_method_12_code, 3, some .int)
def kM_uidOf : List (Nat × am_I) := [(0, i_aload 0 1), (1, i_get 5 10 4), (4, i_const 24 6), (6, i_iload 1 7), (7, i_imul 8), (8, i_iload 2 9), (9, i_iadd 10), (10, i_const 1 11), (11, i_isub 12), (12, i_iald 0 13), (13, i_iret)]
def tM_gone : am_T := (⟨"MailViewsModel", "gone", "(II)Z"⟩, prog_7_method_13_code, 3, some .boolean)
def kM_gone : List (Nat × am_I) := [(0, i_aload 0 1), (1, i_aload 0 2), (2, i_get 5 7 5), (5, i_iload 1 6), (6, i_iald 0 7), (7, i_aload 0 8), (8, i_iload 1 9), (9, i_iload 2 10), (10, i_callV 5 jM_uidOf 2 13), (13, i_callV 5 jM_place 2 16), (16, i_if_ge 23 19), (19, i_const 1 20), (20, i_goto 24), (23, i_const 0 24), (24, i_zret)]
def tM_tell : am_T := (⟨"MailViewsModel", "tell", "(III)V"⟩, prog_7_method_14_code, 4, none)
def kM_tell : List (Nat × am_I) := [(0, i_aload 0 1), (1, i_get 5 14 4), (4, i_const 100 6), (6, i_iload 1 7), (7, i_imul 8), (8, i_const 2 9), (9, i_aload 0 10), (10, i_get 5 13 13), (13, i_iload 1 14), (14, i_iald 0 15), (15, i_imul 16), (16, i_iadd 17), (17, i_iload 2 18), (18, i_iast 0 0 19), (19, i_aload 0 20), (20, i_get 5 14 23), (23, i_const 100 25), (25, i_iload 1 26), (26, i_imul 27), (27, i_const 2 28), (28, i_aload 0 29), (29, i_get 5 13 32), (32, i_iload 1 33), (33, i_iald 0 34), (34, i_imul 35), (35, i_iadd 36), (36, i_const 1 37), (37, i_iadd 38), (38, i_iload 3 39), (39, i_iast 0 0 40), (40, i_aload 0 41), (41, i_get 5 13 44), (44, i_iload 1 45), (45, i_dup2 46), (46, i_iald 0 47), (47, i_const 1 48), (48, i_iadd 49), (49, i_iast 0 0 50), (50, i_vret)]
def tM_leave : am_T := (⟨"MailViewsModel", "leave", "(II)V"⟩, prog_7_method_15_code, 4, none)
def kM_leave : List (Nat × am_I) := [(0, i_aload 0 1), (1, i_get 5 9 4), (4, i_iload 1 5), (5, i_dup2 6), (6, i_iald 0 7), (7, i_const 1 8), (8, i_isub 9), (9, i_iast 0 0 10), (10, i_const 24 12), (12, i_iload 1 13), (13, i_imul 14), (14, i_iload 2 15), (15, i_iadd 16), (16, i_const 1 17), (17, i_isub 18), (18, i_istore 3 19), (19, i_iload 3 20), (20, i_const 24 22), (22, i_iload 1 23), (23, i_imul 24), (24, i_aload 0 25), (25, i_get 5 9 28), (28, i_iload 1 29), (29, i_iald 0 30), (30, i_iadd 31), (31, i_icmp_ge 68 34), (34, i_aload 0 35), (35, i_get 5 10 38), (38, i_iload 3 39), (39, i_aload 0 40), (40, i_get 5 10 43), (43, i_iload 3 44), (44, i_const 1 45), (45, i_iadd 46), (46, i_iald 0 47), (47, i_iast 0 0 48), (48, i_aload 0 49), (49, i_get 5 11 52), (52, i_iload 3 53), (53, i_aload 0 54), (54, i_get 5 11 57), (57, i_iload 3 58), (58, i_const 1 59), (59, i_iadd 60), (60, i_iald 0 61), (61, i_iast 0 0 62), (62, i_iinc 3 1 65), (65, i_goto 19), (68, i_vret)]
def tM_gather : am_T := (⟨"MailViewsModel", "gather", "(I)I"⟩, prog_7_method_16_code, 6, some .int)
def kM_gather : List (Nat × am_I) := [(0, i_aload 0 1), (1, i_get 5 7 4), (4, i_iload 1 5), (5, i_iald 0 6), (6, i_istore 2 7), (7, i_const 0 8), (8, i_istore 3 9), (9, i_const 0 10), (10, i_istore 4 12), (12, i_iload 4 14), (14, i_aload 0 15), (15, i_get 5 3 18), (18, i_iload 2 19), (19, i_iald 0 20), (20, i_icmp_ge 141 23), (23, i_aload 0 24), (24, i_get 5 4 27), (27, i_const 36 29), (29, i_iload 2 30), (30, i_imul 31), (31, i_const 3 32), (32, i_iload 4 34), (34, i_imul 35), (35, i_iadd 36), (36, i_iald 0 37), (37, i_istore 5 39), (39, i_iload 5 41), (41, i_aload 0 42), (42, i_get 5 12 45), (45, i_iload 1 46), (46, i_iald 0 47), (47, i_icmp_le 135 50), (50, i_aload 0 51), (51, i_get 5 9 54), (54, i_iload 1 55), (55, i_iald 0 56), (56, i_const 24 58), (58, i_icmp_ne 64 61), (61, i_goto 135), (64, i_aload 0 65), (65, i_get 5 10 68), (68, i_const 24 70), (70, i_iload 1 71), (71, i_imul 72), (72, i_aload 0 73), (73, i_get 5 9 76), (76, i_iload 1 77), (77, i_iald 0 78), (78, i_iadd 79), (79, i_iload 5 81), (81, i_iast 0 0 82), (82, i_aload 0 83), (83, i_get 5 11 86), (86, i_const 24 88), (88, i_iload 1 89), (89, i_imul 90), (90, i_aload 0 91), (91, i_get 5 9 94), (94, i_iload 1 95), (95, i_iald 0 96), (96, i_iadd 97), (97, i_aload 0 98), (98, i_get 5 4 101), (101, i_const 36 103), (103, i_iload 2 104), (104, i_imul 105), (105, i_const 3 106), (106, i_iload 4 108), (108, i_imul 109), (109, i_iadd 110), (110, i_const 1 111), (111, i_iadd 112), (112, i_iald 0 113), (113, i_iast 0 0 114), (114, i_aload 0 115), (115, i_get 5 9 118), (118, i_iload 1 119), (119, i_dup2 120), (120, i_iald 0 121), (121, i_const 1 122), (122, i_iadd 123), (123, i_iast 0 0 124), (124, i_aload 0 125), (125, i_get 5 12 128), (128, i_iload 1 129), (129, i_iload 5 131), (131, i_iast 0 0 132), (132, i_iinc 3 1 135), (135, i_iinc 4 1 138), (138, i_goto 12), (141, i_iload 3 142), (142, i_iret)]
def tM_update : am_T := (⟨"MailViewsModel", "update", "(IZ)V"⟩, prog_7_method_17_code, 6, none)
def kM_update : List (Nat × am_I) := [(0, i_aload 0 1), (1, i_get 5 13 4), (4, i_iload 1 5), (5, i_const 0 6), (6, i_iast 0 0 7), (7, i_const 1 8), (8, i_istore 3 9), (9, i_iload 2 10), (10, i_if_eq 54 13), (13, i_iload 3 14), (14, i_aload 0 15), (15, i_get 5 9 18), (18, i_iload 1 19), (19, i_iald 0 20), (20, i_icmp_gt 54 23), (23, i_aload 0 24), (24, i_iload 1 25), (25, i_iload 3 26), (26, i_callV 5 jM_gone 2 29), (29, i_if_eq 48 32), (32, i_aload 0 33), (33, i_iload 1 34), (34, i_iload 3 35), (35, i_callV 5 jM_leave 2 38), (38, i_aload 0 39), (39, i_iload 1 40), (40, i_const 1 41), (41, i_iload 3 42), (42, i_callV 5 jM_tell 3 45), (45, i_goto 9), (48, i_iinc 3 1 51), (51, i_goto 9), (54, i_aload 0 55), (55, i_iload 1 56), (56, i_callV 5 jM_gather 1 59), (59, i_if_le 74 62), (62, i_aload 0 63), (63, i_iload 1 64), (64, i_const 2 65), (65, i_aload 0 66), (66, i_get 5 9 69), (69, i_iload 1 70), (70, i_iald 0 71), (71, i_callV 5 jM_tell 3 74), (74, i_const 1 75), (75, i_istore 4 77), (77, i_iload 4 79), (79, i_aload 0 80), (80, i_get 5 9 83), (83, i_iload 1 84), (84, i_iald 0 85), (85, i_icmp_gt 172 88), (88, i_aload 0 89), (89, i_iload 1 90), (90, i_iload 4 92), (92, i_callV 5 jM_gone 2 95), (95, i_if_eq 101 98), (98, i_goto 166), (101, i_aload 0 102), (102, i_aload 0 103), (103, i_get 5 7 106), (106, i_iload 1 107), (107, i_iald 0 108), (108, i_aload 0 109), (109, i_iload 1 110), (110, i_iload 4 112), (112, i_callV 5 jM_uidOf 2 115), (115, i_callV 5 jM_flagsOf 2 118), (118, i_istore 5 120), (120, i_iload 5 122), (122, i_aload 0 123), (123, i_get 5 11 126), (126, i_const 24 128), (128, i_iload 1 129), (129, i_imul 130), (130, i_iload 4 132), (132, i_iadd 133), (133, i_const 1 134), (134, i_isub 135), (135, i_iald 0 136), (136, i_icmp_ne 142 139), (139, i_goto 166), (142, i_aload 0 143), (143, i_get 5 11 146), (146, i_const 24 148), (148, i_iload 1 149), (149, i_imul 150), (150, i_iload 4 152), (152, i_iadd 153), (153, i_const 1 154), (154, i_isub 155), (155, i_iload 5 157), (157, i_iast 0 0 158), (158, i_aload 0 159), (159, i_iload 1 160), (160, i_const 3 161), (161, i_iload 4 163), (163, i_callV 5 jM_tell 3 166), (166, i_iinc 4 1 169), (169, i_goto 77), (172, i_vret)]
def tM_select : am_T := (⟨"MailViewsModel", "select", "(IIZ)I"⟩, prog_7_method_18_code, 4, some .int)
def kM_select : List (Nat × am_I) := [(0, i_iload 1 1), (1, i_const 0 2), (2, i_const 3 3), (3, i_callS jM_in 3 6), (6, i_if_eq 18 9), (9, i_iload 2 10), (10, i_const 0 11), (11, i_const 2 12), (12, i_callS jM_in 3 15), (15, i_if_ne 20 18), (18, i_const (-1) 19), (19, i_iret), (20, i_aload 0 21), (21, i_get 5 7 24), (24, i_iload 1 25), (25, i_iload 2 26), (26, i_iast 0 0 27), (27, i_aload 0 28), (28, i_get 5 8 31), (31, i_iload 1 32), (32, i_iload 3 33), (33, i_iast 1 1 34), (34, i_aload 0 35), (35, i_get 5 9 38), (38, i_iload 1 39), (39, i_const 0 40), (40, i_iast 0 0 41), (41, i_aload 0 42), (42, i_get 5 12 45), (45, i_iload 1 46), (46, i_const 0 47), (47, i_iast 0 0 48), (48, i_aload 0 49), (49, i_get 5 13 52), (52, i_iload 1 53), (53, i_const 0 54), (54, i_iast 0 0 55), (55, i_aload 0 56), (56, i_iload 1 57), (57, i_callV 5 jM_gather 1 60), (60, i_iret)]
def tM_close : am_T := (⟨"MailViewsModel", "close", "(I)I"⟩, prog_7_method_19_code, 3, some .int)
def kM_close : List (Nat × am_I) := [(0, i_aload 0 1), (1, i_iload 1 2), (2, i_callV 5 jM_none 1 5), (5, i_if_eq 10 8), (8, i_const (-1) 9), (9, i_iret), (10, i_aload 0 11), (11, i_get 5 8 14), (14, i_iload 1 15), (15, i_iald 1 16), (16, i_if_eq 23 19), (19, i_const 0 20), (20, i_goto 33), (23, i_aload 0 24), (24, i_aload 0 25), (25, i_get 5 7 28), (28, i_iload 1 29), (29, i_iald 0 30), (30, i_callV 5 jM_purge 1 33), (33, i_istore 2 34), (34, i_aload 0 35), (35, i_get 5 7 38), (38, i_iload 1 39), (39, i_const (-1) 40), (40, i_iast 0 0 41), (41, i_iload 2 42), (42, i_iret)]
def tM_check : am_T := (⟨"MailViewsModel", "check", "(I)I"⟩, prog_7_method_20_code, 2, some .int)
def kM_check : List (Nat × am_I) := [(0, i_aload 0 1), (1, i_iload 1 2), (2, i_callV 5 jM_none 1 5), (5, i_if_eq 10 8), (8, i_const (-1) 9), (9, i_iret), (10, i_aload 0 11), (11, i_iload 1 12), (12, i_const 1 13), (13, i_callV 5 jM_update 2 16), (16, i_aload 0 17), (17, i_get 5 13 20), (20, i_iload 1 21), (21, i_iald 0 22), (22, i_iret)]
def tM_fetch : am_T := (⟨"MailViewsModel", "fetch", "(II)I"⟩, prog_7_method_21_code, 4, some .int)
def kM_fetch : List (Nat × am_I) := [(0, i_aload 0 1), (1, i_iload 1 2), (2, i_iload 2 3), (3, i_callV 5 jM_bad 2 6), (6, i_if_eq 11 9), (9, i_const (-1) 10), (10, i_iret), (11, i_aload 0 12), (12, i_iload 1 13), (13, i_iload 2 14), (14, i_callV 5 jM_gone 2 17), (17, i_if_eq 23 20), (20, i_const (-3) 22), (22, i_iret), (23, i_aload 0 24), (24, i_aload 0 25), (25, i_get 5 7 28), (28, i_iload 1 29), (29, i_iald 0 30), (30, i_aload 0 31), (31, i_iload 1 32), (32, i_iload 2 33), (33, i_callV 5 jM_uidOf 2 36), (36, i_callV 5 jM_flagsOf 2 39), (39, i_istore 3 40), (40, i_aload 0 41), (41, i_get 5 11 44), (44, i_const 24 46), (46, i_iload 1 47), (47, i_imul 48), (48, i_iload 2 49), (49, i_iadd 50), (50, i_const 1 51), (51, i_isub 52), (52, i_iload 3 53), (53, i_iast 0 0 54), (54, i_iload 3 55), (55, i_iret)]
def tM_store : am_T := (⟨"MailViewsModel", "store", "(IIII)I"⟩, prog_7_method_22_code, 8, some .int)
def kM_store : List (Nat × am_I) := [(0, i_aload 0 1), (1, i_iload 1 2), (2, i_iload 2 3), (3, i_callV 5 jM_bad 2 6), (6, i_if_ne 29 9), (9, i_iload 3 10), (10, i_const 0 11), (11, i_const 2 12), (12, i_callS jM_in 3 15), (15, i_if_eq 29 18), (18, i_iload 4 20), (20, i_const 0 21), (21, i_const 31 23), (23, i_callS jM_in 3 26), (26, i_if_ne 31 29), (29, i_const (-1) 30), (30, i_iret), (31, i_aload 0 32), (32, i_get 5 8 35), (35, i_iload 1 36), (36, i_iald 1 37), (37, i_if_eq 43 40), (40, i_const (-4) 42), (42, i_iret), (43, i_aload 0 44), (44, i_iload 1 45), (45, i_iload 2 46), (46, i_callV 5 jM_gone 2 49), (49, i_if_eq 55 52), (52, i_const (-3) 54), (54, i_iret), (55, i_aload 0 56), (56, i_iload 1 57), (57, i_iload 2 58), (58, i_callV 5 jM_uidOf 2 61), (61, i_istore 5 63), (63, i_aload 0 64), (64, i_aload 0 65), (65, i_get 5 7 68), (68, i_iload 1 69), (69, i_iald 0 70), (70, i_iload 5 72), (72, i_callV 5 jM_flagsOf 2 75), (75, i_istore 6 77), (77, i_iload 3 78), (78, i_if_ne 86 81), (81, i_iload 4 83), (83, i_goto 106), (86, i_iload 3 87), (87, i_const 1 88), (88, i_icmp_ne 99 91), (91, i_iload 6 93), (93, i_iload 4 95), (95, i_ior 96), (96, i_goto 106), (99, i_iload 6 101), (101, i_iload 4 103), (103, i_const (-1) 104), (104, i_ixor 105), (105, i_iand 106), (106, i_istore 7 108), (108, i_aload 0 109), (109, i_const 3 110), (110, i_aload 0 111), (111, i_get 5 7 114), (114, i_iload 1 115), (115, i_iald 0 116), (116, i_iload 5 118), (118, i_iload 7 120), (120, i_const 0 121), (121, i_callV 5 jM_note 5 124), (124, i_aload 0 125), (125, i_get 5 11 128), (128, i_const 24 130), (130, i_iload 1 131), (131, i_imul 132), (132, i_iload 2 133), (133, i_iadd 134), (134, i_const 1 135), (135, i_isub 136), (136, i_iload 7 138), (138, i_iast 0 0 139), (139, i_aload 0 140), (140, i_iload 1 141), (141, i_const 0 142), (142, i_callV 5 jM_update 2 145), (145, i_iload 7 147), (147, i_iret)]
def tM_expunge : am_T := (⟨"MailViewsModel", "expunge", "(I)I"⟩, prog_7_method_23_code, 3, some .int)
def kM_expunge : List (Nat × am_I) := [(0, i_aload 0 1), (1, i_iload 1 2), (2, i_callV 5 jM_none 1 5), (5, i_if_eq 10 8), (8, i_const (-1) 9), (9, i_iret), (10, i_aload 0 11), (11, i_get 5 8 14), (14, i_iload 1 15), (15, i_iald 1 16), (16, i_if_eq 22 19), (19, i_const (-4) 21), (21, i_iret), (22, i_aload 0 23), (23, i_aload 0 24), (24, i_get 5 7 27), (27, i_iload 1 28), (28, i_iald 0 29), (29, i_callV 5 jM_purge 1 32), (32, i_istore 2 33), (33, i_aload 0 34), (34, i_iload 1 35), (35, i_const 1 36), (36, i_callV 5 jM_update 2 39), (39, i_iload 2 40), (40, i_iret)]
def tM_copy : am_T := (⟨"MailViewsModel", "copy", "(III)I"⟩, prog_7_method_24_code, 6, some .int)
def kM_copy : List (Nat × am_I) := [(0, i_aload 0 1), (1, i_iload 1 2), (2, i_iload 2 3), (3, i_callV 5 jM_bad 2 6), (6, i_if_ne 18 9), (9, i_iload 3 10), (10, i_const 0 11), (11, i_const 2 12), (12, i_callS jM_in 3 15), (15, i_if_ne 20 18), (18, i_const (-1) 19), (19, i_iret), (20, i_aload 0 21), (21, i_iload 1 22), (22, i_iload 2 23), (23, i_callV 5 jM_gone 2 26), (26, i_if_eq 32 29), (29, i_const (-3) 31), (31, i_iret), (32, i_const 36 34), (34, i_aload 0 35), (35, i_get 5 7 38), (38, i_iload 1 39), (39, i_iald 0 40), (40, i_imul 41), (41, i_const 3 42), (42, i_aload 0 43), (43, i_aload 0 44), (44, i_get 5 7 47), (47, i_iload 1 48), (48, i_iald 0 49), (49, i_aload 0 50), (50, i_iload 1 51), (51, i_iload 2 52), (52, i_callV 5 jM_uidOf 2 55), (55, i_callV 5 jM_place 2 58), (58, i_imul 59), (59, i_iadd 60), (60, i_istore 4 62), (62, i_aload 0 63), (63, i_iload 3 64), (64, i_aload 0 65), (65, i_get 5 4 68), (68, i_iload 4 70), (70, i_const 1 71), (71, i_iadd 72), (72, i_iald 0 73), (73, i_aload 0 74), (74, i_get 5 4 77), (77, i_iload 4 79), (79, i_const 2 80), (80, i_iadd 81), (81, i_iald 0 82), (82, i_callV 5 jM_add 3 85), (85, i_istore 5 87), (87, i_iload 5 89), (89, i_if_le 98 92), (92, i_aload 0 93), (93, i_iload 1 94), (94, i_const 1 95), (95, i_callV 5 jM_update 2 98), (98, i_iload 5 100), (100, i_iret)]
def tM_criterion : am_T := (⟨"MailViewsModel", "criterion", "(III)I"⟩, prog_7_method_25_code, 4, some .int)
def kM_criterion : List (Nat × am_I) := [(0, i_iload 1 1), (1, i_const 0 2), (2, i_const 8 4), (4, i_callS jM_in 3 7), (7, i_if_ne 12 10), (10, i_const (-1) 11), (11, i_iret), (12, i_aload 0 13), (13, i_get 5 15 16), (16, i_const 14 18), (18, i_icmp_ne 24 21), (21, i_const (-2) 23), (23, i_iret), (24, i_aload 0 25), (25, i_get 5 16 28), (28, i_const 3 29), (29, i_aload 0 30), (30, i_get 5 15 33), (33, i_imul 34), (34, i_iload 1 35), (35, i_iast 0 0 36), (36, i_aload 0 37), (37, i_get 5 16 40), (40, i_const 3 41), (41, i_aload 0 42), (42, i_get 5 15 45), (45, i_imul 46), (46, i_const 1 47), (47, i_iadd 48), (48, i_iload 2 49), (49, i_iast 0 0 50), (50, i_aload 0 51), (51, i_get 5 16 54), (54, i_const 3 55), (55, i_aload 0 56), (56, i_get 5 15 59), (59, i_imul 60), (60, i_const 2 61), (61, i_iadd 62), (62, i_iload 3 63), (63, i_iast 0 0 64), (64, i_aload 0 65), (65, i_dup 66), (66, i_get 5 15 69), (69, i_const 1 70), (70, i_iadd 71), (71, i_put 5 15 0 74), (74, i_aload 0 75), (75, i_get 5 15 78), (78, i_iret)]
def tM_parts : am_T := (⟨"MailViewsModel", "parts", "(I)I"⟩, prog_7_method_26_code, 3, some .int)
def kM_parts : List (Nat × am_I) := [(0, i_aload 0 1), (1, i_get 5 16 4), (4, i_const 3 5), (5, i_iload 1 6), (6, i_imul 7), (7, i_iald 0 8), (8, i_istore 2 9), (9, i_iload 2 10), (10, i_const 6 12), (12, i_icmp_ge 19 15), (15, i_const 0 16), (16, i_goto 30), (19, i_iload 2 20), (20, i_const 6 22), (22, i_icmp_ne 29 25), (25, i_const 1 26), (26, i_goto 30), (29, i_const 2 30), (30, i_iret)]
def tM_good : am_T := (⟨"MailViewsModel", "good", "()Z"⟩, prog_7_method_27_code, 3, some .boolean)
def kM_good : List (Nat × am_I) := [(0, i_const 0 1), (1, i_istore 1 2), (2, i_const 0 3), (3, i_istore 2 4), (4, i_iload 2 5), (5, i_aload 0 6), (6, i_get 5 15 9), (9, i_icmp_ge 84 12), (12, i_iload 2 13), (13, i_if_le 20 16), (16, i_iload 1 17), (17, i_if_eq 25 20), (20, i_iload 1 21), (21, i_const 5 22), (22, i_icmp_le 27 25), (25, i_const 0 26), (26, i_zret), (27, i_aload 0 28), (28, i_get 5 20 31), (31, i_iload 1 32), (32, i_aload 0 33), (33, i_iload 2 34), (34, i_callV 5 jM_parts 1 37), (37, i_iast 0 0 38), (38, i_iinc 1 1 41), (41, i_iload 1 42), (42, i_if_le 78 45), (45, i_aload 0 46), (46, i_get 5 20 49), (49, i_iload 1 50), (50, i_const 1 51), (51, i_isub 52), (52, i_iald 0 53), (53, i_if_ne 78 56), (56, i_iinc 1 (-1) 59), (59, i_iload 1 60), (60, i_if_le 41 63), (63, i_aload 0 64), (64, i_get 5 20 67), (67, i_iload 1 68), (68, i_const 1 69), (69, i_isub 70), (70, i_dup2 71), (71, i_iald 0 72), (72, i_const 1 73), (73, i_isub 74), (74, i_iast 0 0 75), (75, i_goto 41), (78, i_iinc 2 1 81), (81, i_goto 4), (84, i_aload 0 85), (85, i_get 5 15 88), (88, i_if_le 99 91), (91, i_iload 1 92), (92, i_if_ne 99 95), (95, i_const 1 96), (96, i_goto 100), (99, i_const 0 100), (100, i_zret)]
def tM_leaf : am_T := (⟨"MailViewsModel", "leaf", "(III)Z"⟩, prog_7_method_28_code, 9, some .boolean)
def kM_leaf : List (Nat × am_I) := [(0, i_aload 0 1), (1, i_get 5 7 4), (4, i_iload 2 5), (5, i_iald 0 6), (6, i_istore 4 8), (8, i_aload 0 9), (9, i_iload 2 10), (10, i_iload 3 11), (11, i_callV 5 jM_uidOf 2 14), (14, i_istore 5 16), (16, i_const 36 18), (18, i_iload 4 20), (20, i_imul 21), (21, i_const 3 22), (22, i_aload 0 23), (23, i_iload 4 25), (25, i_iload 5 27), (27, i_callV 5 jM_place 2 30), (30, i_imul 31), (31, i_iadd 32), (32, i_istore 6 34), (34, i_aload 0 35), (35, i_get 5 16 38), (38, i_const 3 39), (39, i_iload 1 40), (40, i_imul 41), (41, i_const 1 42), (42, i_iadd 43), (43, i_iald 0 44), (44, i_istore 7 46), (46, i_aload 0 47), (47, i_get 5 16 50), (50, i_const 3 51), (51, i_iload 1 52), (52, i_imul 53), (53, i_const 2 54), (54, i_iadd 55), (55, i_iald 0 56), (56, i_istore 8 58), (58, i_aload 0 59), (59, i_get 5 16 62), (62, i_const 3 63), (63, i_iload 1 64), (64, i_imul 65), (65, i_iald 0 66), (66, i_tsw 1 [100, 121, 141, 161, 171] 180), (100, i_aload 0 101), (101, i_get 5 4 104), (104, i_iload 6 106), (106, i_const 1 107), (107, i_iadd 108), (108, i_iald 0 109), (109, i_iload 7 111), (111, i_iand 112), (112, i_if_eq 119 115), (115, i_const 1 116), (116, i_goto 120), (119, i_const 0 120), (120, i_zret), (121, i_aload 0 122), (122, i_get 5 4 125), (125, i_iload 6 127), (127, i_const 2 128), (128, i_iadd 129), (129, i_iald 0 130), (130, i_iload 7 132), (132, i_icmp_le 139 135), (135, i_const 1 136), (136, i_goto 140), (139, i_const 0 140), (140, i_zret), (141, i_aload 0 142), (142, i_get 5 4 145), (145, i_iload 6 147), (147, i_const 2 148), (148, i_iadd 149), (149, i_iald 0 150), (150, i_iload 7 152), (152, i_icmp_ge 159 155), (155, i_const 1 156), (156, i_goto 160), (159, i_const 0 160), (160, i_zret), (161, i_iload 5 163), (163, i_iload 7 165), (165, i_iload 8 167), (167, i_callS jM_in 3 170), (170, i_zret), (171, i_iload 3 172), (172, i_iload 7 174), (174, i_iload 8 176), (176, i_callS jM_in 3 179), (179, i_zret), (180, i_const 1 181), (181, i_zret)]
def tM_fulfils : am_T := (⟨"MailViewsModel", "fulfils", "(II)Z"⟩, prog_7_method_29_code, 8, some .boolean)
def kM_fulfils : List (Nat × am_I) := [(0, i_const 0 1), (1, i_istore 3 2), (2, i_aload 0 3), (3, i_get 5 15 6), (6, i_const 1 7), (7, i_isub 8), (8, i_istore 4 10), (10, i_iload 4 12), (12, i_if_lt 162 15), (15, i_aload 0 16), (16, i_get 5 16 19), (19, i_const 3 20), (20, i_iload 4 22), (22, i_imul 23), (23, i_iald 0 24), (24, i_istore 5 26), (26, i_iload 5 28), (28, i_const 6 30), (30, i_icmp_ge 53 33), (33, i_aload 0 34), (34, i_get 5 19 37), (37, i_iload 3 38), (38, i_aload 0 39), (39, i_iload 4 41), (41, i_iload 1 42), (42, i_iload 2 43), (43, i_callV 5 jM_leaf 3 46), (46, i_iast 1 1 47), (47, i_iinc 3 1 50), (50, i_goto 156), (53, i_iload 5 55), (55, i_const 6 57), (57, i_icmp_ne 87 60), (60, i_aload 0 61), (61, i_get 5 19 64), (64, i_iload 3 65), (65, i_const 1 66), (66, i_isub 67), (67, i_aload 0 68), (68, i_get 5 19 71), (71, i_iload 3 72), (72, i_const 1 73), (73, i_isub 74), (74, i_iald 1 75), (75, i_if_ne 82 78), (78, i_const 1 79), (79, i_goto 83), (82, i_const 0 83), (83, i_iast 1 1 84), (84, i_goto 156), (87, i_iinc 3 (-1) 90), (90, i_aload 0 91), (91, i_get 5 19 94), (94, i_iload 3 95), (95, i_iald 1 96), (96, i_istore 6 98), (98, i_aload 0 99), (99, i_get 5 19 102), (102, i_iload 3 103), (103, i_const 1 104), (104, i_isub 105), (105, i_iald 1 106), (106, i_istore 7 108), (108, i_aload 0 109), (109, i_get 5 19 112), (112, i_iload 3 113), (113, i_const 1 114), (114, i_isub 115), (115, i_iload 5 117), (117, i_const 7 119), (119, i_icmp_ne 140 122), (122, i_iload 6 124), (124, i_if_eq 136 127), (127, i_iload 7 129), (129, i_if_eq 136 132), (132, i_const 1 133), (133, i_goto 155), (136, i_const 0 137), (137, i_goto 155), (140, i_iload 6 142), (142, i_if_ne 150 145), (145, i_iload 7 147), (147, i_if_eq 154 150), (150, i_const 1 151), (151, i_goto 155), (154, i_const 0 155), (155, i_iast 1 1 156), (156, i_iinc 4 (-1) 159), (159, i_goto 10), (162, i_aload 0 163), (163, i_get 5 19 166), (166, i_const 0 167), (167, i_iald 1 168), (168, i_zret)]
def tM_search : am_T := (⟨"MailViewsModel", "search", "(I)I"⟩, prog_7_method_30_code, 4, some .int)
def kM_search : List (Nat × am_I) := [(0, i_aload 0 1), (1, i_iload 1 2), (2, i_callV 5 jM_none 1 5), (5, i_if_eq 10 8), (8, i_const (-1) 9), (9, i_iret), (10, i_aload 0 11), (11, i_callV 5 jM_good 0 14), (14, i_istore 2 15), (15, i_iload 2 16), (16, i_if_eq 89 19), (19, i_aload 0 20), (20, i_const 0 21), (21, i_put 5 17 0 24), (24, i_const 1 25), (25, i_istore 3 26), (26, i_iload 3 27), (27, i_aload 0 28), (28, i_get 5 9 31), (31, i_iload 1 32), (32, i_iald 0 33), (33, i_icmp_gt 83 36), (36, i_aload 0 37), (37, i_iload 1 38), (38, i_iload 3 39), (39, i_callV 5 jM_gone 2 42), (42, i_if_ne 77 45), (45, i_aload 0 46), (46, i_iload 1 47), (47, i_iload 3 48), (48, i_callV 5 jM_fulfils 2 51), (51, i_if_ne 57 54), (54, i_goto 77), (57, i_aload 0 58), (58, i_get 5 18 61), (61, i_aload 0 62), (62, i_get 5 17 65), (65, i_iload 3 66), (66, i_iast 0 0 67), (67, i_aload 0 68), (68, i_dup 69), (69, i_get 5 17 72), (72, i_const 1 73), (73, i_iadd 74), (74, i_put 5 17 0 77), (77, i_iinc 3 1 80), (80, i_goto 26), (83, i_aload 0 84), (84, i_iload 1 85), (85, i_const 0 86), (86, i_callV 5 jM_update 2 89), (89, i_aload 0 90), (90, i_const 0 91), (91, i_put 5 15 0 94), (94, i_iload 2 95), (95, i_if_eq 105 98), (98, i_aload 0 99), (99, i_get 5 17 102), (102, i_goto 107), (105, i_const (-5) 107), (107, i_iret)]
def tM_found : am_T := (⟨"MailViewsModel", "found", "(I)I"⟩, prog_7_method_31_code, 2, some .int)
def kM_found : List (Nat × am_I) := [(0, i_iload 1 1), (1, i_const 0 2), (2, i_aload 0 3), (3, i_get 5 17 6), (6, i_const 1 7), (7, i_isub 8), (8, i_callS jM_in 3 11), (11, i_if_eq 23 14), (14, i_aload 0 15), (15, i_get 5 18 18), (18, i_iload 1 19), (19, i_iald 0 20), (20, i_goto 24), (23, i_const (-1) 24), (24, i_iret)]
def tM_sync : am_T := (⟨"MailViewsModel", "sync", "()I"⟩, prog_7_method_32_code, 1, some .int)
def kM_sync : List (Nat × am_I) := [(0, i_aload 0 1), (1, i_aload 0 2), (2, i_get 5 0 5), (5, i_put 5 1 0 8), (8, i_aload 0 9), (9, i_get 5 0 12), (12, i_iret)]
def tM_crash : am_T := (⟨"MailViewsModel", "crash", "()I"⟩, prog_7_method_33_code, 4, some .int)
def kM_crash : List (Nat × am_I) := [(0, i_const 0 1), (1, i_istore 1 2), (2, i_iload 1 3), (3, i_const 3 4), (4, i_icmp_ge 90 7), (7, i_const 0 8), (8, i_istore 2 9), (9, i_aload 0 10), (10, i_get 5 1 13), (13, i_istore 3 14), (14, i_iload 3 15), (15, i_aload 0 16), (16, i_get 5 0 19), (19, i_icmp_ge 56 22), (22, i_aload 0 23), (23, i_get 5 2 26), (26, i_const 5 27), (27, i_iload 3 28), (28, i_imul 29), (29, i_iald 0 30), (30, i_const 1 31), (31, i_icmp_ne 50 34), (34, i_aload 0 35), (35, i_get 5 2 38), (38, i_const 5 39), (39, i_iload 3 40), (40, i_imul 41), (41, i_const 1 42), (42, i_iadd 43), (43, i_iald 0 44), (44, i_iload 1 45), (45, i_icmp_ne 50 48), (48, i_const 1 49), (49, i_istore 2 50), (50, i_iinc 3 1 53), (53, i_goto 14), (56, i_iload 2 57), (57, i_if_eq 70 60), (60, i_aload 0 61), (61, i_get 5 6 64), (64, i_iload 1 65), (65, i_dup2 66), (66, i_iald 0 67), (67, i_const 1 68), (68, i_iadd 69), (69, i_iast 0 0 70), (70, i_aload 0 71), (71, i_get 5 3 74), (74, i_iload 1 75), (75, i_const 0 76), (76, i_iast 0 0 77), (77, i_aload 0 78), (78, i_get 5 5 81), (81, i_iload 1 82), (82, i_const 1 83), (83, i_iast 0 0 84), (84, i_iinc 1 1 87), (87, i_goto 2), (90, i_aload 0 91), (91, i_aload 0 92), (92, i_get 5 1 95), (95, i_put 5 0 0 98), (98, i_const 0 99), (99, i_istore 1 100), (100, i_iload 1 101), (101, i_aload 0 102), (102, i_get 5 0 105), (105, i_icmp_ge 119 108), (108, i_aload 0 109), (109, i_iload 1 110), (110, i_callV 5 jM_apply 1 113), (113, i_iinc 1 1 116), (116, i_goto 100), (119, i_const 0 120), (120, i_istore 1 121), (121, i_iload 1 122), (122, i_const 4 123), (123, i_icmp_ge 139 126), (126, i_aload 0 127), (127, i_get 5 7 130), (130, i_iload 1 131), (131, i_const (-1) 132), (132, i_iast 0 0 133), (133, i_iinc 1 1 136), (136, i_goto 121), (139, i_aload 0 140), (140, i_get 5 0 143), (143, i_iret)]
def tM_message : am_T := (⟨"MailViewsModel", "message", "(III)I"⟩, prog_7_method_34_code, 4, some .int)
def kM_message : List (Nat × am_I) := [(0, i_iload 1 1), (1, i_const 0 2), (2, i_const 2 3), (3, i_callS jM_in 3 6), (6, i_if_eq 34 9), (9, i_iload 2 10), (10, i_const 0 11), (11, i_aload 0 12), (12, i_get 5 3 15), (15, i_iload 1 16), (16, i_iald 0 17), (17, i_const 1 18), (18, i_isub 19), (19, i_callS jM_in 3 22), (22, i_if_eq 34 25), (25, i_iload 3 26), (26, i_const 0 27), (27, i_const 2 28), (28, i_callS jM_in 3 31), (31, i_if_ne 36 34), (34, i_const (-1) 35), (35, i_iret), (36, i_aload 0 37), (37, i_get 5 4 40), (40, i_const 36 42), (42, i_iload 1 43), (43, i_imul 44), (44, i_const 3 45), (45, i_iload 2 46), (46, i_imul 47), (47, i_iadd 48), (48, i_iload 3 49), (49, i_iadd 50), (50, i_iald 0 51), (51, i_iret)]
def tM_seen : am_T := (⟨"MailViewsModel", "seen", "(III)I"⟩, prog_7_method_35_code, 4, some .int)
def kM_seen : List (Nat × am_I) := [(0, i_aload 0 1), (1, i_iload 1 2), (2, i_iload 2 3), (3, i_callV 5 jM_bad 2 6), (6, i_if_ne 18 9), (9, i_iload 3 10), (10, i_const 0 11), (11, i_const 1 12), (12, i_callS jM_in 3 15), (15, i_if_ne 20 18), (18, i_const (-1) 19), (19, i_iret), (20, i_iload 3 21), (21, i_if_ne 33 24), (24, i_aload 0 25), (25, i_iload 1 26), (26, i_iload 2 27), (27, i_callV 5 jM_uidOf 2 30), (30, i_goto 46), (33, i_aload 0 34), (34, i_get 5 11 37), (37, i_const 24 39), (39, i_iload 1 40), (40, i_imul 41), (41, i_iload 2 42), (42, i_iadd 43), (43, i_const 1 44), (44, i_isub 45), (45, i_iald 0 46), (46, i_iret)]
def tM_notice : am_T := (⟨"MailViewsModel", "notice", "(III)I"⟩, prog_7_method_36_code, 4, some .int)
def kM_notice : List (Nat × am_I) := [(0, i_aload 0 1), (1, i_iload 1 2), (2, i_callV 5 jM_none 1 5), (5, i_if_ne 33 8), (8, i_iload 2 9), (9, i_const 0 10), (10, i_aload 0 11), (11, i_get 5 13 14), (14, i_iload 1 15), (15, i_iald 0 16), (16, i_const 1 17), (17, i_isub 18), (18, i_callS jM_in 3 21), (21, i_if_eq 33 24), (24, i_iload 3 25), (25, i_const 0 26), (26, i_const 1 27), (27, i_callS jM_in 3 30), (30, i_if_ne 35 33), (33, i_const (-1) 34), (34, i_iret), (35, i_aload 0 36), (36, i_get 5 14 39), (39, i_const 100 41), (41, i_iload 1 42), (42, i_imul 43), (43, i_const 2 44), (44, i_iload 2 45), (45, i_imul 46), (46, i_iadd 47), (47, i_iload 3 48), (48, i_iadd 49), (49, i_iald 0 50), (50, i_iret)]
def tM_mailbox : am_T := (⟨"MailViewsModel", "mailbox", "(II)I"⟩, prog_7_method_37_code, 5, some .int)
def kM_mailbox : List (Nat × am_I) := [(0, i_iload 1 1), (1, i_const 0 2), (2, i_const 2 3), (3, i_callS jM_in 3 6), (6, i_if_eq 18 9), (9, i_iload 2 10), (10, i_const 0 11), (11, i_const 3 12), (12, i_callS jM_in 3 15), (15, i_if_ne 20 18), (18, i_const (-1) 19), (19, i_iret), (20, i_iload 2 21), (21, i_if_ne 31 24), (24, i_aload 0 25), (25, i_get 5 3 28), (28, i_iload 1 29), (29, i_iald 0 30), (30, i_iret), (31, i_iload 2 32), (32, i_const 3 33), (33, i_icmp_ge 57 36), (36, i_iload 2 37), (37, i_const 1 38), (38, i_icmp_ne 50 41), (41, i_aload 0 42), (42, i_get 5 5 45), (45, i_iload 1 46), (46, i_iald 0 47), (47, i_goto 56), (50, i_aload 0 51), (51, i_get 5 6 54), (54, i_iload 1 55), (55, i_iald 0 56), (56, i_iret), (57, i_const 0 58), (58, i_istore 3 59), (59, i_const 0 60), (60, i_istore 4 62), (62, i_iload 4 64), (64, i_const 4 65), (65, i_icmp_ge 88 68), (68, i_aload 0 69), (69, i_get 5 7 72), (72, i_iload 4 74), (74, i_iald 0 75), (75, i_iload 1 76), (76, i_icmp_ne 82 79), (79, i_iinc 3 1 82), (82, i_iinc 4 1 85), (85, i_goto 62), (88, i_iload 3 89), (89, i_iret)]
def tM_count : am_T := (⟨"MailViewsModel", "count", "(I)I"⟩, prog_7_method_38_code, 2, some .int)
def kM_count : List (Nat × am_I) := [(0, i_iload 1 1), (1, i_const 0 2), (2, i_const 1 3), (3, i_callS jM_in 3 6), (6, i_if_eq 25 9), (9, i_iload 1 10), (10, i_if_ne 20 13), (13, i_aload 0 14), (14, i_get 5 0 17), (17, i_goto 24), (20, i_aload 0 21), (21, i_get 5 1 24), (24, i_iret), (25, i_iload 1 26), (26, i_const 2 27), (27, i_icmp_ne 37 30), (30, i_aload 0 31), (31, i_get 5 15 34), (34, i_goto 50), (37, i_iload 1 38), (38, i_const 3 39), (39, i_icmp_ne 49 42), (42, i_aload 0 43), (43, i_get 5 17 46), (46, i_goto 50), (49, i_const (-1) 50), (50, i_iret)]
def mv_ms : List (am_T × List (Nat × am_I)) := [((⟨"", "", ""⟩, ⟨#[]⟩, 1, none), [(0, i_vret)]), ((⟨"", "", ""⟩, ⟨#[]⟩, 2, none), [(0, i_max)]), ((⟨"", "", ""⟩, ⟨#[]⟩, 2, none), [(0, i_min)]),
  (tV_init, kV_init),
  (tV_append, kV_append),
  (tV_select, kV_select),
  (tV_close, kV_close),
  (tV_check, kV_check),
  (tV_fetch, kV_fetch),
  (tV_store, kV_store),
  (tV_expunge, kV_expunge),
  (tV_copy, kV_copy),
  (tV_criterion, kV_criterion),
  (tV_search, kV_search),
  (tV_found, kV_found),
  (tV_sync, kV_sync),
  (tV_crash, kV_crash),
  (tV_message, kV_message),
  (tV_seen, kV_seen),
  (tV_notice, kV_notice),
  (tV_mailbox, kV_mailbox),
  (tV_count, kV_count),
  (tV_isMailbox, kV_isMailbox),
  (tV_isSession, kV_isSession),
  (tV_areFlags, kV_areFlags),
  (tV_hasMailbox, kV_hasMailbox),
  (tV_isInView, kV_isInView),
  (tV_mailboxOf, kV_mailboxOf),
  (tV_sessionsWith, kV_sessionsWith),
  (tV_update, kV_update),
  (tV_add, kV_add),
  (tV_removeDeleted, kV_removeDeleted),
  (tV_changedFlags, kV_changedFlags),
  (tV_findHits, kV_findHits),
  (tB_init, kB_init),
  (tB_messageCount, kB_messageCount),
  (tB_isFull, kB_isFull),
  (tB_nextUid, kB_nextUid),
  (tB_validity, kB_validity),
  (tB_growValidity, kB_growValidity),
  (tB_uidAt, kB_uidAt),
  (tB_flagsAt, kB_flagsAt),
  (tB_sizeAt, kB_sizeAt),
  (tB_setFlagsAt, kB_setFlagsAt),
  (tB_positionOf, kB_positionOf),
  (tB_addNew, kB_addNew),
  (tB_takeBackAdded, kB_takeBackAdded),
  (tB_insert, kB_insert),
  (tB_removeAt, kB_removeAt),
  (tB_restoreFlags, kB_restoreFlags),
  (tB_move, kB_move),
  (tJ_init, kJ_init),
  (tJ_changeCount, kJ_changeCount),
  (tJ_durableCount, kJ_durableCount),
  (tJ_noteAdded, kJ_noteAdded),
  (tJ_noteRemoved, kJ_noteRemoved),
  (tJ_noteFlagsSet, kJ_noteFlagsSet),
  (tJ_makeAllDurable, kJ_makeAllDurable),
  (tJ_hasOpenAdditionTo, kJ_hasOpenAdditionTo),
  (tJ_takeBackAll, kJ_takeBackAll),
  (tJ_takeBack, kJ_takeBack),
  (tJ_note, kJ_note),
  (tS_init, kS_init),
  (tS_open, kS_open),
  (tS_leave, kS_leave),
  (tS_mailboxNumber, kS_mailboxNumber),
  (tS_isReadOnly, kS_isReadOnly),
  (tS_viewLength, kS_viewLength),
  (tS_uidOf, kS_uidOf),
  (tS_knownFlagsOf, kS_knownFlagsOf),
  (tS_know, kS_know),
  (tS_noticeCount, kS_noticeCount),
  (tS_noticeKindAt, kS_noticeKindAt),
  (tS_noticeNumberAt, kS_noticeNumberAt),
  (tS_update, kS_update),
  (tS_dropGone, kS_dropGone),
  (tS_takeInNew, kS_takeInNew),
  (tS_learnFlags, kS_learnFlags),
  (tS_tell, kS_tell),
  (tC_init, kC_init),
  (tC_isOp, kC_isOp),
  (tC_tokenCount, kC_tokenCount),
  (tC_isFull, kC_isFull),
  (tC_wipe, kC_wipe),
  (tC_write, kC_write),
  (tC_isGood, kC_isGood),
  (tC_isFulfilledBy, kC_isFulfilledBy),
  (tC_measure, kC_measure),
  (tC_leafHolds, kC_leafHolds),
  (tC_joinHolds, kC_joinHolds),
  (tC_endFrom, kC_endFrom),
  (tC_depthFrom, kC_depthFrom),
  (tC_holdsFrom, kC_holdsFrom),
  (tM_init, kM_init),
  (tM_in, kM_in),
  (tM_place, kM_place),
  (tM_flagsOf, kM_flagsOf),
  (tM_apply, kM_apply),
  (tM_note, kM_note),
  (tM_add, kM_add),
  (tM_purge, kM_purge),
  (tM_append, kM_append),
  (tM_none, kM_none),
  (tM_bad, kM_bad),
  (tM_uidOf, kM_uidOf),
  (tM_gone, kM_gone),
  (tM_tell, kM_tell),
  (tM_leave, kM_leave),
  (tM_gather, kM_gather),
  (tM_update, kM_update),
  (tM_select, kM_select),
  (tM_close, kM_close),
  (tM_check, kM_check),
  (tM_fetch, kM_fetch),
  (tM_store, kM_store),
  (tM_expunge, kM_expunge),
  (tM_copy, kM_copy),
  (tM_criterion, kM_criterion),
  (tM_parts, kM_parts),
  (tM_good, kM_good),
  (tM_leaf, kM_leaf),
  (tM_fulfils, kM_fulfils),
  (tM_search, kM_search),
  (tM_found, kM_found),
  (tM_sync, kM_sync),
  (tM_crash, kM_crash),
  (tM_message, kM_message),
  (tM_seen, kM_seen),
  (tM_notice, kM_notice),
  (tM_mailbox, kM_mailbox),
  (tM_count, kM_count)]
def mv_tb (j : Nat) : am_T := match mv_ms[j]? with
  | some q => q.1
  | none => (⟨"", "", ""⟩, ⟨#[]⟩, 0, none)
def mv_P : am_P := fun j => match mv_ms[j]? with
  | some q => (q.1.2.2.1, am_at q.2)
  | none => (0, fun _ => i_fail)
theorem mv_P0 : am_P0 mv_P := ⟨rfl, rfl, rfl⟩
abbrev mv_J : Nat := 131
theorem pV_init : mv_P jV_init = (2, am_at kV_init) := rfl
theorem ce_V_init {D : va_G} {dA : Nat → ClassId} {h b L : Nat} {xs : Nat → Int32} {T : am_T} (hN : am_nN (am_En D dA h b L xs)) : am_Ce (am_En D dA h b L xs) T (mv_tb jV_init) 0 := ⟨hN, am_Tg_ok, tw_51, tw_40, ⟨by decide +kernel, by decide +kernel, by decide +kernel⟩, by decide +kernel⟩
theorem pV_append : mv_P jV_append = (4, am_at kV_append) := rfl
theorem ce_V_append {D : va_G} {dA : Nat → ClassId} {h b L : Nat} {xs : Nat → Int32} {T : am_T} (hN : am_nN (am_En D dA h b L xs)) : am_Ce (am_En D dA h b L xs) T (mv_tb jV_append) 3 := ⟨hN, am_Tg_ok, tw_196, tw_40, ⟨by decide +kernel, by decide +kernel, by decide +kernel⟩, by decide +kernel⟩
theorem pV_select : mv_P jV_select = (4, am_at kV_select) := rfl
theorem ce_V_select {D : va_G} {dA : Nat → ClassId} {h b L : Nat} {xs : Nat → Int32} {T : am_T} (hN : am_nN (am_En D dA h b L xs)) : am_Ce (am_En D dA h b L xs) T (mv_tb jV_select) 3 := ⟨hN, am_Tg_ok, tw_239, tw_40, ⟨by decide +kernel, by decide +kernel, by decide +kernel⟩, by decide +kernel⟩
theorem pV_close : mv_P jV_close = (4, am_at kV_close) := rfl
theorem ce_V_close {D : va_G} {dA : Nat → ClassId} {h b L : Nat} {xs : Nat → Int32} {T : am_T} (hN : am_nN (am_En D dA h b L xs)) : am_Ce (am_En D dA h b L xs) T (mv_tb jV_close) 1 := ⟨hN, am_Tg_ok, tw_270, tw_40, ⟨by decide +kernel, by decide +kernel, by decide +kernel⟩, by decide +kernel⟩
theorem pV_check : mv_P jV_check = (2, am_at kV_check) := rfl
theorem ce_V_check {D : va_G} {dA : Nat → ClassId} {h b L : Nat} {xs : Nat → Int32} {T : am_T} (hN : am_nN (am_En D dA h b L xs)) : am_Ce (am_En D dA h b L xs) T (mv_tb jV_check) 1 := ⟨hN, am_Tg_ok, tw_309, tw_40, ⟨by decide +kernel, by decide +kernel, by decide +kernel⟩, by decide +kernel⟩
theorem pV_fetch : mv_P jV_fetch = (5, am_at kV_fetch) := rfl
theorem ce_V_fetch {D : va_G} {dA : Nat → ClassId} {h b L : Nat} {xs : Nat → Int32} {T : am_T} (hN : am_nN (am_En D dA h b L xs)) : am_Ce (am_En D dA h b L xs) T (mv_tb jV_fetch) 2 := ⟨hN, am_Tg_ok, tw_357, tw_40, ⟨by decide +kernel, by decide +kernel, by decide +kernel⟩, by decide +kernel⟩
theorem pV_store : mv_P jV_store = (10, am_at kV_store) := rfl
theorem ce_V_store {D : va_G} {dA : Nat → ClassId} {h b L : Nat} {xs : Nat → Int32} {T : am_T} (hN : am_nN (am_En D dA h b L xs)) : am_Ce (am_En D dA h b L xs) T (mv_tb jV_store) 4 := ⟨hN, am_Tg_ok, tw_368, tw_40, ⟨by decide +kernel, by decide +kernel, by decide +kernel⟩, by decide +kernel⟩
theorem pV_expunge : mv_P jV_expunge = (3, am_at kV_expunge) := rfl
theorem ce_V_expunge {D : va_G} {dA : Nat → ClassId} {h b L : Nat} {xs : Nat → Int32} {T : am_T} (hN : am_nN (am_En D dA h b L xs)) : am_Ce (am_En D dA h b L xs) T (mv_tb jV_expunge) 1 := ⟨hN, am_Tg_ok, tw_383, tw_40, ⟨by decide +kernel, by decide +kernel, by decide +kernel⟩, by decide +kernel⟩
theorem pV_copy : mv_P jV_copy = (7, am_at kV_copy) := rfl
theorem ce_V_copy {D : va_G} {dA : Nat → ClassId} {h b L : Nat} {xs : Nat → Int32} {T : am_T} (hN : am_nN (am_En D dA h b L xs)) : am_Ce (am_En D dA h b L xs) T (mv_tb jV_copy) 3 := ⟨hN, am_Tg_ok, tw_387, tw_40, ⟨by decide +kernel, by decide +kernel, by decide +kernel⟩, by decide +kernel⟩
theorem pV_criterion : mv_P jV_criterion = (4, am_at kV_criterion) := rfl
theorem ce_V_criterion {D : va_G} {dA : Nat → ClassId} {h b L : Nat} {xs : Nat → Int32} {T : am_T} (hN : am_nN (am_En D dA h b L xs)) : am_Ce (am_En D dA h b L xs) T (mv_tb jV_criterion) 3 := ⟨hN, am_Tg_ok, tw_391, tw_40, ⟨by decide +kernel, by decide +kernel, by decide +kernel⟩, by decide +kernel⟩
theorem pV_search : mv_P jV_search = (2, am_at kV_search) := rfl
theorem ce_V_search {D : va_G} {dA : Nat → ClassId} {h b L : Nat} {xs : Nat → Int32} {T : am_T} (hN : am_nN (am_En D dA h b L xs)) : am_Ce (am_En D dA h b L xs) T (mv_tb jV_search) 1 := ⟨hN, am_Tg_ok, tw_410, tw_40, ⟨by decide +kernel, by decide +kernel, by decide +kernel⟩, by decide +kernel⟩
theorem pV_found : mv_P jV_found = (2, am_at kV_found) := rfl
theorem ce_V_found {D : va_G} {dA : Nat → ClassId} {h b L : Nat} {xs : Nat → Int32} {T : am_T} (hN : am_nN (am_En D dA h b L xs)) : am_Ce (am_En D dA h b L xs) T (mv_tb jV_found) 1 := ⟨hN, am_Tg_ok, tw_460, tw_40, ⟨by decide +kernel, by decide +kernel, by decide +kernel⟩, by decide +kernel⟩
theorem pV_sync : mv_P jV_sync = (1, am_at kV_sync) := rfl
theorem ce_V_sync {D : va_G} {dA : Nat → ClassId} {h b L : Nat} {xs : Nat → Int32} {T : am_T} (hN : am_nN (am_En D dA h b L xs)) : am_Ce (am_En D dA h b L xs) T (mv_tb jV_sync) 0 := ⟨hN, am_Tg_ok, tw_464, tw_40, ⟨by decide +kernel, by decide +kernel, by decide +kernel⟩, by decide +kernel⟩
theorem pV_crash : mv_P jV_crash = (2, am_at kV_crash) := rfl
theorem ce_V_crash {D : va_G} {dA : Nat → ClassId} {h b L : Nat} {xs : Nat → Int32} {T : am_T} (hN : am_nN (am_En D dA h b L xs)) : am_Ce (am_En D dA h b L xs) T (mv_tb jV_crash) 0 := ⟨hN, am_Tg_ok, tw_473, tw_40, ⟨by decide +kernel, by decide +kernel, by decide +kernel⟩, by decide +kernel⟩
theorem pV_message : mv_P jV_message = (4, am_at kV_message) := rfl
theorem ce_V_message {D : va_G} {dA : Nat → ClassId} {h b L : Nat} {xs : Nat → Int32} {T : am_T} (hN : am_nN (am_En D dA h b L xs)) : am_Ce (am_En D dA h b L xs) T (mv_tb jV_message) 3 := ⟨hN, am_Tg_ok, tw_504, tw_40, ⟨by decide +kernel, by decide +kernel, by decide +kernel⟩, by decide +kernel⟩
theorem pV_seen : mv_P jV_seen = (4, am_at kV_seen) := rfl
theorem ce_V_seen {D : va_G} {dA : Nat → ClassId} {h b L : Nat} {xs : Nat → Int32} {T : am_T} (hN : am_nN (am_En D dA h b L xs)) : am_Ce (am_En D dA h b L xs) T (mv_tb jV_seen) 3 := ⟨hN, am_Tg_ok, tw_508, tw_40, ⟨by decide +kernel, by decide +kernel, by decide +kernel⟩, by decide +kernel⟩
theorem pV_notice : mv_P jV_notice = (4, am_at kV_notice) := rfl
theorem ce_V_notice {D : va_G} {dA : Nat → ClassId} {h b L : Nat} {xs : Nat → Int32} {T : am_T} (hN : am_nN (am_En D dA h b L xs)) : am_Ce (am_En D dA h b L xs) T (mv_tb jV_notice) 3 := ⟨hN, am_Tg_ok, tw_513, tw_40, ⟨by decide +kernel, by decide +kernel, by decide +kernel⟩, by decide +kernel⟩
theorem pV_mailbox : mv_P jV_mailbox = (3, am_at kV_mailbox) := rfl
theorem ce_V_mailbox {D : va_G} {dA : Nat → ClassId} {h b L : Nat} {xs : Nat → Int32} {T : am_T} (hN : am_nN (am_En D dA h b L xs)) : am_Ce (am_En D dA h b L xs) T (mv_tb jV_mailbox) 2 := ⟨hN, am_Tg_ok, tw_525, tw_40, ⟨by decide +kernel, by decide +kernel, by decide +kernel⟩, by decide +kernel⟩
theorem pV_count : mv_P jV_count = (2, am_at kV_count) := rfl
theorem ce_V_count {D : va_G} {dA : Nat → ClassId} {h b L : Nat} {xs : Nat → Int32} {T : am_T} (hN : am_nN (am_En D dA h b L xs)) : am_Ce (am_En D dA h b L xs) T (mv_tb jV_count) 1 := ⟨hN, am_Tg_ok, tw_541, tw_40, ⟨by decide +kernel, by decide +kernel, by decide +kernel⟩, by decide +kernel⟩
theorem pV_isMailbox : mv_P jV_isMailbox = (1, am_at kV_isMailbox) := rfl
theorem ce_V_isMailbox {D : va_G} {dA : Nat → ClassId} {h b L : Nat} {xs : Nat → Int32} {T : am_T} (hN : am_nN (am_En D dA h b L xs)) : am_Ce (am_En D dA h b L xs) T (mv_tb jV_isMailbox) 1 := ⟨hN, am_Tg_ok, tw_199, tw_40, ⟨by decide +kernel, by decide +kernel, by decide +kernel⟩, by decide +kernel⟩
theorem pV_isSession : mv_P jV_isSession = (1, am_at kV_isSession) := rfl
theorem ce_V_isSession {D : va_G} {dA : Nat → ClassId} {h b L : Nat} {xs : Nat → Int32} {T : am_T} (hN : am_nN (am_En D dA h b L xs)) : am_Ce (am_En D dA h b L xs) T (mv_tb jV_isSession) 1 := ⟨hN, am_Tg_ok, tw_242, tw_40, ⟨by decide +kernel, by decide +kernel, by decide +kernel⟩, by decide +kernel⟩
theorem pV_areFlags : mv_P jV_areFlags = (1, am_at kV_areFlags) := rfl
theorem ce_V_areFlags {D : va_G} {dA : Nat → ClassId} {h b L : Nat} {xs : Nat → Int32} {T : am_T} (hN : am_nN (am_En D dA h b L xs)) : am_Ce (am_En D dA h b L xs) T (mv_tb jV_areFlags) 1 := ⟨hN, am_Tg_ok, tw_202, tw_40, ⟨by decide +kernel, by decide +kernel, by decide +kernel⟩, by decide +kernel⟩
theorem pV_hasMailbox : mv_P jV_hasMailbox = (2, am_at kV_hasMailbox) := rfl
theorem ce_V_hasMailbox {D : va_G} {dA : Nat → ClassId} {h b L : Nat} {xs : Nat → Int32} {T : am_T} (hN : am_nN (am_En D dA h b L xs)) : am_Ce (am_En D dA h b L xs) T (mv_tb jV_hasMailbox) 1 := ⟨hN, am_Tg_ok, tw_274, tw_40, ⟨by decide +kernel, by decide +kernel, by decide +kernel⟩, by decide +kernel⟩
theorem pV_isInView : mv_P jV_isInView = (3, am_at kV_isInView) := rfl
theorem ce_V_isInView {D : va_G} {dA : Nat → ClassId} {h b L : Nat} {xs : Nat → Int32} {T : am_T} (hN : am_nN (am_En D dA h b L xs)) : am_Ce (am_En D dA h b L xs) T (mv_tb jV_isInView) 2 := ⟨hN, am_Tg_ok, tw_361, tw_40, ⟨by decide +kernel, by decide +kernel, by decide +kernel⟩, by decide +kernel⟩
theorem pV_mailboxOf : mv_P jV_mailboxOf = (2, am_at kV_mailboxOf) := rfl
theorem ce_V_mailboxOf {D : va_G} {dA : Nat → ClassId} {h b L : Nat} {xs : Nat → Int32} {T : am_T} (hN : am_nN (am_En D dA h b L xs)) : am_Ce (am_En D dA h b L xs) T (mv_tb jV_mailboxOf) 1 := ⟨hN, am_Tg_ok, tw_317, tw_40, ⟨by decide +kernel, by decide +kernel, by decide +kernel⟩, by decide +kernel⟩
theorem pV_sessionsWith : mv_P jV_sessionsWith = (4, am_at kV_sessionsWith) := rfl
theorem ce_V_sessionsWith {D : va_G} {dA : Nat → ClassId} {h b L : Nat} {xs : Nat → Int32} {T : am_T} (hN : am_nN (am_En D dA h b L xs)) : am_Ce (am_En D dA h b L xs) T (mv_tb jV_sessionsWith) 1 := ⟨hN, am_Tg_ok, tw_537, tw_40, ⟨by decide +kernel, by decide +kernel, by decide +kernel⟩, by decide +kernel⟩
theorem pV_update : mv_P jV_update = (3, am_at kV_update) := rfl
theorem ce_V_update {D : va_G} {dA : Nat → ClassId} {h b L : Nat} {xs : Nat → Int32} {T : am_T} (hN : am_nN (am_En D dA h b L xs)) : am_Ce (am_En D dA h b L xs) T (mv_tb jV_update) 2 := ⟨hN, am_Tg_ok, tw_313, tw_40, ⟨by decide +kernel, by decide +kernel, by decide +kernel⟩, by decide +kernel⟩
theorem pV_add : mv_P jV_add = (6, am_at kV_add) := rfl
theorem ce_V_add {D : va_G} {dA : Nat → ClassId} {h b L : Nat} {xs : Nat → Int32} {T : am_T} (hN : am_nN (am_En D dA h b L xs)) : am_Ce (am_En D dA h b L xs) T (mv_tb jV_add) 3 := ⟨hN, am_Tg_ok, tw_206, tw_40, ⟨by decide +kernel, by decide +kernel, by decide +kernel⟩, by decide +kernel⟩
theorem pV_removeDeleted : mv_P jV_removeDeleted = (6, am_at kV_removeDeleted) := rfl
theorem ce_V_removeDeleted {D : va_G} {dA : Nat → ClassId} {h b L : Nat} {xs : Nat → Int32} {T : am_T} (hN : am_nN (am_En D dA h b L xs)) : am_Ce (am_En D dA h b L xs) T (mv_tb jV_removeDeleted) 1 := ⟨hN, am_Tg_ok, tw_286, tw_40, ⟨by decide +kernel, by decide +kernel, by decide +kernel⟩, by decide +kernel⟩
theorem pV_changedFlags : mv_P jV_changedFlags = (3, am_at kV_changedFlags) := rfl
theorem ce_V_changedFlags {D : va_G} {dA : Nat → ClassId} {h b L : Nat} {xs : Nat → Int32} {T : am_T} (hN : am_nN (am_En D dA h b L xs)) : am_Ce (am_En D dA h b L xs) T (mv_tb jV_changedFlags) 3 := ⟨hN, am_Tg_ok, tw_371, tw_40, ⟨by decide +kernel, by decide +kernel, by decide +kernel⟩, by decide +kernel⟩
theorem pV_findHits : mv_P jV_findHits = (5, am_at kV_findHits) := rfl
theorem ce_V_findHits {D : va_G} {dA : Nat → ClassId} {h b L : Nat} {xs : Nat → Int32} {T : am_T} (hN : am_nN (am_En D dA h b L xs)) : am_Ce (am_En D dA h b L xs) T (mv_tb jV_findHits) 2 := ⟨hN, am_Tg_ok, tw_437, tw_40, ⟨by decide +kernel, by decide +kernel, by decide +kernel⟩, by decide +kernel⟩
theorem pB_init : mv_P jB_init = (1, am_at kB_init) := rfl
theorem ce_B_init {D : va_G} {dA : Nat → ClassId} {h b L : Nat} {xs : Nat → Int32} {T : am_T} (hN : am_nN (am_En D dA h b L xs)) : am_Ce (am_En D dA h b L xs) T (mv_tb jB_init) 0 := ⟨hN, am_Tg_ok, tw_60, tw_41, ⟨by decide +kernel, by decide +kernel, by decide +kernel⟩, by decide +kernel⟩
theorem pB_messageCount : mv_P jB_messageCount = (1, am_at kB_messageCount) := rfl
theorem ce_B_messageCount {D : va_G} {dA : Nat → ClassId} {h b L : Nat} {xs : Nat → Int32} {T : am_T} (hN : am_nN (am_En D dA h b L xs)) : am_Ce (am_En D dA h b L xs) T (mv_tb jB_messageCount) 0 := ⟨hN, am_Tg_ok, tw_254, tw_41, ⟨by decide +kernel, by decide +kernel, by decide +kernel⟩, by decide +kernel⟩
theorem pB_isFull : mv_P jB_isFull = (1, am_at kB_isFull) := rfl
theorem ce_B_isFull {D : va_G} {dA : Nat → ClassId} {h b L : Nat} {xs : Nat → Int32} {T : am_T} (hN : am_nN (am_En D dA h b L xs)) : am_Ce (am_En D dA h b L xs) T (mv_tb jB_isFull) 0 := ⟨hN, am_Tg_ok, tw_210, tw_41, ⟨by decide +kernel, by decide +kernel, by decide +kernel⟩, by decide +kernel⟩
theorem pB_nextUid : mv_P jB_nextUid = (1, am_at kB_nextUid) := rfl
theorem ce_B_nextUid {D : va_G} {dA : Nat → ClassId} {h b L : Nat} {xs : Nat → Int32} {T : am_T} (hN : am_nN (am_En D dA h b L xs)) : am_Ce (am_En D dA h b L xs) T (mv_tb jB_nextUid) 0 := ⟨hN, am_Tg_ok, tw_529, tw_41, ⟨by decide +kernel, by decide +kernel, by decide +kernel⟩, by decide +kernel⟩
theorem pB_validity : mv_P jB_validity = (1, am_at kB_validity) := rfl
theorem ce_B_validity {D : va_G} {dA : Nat → ClassId} {h b L : Nat} {xs : Nat → Int32} {T : am_T} (hN : am_nN (am_En D dA h b L xs)) : am_Ce (am_En D dA h b L xs) T (mv_tb jB_validity) 0 := ⟨hN, am_Tg_ok, tw_533, tw_41, ⟨by decide +kernel, by decide +kernel, by decide +kernel⟩, by decide +kernel⟩
theorem pB_growValidity : mv_P jB_growValidity = (1, am_at kB_growValidity) := rfl
theorem ce_B_growValidity {D : va_G} {dA : Nat → ClassId} {h b L : Nat} {xs : Nat → Int32} {T : am_T} (hN : am_nN (am_En D dA h b L xs)) : am_Ce (am_En D dA h b L xs) T (mv_tb jB_growValidity) 0 := ⟨hN, am_Tg_ok, tw_481, tw_41, ⟨by decide +kernel, by decide +kernel, by decide +kernel⟩, by decide +kernel⟩
theorem pB_uidAt : mv_P jB_uidAt = (2, am_at kB_uidAt) := rfl
theorem ce_B_uidAt {D : va_G} {dA : Nat → ClassId} {h b L : Nat} {xs : Nat → Int32} {T : am_T} (hN : am_nN (am_En D dA h b L xs)) : am_Ce (am_En D dA h b L xs) T (mv_tb jB_uidAt) 1 := ⟨hN, am_Tg_ok, tw_258, tw_41, ⟨by decide +kernel, by decide +kernel, by decide +kernel⟩, by decide +kernel⟩
theorem pB_flagsAt : mv_P jB_flagsAt = (2, am_at kB_flagsAt) := rfl
theorem ce_B_flagsAt {D : va_G} {dA : Nat → ClassId} {h b L : Nat} {xs : Nat → Int32} {T : am_T} (hN : am_nN (am_En D dA h b L xs)) : am_Ce (am_En D dA h b L xs) T (mv_tb jB_flagsAt) 1 := ⟨hN, am_Tg_ok, tw_262, tw_41, ⟨by decide +kernel, by decide +kernel, by decide +kernel⟩, by decide +kernel⟩
theorem pB_sizeAt : mv_P jB_sizeAt = (2, am_at kB_sizeAt) := rfl
theorem ce_B_sizeAt {D : va_G} {dA : Nat → ClassId} {h b L : Nat} {xs : Nat → Int32} {T : am_T} (hN : am_nN (am_En D dA h b L xs)) : am_Ce (am_En D dA h b L xs) T (mv_tb jB_sizeAt) 1 := ⟨hN, am_Tg_ok, tw_293, tw_41, ⟨by decide +kernel, by decide +kernel, by decide +kernel⟩, by decide +kernel⟩
theorem pB_setFlagsAt : mv_P jB_setFlagsAt = (3, am_at kB_setFlagsAt) := rfl
theorem ce_B_setFlagsAt {D : va_G} {dA : Nat → ClassId} {h b L : Nat} {xs : Nat → Int32} {T : am_T} (hN : am_nN (am_En D dA h b L xs)) : am_Ce (am_En D dA h b L xs) T (mv_tb jB_setFlagsAt) 2 := ⟨hN, am_Tg_ok, tw_375, tw_41, ⟨by decide +kernel, by decide +kernel, by decide +kernel⟩, by decide +kernel⟩
theorem pB_positionOf : mv_P jB_positionOf = (3, am_at kB_positionOf) := rfl
theorem ce_B_positionOf {D : va_G} {dA : Nat → ClassId} {h b L : Nat} {xs : Nat → Int32} {T : am_T} (hN : am_nN (am_En D dA h b L xs)) : am_Ce (am_En D dA h b L xs) T (mv_tb jB_positionOf) 1 := ⟨hN, am_Tg_ok, tw_329, tw_41, ⟨by decide +kernel, by decide +kernel, by decide +kernel⟩, by decide +kernel⟩
theorem pB_addNew : mv_P jB_addNew = (4, am_at kB_addNew) := rfl
theorem ce_B_addNew {D : va_G} {dA : Nat → ClassId} {h b L : Nat} {xs : Nat → Int32} {T : am_T} (hN : am_nN (am_En D dA h b L xs)) : am_Ce (am_En D dA h b L xs) T (mv_tb jB_addNew) 2 := ⟨hN, am_Tg_ok, tw_214, tw_41, ⟨by decide +kernel, by decide +kernel, by decide +kernel⟩, by decide +kernel⟩
theorem pB_takeBackAdded : mv_P jB_takeBackAdded = (2, am_at kB_takeBackAdded) := rfl
theorem ce_B_takeBackAdded {D : va_G} {dA : Nat → ClassId} {h b L : Nat} {xs : Nat → Int32} {T : am_T} (hN : am_nN (am_En D dA h b L xs)) : am_Ce (am_En D dA h b L xs) T (mv_tb jB_takeBackAdded) 1 := ⟨hN, am_Tg_ok, tw_493, tw_41, ⟨by decide +kernel, by decide +kernel, by decide +kernel⟩, by decide +kernel⟩
theorem pB_insert : mv_P jB_insert = (5, am_at kB_insert) := rfl
theorem ce_B_insert {D : va_G} {dA : Nat → ClassId} {h b L : Nat} {xs : Nat → Int32} {T : am_T} (hN : am_nN (am_En D dA h b L xs)) : am_Ce (am_En D dA h b L xs) T (mv_tb jB_insert) 3 := ⟨hN, am_Tg_ok, tw_218, tw_41, ⟨by decide +kernel, by decide +kernel, by decide +kernel⟩, by decide +kernel⟩
theorem pB_removeAt : mv_P jB_removeAt = (3, am_at kB_removeAt) := rfl
theorem ce_B_removeAt {D : va_G} {dA : Nat → ClassId} {h b L : Nat} {xs : Nat → Int32} {T : am_T} (hN : am_nN (am_En D dA h b L xs)) : am_Ce (am_En D dA h b L xs) T (mv_tb jB_removeAt) 1 := ⟨hN, am_Tg_ok, tw_301, tw_41, ⟨by decide +kernel, by decide +kernel, by decide +kernel⟩, by decide +kernel⟩
theorem pB_restoreFlags : mv_P jB_restoreFlags = (4, am_at kB_restoreFlags) := rfl
theorem ce_B_restoreFlags {D : va_G} {dA : Nat → ClassId} {h b L : Nat} {xs : Nat → Int32} {T : am_T} (hN : am_nN (am_En D dA h b L xs)) : am_Ce (am_En D dA h b L xs) T (mv_tb jB_restoreFlags) 2 := ⟨hN, am_Tg_ok, tw_500, tw_41, ⟨by decide +kernel, by decide +kernel, by decide +kernel⟩, by decide +kernel⟩
theorem pB_move : mv_P jB_move = (3, am_at kB_move) := rfl
theorem ce_B_move {D : va_G} {dA : Nat → ClassId} {h b L : Nat} {xs : Nat → Int32} {T : am_T} (hN : am_nN (am_En D dA h b L xs)) : am_Ce (am_En D dA h b L xs) T (mv_tb jB_move) 2 := ⟨hN, am_Tg_ok, tw_223, tw_41, ⟨by decide +kernel, by decide +kernel, by decide +kernel⟩, by decide +kernel⟩
theorem pJ_init : mv_P jJ_init = (1, am_at kJ_init) := rfl
theorem ce_J_init {D : va_G} {dA : Nat → ClassId} {h b L : Nat} {xs : Nat → Int32} {T : am_T} (hN : am_nN (am_En D dA h b L xs)) : am_Ce (am_En D dA h b L xs) T (mv_tb jJ_init) 0 := ⟨hN, am_Tg_ok, tw_121, tw_43, ⟨by decide +kernel, by decide +kernel, by decide +kernel⟩, by decide +kernel⟩
theorem pJ_changeCount : mv_P jJ_changeCount = (1, am_at kJ_changeCount) := rfl
theorem ce_J_changeCount {D : va_G} {dA : Nat → ClassId} {h b L : Nat} {xs : Nat → Int32} {T : am_T} (hN : am_nN (am_En D dA h b L xs)) : am_Ce (am_En D dA h b L xs) T (mv_tb jJ_changeCount) 0 := ⟨hN, am_Tg_ok, tw_469, tw_43, ⟨by decide +kernel, by decide +kernel, by decide +kernel⟩, by decide +kernel⟩
theorem pJ_durableCount : mv_P jJ_durableCount = (1, am_at kJ_durableCount) := rfl
theorem ce_J_durableCount {D : va_G} {dA : Nat → ClassId} {h b L : Nat} {xs : Nat → Int32} {T : am_T} (hN : am_nN (am_En D dA h b L xs)) : am_Ce (am_En D dA h b L xs) T (mv_tb jJ_durableCount) 0 := ⟨hN, am_Tg_ok, tw_545, tw_43, ⟨by decide +kernel, by decide +kernel, by decide +kernel⟩, by decide +kernel⟩
theorem pJ_noteAdded : mv_P jJ_noteAdded = (3, am_at kJ_noteAdded) := rfl
theorem ce_J_noteAdded {D : va_G} {dA : Nat → ClassId} {h b L : Nat} {xs : Nat → Int32} {T : am_T} (hN : am_nN (am_En D dA h b L xs)) : am_Ce (am_En D dA h b L xs) T (mv_tb jJ_noteAdded) 2 := ⟨hN, am_Tg_ok, tw_227, tw_43, ⟨by decide +kernel, by decide +kernel, by decide +kernel⟩, by decide +kernel⟩
theorem pJ_noteRemoved : mv_P jJ_noteRemoved = (5, am_at kJ_noteRemoved) := rfl
theorem ce_J_noteRemoved {D : va_G} {dA : Nat → ClassId} {h b L : Nat} {xs : Nat → Int32} {T : am_T} (hN : am_nN (am_En D dA h b L xs)) : am_Ce (am_En D dA h b L xs) T (mv_tb jJ_noteRemoved) 4 := ⟨hN, am_Tg_ok, tw_297, tw_43, ⟨by decide +kernel, by decide +kernel, by decide +kernel⟩, by decide +kernel⟩
theorem pJ_noteFlagsSet : mv_P jJ_noteFlagsSet = (4, am_at kJ_noteFlagsSet) := rfl
theorem ce_J_noteFlagsSet {D : va_G} {dA : Nat → ClassId} {h b L : Nat} {xs : Nat → Int32} {T : am_T} (hN : am_nN (am_En D dA h b L xs)) : am_Ce (am_En D dA h b L xs) T (mv_tb jJ_noteFlagsSet) 3 := ⟨hN, am_Tg_ok, tw_379, tw_43, ⟨by decide +kernel, by decide +kernel, by decide +kernel⟩, by decide +kernel⟩
theorem pJ_makeAllDurable : mv_P jJ_makeAllDurable = (1, am_at kJ_makeAllDurable) := rfl
theorem ce_J_makeAllDurable {D : va_G} {dA : Nat → ClassId} {h b L : Nat} {xs : Nat → Int32} {T : am_T} (hN : am_nN (am_En D dA h b L xs)) : am_Ce (am_En D dA h b L xs) T (mv_tb jJ_makeAllDurable) 0 := ⟨hN, am_Tg_ok, tw_235, tw_43, ⟨by decide +kernel, by decide +kernel, by decide +kernel⟩, by decide +kernel⟩
theorem pJ_hasOpenAdditionTo : mv_P jJ_hasOpenAdditionTo = (3, am_at kJ_hasOpenAdditionTo) := rfl
theorem ce_J_hasOpenAdditionTo {D : va_G} {dA : Nat → ClassId} {h b L : Nat} {xs : Nat → Int32} {T : am_T} (hN : am_nN (am_En D dA h b L xs)) : am_Ce (am_En D dA h b L xs) T (mv_tb jJ_hasOpenAdditionTo) 1 := ⟨hN, am_Tg_ok, tw_477, tw_43, ⟨by decide +kernel, by decide +kernel, by decide +kernel⟩, by decide +kernel⟩
theorem pJ_takeBackAll : mv_P jJ_takeBackAll = (3, am_at kJ_takeBackAll) := rfl
theorem ce_J_takeBackAll {D : va_G} {dA : Nat → ClassId} {h b L : Nat} {xs : Nat → Int32} {T : am_T} (hN : am_nN (am_En D dA h b L xs)) : am_Ce (am_En D dA h b L xs) T (mv_tb jJ_takeBackAll) 1 := ⟨hN, am_Tg_ok, tw_485, tw_43, ⟨by decide +kernel, by decide +kernel, by decide +kernel⟩, by decide +kernel⟩
theorem pJ_takeBack : mv_P jJ_takeBack = (3, am_at kJ_takeBack) := rfl
theorem ce_J_takeBack {D : va_G} {dA : Nat → ClassId} {h b L : Nat} {xs : Nat → Int32} {T : am_T} (hN : am_nN (am_En D dA h b L xs)) : am_Ce (am_En D dA h b L xs) T (mv_tb jJ_takeBack) 2 := ⟨hN, am_Tg_ok, tw_489, tw_43, ⟨by decide +kernel, by decide +kernel, by decide +kernel⟩, by decide +kernel⟩
theorem pJ_note : mv_P jJ_note = (6, am_at kJ_note) := rfl
theorem ce_J_note {D : va_G} {dA : Nat → ClassId} {h b L : Nat} {xs : Nat → Int32} {T : am_T} (hN : am_nN (am_En D dA h b L xs)) : am_Ce (am_En D dA h b L xs) T (mv_tb jJ_note) 5 := ⟨hN, am_Tg_ok, tw_231, tw_43, ⟨by decide +kernel, by decide +kernel, by decide +kernel⟩, by decide +kernel⟩
theorem pS_init : mv_P jS_init = (1, am_at kS_init) := rfl
theorem ce_S_init {D : va_G} {dA : Nat → ClassId} {h b L : Nat} {xs : Nat → Int32} {T : am_T} (hN : am_nN (am_En D dA h b L xs)) : am_Ce (am_En D dA h b L xs) T (mv_tb jS_init) 0 := ⟨hN, am_Tg_ok, tw_87, tw_42, ⟨by decide +kernel, by decide +kernel, by decide +kernel⟩, by decide +kernel⟩
theorem pS_open : mv_P jS_open = (4, am_at kS_open) := rfl
theorem ce_S_open {D : va_G} {dA : Nat → ClassId} {h b L : Nat} {xs : Nat → Int32} {T : am_T} (hN : am_nN (am_En D dA h b L xs)) : am_Ce (am_En D dA h b L xs) T (mv_tb jS_open) 3 := ⟨hN, am_Tg_ok, tw_246, tw_42, ⟨by decide +kernel, by decide +kernel, by decide +kernel⟩, by decide +kernel⟩
theorem pS_leave : mv_P jS_leave = (1, am_at kS_leave) := rfl
theorem ce_S_leave {D : va_G} {dA : Nat → ClassId} {h b L : Nat} {xs : Nat → Int32} {T : am_T} (hN : am_nN (am_En D dA h b L xs)) : am_Ce (am_En D dA h b L xs) T (mv_tb jS_leave) 0 := ⟨hN, am_Tg_ok, tw_305, tw_42, ⟨by decide +kernel, by decide +kernel, by decide +kernel⟩, by decide +kernel⟩
theorem pS_mailboxNumber : mv_P jS_mailboxNumber = (1, am_at kS_mailboxNumber) := rfl
theorem ce_S_mailboxNumber {D : va_G} {dA : Nat → ClassId} {h b L : Nat} {xs : Nat → Int32} {T : am_T} (hN : am_nN (am_En D dA h b L xs)) : am_Ce (am_En D dA h b L xs) T (mv_tb jS_mailboxNumber) 0 := ⟨hN, am_Tg_ok, tw_278, tw_42, ⟨by decide +kernel, by decide +kernel, by decide +kernel⟩, by decide +kernel⟩
theorem pS_isReadOnly : mv_P jS_isReadOnly = (1, am_at kS_isReadOnly) := rfl
theorem ce_S_isReadOnly {D : va_G} {dA : Nat → ClassId} {h b L : Nat} {xs : Nat → Int32} {T : am_T} (hN : am_nN (am_En D dA h b L xs)) : am_Ce (am_En D dA h b L xs) T (mv_tb jS_isReadOnly) 0 := ⟨hN, am_Tg_ok, tw_282, tw_42, ⟨by decide +kernel, by decide +kernel, by decide +kernel⟩, by decide +kernel⟩
theorem pS_viewLength : mv_P jS_viewLength = (1, am_at kS_viewLength) := rfl
theorem ce_S_viewLength {D : va_G} {dA : Nat → ClassId} {h b L : Nat} {xs : Nat → Int32} {T : am_T} (hN : am_nN (am_En D dA h b L xs)) : am_Ce (am_En D dA h b L xs) T (mv_tb jS_viewLength) 0 := ⟨hN, am_Tg_ok, tw_266, tw_42, ⟨by decide +kernel, by decide +kernel, by decide +kernel⟩, by decide +kernel⟩
theorem pS_uidOf : mv_P jS_uidOf = (2, am_at kS_uidOf) := rfl
theorem ce_S_uidOf {D : va_G} {dA : Nat → ClassId} {h b L : Nat} {xs : Nat → Int32} {T : am_T} (hN : am_nN (am_En D dA h b L xs)) : am_Ce (am_En D dA h b L xs) T (mv_tb jS_uidOf) 1 := ⟨hN, am_Tg_ok, tw_341, tw_42, ⟨by decide +kernel, by decide +kernel, by decide +kernel⟩, by decide +kernel⟩
theorem pS_knownFlagsOf : mv_P jS_knownFlagsOf = (2, am_at kS_knownFlagsOf) := rfl
theorem ce_S_knownFlagsOf {D : va_G} {dA : Nat → ClassId} {h b L : Nat} {xs : Nat → Int32} {T : am_T} (hN : am_nN (am_En D dA h b L xs)) : am_Ce (am_En D dA h b L xs) T (mv_tb jS_knownFlagsOf) 1 := ⟨hN, am_Tg_ok, tw_345, tw_42, ⟨by decide +kernel, by decide +kernel, by decide +kernel⟩, by decide +kernel⟩
theorem pS_know : mv_P jS_know = (3, am_at kS_know) := rfl
theorem ce_S_know {D : va_G} {dA : Nat → ClassId} {h b L : Nat} {xs : Nat → Int32} {T : am_T} (hN : am_nN (am_En D dA h b L xs)) : am_Ce (am_En D dA h b L xs) T (mv_tb jS_know) 2 := ⟨hN, am_Tg_ok, tw_349, tw_42, ⟨by decide +kernel, by decide +kernel, by decide +kernel⟩, by decide +kernel⟩
theorem pS_noticeCount : mv_P jS_noticeCount = (1, am_at kS_noticeCount) := rfl
theorem ce_S_noticeCount {D : va_G} {dA : Nat → ClassId} {h b L : Nat} {xs : Nat → Int32} {T : am_T} (hN : am_nN (am_En D dA h b L xs)) : am_Ce (am_En D dA h b L xs) T (mv_tb jS_noticeCount) 0 := ⟨hN, am_Tg_ok, tw_353, tw_42, ⟨by decide +kernel, by decide +kernel, by decide +kernel⟩, by decide +kernel⟩
theorem pS_noticeKindAt : mv_P jS_noticeKindAt = (2, am_at kS_noticeKindAt) := rfl
theorem ce_S_noticeKindAt {D : va_G} {dA : Nat → ClassId} {h b L : Nat} {xs : Nat → Int32} {T : am_T} (hN : am_nN (am_En D dA h b L xs)) : am_Ce (am_En D dA h b L xs) T (mv_tb jS_noticeKindAt) 1 := ⟨hN, am_Tg_ok, tw_517, tw_42, ⟨by decide +kernel, by decide +kernel, by decide +kernel⟩, by decide +kernel⟩
theorem pS_noticeNumberAt : mv_P jS_noticeNumberAt = (2, am_at kS_noticeNumberAt) := rfl
theorem ce_S_noticeNumberAt {D : va_G} {dA : Nat → ClassId} {h b L : Nat} {xs : Nat → Int32} {T : am_T} (hN : am_nN (am_En D dA h b L xs)) : am_Ce (am_En D dA h b L xs) T (mv_tb jS_noticeNumberAt) 1 := ⟨hN, am_Tg_ok, tw_521, tw_42, ⟨by decide +kernel, by decide +kernel, by decide +kernel⟩, by decide +kernel⟩
theorem pS_update : mv_P jS_update = (4, am_at kS_update) := rfl
theorem ce_S_update {D : va_G} {dA : Nat → ClassId} {h b L : Nat} {xs : Nat → Int32} {T : am_T} (hN : am_nN (am_En D dA h b L xs)) : am_Ce (am_En D dA h b L xs) T (mv_tb jS_update) 2 := ⟨hN, am_Tg_ok, tw_321, tw_42, ⟨by decide +kernel, by decide +kernel, by decide +kernel⟩, by decide +kernel⟩
theorem pS_dropGone : mv_P jS_dropGone = (4, am_at kS_dropGone) := rfl
theorem ce_S_dropGone {D : va_G} {dA : Nat → ClassId} {h b L : Nat} {xs : Nat → Int32} {T : am_T} (hN : am_nN (am_En D dA h b L xs)) : am_Ce (am_En D dA h b L xs) T (mv_tb jS_dropGone) 1 := ⟨hN, am_Tg_ok, tw_325, tw_42, ⟨by decide +kernel, by decide +kernel, by decide +kernel⟩, by decide +kernel⟩
theorem pS_takeInNew : mv_P jS_takeInNew = (3, am_at kS_takeInNew) := rfl
theorem ce_S_takeInNew {D : va_G} {dA : Nat → ClassId} {h b L : Nat} {xs : Nat → Int32} {T : am_T} (hN : am_nN (am_En D dA h b L xs)) : am_Ce (am_En D dA h b L xs) T (mv_tb jS_takeInNew) 1 := ⟨hN, am_Tg_ok, tw_250, tw_42, ⟨by decide +kernel, by decide +kernel, by decide +kernel⟩, by decide +kernel⟩
theorem pS_learnFlags : mv_P jS_learnFlags = (4, am_at kS_learnFlags) := rfl
theorem ce_S_learnFlags {D : va_G} {dA : Nat → ClassId} {h b L : Nat} {xs : Nat → Int32} {T : am_T} (hN : am_nN (am_En D dA h b L xs)) : am_Ce (am_En D dA h b L xs) T (mv_tb jS_learnFlags) 1 := ⟨hN, am_Tg_ok, tw_337, tw_42, ⟨by decide +kernel, by decide +kernel, by decide +kernel⟩, by decide +kernel⟩
theorem pS_tell : mv_P jS_tell = (3, am_at kS_tell) := rfl
theorem ce_S_tell {D : va_G} {dA : Nat → ClassId} {h b L : Nat} {xs : Nat → Int32} {T : am_T} (hN : am_nN (am_En D dA h b L xs)) : am_Ce (am_En D dA h b L xs) T (mv_tb jS_tell) 2 := ⟨hN, am_Tg_ok, tw_333, tw_42, ⟨by decide +kernel, by decide +kernel, by decide +kernel⟩, by decide +kernel⟩
theorem pC_init : mv_P jC_init = (1, am_at kC_init) := rfl
theorem ce_C_init {D : va_G} {dA : Nat → ClassId} {h b L : Nat} {xs : Nat → Int32} {T : am_T} (hN : am_nN (am_En D dA h b L xs)) : am_Ce (am_En D dA h b L xs) T (mv_tb jC_init) 0 := ⟨hN, am_Tg_ok, tw_149, tw_44, ⟨by decide +kernel, by decide +kernel, by decide +kernel⟩, by decide +kernel⟩
theorem pC_isOp : mv_P jC_isOp = (1, am_at kC_isOp) := rfl
theorem ce_C_isOp {D : va_G} {dA : Nat → ClassId} {h b L : Nat} {xs : Nat → Int32} {T : am_T} (hN : am_nN (am_En D dA h b L xs)) : am_Ce (am_En D dA h b L xs) T (mv_tb jC_isOp) 1 := ⟨hN, am_Tg_ok, tw_394, tw_44, ⟨by decide +kernel, by decide +kernel, by decide +kernel⟩, by decide +kernel⟩
theorem pC_tokenCount : mv_P jC_tokenCount = (1, am_at kC_tokenCount) := rfl
theorem ce_C_tokenCount {D : va_G} {dA : Nat → ClassId} {h b L : Nat} {xs : Nat → Int32} {T : am_T} (hN : am_nN (am_En D dA h b L xs)) : am_Ce (am_En D dA h b L xs) T (mv_tb jC_tokenCount) 0 := ⟨hN, am_Tg_ok, tw_406, tw_44, ⟨by decide +kernel, by decide +kernel, by decide +kernel⟩, by decide +kernel⟩
theorem pC_isFull : mv_P jC_isFull = (1, am_at kC_isFull) := rfl
theorem ce_C_isFull {D : va_G} {dA : Nat → ClassId} {h b L : Nat} {xs : Nat → Int32} {T : am_T} (hN : am_nN (am_En D dA h b L xs)) : am_Ce (am_En D dA h b L xs) T (mv_tb jC_isFull) 0 := ⟨hN, am_Tg_ok, tw_398, tw_44, ⟨by decide +kernel, by decide +kernel, by decide +kernel⟩, by decide +kernel⟩
theorem pC_wipe : mv_P jC_wipe = (1, am_at kC_wipe) := rfl
theorem ce_C_wipe {D : va_G} {dA : Nat → ClassId} {h b L : Nat} {xs : Nat → Int32} {T : am_T} (hN : am_nN (am_En D dA h b L xs)) : am_Ce (am_En D dA h b L xs) T (mv_tb jC_wipe) 0 := ⟨hN, am_Tg_ok, tw_433, tw_44, ⟨by decide +kernel, by decide +kernel, by decide +kernel⟩, by decide +kernel⟩
theorem pC_write : mv_P jC_write = (4, am_at kC_write) := rfl
theorem ce_C_write {D : va_G} {dA : Nat → ClassId} {h b L : Nat} {xs : Nat → Int32} {T : am_T} (hN : am_nN (am_En D dA h b L xs)) : am_Ce (am_En D dA h b L xs) T (mv_tb jC_write) 3 := ⟨hN, am_Tg_ok, tw_402, tw_44, ⟨by decide +kernel, by decide +kernel, by decide +kernel⟩, by decide +kernel⟩
theorem pC_isGood : mv_P jC_isGood = (2, am_at kC_isGood) := rfl
theorem ce_C_isGood {D : va_G} {dA : Nat → ClassId} {h b L : Nat} {xs : Nat → Int32} {T : am_T} (hN : am_nN (am_En D dA h b L xs)) : am_Ce (am_En D dA h b L xs) T (mv_tb jC_isGood) 0 := ⟨hN, am_Tg_ok, tw_414, tw_44, ⟨by decide +kernel, by decide +kernel, by decide +kernel⟩, by decide +kernel⟩
theorem pC_isFulfilledBy : mv_P jC_isFulfilledBy = (5, am_at kC_isFulfilledBy) := rfl
theorem ce_C_isFulfilledBy {D : va_G} {dA : Nat → ClassId} {h b L : Nat} {xs : Nat → Int32} {T : am_T} (hN : am_nN (am_En D dA h b L xs)) : am_Ce (am_En D dA h b L xs) T (mv_tb jC_isFulfilledBy) 3 := ⟨hN, am_Tg_ok, tw_441, tw_44, ⟨by decide +kernel, by decide +kernel, by decide +kernel⟩, by decide +kernel⟩
theorem pC_measure : mv_P jC_measure = (4, am_at kC_measure) := rfl
theorem ce_C_measure {D : va_G} {dA : Nat → ClassId} {h b L : Nat} {xs : Nat → Int32} {T : am_T} (hN : am_nN (am_En D dA h b L xs)) : am_Ce (am_En D dA h b L xs) T (mv_tb jC_measure) 1 := ⟨hN, am_Tg_ok, tw_418, tw_44, ⟨by decide +kernel, by decide +kernel, by decide +kernel⟩, by decide +kernel⟩
theorem pC_leafHolds : mv_P jC_leafHolds = (5, am_at kC_leafHolds) := rfl
theorem ce_C_leafHolds {D : va_G} {dA : Nat → ClassId} {h b L : Nat} {xs : Nat → Int32} {T : am_T} (hN : am_nN (am_En D dA h b L xs)) : am_Ce (am_En D dA h b L xs) T (mv_tb jC_leafHolds) 4 := ⟨hN, am_Tg_ok, tw_445, tw_44, ⟨by decide +kernel, by decide +kernel, by decide +kernel⟩, by decide +kernel⟩
theorem pC_joinHolds : mv_P jC_joinHolds = (4, am_at kC_joinHolds) := rfl
theorem ce_C_joinHolds {D : va_G} {dA : Nat → ClassId} {h b L : Nat} {xs : Nat → Int32} {T : am_T} (hN : am_nN (am_En D dA h b L xs)) : am_Ce (am_En D dA h b L xs) T (mv_tb jC_joinHolds) 1 := ⟨hN, am_Tg_ok, tw_452, tw_44, ⟨by decide +kernel, by decide +kernel, by decide +kernel⟩, by decide +kernel⟩
theorem pC_endFrom : mv_P jC_endFrom = (2, am_at kC_endFrom) := rfl
theorem ce_C_endFrom {D : va_G} {dA : Nat → ClassId} {h b L : Nat} {xs : Nat → Int32} {T : am_T} (hN : am_nN (am_En D dA h b L xs)) : am_Ce (am_En D dA h b L xs) T (mv_tb jC_endFrom) 1 := ⟨hN, am_Tg_ok, tw_422, tw_44, ⟨by decide +kernel, by decide +kernel, by decide +kernel⟩, by decide +kernel⟩
theorem pC_depthFrom : mv_P jC_depthFrom = (2, am_at kC_depthFrom) := rfl
theorem ce_C_depthFrom {D : va_G} {dA : Nat → ClassId} {h b L : Nat} {xs : Nat → Int32} {T : am_T} (hN : am_nN (am_En D dA h b L xs)) : am_Ce (am_En D dA h b L xs) T (mv_tb jC_depthFrom) 1 := ⟨hN, am_Tg_ok, tw_426, tw_44, ⟨by decide +kernel, by decide +kernel, by decide +kernel⟩, by decide +kernel⟩
theorem pC_holdsFrom : mv_P jC_holdsFrom = (2, am_at kC_holdsFrom) := rfl
theorem ce_C_holdsFrom {D : va_G} {dA : Nat → ClassId} {h b L : Nat} {xs : Nat → Int32} {T : am_T} (hN : am_nN (am_En D dA h b L xs)) : am_Ce (am_En D dA h b L xs) T (mv_tb jC_holdsFrom) 1 := ⟨hN, am_Tg_ok, tw_456, tw_44, ⟨by decide +kernel, by decide +kernel, by decide +kernel⟩, by decide +kernel⟩
theorem pM_init : mv_P jM_init = (2, am_at kM_init) := rfl
theorem ce_M_init {D : va_G} {dA : Nat → ClassId} {h b L : Nat} {xs : Nat → Int32} {T : am_T} (hN : am_nN (am_En D dA h b L xs)) : am_Ce (am_En D dA h b L xs) T (mv_tb jM_init) 0 := ⟨hN, am_Tg_ok, tw_550, tw_45, ⟨by decide +kernel, by decide +kernel, by decide +kernel⟩, by decide +kernel⟩
theorem pM_in : mv_P jM_in = (3, am_at kM_in) := rfl
theorem ce_M_in {D : va_G} {dA : Nat → ClassId} {h b L : Nat} {xs : Nat → Int32} {T : am_T} (hN : am_nN (am_En D dA h b L xs)) : am_Ce (am_En D dA h b L xs) T (mv_tb jM_in) 3 := ⟨hN, am_Tg_ok, tw_622, tw_45, ⟨by decide +kernel, by decide +kernel, by decide +kernel⟩, by decide +kernel⟩
theorem pM_place : mv_P jM_place = (4, am_at kM_place) := rfl
theorem ce_M_place {D : va_G} {dA : Nat → ClassId} {h b L : Nat} {xs : Nat → Int32} {T : am_T} (hN : am_nN (am_En D dA h b L xs)) : am_Ce (am_En D dA h b L xs) T (mv_tb jM_place) 2 := ⟨hN, am_Tg_ok, tw_638, tw_45, ⟨by decide +kernel, by decide +kernel, by decide +kernel⟩, by decide +kernel⟩
theorem pM_flagsOf : mv_P jM_flagsOf = (3, am_at kM_flagsOf) := rfl
theorem ce_M_flagsOf {D : va_G} {dA : Nat → ClassId} {h b L : Nat} {xs : Nat → Int32} {T : am_T} (hN : am_nN (am_En D dA h b L xs)) : am_Ce (am_En D dA h b L xs) T (mv_tb jM_flagsOf) 2 := ⟨hN, am_Tg_ok, tw_686, tw_45, ⟨by decide +kernel, by decide +kernel, by decide +kernel⟩, by decide +kernel⟩
theorem pM_apply : mv_P jM_apply = (7, am_at kM_apply) := rfl
theorem ce_M_apply {D : va_G} {dA : Nat → ClassId} {h b L : Nat} {xs : Nat → Int32} {T : am_T} (hN : am_nN (am_En D dA h b L xs)) : am_Ce (am_En D dA h b L xs) T (mv_tb jM_apply) 1 := ⟨hN, am_Tg_ok, tw_634, tw_45, ⟨by decide +kernel, by decide +kernel, by decide +kernel⟩, by decide +kernel⟩
theorem pM_note : mv_P jM_note = (7, am_at kM_note) := rfl
theorem ce_M_note {D : va_G} {dA : Nat → ClassId} {h b L : Nat} {xs : Nat → Int32} {T : am_T} (hN : am_nN (am_En D dA h b L xs)) : am_Ce (am_En D dA h b L xs) T (mv_tb jM_note) 5 := ⟨hN, am_Tg_ok, tw_630, tw_45, ⟨by decide +kernel, by decide +kernel, by decide +kernel⟩, by decide +kernel⟩
theorem pM_add : mv_P jM_add = (4, am_at kM_add) := rfl
theorem ce_M_add {D : va_G} {dA : Nat → ClassId} {h b L : Nat} {xs : Nat → Int32} {T : am_T} (hN : am_nN (am_En D dA h b L xs)) : am_Ce (am_En D dA h b L xs) T (mv_tb jM_add) 3 := ⟨hN, am_Tg_ok, tw_626, tw_45, ⟨by decide +kernel, by decide +kernel, by decide +kernel⟩, by decide +kernel⟩
theorem pM_purge : mv_P jM_purge = (4, am_at kM_purge) := rfl
theorem ce_M_purge {D : va_G} {dA : Nat → ClassId} {h b L : Nat} {xs : Nat → Int32} {T : am_T} (hN : am_nN (am_En D dA h b L xs)) : am_Ce (am_En D dA h b L xs) T (mv_tb jM_purge) 1 := ⟨hN, am_Tg_ok, tw_658, tw_45, ⟨by decide +kernel, by decide +kernel, by decide +kernel⟩, by decide +kernel⟩
theorem pM_append : mv_P jM_append = (4, am_at kM_append) := rfl
theorem ce_M_append {D : va_G} {dA : Nat → ClassId} {h b L : Nat} {xs : Nat → Int32} {T : am_T} (hN : am_nN (am_En D dA h b L xs)) : am_Ce (am_En D dA h b L xs) T (mv_tb jM_append) 3 := ⟨hN, am_Tg_ok, tw_619, tw_45, ⟨by decide +kernel, by decide +kernel, by decide +kernel⟩, by decide +kernel⟩
theorem pM_none : mv_P jM_none = (2, am_at kM_none) := rfl
theorem ce_M_none {D : va_G} {dA : Nat → ClassId} {h b L : Nat} {xs : Nat → Int32} {T : am_T} (hN : am_nN (am_En D dA h b L xs)) : am_Ce (am_En D dA h b L xs) T (mv_tb jM_none) 1 := ⟨hN, am_Tg_ok, tw_654, tw_45, ⟨by decide +kernel, by decide +kernel, by decide +kernel⟩, by decide +kernel⟩
theorem pM_bad : mv_P jM_bad = (3, am_at kM_bad) := rfl
theorem ce_M_bad {D : va_G} {dA : Nat → ClassId} {h b L : Nat} {xs : Nat → Int32} {T : am_T} (hN : am_nN (am_En D dA h b L xs)) : am_Ce (am_En D dA h b L xs) T (mv_tb jM_bad) 2 := ⟨hN, am_Tg_ok, tw_694, tw_45, ⟨by decide +kernel, by decide +kernel, by decide +kernel⟩, by decide +kernel⟩
theorem pM_uidOf : mv_P jM_uidOf = (3, am_at kM_uidOf) := rfl
theorem ce_M_uidOf {D : va_G} {dA : Nat → ClassId} {h b L : Nat} {xs : Nat → Int32} {T : am_T} (hN : am_nN (am_En D dA h b L xs)) : am_Ce (am_En D dA h b L xs) T (mv_tb jM_uidOf) 2 := ⟨hN, am_Tg_ok, tw_674, tw_45, ⟨by decide +kernel, by decide +kernel, by decide +kernel⟩, by decide +kernel⟩
theorem pM_gone : mv_P jM_gone = (3, am_at kM_gone) := rfl
theorem ce_M_gone {D : va_G} {dA : Nat → ClassId} {h b L : Nat} {xs : Nat → Int32} {T : am_T} (hN : am_nN (am_En D dA h b L xs)) : am_Ce (am_En D dA h b L xs) T (mv_tb jM_gone) 2 := ⟨hN, am_Tg_ok, tw_670, tw_45, ⟨by decide +kernel, by decide +kernel, by decide +kernel⟩, by decide +kernel⟩
theorem pM_tell : mv_P jM_tell = (4, am_at kM_tell) := rfl
theorem ce_M_tell {D : va_G} {dA : Nat → ClassId} {h b L : Nat} {xs : Nat → Int32} {T : am_T} (hN : am_nN (am_En D dA h b L xs)) : am_Ce (am_En D dA h b L xs) T (mv_tb jM_tell) 3 := ⟨hN, am_Tg_ok, tw_682, tw_45, ⟨by decide +kernel, by decide +kernel, by decide +kernel⟩, by decide +kernel⟩
theorem pM_leave : mv_P jM_leave = (4, am_at kM_leave) := rfl
theorem ce_M_leave {D : va_G} {dA : Nat → ClassId} {h b L : Nat} {xs : Nat → Int32} {T : am_T} (hN : am_nN (am_En D dA h b L xs)) : am_Ce (am_En D dA h b L xs) T (mv_tb jM_leave) 2 := ⟨hN, am_Tg_ok, tw_678, tw_45, ⟨by decide +kernel, by decide +kernel, by decide +kernel⟩, by decide +kernel⟩
theorem pM_gather : mv_P jM_gather = (6, am_at kM_gather) := rfl
theorem ce_M_gather {D : va_G} {dA : Nat → ClassId} {h b L : Nat} {xs : Nat → Int32} {T : am_T} (hN : am_nN (am_En D dA h b L xs)) : am_Ce (am_En D dA h b L xs) T (mv_tb jM_gather) 1 := ⟨hN, am_Tg_ok, tw_646, tw_45, ⟨by decide +kernel, by decide +kernel, by decide +kernel⟩, by decide +kernel⟩
theorem pM_update : mv_P jM_update = (6, am_at kM_update) := rfl
theorem ce_M_update {D : va_G} {dA : Nat → ClassId} {h b L : Nat} {xs : Nat → Int32} {T : am_T} (hN : am_nN (am_En D dA h b L xs)) : am_Ce (am_En D dA h b L xs) T (mv_tb jM_update) 2 := ⟨hN, am_Tg_ok, tw_666, tw_45, ⟨by decide +kernel, by decide +kernel, by decide +kernel⟩, by decide +kernel⟩
theorem pM_select : mv_P jM_select = (4, am_at kM_select) := rfl
theorem ce_M_select {D : va_G} {dA : Nat → ClassId} {h b L : Nat} {xs : Nat → Int32} {T : am_T} (hN : am_nN (am_En D dA h b L xs)) : am_Ce (am_En D dA h b L xs) T (mv_tb jM_select) 3 := ⟨hN, am_Tg_ok, tw_642, tw_45, ⟨by decide +kernel, by decide +kernel, by decide +kernel⟩, by decide +kernel⟩
theorem pM_close : mv_P jM_close = (3, am_at kM_close) := rfl
theorem ce_M_close {D : va_G} {dA : Nat → ClassId} {h b L : Nat} {xs : Nat → Int32} {T : am_T} (hN : am_nN (am_En D dA h b L xs)) : am_Ce (am_En D dA h b L xs) T (mv_tb jM_close) 1 := ⟨hN, am_Tg_ok, tw_650, tw_45, ⟨by decide +kernel, by decide +kernel, by decide +kernel⟩, by decide +kernel⟩
theorem pM_check : mv_P jM_check = (2, am_at kM_check) := rfl
theorem ce_M_check {D : va_G} {dA : Nat → ClassId} {h b L : Nat} {xs : Nat → Int32} {T : am_T} (hN : am_nN (am_En D dA h b L xs)) : am_Ce (am_En D dA h b L xs) T (mv_tb jM_check) 1 := ⟨hN, am_Tg_ok, tw_662, tw_45, ⟨by decide +kernel, by decide +kernel, by decide +kernel⟩, by decide +kernel⟩
theorem pM_fetch : mv_P jM_fetch = (4, am_at kM_fetch) := rfl
theorem ce_M_fetch {D : va_G} {dA : Nat → ClassId} {h b L : Nat} {xs : Nat → Int32} {T : am_T} (hN : am_nN (am_En D dA h b L xs)) : am_Ce (am_En D dA h b L xs) T (mv_tb jM_fetch) 2 := ⟨hN, am_Tg_ok, tw_690, tw_45, ⟨by decide +kernel, by decide +kernel, by decide +kernel⟩, by decide +kernel⟩
theorem pM_store : mv_P jM_store = (8, am_at kM_store) := rfl
theorem ce_M_store {D : va_G} {dA : Nat → ClassId} {h b L : Nat} {xs : Nat → Int32} {T : am_T} (hN : am_nN (am_En D dA h b L xs)) : am_Ce (am_En D dA h b L xs) T (mv_tb jM_store) 4 := ⟨hN, am_Tg_ok, tw_698, tw_45, ⟨by decide +kernel, by decide +kernel, by decide +kernel⟩, by decide +kernel⟩
theorem pM_expunge : mv_P jM_expunge = (3, am_at kM_expunge) := rfl
theorem ce_M_expunge {D : va_G} {dA : Nat → ClassId} {h b L : Nat} {xs : Nat → Int32} {T : am_T} (hN : am_nN (am_En D dA h b L xs)) : am_Ce (am_En D dA h b L xs) T (mv_tb jM_expunge) 1 := ⟨hN, am_Tg_ok, tw_702, tw_45, ⟨by decide +kernel, by decide +kernel, by decide +kernel⟩, by decide +kernel⟩
theorem pM_copy : mv_P jM_copy = (6, am_at kM_copy) := rfl
theorem ce_M_copy {D : va_G} {dA : Nat → ClassId} {h b L : Nat} {xs : Nat → Int32} {T : am_T} (hN : am_nN (am_En D dA h b L xs)) : am_Ce (am_En D dA h b L xs) T (mv_tb jM_copy) 3 := ⟨hN, am_Tg_ok, tw_706, tw_45, ⟨by decide +kernel, by decide +kernel, by decide +kernel⟩, by decide +kernel⟩
theorem pM_criterion : mv_P jM_criterion = (4, am_at kM_criterion) := rfl
theorem ce_M_criterion {D : va_G} {dA : Nat → ClassId} {h b L : Nat} {xs : Nat → Int32} {T : am_T} (hN : am_nN (am_En D dA h b L xs)) : am_Ce (am_En D dA h b L xs) T (mv_tb jM_criterion) 3 := ⟨hN, am_Tg_ok, tw_710, tw_45, ⟨by decide +kernel, by decide +kernel, by decide +kernel⟩, by decide +kernel⟩
theorem pM_parts : mv_P jM_parts = (3, am_at kM_parts) := rfl
theorem ce_M_parts {D : va_G} {dA : Nat → ClassId} {h b L : Nat} {xs : Nat → Int32} {T : am_T} (hN : am_nN (am_En D dA h b L xs)) : am_Ce (am_En D dA h b L xs) T (mv_tb jM_parts) 1 := ⟨hN, am_Tg_ok, tw_722, tw_45, ⟨by decide +kernel, by decide +kernel, by decide +kernel⟩, by decide +kernel⟩
theorem pM_good : mv_P jM_good = (3, am_at kM_good) := rfl
theorem ce_M_good {D : va_G} {dA : Nat → ClassId} {h b L : Nat} {xs : Nat → Int32} {T : am_T} (hN : am_nN (am_En D dA h b L xs)) : am_Ce (am_En D dA h b L xs) T (mv_tb jM_good) 0 := ⟨hN, am_Tg_ok, tw_718, tw_45, ⟨by decide +kernel, by decide +kernel, by decide +kernel⟩, by decide +kernel⟩
theorem pM_leaf : mv_P jM_leaf = (9, am_at kM_leaf) := rfl
theorem ce_M_leaf {D : va_G} {dA : Nat → ClassId} {h b L : Nat} {xs : Nat → Int32} {T : am_T} (hN : am_nN (am_En D dA h b L xs)) : am_Ce (am_En D dA h b L xs) T (mv_tb jM_leaf) 3 := ⟨hN, am_Tg_ok, tw_730, tw_45, ⟨by decide +kernel, by decide +kernel, by decide +kernel⟩, by decide +kernel⟩
theorem pM_fulfils : mv_P jM_fulfils = (8, am_at kM_fulfils) := rfl
theorem ce_M_fulfils {D : va_G} {dA : Nat → ClassId} {h b L : Nat} {xs : Nat → Int32} {T : am_T} (hN : am_nN (am_En D dA h b L xs)) : am_Ce (am_En D dA h b L xs) T (mv_tb jM_fulfils) 2 := ⟨hN, am_Tg_ok, tw_726, tw_45, ⟨by decide +kernel, by decide +kernel, by decide +kernel⟩, by decide +kernel⟩
theorem pM_search : mv_P jM_search = (4, am_at kM_search) := rfl
theorem ce_M_search {D : va_G} {dA : Nat → ClassId} {h b L : Nat} {xs : Nat → Int32} {T : am_T} (hN : am_nN (am_En D dA h b L xs)) : am_Ce (am_En D dA h b L xs) T (mv_tb jM_search) 1 := ⟨hN, am_Tg_ok, tw_714, tw_45, ⟨by decide +kernel, by decide +kernel, by decide +kernel⟩, by decide +kernel⟩
theorem pM_found : mv_P jM_found = (2, am_at kM_found) := rfl
theorem ce_M_found {D : va_G} {dA : Nat → ClassId} {h b L : Nat} {xs : Nat → Int32} {T : am_T} (hN : am_nN (am_En D dA h b L xs)) : am_Ce (am_En D dA h b L xs) T (mv_tb jM_found) 1 := ⟨hN, am_Tg_ok, tw_734, tw_45, ⟨by decide +kernel, by decide +kernel, by decide +kernel⟩, by decide +kernel⟩
theorem pM_sync : mv_P jM_sync = (1, am_at kM_sync) := rfl
theorem ce_M_sync {D : va_G} {dA : Nat → ClassId} {h b L : Nat} {xs : Nat → Int32} {T : am_T} (hN : am_nN (am_En D dA h b L xs)) : am_Ce (am_En D dA h b L xs) T (mv_tb jM_sync) 0 := ⟨hN, am_Tg_ok, tw_738, tw_45, ⟨by decide +kernel, by decide +kernel, by decide +kernel⟩, by decide +kernel⟩
theorem pM_crash : mv_P jM_crash = (4, am_at kM_crash) := rfl
theorem ce_M_crash {D : va_G} {dA : Nat → ClassId} {h b L : Nat} {xs : Nat → Int32} {T : am_T} (hN : am_nN (am_En D dA h b L xs)) : am_Ce (am_En D dA h b L xs) T (mv_tb jM_crash) 0 := ⟨hN, am_Tg_ok, tw_742, tw_45, ⟨by decide +kernel, by decide +kernel, by decide +kernel⟩, by decide +kernel⟩
theorem pM_message : mv_P jM_message = (4, am_at kM_message) := rfl
theorem ce_M_message {D : va_G} {dA : Nat → ClassId} {h b L : Nat} {xs : Nat → Int32} {T : am_T} (hN : am_nN (am_En D dA h b L xs)) : am_Ce (am_En D dA h b L xs) T (mv_tb jM_message) 3 := ⟨hN, am_Tg_ok, tw_746, tw_45, ⟨by decide +kernel, by decide +kernel, by decide +kernel⟩, by decide +kernel⟩
theorem pM_seen : mv_P jM_seen = (4, am_at kM_seen) := rfl
theorem ce_M_seen {D : va_G} {dA : Nat → ClassId} {h b L : Nat} {xs : Nat → Int32} {T : am_T} (hN : am_nN (am_En D dA h b L xs)) : am_Ce (am_En D dA h b L xs) T (mv_tb jM_seen) 3 := ⟨hN, am_Tg_ok, tw_750, tw_45, ⟨by decide +kernel, by decide +kernel, by decide +kernel⟩, by decide +kernel⟩
theorem pM_notice : mv_P jM_notice = (4, am_at kM_notice) := rfl
theorem ce_M_notice {D : va_G} {dA : Nat → ClassId} {h b L : Nat} {xs : Nat → Int32} {T : am_T} (hN : am_nN (am_En D dA h b L xs)) : am_Ce (am_En D dA h b L xs) T (mv_tb jM_notice) 3 := ⟨hN, am_Tg_ok, tw_754, tw_45, ⟨by decide +kernel, by decide +kernel, by decide +kernel⟩, by decide +kernel⟩
theorem pM_mailbox : mv_P jM_mailbox = (5, am_at kM_mailbox) := rfl
theorem ce_M_mailbox {D : va_G} {dA : Nat → ClassId} {h b L : Nat} {xs : Nat → Int32} {T : am_T} (hN : am_nN (am_En D dA h b L xs)) : am_Ce (am_En D dA h b L xs) T (mv_tb jM_mailbox) 2 := ⟨hN, am_Tg_ok, tw_758, tw_45, ⟨by decide +kernel, by decide +kernel, by decide +kernel⟩, by decide +kernel⟩
theorem pM_count : mv_P jM_count = (2, am_at kM_count) := rfl
theorem ce_M_count {D : va_G} {dA : Nat → ClassId} {h b L : Nat} {xs : Nat → Int32} {T : am_T} (hN : am_nN (am_En D dA h b L xs)) : am_Ce (am_En D dA h b L xs) T (mv_tb jM_count) 1 := ⟨hN, am_Tg_ok, tw_762, tw_45, ⟨by decide +kernel, by decide +kernel, by decide +kernel⟩, by decide +kernel⟩
def kL_law (L : Nat) (xs : Nat → Int) : List (Nat × am_I) := [(0, i_new 0 [.inr none, .inr none, .inr none, .inr none, .inr none, .inl 0] 3), (3, i_dup 4), (4, i_callI jV_init 0 7), (7, i_astore 1 8), (8, i_new 5 [.inl 0, .inl 0, .inr none, .inr none, .inr none, .inr none, .inr none, .inr none, .inr none, .inr none, .inr none, .inr none, .inr none, .inr none, .inr none, .inl 0, .inr none, .inl 0, .inr none, .inr none, .inr none] 11), (11, i_dup 12), (12, i_callI jM_init 0 15), (15, i_astore 2 16), (16, i_const 0 17), (17, i_istore 3 18), (18, i_iload 3 19), (19, i_aload 0 20), (20, i_slen L 21), (21, i_const 5 22), (22, i_isub 23), (23, i_icmp_gt 726 26), (26, i_aload 0 27), (27, i_iload 3 28), (28, i_sld L xs 29), (29, i_const 31 31), (31, i_iand 32), (32, i_tsw 0 [120, 163, 222, 245, 268, 301, 354, 377, 420, 463, 486, 509, 522, 535, 578, 621, 664, 697] 720), (120, i_aload 1 121), (121, i_aload 0 122), (122, i_iload 3 123), (123, i_const 1 124), (124, i_iadd 125), (125, i_sld L xs 126), (126, i_aload 0 127), (127, i_iload 3 128), (128, i_const 2 129), (129, i_iadd 130), (130, i_sld L xs 131), (131, i_aload 0 132), (132, i_iload 3 133), (133, i_const 3 134), (134, i_iadd 135), (135, i_sld L xs 136), (136, i_callV 0 jV_append 3 139), (139, i_aload 2 140), (140, i_aload 0 141), (141, i_iload 3 142), (142, i_const 1 143), (143, i_iadd 144), (144, i_sld L xs 145), (145, i_aload 0 146), (146, i_iload 3 147), (147, i_const 2 148), (148, i_iadd 149), (149, i_sld L xs 150), (150, i_aload 0 151), (151, i_iload 3 152), (152, i_const 3 153), (153, i_iadd 154), (154, i_sld L xs 155), (155, i_callV 5 jM_append 3 158), (158, i_icmp_eq 720 161), (161, i_const 0 162), (162, i_zret), (163, i_aload 1 164), (164, i_aload 0 165), (165, i_iload 3 166), (166, i_const 1 167), (167, i_iadd 168), (168, i_sld L xs 169), (169, i_aload 0 170), (170, i_iload 3 171), (171, i_const 2 172), (172, i_iadd 173), (173, i_sld L xs 174), (174, i_aload 0 175), (175, i_iload 3 176), (176, i_const 3 177), (177, i_iadd 178), (178, i_sld L xs 179), (179, i_if_eq 186 182), (182, i_const 1 183), (183, i_goto 187), (186, i_const 0 187), (187, i_callV 0 jV_select 3 190), (190, i_aload 2 191), (191, i_aload 0 192), (192, i_iload 3 193), (193, i_const 1 194), (194, i_iadd 195), (195, i_sld L xs 196), (196, i_aload 0 197), (197, i_iload 3 198), (198, i_const 2 199), (199, i_iadd 200), (200, i_sld L xs 201), (201, i_aload 0 202), (202, i_iload 3 203), (203, i_const 3 204), (204, i_iadd 205), (205, i_sld L xs 206), (206, i_if_eq 213 209), (209, i_const 1 210), (210, i_goto 214), (213, i_const 0 214), (214, i_callV 5 jM_select 3 217), (217, i_icmp_eq 720 220), (220, i_const 0 221), (221, i_zret), (222, i_aload 1 223), (223, i_aload 0 224), (224, i_iload 3 225), (225, i_const 1 226), (226, i_iadd 227), (227, i_sld L xs 228), (228, i_callV 0 jV_close 1 231), (231, i_aload 2 232), (232, i_aload 0 233), (233, i_iload 3 234), (234, i_const 1 235), (235, i_iadd 236), (236, i_sld L xs 237), (237, i_callV 5 jM_close 1 240), (240, i_icmp_eq 720 243), (243, i_const 0 244), (244, i_zret), (245, i_aload 1 246), (246, i_aload 0 247), (247, i_iload 3 248), (248, i_const 1 249), (249, i_iadd 250), (250, i_sld L xs 251), (251, i_callV 0 jV_check 1 254), (254, i_aload 2 255), (255, i_aload 0 256), (256, i_iload 3 257), (257, i_const 1 258), (258, i_iadd 259), (259, i_sld L xs 260), (260, i_callV 5 jM_check 1 263), (263, i_icmp_eq 720 266), (266, i_const 0 267), (267, i_zret), (268, i_aload 1 269), (269, i_aload 0 270), (270, i_iload 3 271), (271, i_const 1 272), (272, i_iadd 273), (273, i_sld L xs 274), (274, i_aload 0 275), (275, i_iload 3 276), (276, i_const 2 277), (277, i_iadd 278), (278, i_sld L xs 279), (279, i_callV 0 jV_fetch 2 282), (282, i_aload 2 283), (283, i_aload 0 284), (284, i_iload 3 285), (285, i_const 1 286), (286, i_iadd 287), (287, i_sld L xs 288), (288, i_aload 0 289), (289, i_iload 3 290), (290, i_const 2 291), (291, i_iadd 292), (292, i_sld L xs 293), (293, i_callV 5 jM_fetch 2 296), (296, i_icmp_eq 720 299), (299, i_const 0 300), (300, i_zret), (301, i_aload 1 302), (302, i_aload 0 303), (303, i_iload 3 304), (304, i_const 1 305), (305, i_iadd 306), (306, i_sld L xs 307), (307, i_aload 0 308), (308, i_iload 3 309), (309, i_const 2 310), (310, i_iadd 311), (311, i_sld L xs 312), (312, i_aload 0 313), (313, i_iload 3 314), (314, i_const 3 315), (315, i_iadd 316), (316, i_sld L xs 317), (317, i_aload 0 318), (318, i_iload 3 319), (319, i_const 4 320), (320, i_iadd 321), (321, i_sld L xs 322), (322, i_callV 0 jV_store 4 325), (325, i_aload 2 326), (326, i_aload 0 327), (327, i_iload 3 328), (328, i_const 1 329), (329, i_iadd 330), (330, i_sld L xs 331), (331, i_aload 0 332), (332, i_iload 3 333), (333, i_const 2 334), (334, i_iadd 335), (335, i_sld L xs 336), (336, i_aload 0 337), (337, i_iload 3 338), (338, i_const 3 339), (339, i_iadd 340), (340, i_sld L xs 341), (341, i_aload 0 342), (342, i_iload 3 343), (343, i_const 4 344), (344, i_iadd 345), (345, i_sld L xs 346), (346, i_callV 5 jM_store 4 349), (349, i_icmp_eq 720 352), (352, i_const 0 353), (353, i_zret), (354, i_aload 1 355), (355, i_aload 0 356), (356, i_iload 3 357), (357, i_const 1 358), (358, i_iadd 359), (359, i_sld L xs 360), (360, i_callV 0 jV_expunge 1 363), (363, i_aload 2 364), (364, i_aload 0 365), (365, i_iload 3 366), (366, i_const 1 367), (367, i_iadd 368), (368, i_sld L xs 369), (369, i_callV 5 jM_expunge 1 372), (372, i_icmp_eq 720 375), (375, i_const 0 376), (376, i_zret), (377, i_aload 1 378), (378, i_aload 0 379), (379, i_iload 3 380), (380, i_const 1 381), (381, i_iadd 382), (382, i_sld L xs 383), (383, i_aload 0 384), (384, i_iload 3 385), (385, i_const 2 386), (386, i_iadd 387), (387, i_sld L xs 388), (388, i_aload 0 389), (389, i_iload 3 390), (390, i_const 3 391), (391, i_iadd 392), (392, i_sld L xs 393), (393, i_callV 0 jV_copy 3 396), (396, i_aload 2 397), (397, i_aload 0 398), (398, i_iload 3 399), (399, i_const 1 400), (400, i_iadd 401), (401, i_sld L xs 402), (402, i_aload 0 403), (403, i_iload 3 404), (404, i_const 2 405), (405, i_iadd 406), (406, i_sld L xs 407), (407, i_aload 0 408), (408, i_iload 3 409), (409, i_const 3 410), (410, i_iadd 411), (411, i_sld L xs 412), (412, i_callV 5 jM_copy 3 415), (415, i_icmp_eq 720 418), (418, i_const 0 419), (419, i_zret), (420, i_aload 1 421), (421, i_aload 0 422), (422, i_iload 3 423), (423, i_const 1 424), (424, i_iadd 425), (425, i_sld L xs 426), (426, i_aload 0 427), (427, i_iload 3 428), (428, i_const 2 429), (429, i_iadd 430), (430, i_sld L xs 431), (431, i_aload 0 432), (432, i_iload 3 433), (433, i_const 3 434), (434, i_iadd 435), (435, i_sld L xs 436), (436, i_callV 0 jV_criterion 3 439), (439, i_aload 2 440), (440, i_aload 0 441), (441, i_iload 3 442), (442, i_const 1 443), (443, i_iadd 444), (444, i_sld L xs 445), (445, i_aload 0 446), (446, i_iload 3 447), (447, i_const 2 448), (448, i_iadd 449), (449, i_sld L xs 450), (450, i_aload 0 451), (451, i_iload 3 452), (452, i_const 3 453), (453, i_iadd 454), (454, i_sld L xs 455), (455, i_callV 5 jM_criterion 3 458), (458, i_icmp_eq 720 461), (461, i_const 0 462), (462, i_zret), (463, i_aload 1 464), (464, i_aload 0 465), (465, i_iload 3 466), (466, i_const 1 467), (467, i_iadd 468), (468, i_sld L xs 469), (469, i_callV 0 jV_search 1 472), (472, i_aload 2 473), (473, i_aload 0 474), (474, i_iload 3 475), (475, i_const 1 476), (476, i_iadd 477), (477, i_sld L xs 478), (478, i_callV 5 jM_search 1 481), (481, i_icmp_eq 720 484), (484, i_const 0 485), (485, i_zret), (486, i_aload 1 487), (487, i_aload 0 488), (488, i_iload 3 489), (489, i_const 1 490), (490, i_iadd 491), (491, i_sld L xs 492), (492, i_callV 0 jV_found 1 495), (495, i_aload 2 496), (496, i_aload 0 497), (497, i_iload 3 498), (498, i_const 1 499), (499, i_iadd 500), (500, i_sld L xs 501), (501, i_callV 5 jM_found 1 504), (504, i_icmp_eq 720 507), (507, i_const 0 508), (508, i_zret), (509, i_aload 1 510), (510, i_callV 0 jV_sync 0 513), (513, i_aload 2 514), (514, i_callV 5 jM_sync 0 517), (517, i_icmp_eq 720 520), (520, i_const 0 521), (521, i_zret), (522, i_aload 1 523), (523, i_callV 0 jV_crash 0 526), (526, i_aload 2 527), (527, i_callV 5 jM_crash 0 530), (530, i_icmp_eq 720 533), (533, i_const 0 534), (534, i_zret), (535, i_aload 1 536), (536, i_aload 0 537), (537, i_iload 3 538), (538, i_const 1 539), (539, i_iadd 540), (540, i_sld L xs 541), (541, i_aload 0 542), (542, i_iload 3 543), (543, i_const 2 544), (544, i_iadd 545), (545, i_sld L xs 546), (546, i_aload 0 547), (547, i_iload 3 548), (548, i_const 3 549), (549, i_iadd 550), (550, i_sld L xs 551), (551, i_callV 0 jV_message 3 554), (554, i_aload 2 555), (555, i_aload 0 556), (556, i_iload 3 557), (557, i_const 1 558), (558, i_iadd 559), (559, i_sld L xs 560), (560, i_aload 0 561), (561, i_iload 3 562), (562, i_const 2 563), (563, i_iadd 564), (564, i_sld L xs 565), (565, i_aload 0 566), (566, i_iload 3 567), (567, i_const 3 568), (568, i_iadd 569), (569, i_sld L xs 570), (570, i_callV 5 jM_message 3 573), (573, i_icmp_eq 720 576), (576, i_const 0 577), (577, i_zret), (578, i_aload 1 579), (579, i_aload 0 580), (580, i_iload 3 581), (581, i_const 1 582), (582, i_iadd 583), (583, i_sld L xs 584), (584, i_aload 0 585), (585, i_iload 3 586), (586, i_const 2 587), (587, i_iadd 588), (588, i_sld L xs 589), (589, i_aload 0 590), (590, i_iload 3 591), (591, i_const 3 592), (592, i_iadd 593), (593, i_sld L xs 594), (594, i_callV 0 jV_seen 3 597), (597, i_aload 2 598), (598, i_aload 0 599), (599, i_iload 3 600), (600, i_const 1 601), (601, i_iadd 602), (602, i_sld L xs 603), (603, i_aload 0 604), (604, i_iload 3 605), (605, i_const 2 606), (606, i_iadd 607), (607, i_sld L xs 608), (608, i_aload 0 609), (609, i_iload 3 610), (610, i_const 3 611), (611, i_iadd 612), (612, i_sld L xs 613), (613, i_callV 5 jM_seen 3 616), (616, i_icmp_eq 720 619), (619, i_const 0 620), (620, i_zret), (621, i_aload 1 622), (622, i_aload 0 623), (623, i_iload 3 624), (624, i_const 1 625), (625, i_iadd 626), (626, i_sld L xs 627), (627, i_aload 0 628), (628, i_iload 3 629), (629, i_const 2 630), (630, i_iadd 631), (631, i_sld L xs 632), (632, i_aload 0 633), (633, i_iload 3 634), (634, i_const 3 635), (635, i_iadd 636), (636, i_sld L xs 637), (637, i_callV 0 jV_notice 3 640), (640, i_aload 2 641), (641, i_aload 0 642), (642, i_iload 3 643), (643, i_const 1 644), (644, i_iadd 645), (645, i_sld L xs 646), (646, i_aload 0 647), (647, i_iload 3 648), (648, i_const 2 649), (649, i_iadd 650), (650, i_sld L xs 651), (651, i_aload 0 652), (652, i_iload 3 653), (653, i_const 3 654), (654, i_iadd 655), (655, i_sld L xs 656), (656, i_callV 5 jM_notice 3 659), (659, i_icmp_eq 720 662), (662, i_const 0 663), (663, i_zret), (664, i_aload 1 665), (665, i_aload 0 666), (666, i_iload 3 667), (667, i_const 1 668), (668, i_iadd 669), (669, i_sld L xs 670), (670, i_aload 0 671), (671, i_iload 3 672), (672, i_const 2 673), (673, i_iadd 674), (674, i_sld L xs 675), (675, i_callV 0 jV_mailbox 2 678), (678, i_aload 2 679), (679, i_aload 0 680), (680, i_iload 3 681), (681, i_const 1 682), (682, i_iadd 683), (683, i_sld L xs 684), (684, i_aload 0 685), (685, i_iload 3 686), (686, i_const 2 687), (687, i_iadd 688), (688, i_sld L xs 689), (689, i_callV 5 jM_mailbox 2 692), (692, i_icmp_eq 720 695), (695, i_const 0 696), (696, i_zret), (697, i_aload 1 698), (698, i_aload 0 699), (699, i_iload 3 700), (700, i_const 1 701), (701, i_iadd 702), (702, i_sld L xs 703), (703, i_callV 0 jV_count 1 706), (706, i_aload 2 707), (707, i_aload 0 708), (708, i_iload 3 709), (709, i_const 1 710), (710, i_iadd 711), (711, i_sld L xs 712), (712, i_callV 5 jM_count 1 715), (715, i_icmp_eq 720 718), (718, i_const 0 719), (719, i_zret), (720, i_iinc 3 5 723), (723, i_goto 18), (726, i_const 1 727), (727, i_zret)]
def tL_law : am_T := (x, code, maxLocals, ret)
end
section
/-! printed by wip/whole/gen/prog.py: each instruction against the abstract one -/
theorem am_all.c {E : am_E} {tb : Nat → am_T} {P : am_P} {T : am_T} {q : Nat × am_I} {l : List (Nat × am_I)} (h1 : am_G E tb P T q.1 q.2) (h2 : am_all E tb P T l) : am_all E tb P T (q :: l) := ⟨h1, h2⟩
set_option maxRecDepth 20000 in
theorem ga_B_init {D : va_G} {dA : Nat → ClassId} {h b L : Nat} {xs : Nat → Int32} (hN : am_nN (am_En D dA h b L xs)) : am_all (am_En D dA h b L xs) mv_tb mv_P tB_init kB_init := by
  unfold kB_init
  refine am_all.c (s_aload_n (kf := 0) (by decide +kernel) rfl rfl) ?_
  refine am_all.c (s_obj mv_P0 tw_61 tw_53 tw_54 (by decide +kernel) rfl) ?_
  refine am_all.c (s_aload_n (kf := 0) (by decide +kernel) rfl rfl) ?_
  refine am_all.c (s_bipush (by decide +kernel) (by decide +kernel) (by decide) rfl) ?_
  refine am_all.c (s_newa (at0 := .int) rfl rfl (Or.inl rfl) tw_81 (by decide +kernel) rfl) ?_
  refine am_all.c (s_put (C := cn_B) (Tf := ft_B) (N := 6) (ty := .array .int) rfl fi_B fy_B fo_B fn_B (by decide) tw_62 (Or.inr ⟨rfl, rfl, rfl⟩) (by decide +kernel) (Or.inr (Or.inr ⟨rfl, Or.inr ⟨_, rfl⟩⟩)) (by decide +kernel) rfl) ?_
  refine am_all.c (s_aload_n (kf := 0) (by decide +kernel) rfl rfl) ?_
  refine am_all.c (s_bipush (by decide +kernel) (by decide +kernel) (by decide) rfl) ?_
  refine am_all.c (s_newa (at0 := .int) rfl rfl (Or.inl rfl) tw_81 (by decide +kernel) rfl) ?_
  refine am_all.c (s_put (C := cn_B) (Tf := ft_B) (N := 6) (ty := .array .int) rfl fi_B fy_B fo_B fn_B (by decide) tw_63 (Or.inr ⟨rfl, rfl, rfl⟩) (by decide +kernel) (Or.inr (Or.inr ⟨rfl, Or.inr ⟨_, rfl⟩⟩)) (by decide +kernel) rfl) ?_
  refine am_all.c (s_aload_n (kf := 0) (by decide +kernel) rfl rfl) ?_
  refine am_all.c (s_bipush (by decide +kernel) (by decide +kernel) (by decide) rfl) ?_
  refine am_all.c (s_newa (at0 := .int) rfl rfl (Or.inl rfl) tw_81 (by decide +kernel) rfl) ?_
  refine am_all.c (s_put (C := cn_B) (Tf := ft_B) (N := 6) (ty := .array .int) rfl fi_B fy_B fo_B fn_B (by decide) tw_64 (Or.inr ⟨rfl, rfl, rfl⟩) (by decide +kernel) (Or.inr (Or.inr ⟨rfl, Or.inr ⟨_, rfl⟩⟩)) (by decide +kernel) rfl) ?_
  refine am_all.c (s_aload_n (kf := 0) (by decide +kernel) rfl rfl) ?_
  refine am_all.c (s_iconst (by decide +kernel) (by decide) rfl) ?_
  refine am_all.c (s_put (C := cn_B) (Tf := ft_B) (N := 6) (ty := .int) rfl fi_B fy_B fo_B fn_B (by decide) tw_65 (Or.inl rfl) (by decide +kernel) (Or.inl ⟨rfl, rfl⟩) (by decide +kernel) rfl) ?_
  refine am_all.c (s_aload_n (kf := 0) (by decide +kernel) rfl rfl) ?_
  refine am_all.c (s_iconst (by decide +kernel) (by decide) rfl) ?_
  refine am_all.c (s_put (C := cn_B) (Tf := ft_B) (N := 6) (ty := .int) rfl fi_B fy_B fo_B fn_B (by decide) tw_66 (Or.inl rfl) (by decide +kernel) (Or.inl ⟨rfl, rfl⟩) (by decide +kernel) rfl) ?_
  refine am_all.c (s_aload_n (kf := 0) (by decide +kernel) rfl rfl) ?_
  refine am_all.c (s_iconst (by decide +kernel) (by decide) rfl) ?_
  refine am_all.c (s_put (C := cn_B) (Tf := ft_B) (N := 6) (ty := .int) rfl fi_B fy_B fo_B fn_B (by decide) tw_67 (Or.inl rfl) (by decide +kernel) (Or.inl ⟨rfl, rfl⟩) (by decide +kernel) rfl) ?_
  refine am_all.c (s_vret (by decide +kernel) rfl) ?_
  exact trivial
set_option maxRecDepth 20000 in
theorem ga_B_messageCount {D : va_G} {dA : Nat → ClassId} {h b L : Nat} {xs : Nat → Int32} (hN : am_nN (am_En D dA h b L xs)) : am_all (am_En D dA h b L xs) mv_tb mv_P tB_messageCount kB_messageCount := by
  unfold kB_messageCount
  refine am_all.c (s_aload_n (kf := 0) (by decide +kernel) rfl rfl) ?_
  refine am_all.c (s_get (C := cn_B) (Tf := ft_B) (N := 6) rfl fi_B (by decide) tw_65 (by decide +kernel) rfl) ?_
  refine am_all.c (s_iret (by decide +kernel) rfl) ?_
  exact trivial
set_option maxRecDepth 20000 in
theorem ga_B_isFull {D : va_G} {dA : Nat → ClassId} {h b L : Nat} {xs : Nat → Int32} (hN : am_nN (am_En D dA h b L xs)) : am_all (am_En D dA h b L xs) mv_tb mv_P tB_isFull kB_isFull := by
  unfold kB_isFull
  refine am_all.c (s_aload_n (kf := 0) (by decide +kernel) rfl rfl) ?_
  refine am_all.c (s_get (C := cn_B) (Tf := ft_B) (N := 6) rfl fi_B (by decide) tw_65 (by decide +kernel) rfl) ?_
  refine am_all.c (s_bipush (by decide +kernel) (by decide +kernel) (by decide) rfl) ?_
  refine am_all.c (s_icmp_lt (off := 7) (by decide +kernel) (by decide) rfl) ?_
  refine am_all.c (s_iconst (by decide +kernel) (by decide) rfl) ?_
  refine am_all.c (s_goto (off := 4) (by decide +kernel) (by decide)) ?_
  refine am_all.c (s_iconst (by decide +kernel) (by decide) rfl) ?_
  refine am_all.c (s_zret (by decide +kernel) rfl) ?_
  exact trivial
set_option maxRecDepth 20000 in
theorem ga_B_nextUid {D : va_G} {dA : Nat → ClassId} {h b L : Nat} {xs : Nat → Int32} (hN : am_nN (am_En D dA h b L xs)) : am_all (am_En D dA h b L xs) mv_tb mv_P tB_nextUid kB_nextUid := by
  unfold kB_nextUid
  refine am_all.c (s_aload_n (kf := 0) (by decide +kernel) rfl rfl) ?_
  refine am_all.c (s_get (C := cn_B) (Tf := ft_B) (N := 6) rfl fi_B (by decide) tw_66 (by decide +kernel) rfl) ?_
  refine am_all.c (s_iret (by decide +kernel) rfl) ?_
  exact trivial
set_option maxRecDepth 20000 in
theorem ga_B_validity {D : va_G} {dA : Nat → ClassId} {h b L : Nat} {xs : Nat → Int32} (hN : am_nN (am_En D dA h b L xs)) : am_all (am_En D dA h b L xs) mv_tb mv_P tB_validity kB_validity := by
  unfold kB_validity
  refine am_all.c (s_aload_n (kf := 0) (by decide +kernel) rfl rfl) ?_
  refine am_all.c (s_get (C := cn_B) (Tf := ft_B) (N := 6) rfl fi_B (by decide) tw_67 (by decide +kernel) rfl) ?_
  refine am_all.c (s_iret (by decide +kernel) rfl) ?_
  exact trivial
set_option maxRecDepth 20000 in
theorem ga_B_growValidity {D : va_G} {dA : Nat → ClassId} {h b L : Nat} {xs : Nat → Int32} (hN : am_nN (am_En D dA h b L xs)) : am_all (am_En D dA h b L xs) mv_tb mv_P tB_growValidity kB_growValidity := by
  unfold kB_growValidity
  refine am_all.c (s_aload_n (kf := 0) (by decide +kernel) rfl rfl) ?_
  refine am_all.c (s_dup (by decide +kernel) rfl) ?_
  refine am_all.c (s_get (C := cn_B) (Tf := ft_B) (N := 6) rfl fi_B (by decide) tw_67 (by decide +kernel) rfl) ?_
  refine am_all.c (s_iconst (by decide +kernel) (by decide) rfl) ?_
  refine am_all.c (s_iadd (by decide +kernel) rfl) ?_
  refine am_all.c (s_put (C := cn_B) (Tf := ft_B) (N := 6) (ty := .int) rfl fi_B fy_B fo_B fn_B (by decide) tw_67 (Or.inl rfl) (by decide +kernel) (Or.inl ⟨rfl, rfl⟩) (by decide +kernel) rfl) ?_
  refine am_all.c (s_vret (by decide +kernel) rfl) ?_
  exact trivial
set_option maxRecDepth 20000 in
theorem ga_B_uidAt {D : va_G} {dA : Nat → ClassId} {h b L : Nat} {xs : Nat → Int32} (hN : am_nN (am_En D dA h b L xs)) : am_all (am_En D dA h b L xs) mv_tb mv_P tB_uidAt kB_uidAt := by
  unfold kB_uidAt
  refine am_all.c (s_aload_n (kf := 0) (by decide +kernel) rfl rfl) ?_
  refine am_all.c (s_get (C := cn_B) (Tf := ft_B) (N := 6) rfl fi_B (by decide) tw_62 (by decide +kernel) rfl) ?_
  refine am_all.c (s_iload_n (kf := 1) (by decide +kernel) rfl rfl) ?_
  refine am_all.c (s_iald rfl (by decide +kernel) rfl) ?_
  refine am_all.c (s_iret (by decide +kernel) rfl) ?_
  exact trivial
set_option maxRecDepth 20000 in
theorem ga_B_flagsAt {D : va_G} {dA : Nat → ClassId} {h b L : Nat} {xs : Nat → Int32} (hN : am_nN (am_En D dA h b L xs)) : am_all (am_En D dA h b L xs) mv_tb mv_P tB_flagsAt kB_flagsAt := by
  unfold kB_flagsAt
  refine am_all.c (s_aload_n (kf := 0) (by decide +kernel) rfl rfl) ?_
  refine am_all.c (s_get (C := cn_B) (Tf := ft_B) (N := 6) rfl fi_B (by decide) tw_63 (by decide +kernel) rfl) ?_
  refine am_all.c (s_iload_n (kf := 1) (by decide +kernel) rfl rfl) ?_
  refine am_all.c (s_iald rfl (by decide +kernel) rfl) ?_
  refine am_all.c (s_iret (by decide +kernel) rfl) ?_
  exact trivial
set_option maxRecDepth 20000 in
theorem ga_B_sizeAt {D : va_G} {dA : Nat → ClassId} {h b L : Nat} {xs : Nat → Int32} (hN : am_nN (am_En D dA h b L xs)) : am_all (am_En D dA h b L xs) mv_tb mv_P tB_sizeAt kB_sizeAt := by
  unfold kB_sizeAt
  refine am_all.c (s_aload_n (kf := 0) (by decide +kernel) rfl rfl) ?_
  refine am_all.c (s_get (C := cn_B) (Tf := ft_B) (N := 6) rfl fi_B (by decide) tw_64 (by decide +kernel) rfl) ?_
  refine am_all.c (s_iload_n (kf := 1) (by decide +kernel) rfl rfl) ?_
  refine am_all.c (s_iald rfl (by decide +kernel) rfl) ?_
  refine am_all.c (s_iret (by decide +kernel) rfl) ?_
  exact trivial
set_option maxRecDepth 20000 in
theorem ga_B_setFlagsAt {D : va_G} {dA : Nat → ClassId} {h b L : Nat} {xs : Nat → Int32} (hN : am_nN (am_En D dA h b L xs)) : am_all (am_En D dA h b L xs) mv_tb mv_P tB_setFlagsAt kB_setFlagsAt := by
  unfold kB_setFlagsAt
  refine am_all.c (s_aload_n (kf := 0) (by decide +kernel) rfl rfl) ?_
  refine am_all.c (s_get (C := cn_B) (Tf := ft_B) (N := 6) rfl fi_B (by decide) tw_63 (by decide +kernel) rfl) ?_
  refine am_all.c (s_iload_n (kf := 1) (by decide +kernel) rfl rfl) ?_
  refine am_all.c (s_iload_n (kf := 2) (by decide +kernel) rfl rfl) ?_
  refine am_all.c (s_iast rfl (by decide +kernel) rfl) ?_
  refine am_all.c (s_vret (by decide +kernel) rfl) ?_
  exact trivial
set_option maxRecDepth 20000 in
theorem ga_B_positionOf {D : va_G} {dA : Nat → ClassId} {h b L : Nat} {xs : Nat → Int32} (hN : am_nN (am_En D dA h b L xs)) : am_all (am_En D dA h b L xs) mv_tb mv_P tB_positionOf kB_positionOf := by
  unfold kB_positionOf
  refine am_all.c (s_iconst (by decide +kernel) (by decide) rfl) ?_
  refine am_all.c (s_istore_n (kf := 2) (by decide +kernel) rfl rfl) ?_
  refine am_all.c (s_iload_n (kf := 2) (by decide +kernel) rfl rfl) ?_
  refine am_all.c (s_aload_n (kf := 0) (by decide +kernel) rfl rfl) ?_
  refine am_all.c (s_get (C := cn_B) (Tf := ft_B) (N := 6) rfl fi_B (by decide) tw_65 (by decide +kernel) rfl) ?_
  refine am_all.c (s_icmp_ge (off := 21) (by decide +kernel) (by decide) rfl) ?_
  refine am_all.c (s_aload_n (kf := 0) (by decide +kernel) rfl rfl) ?_
  refine am_all.c (s_get (C := cn_B) (Tf := ft_B) (N := 6) rfl fi_B (by decide) tw_62 (by decide +kernel) rfl) ?_
  refine am_all.c (s_iload_n (kf := 2) (by decide +kernel) rfl rfl) ?_
  refine am_all.c (s_iald rfl (by decide +kernel) rfl) ?_
  refine am_all.c (s_iload_n (kf := 1) (by decide +kernel) rfl rfl) ?_
  refine am_all.c (s_icmp_ne (off := 5) (by decide +kernel) (by decide) rfl) ?_
  refine am_all.c (s_iload_n (kf := 2) (by decide +kernel) rfl rfl) ?_
  refine am_all.c (s_iret (by decide +kernel) rfl) ?_
  refine am_all.c (s_iinc (by decide +kernel) rfl) ?_
  refine am_all.c (s_goto (off := -23) (by decide +kernel) (by decide)) ?_
  refine am_all.c (s_iconst (by decide +kernel) (by decide) rfl) ?_
  refine am_all.c (s_iret (by decide +kernel) rfl) ?_
  exact trivial
set_option maxRecDepth 20000 in
theorem ga_B_addNew {D : va_G} {dA : Nat → ClassId} {h b L : Nat} {xs : Nat → Int32} (hN : am_nN (am_En D dA h b L xs)) : am_all (am_En D dA h b L xs) mv_tb mv_P tB_addNew kB_addNew := by
  unfold kB_addNew
  refine am_all.c (s_aload_n (kf := 0) (by decide +kernel) rfl rfl) ?_
  refine am_all.c (s_get (C := cn_B) (Tf := ft_B) (N := 6) rfl fi_B (by decide) tw_66 (by decide +kernel) rfl) ?_
  refine am_all.c (s_istore_n (kf := 3) (by decide +kernel) rfl rfl) ?_
  refine am_all.c (s_aload_n (kf := 0) (by decide +kernel) rfl rfl) ?_
  refine am_all.c (s_dup (by decide +kernel) rfl) ?_
  refine am_all.c (s_get (C := cn_B) (Tf := ft_B) (N := 6) rfl fi_B (by decide) tw_66 (by decide +kernel) rfl) ?_
  refine am_all.c (s_iconst (by decide +kernel) (by decide) rfl) ?_
  refine am_all.c (s_iadd (by decide +kernel) rfl) ?_
  refine am_all.c (s_put (C := cn_B) (Tf := ft_B) (N := 6) (ty := .int) rfl fi_B fy_B fo_B fn_B (by decide) tw_66 (Or.inl rfl) (by decide +kernel) (Or.inl ⟨rfl, rfl⟩) (by decide +kernel) rfl) ?_
  refine am_all.c (s_aload_n (kf := 0) (by decide +kernel) rfl rfl) ?_
  refine am_all.c (s_iload_n (kf := 3) (by decide +kernel) rfl rfl) ?_
  refine am_all.c (s_iload_n (kf := 1) (by decide +kernel) rfl rfl) ?_
  refine am_all.c (s_iload_n (kf := 2) (by decide +kernel) rfl rfl) ?_
  refine am_all.c (s_callV (q := (cn_B, ft_B, 6)) (by decide) (ce_B_insert hN) rfl rfl tw_215 tw_216 tw_217 (by decide +kernel) rfl) ?_
  refine am_all.c (s_iload_n (kf := 3) (by decide +kernel) rfl rfl) ?_
  refine am_all.c (s_iret (by decide +kernel) rfl) ?_
  exact trivial
set_option maxRecDepth 20000 in
theorem ga_B_takeBackAdded {D : va_G} {dA : Nat → ClassId} {h b L : Nat} {xs : Nat → Int32} (hN : am_nN (am_En D dA h b L xs)) : am_all (am_En D dA h b L xs) mv_tb mv_P tB_takeBackAdded kB_takeBackAdded := by
  unfold kB_takeBackAdded
  refine am_all.c (s_aload_n (kf := 0) (by decide +kernel) rfl rfl) ?_
  refine am_all.c (s_aload_n (kf := 0) (by decide +kernel) rfl rfl) ?_
  refine am_all.c (s_iload_n (kf := 1) (by decide +kernel) rfl rfl) ?_
  refine am_all.c (s_callV (q := (cn_B, ft_B, 6)) (by decide) (ce_B_positionOf hN) rfl rfl tw_494 tw_327 tw_328 (by decide +kernel) rfl) ?_
  refine am_all.c (s_callV (q := (cn_B, ft_B, 6)) (by decide) (ce_B_removeAt hN) rfl rfl tw_495 tw_299 tw_300 (by decide +kernel) rfl) ?_
  refine am_all.c (s_aload_n (kf := 0) (by decide +kernel) rfl rfl) ?_
  refine am_all.c (s_iload_n (kf := 1) (by decide +kernel) rfl rfl) ?_
  refine am_all.c (s_put (C := cn_B) (Tf := ft_B) (N := 6) (ty := .int) rfl fi_B fy_B fo_B fn_B (by decide) tw_66 (Or.inl rfl) (by decide +kernel) (Or.inl ⟨rfl, rfl⟩) (by decide +kernel) rfl) ?_
  refine am_all.c (s_vret (by decide +kernel) rfl) ?_
  exact trivial
set_option maxRecDepth 20000 in
theorem ga_B_insert {D : va_G} {dA : Nat → ClassId} {h b L : Nat} {xs : Nat → Int32} (hN : am_nN (am_En D dA h b L xs)) : am_all (am_En D dA h b L xs) mv_tb mv_P tB_insert kB_insert := by
  unfold kB_insert
  refine am_all.c (s_aload_n (kf := 0) (by decide +kernel) rfl rfl) ?_
  refine am_all.c (s_callV (q := (cn_B, ft_B, 6)) (by decide) (ce_B_isFull hN) rfl rfl tw_219 tw_208 tw_209 (by decide +kernel) rfl) ?_
  refine am_all.c (s_if_eq (off := 4) (by decide +kernel) (by decide) rfl) ?_
  refine am_all.c (s_vret (by decide +kernel) rfl) ?_
  refine am_all.c (s_aload_n (kf := 0) (by decide +kernel) rfl rfl) ?_
  refine am_all.c (s_get (C := cn_B) (Tf := ft_B) (N := 6) rfl fi_B (by decide) tw_65 (by decide +kernel) rfl) ?_
  refine am_all.c (s_istore (by decide +kernel) rfl) ?_
  refine am_all.c (s_iload (by decide +kernel) rfl) ?_
  refine am_all.c (s_if_le (off := 32) (by decide +kernel) (by decide) rfl) ?_
  refine am_all.c (s_aload_n (kf := 0) (by decide +kernel) rfl rfl) ?_
  refine am_all.c (s_get (C := cn_B) (Tf := ft_B) (N := 6) rfl fi_B (by decide) tw_62 (by decide +kernel) rfl) ?_
  refine am_all.c (s_iload (by decide +kernel) rfl) ?_
  refine am_all.c (s_iconst (by decide +kernel) (by decide) rfl) ?_
  refine am_all.c (s_isub (by decide +kernel) rfl) ?_
  refine am_all.c (s_iald rfl (by decide +kernel) rfl) ?_
  refine am_all.c (s_iload_n (kf := 1) (by decide +kernel) rfl rfl) ?_
  refine am_all.c (s_icmp_le (off := 19) (by decide +kernel) (by decide) rfl) ?_
  refine am_all.c (s_aload_n (kf := 0) (by decide +kernel) rfl rfl) ?_
  refine am_all.c (s_iload (by decide +kernel) rfl) ?_
  refine am_all.c (s_iconst (by decide +kernel) (by decide) rfl) ?_
  refine am_all.c (s_isub (by decide +kernel) rfl) ?_
  refine am_all.c (s_iload (by decide +kernel) rfl) ?_
  refine am_all.c (s_callV (q := (cn_B, ft_B, 6)) (by decide) (ce_B_move hN) rfl rfl tw_220 tw_222 tw_1 (by decide +kernel) rfl) ?_
  refine am_all.c (s_iinc (by decide +kernel) rfl) ?_
  refine am_all.c (s_goto (off := -31) (by decide +kernel) (by decide)) ?_
  refine am_all.c (s_aload_n (kf := 0) (by decide +kernel) rfl rfl) ?_
  refine am_all.c (s_get (C := cn_B) (Tf := ft_B) (N := 6) rfl fi_B (by decide) tw_62 (by decide +kernel) rfl) ?_
  refine am_all.c (s_iload (by decide +kernel) rfl) ?_
  refine am_all.c (s_iload_n (kf := 1) (by decide +kernel) rfl rfl) ?_
  refine am_all.c (s_iast rfl (by decide +kernel) rfl) ?_
  refine am_all.c (s_aload_n (kf := 0) (by decide +kernel) rfl rfl) ?_
  refine am_all.c (s_get (C := cn_B) (Tf := ft_B) (N := 6) rfl fi_B (by decide) tw_63 (by decide +kernel) rfl) ?_
  refine am_all.c (s_iload (by decide +kernel) rfl) ?_
  refine am_all.c (s_iload_n (kf := 2) (by decide +kernel) rfl rfl) ?_
  refine am_all.c (s_iast rfl (by decide +kernel) rfl) ?_
  refine am_all.c (s_aload_n (kf := 0) (by decide +kernel) rfl rfl) ?_
  refine am_all.c (s_get (C := cn_B) (Tf := ft_B) (N := 6) rfl fi_B (by decide) tw_64 (by decide +kernel) rfl) ?_
  refine am_all.c (s_iload (by decide +kernel) rfl) ?_
  refine am_all.c (s_iload_n (kf := 3) (by decide +kernel) rfl rfl) ?_
  refine am_all.c (s_iast rfl (by decide +kernel) rfl) ?_
  refine am_all.c (s_aload_n (kf := 0) (by decide +kernel) rfl rfl) ?_
  refine am_all.c (s_dup (by decide +kernel) rfl) ?_
  refine am_all.c (s_get (C := cn_B) (Tf := ft_B) (N := 6) rfl fi_B (by decide) tw_65 (by decide +kernel) rfl) ?_
  refine am_all.c (s_iconst (by decide +kernel) (by decide) rfl) ?_
  refine am_all.c (s_iadd (by decide +kernel) rfl) ?_
  refine am_all.c (s_put (C := cn_B) (Tf := ft_B) (N := 6) (ty := .int) rfl fi_B fy_B fo_B fn_B (by decide) tw_65 (Or.inl rfl) (by decide +kernel) (Or.inl ⟨rfl, rfl⟩) (by decide +kernel) rfl) ?_
  refine am_all.c (s_vret (by decide +kernel) rfl) ?_
  exact trivial
set_option maxRecDepth 20000 in
theorem ga_B_removeAt {D : va_G} {dA : Nat → ClassId} {h b L : Nat} {xs : Nat → Int32} (hN : am_nN (am_En D dA h b L xs)) : am_all (am_En D dA h b L xs) mv_tb mv_P tB_removeAt kB_removeAt := by
  unfold kB_removeAt
  refine am_all.c (s_iload_n (kf := 1) (by decide +kernel) rfl rfl) ?_
  refine am_all.c (s_if_lt (off := 11) (by decide +kernel) (by decide) rfl) ?_
  refine am_all.c (s_iload_n (kf := 1) (by decide +kernel) rfl rfl) ?_
  refine am_all.c (s_aload_n (kf := 0) (by decide +kernel) rfl rfl) ?_
  refine am_all.c (s_get (C := cn_B) (Tf := ft_B) (N := 6) rfl fi_B (by decide) tw_65 (by decide +kernel) rfl) ?_
  refine am_all.c (s_icmp_lt (off := 4) (by decide +kernel) (by decide) rfl) ?_
  refine am_all.c (s_vret (by decide +kernel) rfl) ?_
  refine am_all.c (s_iload_n (kf := 1) (by decide +kernel) rfl rfl) ?_
  refine am_all.c (s_iconst (by decide +kernel) (by decide) rfl) ?_
  refine am_all.c (s_iadd (by decide +kernel) rfl) ?_
  refine am_all.c (s_istore_n (kf := 2) (by decide +kernel) rfl rfl) ?_
  refine am_all.c (s_iload_n (kf := 2) (by decide +kernel) rfl rfl) ?_
  refine am_all.c (s_aload_n (kf := 0) (by decide +kernel) rfl rfl) ?_
  refine am_all.c (s_get (C := cn_B) (Tf := ft_B) (N := 6) rfl fi_B (by decide) tw_65 (by decide +kernel) rfl) ?_
  refine am_all.c (s_icmp_ge (off := 17) (by decide +kernel) (by decide) rfl) ?_
  refine am_all.c (s_aload_n (kf := 0) (by decide +kernel) rfl rfl) ?_
  refine am_all.c (s_iload_n (kf := 2) (by decide +kernel) rfl rfl) ?_
  refine am_all.c (s_iload_n (kf := 2) (by decide +kernel) rfl rfl) ?_
  refine am_all.c (s_iconst (by decide +kernel) (by decide) rfl) ?_
  refine am_all.c (s_isub (by decide +kernel) rfl) ?_
  refine am_all.c (s_callV (q := (cn_B, ft_B, 6)) (by decide) (ce_B_move hN) rfl rfl tw_220 tw_222 tw_1 (by decide +kernel) rfl) ?_
  refine am_all.c (s_iinc (by decide +kernel) rfl) ?_
  refine am_all.c (s_goto (off := -19) (by decide +kernel) (by decide)) ?_
  refine am_all.c (s_aload_n (kf := 0) (by decide +kernel) rfl rfl) ?_
  refine am_all.c (s_dup (by decide +kernel) rfl) ?_
  refine am_all.c (s_get (C := cn_B) (Tf := ft_B) (N := 6) rfl fi_B (by decide) tw_65 (by decide +kernel) rfl) ?_
  refine am_all.c (s_iconst (by decide +kernel) (by decide) rfl) ?_
  refine am_all.c (s_isub (by decide +kernel) rfl) ?_
  refine am_all.c (s_put (C := cn_B) (Tf := ft_B) (N := 6) (ty := .int) rfl fi_B fy_B fo_B fn_B (by decide) tw_65 (Or.inl rfl) (by decide +kernel) (Or.inl ⟨rfl, rfl⟩) (by decide +kernel) rfl) ?_
  refine am_all.c (s_vret (by decide +kernel) rfl) ?_
  exact trivial
set_option maxRecDepth 20000 in
theorem ga_B_restoreFlags {D : va_G} {dA : Nat → ClassId} {h b L : Nat} {xs : Nat → Int32} (hN : am_nN (am_En D dA h b L xs)) : am_all (am_En D dA h b L xs) mv_tb mv_P tB_restoreFlags kB_restoreFlags := by
  unfold kB_restoreFlags
  refine am_all.c (s_aload_n (kf := 0) (by decide +kernel) rfl rfl) ?_
  refine am_all.c (s_iload_n (kf := 1) (by decide +kernel) rfl rfl) ?_
  refine am_all.c (s_callV (q := (cn_B, ft_B, 6)) (by decide) (ce_B_positionOf hN) rfl rfl tw_494 tw_327 tw_328 (by decide +kernel) rfl) ?_
  refine am_all.c (s_istore_n (kf := 3) (by decide +kernel) rfl rfl) ?_
  refine am_all.c (s_iload_n (kf := 3) (by decide +kernel) rfl rfl) ?_
  refine am_all.c (s_iconst (by decide +kernel) (by decide) rfl) ?_
  refine am_all.c (s_icmp_eq (off := 10) (by decide +kernel) (by decide) rfl) ?_
  refine am_all.c (s_aload_n (kf := 0) (by decide +kernel) rfl rfl) ?_
  refine am_all.c (s_get (C := cn_B) (Tf := ft_B) (N := 6) rfl fi_B (by decide) tw_63 (by decide +kernel) rfl) ?_
  refine am_all.c (s_iload_n (kf := 3) (by decide +kernel) rfl rfl) ?_
  refine am_all.c (s_iload_n (kf := 2) (by decide +kernel) rfl rfl) ?_
  refine am_all.c (s_iast rfl (by decide +kernel) rfl) ?_
  refine am_all.c (s_vret (by decide +kernel) rfl) ?_
  exact trivial
set_option maxRecDepth 20000 in
theorem ga_B_move {D : va_G} {dA : Nat → ClassId} {h b L : Nat} {xs : Nat → Int32} (hN : am_nN (am_En D dA h b L xs)) : am_all (am_En D dA h b L xs) mv_tb mv_P tB_move kB_move := by
  unfold kB_move
  refine am_all.c (s_aload_n (kf := 0) (by decide +kernel) rfl rfl) ?_
  refine am_all.c (s_get (C := cn_B) (Tf := ft_B) (N := 6) rfl fi_B (by decide) tw_62 (by decide +kernel) rfl) ?_
  refine am_all.c (s_iload_n (kf := 2) (by decide +kernel) rfl rfl) ?_
  refine am_all.c (s_aload_n (kf := 0) (by decide +kernel) rfl rfl) ?_
  refine am_all.c (s_get (C := cn_B) (Tf := ft_B) (N := 6) rfl fi_B (by decide) tw_62 (by decide +kernel) rfl) ?_
  refine am_all.c (s_iload_n (kf := 1) (by decide +kernel) rfl rfl) ?_
  refine am_all.c (s_iald rfl (by decide +kernel) rfl) ?_
  refine am_all.c (s_iast rfl (by decide +kernel) rfl) ?_
  refine am_all.c (s_aload_n (kf := 0) (by decide +kernel) rfl rfl) ?_
  refine am_all.c (s_get (C := cn_B) (Tf := ft_B) (N := 6) rfl fi_B (by decide) tw_63 (by decide +kernel) rfl) ?_
  refine am_all.c (s_iload_n (kf := 2) (by decide +kernel) rfl rfl) ?_
  refine am_all.c (s_aload_n (kf := 0) (by decide +kernel) rfl rfl) ?_
  refine am_all.c (s_get (C := cn_B) (Tf := ft_B) (N := 6) rfl fi_B (by decide) tw_63 (by decide +kernel) rfl) ?_
  refine am_all.c (s_iload_n (kf := 1) (by decide +kernel) rfl rfl) ?_
  refine am_all.c (s_iald rfl (by decide +kernel) rfl) ?_
  refine am_all.c (s_iast rfl (by decide +kernel) rfl) ?_
  refine am_all.c (s_aload_n (kf := 0) (by decide +kernel) rfl rfl) ?_
  refine am_all.c (s_get (C := cn_B) (Tf := ft_B) (N := 6) rfl fi_B (by decide) tw_64 (by decide +kernel) rfl) ?_
  refine am_all.c (s_iload_n (kf := 2) (by decide +kernel) rfl rfl) ?_
  refine am_all.c (s_aload_n (kf := 0) (by decide +kernel) rfl rfl) ?_
  refine am_all.c (s_get (C := cn_B) (Tf := ft_B) (N := 6) rfl fi_B (by decide) tw_64 (by decide +kernel) rfl) ?_
  refine am_all.c (s_iload_n (kf := 1) (by decide +kernel) rfl rfl) ?_
  refine am_all.c (s_iald rfl (by decide +kernel) rfl) ?_
  refine am_all.c (s_iast rfl (by decide +kernel) rfl) ?_
  refine am_all.c (s_vret (by decide +kernel) rfl) ?_
  exact trivial
set_option maxRecDepth 20000 in
theorem ga_J_init {D : va_G} {dA : Nat → ClassId} {h b L : Nat} {xs : Nat → Int32} (hN : am_nN (am_En D dA h b L xs)) : am_all (am_En D dA h b L xs) mv_tb mv_P tJ_init kJ_init := by
  unfold kJ_init
  refine am_all.c (s_aload_n (kf := 0) (by decide +kernel) rfl rfl) ?_
  refine am_all.c (s_obj mv_P0 tw_122 tw_53 tw_54 (by decide +kernel) rfl) ?_
  refine am_all.c (s_aload_n (kf := 0) (by decide +kernel) rfl rfl) ?_
  refine am_all.c (s_bipush (by decide +kernel) (by decide +kernel) (by decide) rfl) ?_
  refine am_all.c (s_newa (at0 := .int) rfl rfl (Or.inl rfl) tw_81 (by decide +kernel) rfl) ?_
  refine am_all.c (s_put (C := cn_J) (Tf := ft_J) (N := 7) (ty := .array .int) rfl fi_J fy_J fo_J fn_J (by decide) tw_123 (Or.inr ⟨rfl, rfl, rfl⟩) (by decide +kernel) (Or.inr (Or.inr ⟨rfl, Or.inr ⟨_, rfl⟩⟩)) (by decide +kernel) rfl) ?_
  refine am_all.c (s_aload_n (kf := 0) (by decide +kernel) rfl rfl) ?_
  refine am_all.c (s_bipush (by decide +kernel) (by decide +kernel) (by decide) rfl) ?_
  refine am_all.c (s_newa (at0 := .int) rfl rfl (Or.inl rfl) tw_81 (by decide +kernel) rfl) ?_
  refine am_all.c (s_put (C := cn_J) (Tf := ft_J) (N := 7) (ty := .array .int) rfl fi_J fy_J fo_J fn_J (by decide) tw_124 (Or.inr ⟨rfl, rfl, rfl⟩) (by decide +kernel) (Or.inr (Or.inr ⟨rfl, Or.inr ⟨_, rfl⟩⟩)) (by decide +kernel) rfl) ?_
  refine am_all.c (s_aload_n (kf := 0) (by decide +kernel) rfl rfl) ?_
  refine am_all.c (s_bipush (by decide +kernel) (by decide +kernel) (by decide) rfl) ?_
  refine am_all.c (s_newa (at0 := .int) rfl rfl (Or.inl rfl) tw_81 (by decide +kernel) rfl) ?_
  refine am_all.c (s_put (C := cn_J) (Tf := ft_J) (N := 7) (ty := .array .int) rfl fi_J fy_J fo_J fn_J (by decide) tw_125 (Or.inr ⟨rfl, rfl, rfl⟩) (by decide +kernel) (Or.inr (Or.inr ⟨rfl, Or.inr ⟨_, rfl⟩⟩)) (by decide +kernel) rfl) ?_
  refine am_all.c (s_aload_n (kf := 0) (by decide +kernel) rfl rfl) ?_
  refine am_all.c (s_bipush (by decide +kernel) (by decide +kernel) (by decide) rfl) ?_
  refine am_all.c (s_newa (at0 := .int) rfl rfl (Or.inl rfl) tw_81 (by decide +kernel) rfl) ?_
  refine am_all.c (s_put (C := cn_J) (Tf := ft_J) (N := 7) (ty := .array .int) rfl fi_J fy_J fo_J fn_J (by decide) tw_126 (Or.inr ⟨rfl, rfl, rfl⟩) (by decide +kernel) (Or.inr (Or.inr ⟨rfl, Or.inr ⟨_, rfl⟩⟩)) (by decide +kernel) rfl) ?_
  refine am_all.c (s_aload_n (kf := 0) (by decide +kernel) rfl rfl) ?_
  refine am_all.c (s_bipush (by decide +kernel) (by decide +kernel) (by decide) rfl) ?_
  refine am_all.c (s_newa (at0 := .int) rfl rfl (Or.inl rfl) tw_81 (by decide +kernel) rfl) ?_
  refine am_all.c (s_put (C := cn_J) (Tf := ft_J) (N := 7) (ty := .array .int) rfl fi_J fy_J fo_J fn_J (by decide) tw_127 (Or.inr ⟨rfl, rfl, rfl⟩) (by decide +kernel) (Or.inr (Or.inr ⟨rfl, Or.inr ⟨_, rfl⟩⟩)) (by decide +kernel) rfl) ?_
  refine am_all.c (s_aload_n (kf := 0) (by decide +kernel) rfl rfl) ?_
  refine am_all.c (s_iconst (by decide +kernel) (by decide) rfl) ?_
  refine am_all.c (s_put (C := cn_J) (Tf := ft_J) (N := 7) (ty := .int) rfl fi_J fy_J fo_J fn_J (by decide) tw_128 (Or.inl rfl) (by decide +kernel) (Or.inl ⟨rfl, rfl⟩) (by decide +kernel) rfl) ?_
  refine am_all.c (s_aload_n (kf := 0) (by decide +kernel) rfl rfl) ?_
  refine am_all.c (s_iconst (by decide +kernel) (by decide) rfl) ?_
  refine am_all.c (s_put (C := cn_J) (Tf := ft_J) (N := 7) (ty := .int) rfl fi_J fy_J fo_J fn_J (by decide) tw_129 (Or.inl rfl) (by decide +kernel) (Or.inl ⟨rfl, rfl⟩) (by decide +kernel) rfl) ?_
  refine am_all.c (s_vret (by decide +kernel) rfl) ?_
  exact trivial
set_option maxRecDepth 20000 in
theorem ga_J_changeCount {D : va_G} {dA : Nat → ClassId} {h b L : Nat} {xs : Nat → Int32} (hN : am_nN (am_En D dA h b L xs)) : am_all (am_En D dA h b L xs) mv_tb mv_P tJ_changeCount kJ_changeCount := by
  unfold kJ_changeCount
  refine am_all.c (s_aload_n (kf := 0) (by decide +kernel) rfl rfl) ?_
  refine am_all.c (s_get (C := cn_J) (Tf := ft_J) (N := 7) rfl fi_J (by decide) tw_129 (by decide +kernel) rfl) ?_
  refine am_all.c (s_aload_n (kf := 0) (by decide +kernel) rfl rfl) ?_
  refine am_all.c (s_get (C := cn_J) (Tf := ft_J) (N := 7) rfl fi_J (by decide) tw_128 (by decide +kernel) rfl) ?_
  refine am_all.c (s_iadd (by decide +kernel) rfl) ?_
  refine am_all.c (s_iret (by decide +kernel) rfl) ?_
  exact trivial
set_option maxRecDepth 20000 in
theorem ga_J_durableCount {D : va_G} {dA : Nat → ClassId} {h b L : Nat} {xs : Nat → Int32} (hN : am_nN (am_En D dA h b L xs)) : am_all (am_En D dA h b L xs) mv_tb mv_P tJ_durableCount kJ_durableCount := by
  unfold kJ_durableCount
  refine am_all.c (s_aload_n (kf := 0) (by decide +kernel) rfl rfl) ?_
  refine am_all.c (s_get (C := cn_J) (Tf := ft_J) (N := 7) rfl fi_J (by decide) tw_129 (by decide +kernel) rfl) ?_
  refine am_all.c (s_iret (by decide +kernel) rfl) ?_
  exact trivial
set_option maxRecDepth 20000 in
theorem ga_J_noteAdded {D : va_G} {dA : Nat → ClassId} {h b L : Nat} {xs : Nat → Int32} (hN : am_nN (am_En D dA h b L xs)) : am_all (am_En D dA h b L xs) mv_tb mv_P tJ_noteAdded kJ_noteAdded := by
  unfold kJ_noteAdded
  refine am_all.c (s_aload_n (kf := 0) (by decide +kernel) rfl rfl) ?_
  refine am_all.c (s_iconst (by decide +kernel) (by decide) rfl) ?_
  refine am_all.c (s_iload_n (kf := 1) (by decide +kernel) rfl rfl) ?_
  refine am_all.c (s_iload_n (kf := 2) (by decide +kernel) rfl rfl) ?_
  refine am_all.c (s_iconst (by decide +kernel) (by decide) rfl) ?_
  refine am_all.c (s_iconst (by decide +kernel) (by decide) rfl) ?_
  refine am_all.c (s_callV (q := (cn_J, ft_J, 7)) (by decide) (ce_J_note hN) rfl rfl tw_228 tw_230 tw_2 (by decide +kernel) rfl) ?_
  refine am_all.c (s_vret (by decide +kernel) rfl) ?_
  exact trivial
set_option maxRecDepth 20000 in
theorem ga_J_noteRemoved {D : va_G} {dA : Nat → ClassId} {h b L : Nat} {xs : Nat → Int32} (hN : am_nN (am_En D dA h b L xs)) : am_all (am_En D dA h b L xs) mv_tb mv_P tJ_noteRemoved kJ_noteRemoved := by
  unfold kJ_noteRemoved
  refine am_all.c (s_aload_n (kf := 0) (by decide +kernel) rfl rfl) ?_
  refine am_all.c (s_iconst (by decide +kernel) (by decide) rfl) ?_
  refine am_all.c (s_iload_n (kf := 1) (by decide +kernel) rfl rfl) ?_
  refine am_all.c (s_iload_n (kf := 2) (by decide +kernel) rfl rfl) ?_
  refine am_all.c (s_iload_n (kf := 3) (by decide +kernel) rfl rfl) ?_
  refine am_all.c (s_iload (by decide +kernel) rfl) ?_
  refine am_all.c (s_callV (q := (cn_J, ft_J, 7)) (by decide) (ce_J_note hN) rfl rfl tw_228 tw_230 tw_2 (by decide +kernel) rfl) ?_
  refine am_all.c (s_vret (by decide +kernel) rfl) ?_
  exact trivial
set_option maxRecDepth 20000 in
theorem ga_J_noteFlagsSet {D : va_G} {dA : Nat → ClassId} {h b L : Nat} {xs : Nat → Int32} (hN : am_nN (am_En D dA h b L xs)) : am_all (am_En D dA h b L xs) mv_tb mv_P tJ_noteFlagsSet kJ_noteFlagsSet := by
  unfold kJ_noteFlagsSet
  refine am_all.c (s_aload_n (kf := 0) (by decide +kernel) rfl rfl) ?_
  refine am_all.c (s_iconst (by decide +kernel) (by decide) rfl) ?_
  refine am_all.c (s_iload_n (kf := 1) (by decide +kernel) rfl rfl) ?_
  refine am_all.c (s_iload_n (kf := 2) (by decide +kernel) rfl rfl) ?_
  refine am_all.c (s_iload_n (kf := 3) (by decide +kernel) rfl rfl) ?_
  refine am_all.c (s_iconst (by decide +kernel) (by decide) rfl) ?_
  refine am_all.c (s_callV (q := (cn_J, ft_J, 7)) (by decide) (ce_J_note hN) rfl rfl tw_228 tw_230 tw_2 (by decide +kernel) rfl) ?_
  refine am_all.c (s_vret (by decide +kernel) rfl) ?_
  exact trivial
set_option maxRecDepth 20000 in
theorem ga_J_makeAllDurable {D : va_G} {dA : Nat → ClassId} {h b L : Nat} {xs : Nat → Int32} (hN : am_nN (am_En D dA h b L xs)) : am_all (am_En D dA h b L xs) mv_tb mv_P tJ_makeAllDurable kJ_makeAllDurable := by
  unfold kJ_makeAllDurable
  refine am_all.c (s_aload_n (kf := 0) (by decide +kernel) rfl rfl) ?_
  refine am_all.c (s_dup (by decide +kernel) rfl) ?_
  refine am_all.c (s_get (C := cn_J) (Tf := ft_J) (N := 7) rfl fi_J (by decide) tw_129 (by decide +kernel) rfl) ?_
  refine am_all.c (s_aload_n (kf := 0) (by decide +kernel) rfl rfl) ?_
  refine am_all.c (s_get (C := cn_J) (Tf := ft_J) (N := 7) rfl fi_J (by decide) tw_128 (by decide +kernel) rfl) ?_
  refine am_all.c (s_iadd (by decide +kernel) rfl) ?_
  refine am_all.c (s_put (C := cn_J) (Tf := ft_J) (N := 7) (ty := .int) rfl fi_J fy_J fo_J fn_J (by decide) tw_129 (Or.inl rfl) (by decide +kernel) (Or.inl ⟨rfl, rfl⟩) (by decide +kernel) rfl) ?_
  refine am_all.c (s_aload_n (kf := 0) (by decide +kernel) rfl rfl) ?_
  refine am_all.c (s_iconst (by decide +kernel) (by decide) rfl) ?_
  refine am_all.c (s_put (C := cn_J) (Tf := ft_J) (N := 7) (ty := .int) rfl fi_J fy_J fo_J fn_J (by decide) tw_128 (Or.inl rfl) (by decide +kernel) (Or.inl ⟨rfl, rfl⟩) (by decide +kernel) rfl) ?_
  refine am_all.c (s_vret (by decide +kernel) rfl) ?_
  exact trivial
set_option maxRecDepth 20000 in
theorem ga_J_hasOpenAdditionTo {D : va_G} {dA : Nat → ClassId} {h b L : Nat} {xs : Nat → Int32} (hN : am_nN (am_En D dA h b L xs)) : am_all (am_En D dA h b L xs) mv_tb mv_P tJ_hasOpenAdditionTo kJ_hasOpenAdditionTo := by
  unfold kJ_hasOpenAdditionTo
  refine am_all.c (s_iconst (by decide +kernel) (by decide) rfl) ?_
  refine am_all.c (s_istore_n (kf := 2) (by decide +kernel) rfl rfl) ?_
  refine am_all.c (s_iload_n (kf := 2) (by decide +kernel) rfl rfl) ?_
  refine am_all.c (s_aload_n (kf := 0) (by decide +kernel) rfl rfl) ?_
  refine am_all.c (s_get (C := cn_J) (Tf := ft_J) (N := 7) rfl fi_J (by decide) tw_128 (by decide +kernel) rfl) ?_
  refine am_all.c (s_icmp_ge (off := 30) (by decide +kernel) (by decide) rfl) ?_
  refine am_all.c (s_aload_n (kf := 0) (by decide +kernel) rfl rfl) ?_
  refine am_all.c (s_get (C := cn_J) (Tf := ft_J) (N := 7) rfl fi_J (by decide) tw_123 (by decide +kernel) rfl) ?_
  refine am_all.c (s_iload_n (kf := 2) (by decide +kernel) rfl rfl) ?_
  refine am_all.c (s_iald rfl (by decide +kernel) rfl) ?_
  refine am_all.c (s_if_ne (off := 15) (by decide +kernel) (by decide) rfl) ?_
  refine am_all.c (s_aload_n (kf := 0) (by decide +kernel) rfl rfl) ?_
  refine am_all.c (s_get (C := cn_J) (Tf := ft_J) (N := 7) rfl fi_J (by decide) tw_124 (by decide +kernel) rfl) ?_
  refine am_all.c (s_iload_n (kf := 2) (by decide +kernel) rfl rfl) ?_
  refine am_all.c (s_iald rfl (by decide +kernel) rfl) ?_
  refine am_all.c (s_iload_n (kf := 1) (by decide +kernel) rfl rfl) ?_
  refine am_all.c (s_icmp_ne (off := 5) (by decide +kernel) (by decide) rfl) ?_
  refine am_all.c (s_iconst (by decide +kernel) (by decide) rfl) ?_
  refine am_all.c (s_zret (by decide +kernel) rfl) ?_
  refine am_all.c (s_iinc (by decide +kernel) rfl) ?_
  refine am_all.c (s_goto (off := -32) (by decide +kernel) (by decide)) ?_
  refine am_all.c (s_iconst (by decide +kernel) (by decide) rfl) ?_
  refine am_all.c (s_zret (by decide +kernel) rfl) ?_
  exact trivial
set_option maxRecDepth 20000 in
theorem ga_J_takeBackAll {D : va_G} {dA : Nat → ClassId} {h b L : Nat} {xs : Nat → Int32} (hN : am_nN (am_En D dA h b L xs)) : am_all (am_En D dA h b L xs) mv_tb mv_P tJ_takeBackAll kJ_takeBackAll := by
  unfold kJ_takeBackAll
  refine am_all.c (s_aload_n (kf := 0) (by decide +kernel) rfl rfl) ?_
  refine am_all.c (s_get (C := cn_J) (Tf := ft_J) (N := 7) rfl fi_J (by decide) tw_128 (by decide +kernel) rfl) ?_
  refine am_all.c (s_iconst (by decide +kernel) (by decide) rfl) ?_
  refine am_all.c (s_isub (by decide +kernel) rfl) ?_
  refine am_all.c (s_istore_n (kf := 2) (by decide +kernel) rfl rfl) ?_
  refine am_all.c (s_iload_n (kf := 2) (by decide +kernel) rfl rfl) ?_
  refine am_all.c (s_if_lt (off := 22) (by decide +kernel) (by decide) rfl) ?_
  refine am_all.c (s_aload_n (kf := 0) (by decide +kernel) rfl rfl) ?_
  refine am_all.c (s_iload_n (kf := 2) (by decide +kernel) rfl rfl) ?_
  refine am_all.c (s_aload_n (kf := 1) (by decide +kernel) rfl rfl) ?_
  refine am_all.c (s_aload_n (kf := 0) (by decide +kernel) rfl rfl) ?_
  refine am_all.c (s_get (C := cn_J) (Tf := ft_J) (N := 7) rfl fi_J (by decide) tw_124 (by decide +kernel) rfl) ?_
  refine am_all.c (s_iload_n (kf := 2) (by decide +kernel) rfl rfl) ?_
  refine am_all.c (s_iald rfl (by decide +kernel) rfl) ?_
  refine am_all.c (s_aald rfl (by decide +kernel) rfl) ?_
  refine am_all.c (s_callV (q := (cn_J, ft_J, 7)) (by decide) (ce_J_takeBack hN) rfl rfl tw_486 tw_488 tw_19 (by decide +kernel) rfl) ?_
  refine am_all.c (s_iinc (by decide +kernel) rfl) ?_
  refine am_all.c (s_goto (off := -20) (by decide +kernel) (by decide)) ?_
  refine am_all.c (s_aload_n (kf := 0) (by decide +kernel) rfl rfl) ?_
  refine am_all.c (s_iconst (by decide +kernel) (by decide) rfl) ?_
  refine am_all.c (s_put (C := cn_J) (Tf := ft_J) (N := 7) (ty := .int) rfl fi_J fy_J fo_J fn_J (by decide) tw_128 (Or.inl rfl) (by decide +kernel) (Or.inl ⟨rfl, rfl⟩) (by decide +kernel) rfl) ?_
  refine am_all.c (s_vret (by decide +kernel) rfl) ?_
  exact trivial
set_option maxRecDepth 20000 in
theorem ga_J_takeBack {D : va_G} {dA : Nat → ClassId} {h b L : Nat} {xs : Nat → Int32} (hN : am_nN (am_En D dA h b L xs)) : am_all (am_En D dA h b L xs) mv_tb mv_P tJ_takeBack kJ_takeBack := by
  unfold kJ_takeBack
  refine am_all.c (s_aload_n (kf := 0) (by decide +kernel) rfl rfl) ?_
  refine am_all.c (s_get (C := cn_J) (Tf := ft_J) (N := 7) rfl fi_J (by decide) tw_123 (by decide +kernel) rfl) ?_
  refine am_all.c (s_iload_n (kf := 1) (by decide +kernel) rfl rfl) ?_
  refine am_all.c (s_iald rfl (by decide +kernel) rfl) ?_
  refine am_all.c (s_lsw (dflt := 64) (ps := #[(0, 26), (1, 39)]) (len := 26) (by decide +kernel) (by decide) (by decide) (by decide)) ?_
  refine am_all.c (s_aload_n (kf := 2) (by decide +kernel) rfl rfl) ?_
  refine am_all.c (s_aload_n (kf := 0) (by decide +kernel) rfl rfl) ?_
  refine am_all.c (s_get (C := cn_J) (Tf := ft_J) (N := 7) rfl fi_J (by decide) tw_125 (by decide +kernel) rfl) ?_
  refine am_all.c (s_iload_n (kf := 1) (by decide +kernel) rfl rfl) ?_
  refine am_all.c (s_iald rfl (by decide +kernel) rfl) ?_
  refine am_all.c (s_callV (q := (cn_B, ft_B, 6)) (by decide) (ce_B_takeBackAdded hN) rfl rfl tw_490 tw_491 tw_492 (by decide +kernel) rfl) ?_
  refine am_all.c (s_goto (off := 44) (by decide +kernel) (by decide)) ?_
  refine am_all.c (s_aload_n (kf := 2) (by decide +kernel) rfl rfl) ?_
  refine am_all.c (s_aload_n (kf := 0) (by decide +kernel) rfl rfl) ?_
  refine am_all.c (s_get (C := cn_J) (Tf := ft_J) (N := 7) rfl fi_J (by decide) tw_125 (by decide +kernel) rfl) ?_
  refine am_all.c (s_iload_n (kf := 1) (by decide +kernel) rfl rfl) ?_
  refine am_all.c (s_iald rfl (by decide +kernel) rfl) ?_
  refine am_all.c (s_aload_n (kf := 0) (by decide +kernel) rfl rfl) ?_
  refine am_all.c (s_get (C := cn_J) (Tf := ft_J) (N := 7) rfl fi_J (by decide) tw_126 (by decide +kernel) rfl) ?_
  refine am_all.c (s_iload_n (kf := 1) (by decide +kernel) rfl rfl) ?_
  refine am_all.c (s_iald rfl (by decide +kernel) rfl) ?_
  refine am_all.c (s_aload_n (kf := 0) (by decide +kernel) rfl rfl) ?_
  refine am_all.c (s_get (C := cn_J) (Tf := ft_J) (N := 7) rfl fi_J (by decide) tw_127 (by decide +kernel) rfl) ?_
  refine am_all.c (s_iload_n (kf := 1) (by decide +kernel) rfl rfl) ?_
  refine am_all.c (s_iald rfl (by decide +kernel) rfl) ?_
  refine am_all.c (s_callV (q := (cn_B, ft_B, 6)) (by decide) (ce_B_insert hN) rfl rfl tw_496 tw_216 tw_217 (by decide +kernel) rfl) ?_
  refine am_all.c (s_goto (off := 19) (by decide +kernel) (by decide)) ?_
  refine am_all.c (s_aload_n (kf := 2) (by decide +kernel) rfl rfl) ?_
  refine am_all.c (s_aload_n (kf := 0) (by decide +kernel) rfl rfl) ?_
  refine am_all.c (s_get (C := cn_J) (Tf := ft_J) (N := 7) rfl fi_J (by decide) tw_125 (by decide +kernel) rfl) ?_
  refine am_all.c (s_iload_n (kf := 1) (by decide +kernel) rfl rfl) ?_
  refine am_all.c (s_iald rfl (by decide +kernel) rfl) ?_
  refine am_all.c (s_aload_n (kf := 0) (by decide +kernel) rfl rfl) ?_
  refine am_all.c (s_get (C := cn_J) (Tf := ft_J) (N := 7) rfl fi_J (by decide) tw_126 (by decide +kernel) rfl) ?_
  refine am_all.c (s_iload_n (kf := 1) (by decide +kernel) rfl rfl) ?_
  refine am_all.c (s_iald rfl (by decide +kernel) rfl) ?_
  refine am_all.c (s_callV (q := (cn_B, ft_B, 6)) (by decide) (ce_B_restoreFlags hN) rfl rfl tw_497 tw_498 tw_499 (by decide +kernel) rfl) ?_
  refine am_all.c (s_vret (by decide +kernel) rfl) ?_
  exact trivial
set_option maxRecDepth 20000 in
theorem ga_J_note {D : va_G} {dA : Nat → ClassId} {h b L : Nat} {xs : Nat → Int32} (hN : am_nN (am_En D dA h b L xs)) : am_all (am_En D dA h b L xs) mv_tb mv_P tJ_note kJ_note := by
  unfold kJ_note
  refine am_all.c (s_aload_n (kf := 0) (by decide +kernel) rfl rfl) ?_
  refine am_all.c (s_get (C := cn_J) (Tf := ft_J) (N := 7) rfl fi_J (by decide) tw_123 (by decide +kernel) rfl) ?_
  refine am_all.c (s_aload_n (kf := 0) (by decide +kernel) rfl rfl) ?_
  refine am_all.c (s_get (C := cn_J) (Tf := ft_J) (N := 7) rfl fi_J (by decide) tw_128 (by decide +kernel) rfl) ?_
  refine am_all.c (s_iload_n (kf := 1) (by decide +kernel) rfl rfl) ?_
  refine am_all.c (s_iast rfl (by decide +kernel) rfl) ?_
  refine am_all.c (s_aload_n (kf := 0) (by decide +kernel) rfl rfl) ?_
  refine am_all.c (s_get (C := cn_J) (Tf := ft_J) (N := 7) rfl fi_J (by decide) tw_124 (by decide +kernel) rfl) ?_
  refine am_all.c (s_aload_n (kf := 0) (by decide +kernel) rfl rfl) ?_
  refine am_all.c (s_get (C := cn_J) (Tf := ft_J) (N := 7) rfl fi_J (by decide) tw_128 (by decide +kernel) rfl) ?_
  refine am_all.c (s_iload_n (kf := 2) (by decide +kernel) rfl rfl) ?_
  refine am_all.c (s_iast rfl (by decide +kernel) rfl) ?_
  refine am_all.c (s_aload_n (kf := 0) (by decide +kernel) rfl rfl) ?_
  refine am_all.c (s_get (C := cn_J) (Tf := ft_J) (N := 7) rfl fi_J (by decide) tw_125 (by decide +kernel) rfl) ?_
  refine am_all.c (s_aload_n (kf := 0) (by decide +kernel) rfl rfl) ?_
  refine am_all.c (s_get (C := cn_J) (Tf := ft_J) (N := 7) rfl fi_J (by decide) tw_128 (by decide +kernel) rfl) ?_
  refine am_all.c (s_iload_n (kf := 3) (by decide +kernel) rfl rfl) ?_
  refine am_all.c (s_iast rfl (by decide +kernel) rfl) ?_
  refine am_all.c (s_aload_n (kf := 0) (by decide +kernel) rfl rfl) ?_
  refine am_all.c (s_get (C := cn_J) (Tf := ft_J) (N := 7) rfl fi_J (by decide) tw_126 (by decide +kernel) rfl) ?_
  refine am_all.c (s_aload_n (kf := 0) (by decide +kernel) rfl rfl) ?_
  refine am_all.c (s_get (C := cn_J) (Tf := ft_J) (N := 7) rfl fi_J (by decide) tw_128 (by decide +kernel) rfl) ?_
  refine am_all.c (s_iload (by decide +kernel) rfl) ?_
  refine am_all.c (s_iast rfl (by decide +kernel) rfl) ?_
  refine am_all.c (s_aload_n (kf := 0) (by decide +kernel) rfl rfl) ?_
  refine am_all.c (s_get (C := cn_J) (Tf := ft_J) (N := 7) rfl fi_J (by decide) tw_127 (by decide +kernel) rfl) ?_
  refine am_all.c (s_aload_n (kf := 0) (by decide +kernel) rfl rfl) ?_
  refine am_all.c (s_get (C := cn_J) (Tf := ft_J) (N := 7) rfl fi_J (by decide) tw_128 (by decide +kernel) rfl) ?_
  refine am_all.c (s_iload (by decide +kernel) rfl) ?_
  refine am_all.c (s_iast rfl (by decide +kernel) rfl) ?_
  refine am_all.c (s_aload_n (kf := 0) (by decide +kernel) rfl rfl) ?_
  refine am_all.c (s_dup (by decide +kernel) rfl) ?_
  refine am_all.c (s_get (C := cn_J) (Tf := ft_J) (N := 7) rfl fi_J (by decide) tw_128 (by decide +kernel) rfl) ?_
  refine am_all.c (s_iconst (by decide +kernel) (by decide) rfl) ?_
  refine am_all.c (s_iadd (by decide +kernel) rfl) ?_
  refine am_all.c (s_put (C := cn_J) (Tf := ft_J) (N := 7) (ty := .int) rfl fi_J fy_J fo_J fn_J (by decide) tw_128 (Or.inl rfl) (by decide +kernel) (Or.inl ⟨rfl, rfl⟩) (by decide +kernel) rfl) ?_
  refine am_all.c (s_aload_n (kf := 0) (by decide +kernel) rfl rfl) ?_
  refine am_all.c (s_get (C := cn_J) (Tf := ft_J) (N := 7) rfl fi_J (by decide) tw_128 (by decide +kernel) rfl) ?_
  refine am_all.c (s_bipush (by decide +kernel) (by decide +kernel) (by decide) rfl) ?_
  refine am_all.c (s_icmp_lt (off := 7) (by decide +kernel) (by decide) rfl) ?_
  refine am_all.c (s_aload_n (kf := 0) (by decide +kernel) rfl rfl) ?_
  refine am_all.c (s_callV (q := (cn_J, ft_J, 7)) (by decide) (ce_J_makeAllDurable hN) rfl rfl tw_232 tw_233 tw_234 (by decide +kernel) rfl) ?_
  refine am_all.c (s_vret (by decide +kernel) rfl) ?_
  exact trivial
end
section
/-! printed by wip/whole/gen/prog.py: each instruction against the abstract one -/
set_option maxRecDepth 20000 in
theorem ga_S_init {D : va_G} {dA : Nat → ClassId} {h b L : Nat} {xs : Nat → Int32} (hN : am_nN (am_En D dA h b L xs)) : am_all (am_En D dA h b L xs) mv_tb mv_P tS_init kS_init := by
  unfold kS_init
  refine am_all.c (s_aload_n (kf := 0) (by decide +kernel) rfl rfl) ?_
  refine am_all.c (s_obj mv_P0 tw_88 tw_53 tw_54 (by decide +kernel) rfl) ?_
  refine am_all.c (s_aload_n (kf := 0) (by decide +kernel) rfl rfl) ?_
  refine am_all.c (s_bipush (by decide +kernel) (by decide +kernel) (by decide) rfl) ?_
  refine am_all.c (s_newa (at0 := .int) rfl rfl (Or.inl rfl) tw_81 (by decide +kernel) rfl) ?_
  refine am_all.c (s_put (C := cn_S) (Tf := ft_S) (N := 9) (ty := .array .int) rfl fi_S fy_S fo_S fn_S (by decide) tw_89 (Or.inr ⟨rfl, rfl, rfl⟩) (by decide +kernel) (Or.inr (Or.inr ⟨rfl, Or.inr ⟨_, rfl⟩⟩)) (by decide +kernel) rfl) ?_
  refine am_all.c (s_aload_n (kf := 0) (by decide +kernel) rfl rfl) ?_
  refine am_all.c (s_bipush (by decide +kernel) (by decide +kernel) (by decide) rfl) ?_
  refine am_all.c (s_newa (at0 := .int) rfl rfl (Or.inl rfl) tw_81 (by decide +kernel) rfl) ?_
  refine am_all.c (s_put (C := cn_S) (Tf := ft_S) (N := 9) (ty := .array .int) rfl fi_S fy_S fo_S fn_S (by decide) tw_90 (Or.inr ⟨rfl, rfl, rfl⟩) (by decide +kernel) (Or.inr (Or.inr ⟨rfl, Or.inr ⟨_, rfl⟩⟩)) (by decide +kernel) rfl) ?_
  refine am_all.c (s_aload_n (kf := 0) (by decide +kernel) rfl rfl) ?_
  refine am_all.c (s_bipush (by decide +kernel) (by decide +kernel) (by decide) rfl) ?_
  refine am_all.c (s_newa (at0 := .int) rfl rfl (Or.inl rfl) tw_81 (by decide +kernel) rfl) ?_
  refine am_all.c (s_put (C := cn_S) (Tf := ft_S) (N := 9) (ty := .array .int) rfl fi_S fy_S fo_S fn_S (by decide) tw_91 (Or.inr ⟨rfl, rfl, rfl⟩) (by decide +kernel) (Or.inr (Or.inr ⟨rfl, Or.inr ⟨_, rfl⟩⟩)) (by decide +kernel) rfl) ?_
  refine am_all.c (s_aload_n (kf := 0) (by decide +kernel) rfl rfl) ?_
  refine am_all.c (s_bipush (by decide +kernel) (by decide +kernel) (by decide) rfl) ?_
  refine am_all.c (s_newa (at0 := .int) rfl rfl (Or.inl rfl) tw_81 (by decide +kernel) rfl) ?_
  refine am_all.c (s_put (C := cn_S) (Tf := ft_S) (N := 9) (ty := .array .int) rfl fi_S fy_S fo_S fn_S (by decide) tw_92 (Or.inr ⟨rfl, rfl, rfl⟩) (by decide +kernel) (Or.inr (Or.inr ⟨rfl, Or.inr ⟨_, rfl⟩⟩)) (by decide +kernel) rfl) ?_
  refine am_all.c (s_aload_n (kf := 0) (by decide +kernel) rfl rfl) ?_
  refine am_all.c (s_iconst (by decide +kernel) (by decide) rfl) ?_
  refine am_all.c (s_put (C := cn_S) (Tf := ft_S) (N := 9) (ty := .int) rfl fi_S fy_S fo_S fn_S (by decide) tw_93 (Or.inl rfl) (by decide +kernel) (Or.inl ⟨rfl, rfl⟩) (by decide +kernel) rfl) ?_
  refine am_all.c (s_aload_n (kf := 0) (by decide +kernel) rfl rfl) ?_
  refine am_all.c (s_iconst (by decide +kernel) (by decide) rfl) ?_
  refine am_all.c (s_put (C := cn_S) (Tf := ft_S) (N := 9) (ty := .boolean) rfl fi_S fy_S fo_S fn_S (by decide) tw_94 (Or.inl rfl) (by decide +kernel) (Or.inr (Or.inl ⟨rfl, rfl⟩)) (by decide +kernel) rfl) ?_
  refine am_all.c (s_aload_n (kf := 0) (by decide +kernel) rfl rfl) ?_
  refine am_all.c (s_iconst (by decide +kernel) (by decide) rfl) ?_
  refine am_all.c (s_put (C := cn_S) (Tf := ft_S) (N := 9) (ty := .int) rfl fi_S fy_S fo_S fn_S (by decide) tw_95 (Or.inl rfl) (by decide +kernel) (Or.inl ⟨rfl, rfl⟩) (by decide +kernel) rfl) ?_
  refine am_all.c (s_aload_n (kf := 0) (by decide +kernel) rfl rfl) ?_
  refine am_all.c (s_iconst (by decide +kernel) (by decide) rfl) ?_
  refine am_all.c (s_put (C := cn_S) (Tf := ft_S) (N := 9) (ty := .int) rfl fi_S fy_S fo_S fn_S (by decide) tw_96 (Or.inl rfl) (by decide +kernel) (Or.inl ⟨rfl, rfl⟩) (by decide +kernel) rfl) ?_
  refine am_all.c (s_aload_n (kf := 0) (by decide +kernel) rfl rfl) ?_
  refine am_all.c (s_iconst (by decide +kernel) (by decide) rfl) ?_
  refine am_all.c (s_put (C := cn_S) (Tf := ft_S) (N := 9) (ty := .int) rfl fi_S fy_S fo_S fn_S (by decide) tw_97 (Or.inl rfl) (by decide +kernel) (Or.inl ⟨rfl, rfl⟩) (by decide +kernel) rfl) ?_
  refine am_all.c (s_vret (by decide +kernel) rfl) ?_
  exact trivial
set_option maxRecDepth 20000 in
theorem ga_S_open {D : va_G} {dA : Nat → ClassId} {h b L : Nat} {xs : Nat → Int32} (hN : am_nN (am_En D dA h b L xs)) : am_all (am_En D dA h b L xs) mv_tb mv_P tS_open kS_open := by
  unfold kS_open
  refine am_all.c (s_aload_n (kf := 0) (by decide +kernel) rfl rfl) ?_
  refine am_all.c (s_iload_n (kf := 1) (by decide +kernel) rfl rfl) ?_
  refine am_all.c (s_put (C := cn_S) (Tf := ft_S) (N := 9) (ty := .int) rfl fi_S fy_S fo_S fn_S (by decide) tw_93 (Or.inl rfl) (by decide +kernel) (Or.inl ⟨rfl, rfl⟩) (by decide +kernel) rfl) ?_
  refine am_all.c (s_aload_n (kf := 0) (by decide +kernel) rfl rfl) ?_
  refine am_all.c (s_iload_n (kf := 2) (by decide +kernel) rfl rfl) ?_
  refine am_all.c (s_put (C := cn_S) (Tf := ft_S) (N := 9) (ty := .boolean) rfl fi_S fy_S fo_S fn_S (by decide) tw_94 (Or.inl rfl) (by decide +kernel) (Or.inr (Or.inl ⟨rfl, rfl⟩)) (by decide +kernel) rfl) ?_
  refine am_all.c (s_aload_n (kf := 0) (by decide +kernel) rfl rfl) ?_
  refine am_all.c (s_iconst (by decide +kernel) (by decide) rfl) ?_
  refine am_all.c (s_put (C := cn_S) (Tf := ft_S) (N := 9) (ty := .int) rfl fi_S fy_S fo_S fn_S (by decide) tw_95 (Or.inl rfl) (by decide +kernel) (Or.inl ⟨rfl, rfl⟩) (by decide +kernel) rfl) ?_
  refine am_all.c (s_aload_n (kf := 0) (by decide +kernel) rfl rfl) ?_
  refine am_all.c (s_iconst (by decide +kernel) (by decide) rfl) ?_
  refine am_all.c (s_put (C := cn_S) (Tf := ft_S) (N := 9) (ty := .int) rfl fi_S fy_S fo_S fn_S (by decide) tw_97 (Or.inl rfl) (by decide +kernel) (Or.inl ⟨rfl, rfl⟩) (by decide +kernel) rfl) ?_
  refine am_all.c (s_aload_n (kf := 0) (by decide +kernel) rfl rfl) ?_
  refine am_all.c (s_aload_n (kf := 3) (by decide +kernel) rfl rfl) ?_
  refine am_all.c (s_callV (q := (cn_S, ft_S, 9)) (by decide) (ce_S_takeInNew hN) rfl rfl tw_247 tw_249 tw_3 (by decide +kernel) rfl) ?_
  refine am_all.c (s_aload_n (kf := 0) (by decide +kernel) rfl rfl) ?_
  refine am_all.c (s_iconst (by decide +kernel) (by decide) rfl) ?_
  refine am_all.c (s_put (C := cn_S) (Tf := ft_S) (N := 9) (ty := .int) rfl fi_S fy_S fo_S fn_S (by decide) tw_96 (Or.inl rfl) (by decide +kernel) (Or.inl ⟨rfl, rfl⟩) (by decide +kernel) rfl) ?_
  refine am_all.c (s_vret (by decide +kernel) rfl) ?_
  exact trivial
set_option maxRecDepth 20000 in
theorem ga_S_leave {D : va_G} {dA : Nat → ClassId} {h b L : Nat} {xs : Nat → Int32} (hN : am_nN (am_En D dA h b L xs)) : am_all (am_En D dA h b L xs) mv_tb mv_P tS_leave kS_leave := by
  unfold kS_leave
  refine am_all.c (s_aload_n (kf := 0) (by decide +kernel) rfl rfl) ?_
  refine am_all.c (s_iconst (by decide +kernel) (by decide) rfl) ?_
  refine am_all.c (s_put (C := cn_S) (Tf := ft_S) (N := 9) (ty := .int) rfl fi_S fy_S fo_S fn_S (by decide) tw_93 (Or.inl rfl) (by decide +kernel) (Or.inl ⟨rfl, rfl⟩) (by decide +kernel) rfl) ?_
  refine am_all.c (s_aload_n (kf := 0) (by decide +kernel) rfl rfl) ?_
  refine am_all.c (s_iconst (by decide +kernel) (by decide) rfl) ?_
  refine am_all.c (s_put (C := cn_S) (Tf := ft_S) (N := 9) (ty := .boolean) rfl fi_S fy_S fo_S fn_S (by decide) tw_94 (Or.inl rfl) (by decide +kernel) (Or.inr (Or.inl ⟨rfl, rfl⟩)) (by decide +kernel) rfl) ?_
  refine am_all.c (s_aload_n (kf := 0) (by decide +kernel) rfl rfl) ?_
  refine am_all.c (s_iconst (by decide +kernel) (by decide) rfl) ?_
  refine am_all.c (s_put (C := cn_S) (Tf := ft_S) (N := 9) (ty := .int) rfl fi_S fy_S fo_S fn_S (by decide) tw_95 (Or.inl rfl) (by decide +kernel) (Or.inl ⟨rfl, rfl⟩) (by decide +kernel) rfl) ?_
  refine am_all.c (s_aload_n (kf := 0) (by decide +kernel) rfl rfl) ?_
  refine am_all.c (s_iconst (by decide +kernel) (by decide) rfl) ?_
  refine am_all.c (s_put (C := cn_S) (Tf := ft_S) (N := 9) (ty := .int) rfl fi_S fy_S fo_S fn_S (by decide) tw_96 (Or.inl rfl) (by decide +kernel) (Or.inl ⟨rfl, rfl⟩) (by decide +kernel) rfl) ?_
  refine am_all.c (s_vret (by decide +kernel) rfl) ?_
  exact trivial
set_option maxRecDepth 20000 in
theorem ga_S_mailboxNumber {D : va_G} {dA : Nat → ClassId} {h b L : Nat} {xs : Nat → Int32} (hN : am_nN (am_En D dA h b L xs)) : am_all (am_En D dA h b L xs) mv_tb mv_P tS_mailboxNumber kS_mailboxNumber := by
  unfold kS_mailboxNumber
  refine am_all.c (s_aload_n (kf := 0) (by decide +kernel) rfl rfl) ?_
  refine am_all.c (s_get (C := cn_S) (Tf := ft_S) (N := 9) rfl fi_S (by decide) tw_93 (by decide +kernel) rfl) ?_
  refine am_all.c (s_iret (by decide +kernel) rfl) ?_
  exact trivial
set_option maxRecDepth 20000 in
theorem ga_S_isReadOnly {D : va_G} {dA : Nat → ClassId} {h b L : Nat} {xs : Nat → Int32} (hN : am_nN (am_En D dA h b L xs)) : am_all (am_En D dA h b L xs) mv_tb mv_P tS_isReadOnly kS_isReadOnly := by
  unfold kS_isReadOnly
  refine am_all.c (s_aload_n (kf := 0) (by decide +kernel) rfl rfl) ?_
  refine am_all.c (s_get (C := cn_S) (Tf := ft_S) (N := 9) rfl fi_S (by decide) tw_94 (by decide +kernel) rfl) ?_
  refine am_all.c (s_zret (by decide +kernel) rfl) ?_
  exact trivial
set_option maxRecDepth 20000 in
theorem ga_S_viewLength {D : va_G} {dA : Nat → ClassId} {h b L : Nat} {xs : Nat → Int32} (hN : am_nN (am_En D dA h b L xs)) : am_all (am_En D dA h b L xs) mv_tb mv_P tS_viewLength kS_viewLength := by
  unfold kS_viewLength
  refine am_all.c (s_aload_n (kf := 0) (by decide +kernel) rfl rfl) ?_
  refine am_all.c (s_get (C := cn_S) (Tf := ft_S) (N := 9) rfl fi_S (by decide) tw_95 (by decide +kernel) rfl) ?_
  refine am_all.c (s_iret (by decide +kernel) rfl) ?_
  exact trivial
set_option maxRecDepth 20000 in
theorem ga_S_uidOf {D : va_G} {dA : Nat → ClassId} {h b L : Nat} {xs : Nat → Int32} (hN : am_nN (am_En D dA h b L xs)) : am_all (am_En D dA h b L xs) mv_tb mv_P tS_uidOf kS_uidOf := by
  unfold kS_uidOf
  refine am_all.c (s_aload_n (kf := 0) (by decide +kernel) rfl rfl) ?_
  refine am_all.c (s_get (C := cn_S) (Tf := ft_S) (N := 9) rfl fi_S (by decide) tw_89 (by decide +kernel) rfl) ?_
  refine am_all.c (s_iload_n (kf := 1) (by decide +kernel) rfl rfl) ?_
  refine am_all.c (s_iconst (by decide +kernel) (by decide) rfl) ?_
  refine am_all.c (s_isub (by decide +kernel) rfl) ?_
  refine am_all.c (s_iald rfl (by decide +kernel) rfl) ?_
  refine am_all.c (s_iret (by decide +kernel) rfl) ?_
  exact trivial
set_option maxRecDepth 20000 in
theorem ga_S_knownFlagsOf {D : va_G} {dA : Nat → ClassId} {h b L : Nat} {xs : Nat → Int32} (hN : am_nN (am_En D dA h b L xs)) : am_all (am_En D dA h b L xs) mv_tb mv_P tS_knownFlagsOf kS_knownFlagsOf := by
  unfold kS_knownFlagsOf
  refine am_all.c (s_aload_n (kf := 0) (by decide +kernel) rfl rfl) ?_
  refine am_all.c (s_get (C := cn_S) (Tf := ft_S) (N := 9) rfl fi_S (by decide) tw_90 (by decide +kernel) rfl) ?_
  refine am_all.c (s_iload_n (kf := 1) (by decide +kernel) rfl rfl) ?_
  refine am_all.c (s_iconst (by decide +kernel) (by decide) rfl) ?_
  refine am_all.c (s_isub (by decide +kernel) rfl) ?_
  refine am_all.c (s_iald rfl (by decide +kernel) rfl) ?_
  refine am_all.c (s_iret (by decide +kernel) rfl) ?_
  exact trivial
set_option maxRecDepth 20000 in
theorem ga_S_know {D : va_G} {dA : Nat → ClassId} {h b L : Nat} {xs : Nat → Int32} (hN : am_nN (am_En D dA h b L xs)) : am_all (am_En D dA h b L xs) mv_tb mv_P tS_know kS_know := by
  unfold kS_know
  refine am_all.c (s_aload_n (kf := 0) (by decide +kernel) rfl rfl) ?_
  refine am_all.c (s_get (C := cn_S) (Tf := ft_S) (N := 9) rfl fi_S (by decide) tw_90 (by decide +kernel) rfl) ?_
  refine am_all.c (s_iload_n (kf := 1) (by decide +kernel) rfl rfl) ?_
  refine am_all.c (s_iconst (by decide +kernel) (by decide) rfl) ?_
  refine am_all.c (s_isub (by decide +kernel) rfl) ?_
  refine am_all.c (s_iload_n (kf := 2) (by decide +kernel) rfl rfl) ?_
  refine am_all.c (s_iast rfl (by decide +kernel) rfl) ?_
  refine am_all.c (s_vret (by decide +kernel) rfl) ?_
  exact trivial
set_option maxRecDepth 20000 in
theorem ga_S_noticeCount {D : va_G} {dA : Nat → ClassId} {h b L : Nat} {xs : Nat → Int32} (hN : am_nN (am_En D dA h b L xs)) : am_all (am_En D dA h b L xs) mv_tb mv_P tS_noticeCount kS_noticeCount := by
  unfold kS_noticeCount
  refine am_all.c (s_aload_n (kf := 0) (by decide +kernel) rfl rfl) ?_
  refine am_all.c (s_get (C := cn_S) (Tf := ft_S) (N := 9) rfl fi_S (by decide) tw_96 (by decide +kernel) rfl) ?_
  refine am_all.c (s_iret (by decide +kernel) rfl) ?_
  exact trivial
set_option maxRecDepth 20000 in
theorem ga_S_noticeKindAt {D : va_G} {dA : Nat → ClassId} {h b L : Nat} {xs : Nat → Int32} (hN : am_nN (am_En D dA h b L xs)) : am_all (am_En D dA h b L xs) mv_tb mv_P tS_noticeKindAt kS_noticeKindAt := by
  unfold kS_noticeKindAt
  refine am_all.c (s_aload_n (kf := 0) (by decide +kernel) rfl rfl) ?_
  refine am_all.c (s_get (C := cn_S) (Tf := ft_S) (N := 9) rfl fi_S (by decide) tw_91 (by decide +kernel) rfl) ?_
  refine am_all.c (s_iload_n (kf := 1) (by decide +kernel) rfl rfl) ?_
  refine am_all.c (s_iald rfl (by decide +kernel) rfl) ?_
  refine am_all.c (s_iret (by decide +kernel) rfl) ?_
  exact trivial
set_option maxRecDepth 20000 in
theorem ga_S_noticeNumberAt {D : va_G} {dA : Nat → ClassId} {h b L : Nat} {xs : Nat → Int32} (hN : am_nN (am_En D dA h b L xs)) : am_all (am_En D dA h b L xs) mv_tb mv_P tS_noticeNumberAt kS_noticeNumberAt := by
  unfold kS_noticeNumberAt
  refine am_all.c (s_aload_n (kf := 0) (by decide +kernel) rfl rfl) ?_
  refine am_all.c (s_get (C := cn_S) (Tf := ft_S) (N := 9) rfl fi_S (by decide) tw_92 (by decide +kernel) rfl) ?_
  refine am_all.c (s_iload_n (kf := 1) (by decide +kernel) rfl rfl) ?_
  refine am_all.c (s_iald rfl (by decide +kernel) rfl) ?_
  refine am_all.c (s_iret (by decide +kernel) rfl) ?_
  exact trivial
set_option maxRecDepth 20000 in
theorem ga_S_update {D : va_G} {dA : Nat → ClassId} {h b L : Nat} {xs : Nat → Int32} (hN : am_nN (am_En D dA h b L xs)) : am_all (am_En D dA h b L xs) mv_tb mv_P tS_update kS_update := by
  unfold kS_update
  refine am_all.c (s_aload_n (kf := 0) (by decide +kernel) rfl rfl) ?_
  refine am_all.c (s_iconst (by decide +kernel) (by decide) rfl) ?_
  refine am_all.c (s_put (C := cn_S) (Tf := ft_S) (N := 9) (ty := .int) rfl fi_S fy_S fo_S fn_S (by decide) tw_96 (Or.inl rfl) (by decide +kernel) (Or.inl ⟨rfl, rfl⟩) (by decide +kernel) rfl) ?_
  refine am_all.c (s_iload_n (kf := 2) (by decide +kernel) rfl rfl) ?_
  refine am_all.c (s_if_eq (off := 8) (by decide +kernel) (by decide) rfl) ?_
  refine am_all.c (s_aload_n (kf := 0) (by decide +kernel) rfl rfl) ?_
  refine am_all.c (s_aload_n (kf := 1) (by decide +kernel) rfl rfl) ?_
  refine am_all.c (s_callV (q := (cn_S, ft_S, 9)) (by decide) (ce_S_dropGone hN) rfl rfl tw_322 tw_324 tw_8 (by decide +kernel) rfl) ?_
  refine am_all.c (s_aload_n (kf := 0) (by decide +kernel) rfl rfl) ?_
  refine am_all.c (s_get (C := cn_S) (Tf := ft_S) (N := 9) rfl fi_S (by decide) tw_95 (by decide +kernel) rfl) ?_
  refine am_all.c (s_istore_n (kf := 3) (by decide +kernel) rfl rfl) ?_
  refine am_all.c (s_aload_n (kf := 0) (by decide +kernel) rfl rfl) ?_
  refine am_all.c (s_aload_n (kf := 1) (by decide +kernel) rfl rfl) ?_
  refine am_all.c (s_callV (q := (cn_S, ft_S, 9)) (by decide) (ce_S_takeInNew hN) rfl rfl tw_247 tw_249 tw_3 (by decide +kernel) rfl) ?_
  refine am_all.c (s_aload_n (kf := 0) (by decide +kernel) rfl rfl) ?_
  refine am_all.c (s_get (C := cn_S) (Tf := ft_S) (N := 9) rfl fi_S (by decide) tw_95 (by decide +kernel) rfl) ?_
  refine am_all.c (s_iload_n (kf := 3) (by decide +kernel) rfl rfl) ?_
  refine am_all.c (s_icmp_le (off := 12) (by decide +kernel) (by decide) rfl) ?_
  refine am_all.c (s_aload_n (kf := 0) (by decide +kernel) rfl rfl) ?_
  refine am_all.c (s_iconst (by decide +kernel) (by decide) rfl) ?_
  refine am_all.c (s_aload_n (kf := 0) (by decide +kernel) rfl rfl) ?_
  refine am_all.c (s_get (C := cn_S) (Tf := ft_S) (N := 9) rfl fi_S (by decide) tw_95 (by decide +kernel) rfl) ?_
  refine am_all.c (s_callV (q := (cn_S, ft_S, 9)) (by decide) (ce_S_tell hN) rfl rfl tw_330 tw_332 tw_9 (by decide +kernel) rfl) ?_
  refine am_all.c (s_aload_n (kf := 0) (by decide +kernel) rfl rfl) ?_
  refine am_all.c (s_aload_n (kf := 1) (by decide +kernel) rfl rfl) ?_
  refine am_all.c (s_callV (q := (cn_S, ft_S, 9)) (by decide) (ce_S_learnFlags hN) rfl rfl tw_334 tw_336 tw_10 (by decide +kernel) rfl) ?_
  refine am_all.c (s_vret (by decide +kernel) rfl) ?_
  exact trivial
set_option maxRecDepth 20000 in
theorem ga_S_dropGone {D : va_G} {dA : Nat → ClassId} {h b L : Nat} {xs : Nat → Int32} (hN : am_nN (am_En D dA h b L xs)) : am_all (am_En D dA h b L xs) mv_tb mv_P tS_dropGone kS_dropGone := by
  unfold kS_dropGone
  refine am_all.c (s_iconst (by decide +kernel) (by decide) rfl) ?_
  refine am_all.c (s_istore_n (kf := 2) (by decide +kernel) rfl rfl) ?_
  refine am_all.c (s_iconst (by decide +kernel) (by decide) rfl) ?_
  refine am_all.c (s_istore_n (kf := 3) (by decide +kernel) rfl rfl) ?_
  refine am_all.c (s_iload_n (kf := 3) (by decide +kernel) rfl rfl) ?_
  refine am_all.c (s_aload_n (kf := 0) (by decide +kernel) rfl rfl) ?_
  refine am_all.c (s_get (C := cn_S) (Tf := ft_S) (N := 9) rfl fi_S (by decide) tw_95 (by decide +kernel) rfl) ?_
  refine am_all.c (s_icmp_ge (off := 61) (by decide +kernel) (by decide) rfl) ?_
  refine am_all.c (s_aload_n (kf := 1) (by decide +kernel) rfl rfl) ?_
  refine am_all.c (s_aload_n (kf := 0) (by decide +kernel) rfl rfl) ?_
  refine am_all.c (s_get (C := cn_S) (Tf := ft_S) (N := 9) rfl fi_S (by decide) tw_89 (by decide +kernel) rfl) ?_
  refine am_all.c (s_iload_n (kf := 3) (by decide +kernel) rfl rfl) ?_
  refine am_all.c (s_iald rfl (by decide +kernel) rfl) ?_
  refine am_all.c (s_callV (q := (cn_B, ft_B, 6)) (by decide) (ce_B_positionOf hN) rfl rfl tw_326 tw_327 tw_328 (by decide +kernel) rfl) ?_
  refine am_all.c (s_iconst (by decide +kernel) (by decide) rfl) ?_
  refine am_all.c (s_icmp_ne (off := 14) (by decide +kernel) (by decide) rfl) ?_
  refine am_all.c (s_aload_n (kf := 0) (by decide +kernel) rfl rfl) ?_
  refine am_all.c (s_iconst (by decide +kernel) (by decide) rfl) ?_
  refine am_all.c (s_iload_n (kf := 2) (by decide +kernel) rfl rfl) ?_
  refine am_all.c (s_iconst (by decide +kernel) (by decide) rfl) ?_
  refine am_all.c (s_iadd (by decide +kernel) rfl) ?_
  refine am_all.c (s_callV (q := (cn_S, ft_S, 9)) (by decide) (ce_S_tell hN) rfl rfl tw_330 tw_332 tw_9 (by decide +kernel) rfl) ?_
  refine am_all.c (s_goto (off := 30) (by decide +kernel) (by decide)) ?_
  refine am_all.c (s_aload_n (kf := 0) (by decide +kernel) rfl rfl) ?_
  refine am_all.c (s_get (C := cn_S) (Tf := ft_S) (N := 9) rfl fi_S (by decide) tw_89 (by decide +kernel) rfl) ?_
  refine am_all.c (s_iload_n (kf := 2) (by decide +kernel) rfl rfl) ?_
  refine am_all.c (s_aload_n (kf := 0) (by decide +kernel) rfl rfl) ?_
  refine am_all.c (s_get (C := cn_S) (Tf := ft_S) (N := 9) rfl fi_S (by decide) tw_89 (by decide +kernel) rfl) ?_
  refine am_all.c (s_iload_n (kf := 3) (by decide +kernel) rfl rfl) ?_
  refine am_all.c (s_iald rfl (by decide +kernel) rfl) ?_
  refine am_all.c (s_iast rfl (by decide +kernel) rfl) ?_
  refine am_all.c (s_aload_n (kf := 0) (by decide +kernel) rfl rfl) ?_
  refine am_all.c (s_get (C := cn_S) (Tf := ft_S) (N := 9) rfl fi_S (by decide) tw_90 (by decide +kernel) rfl) ?_
  refine am_all.c (s_iload_n (kf := 2) (by decide +kernel) rfl rfl) ?_
  refine am_all.c (s_aload_n (kf := 0) (by decide +kernel) rfl rfl) ?_
  refine am_all.c (s_get (C := cn_S) (Tf := ft_S) (N := 9) rfl fi_S (by decide) tw_90 (by decide +kernel) rfl) ?_
  refine am_all.c (s_iload_n (kf := 3) (by decide +kernel) rfl rfl) ?_
  refine am_all.c (s_iald rfl (by decide +kernel) rfl) ?_
  refine am_all.c (s_iast rfl (by decide +kernel) rfl) ?_
  refine am_all.c (s_iinc (by decide +kernel) rfl) ?_
  refine am_all.c (s_iinc (by decide +kernel) rfl) ?_
  refine am_all.c (s_goto (off := -63) (by decide +kernel) (by decide)) ?_
  refine am_all.c (s_aload_n (kf := 0) (by decide +kernel) rfl rfl) ?_
  refine am_all.c (s_iload_n (kf := 2) (by decide +kernel) rfl rfl) ?_
  refine am_all.c (s_put (C := cn_S) (Tf := ft_S) (N := 9) (ty := .int) rfl fi_S fy_S fo_S fn_S (by decide) tw_95 (Or.inl rfl) (by decide +kernel) (Or.inl ⟨rfl, rfl⟩) (by decide +kernel) rfl) ?_
  refine am_all.c (s_vret (by decide +kernel) rfl) ?_
  exact trivial
set_option maxRecDepth 20000 in
theorem ga_S_takeInNew {D : va_G} {dA : Nat → ClassId} {h b L : Nat} {xs : Nat → Int32} (hN : am_nN (am_En D dA h b L xs)) : am_all (am_En D dA h b L xs) mv_tb mv_P tS_takeInNew kS_takeInNew := by
  unfold kS_takeInNew
  refine am_all.c (s_iconst (by decide +kernel) (by decide) rfl) ?_
  refine am_all.c (s_istore_n (kf := 2) (by decide +kernel) rfl rfl) ?_
  refine am_all.c (s_iload_n (kf := 2) (by decide +kernel) rfl rfl) ?_
  refine am_all.c (s_aload_n (kf := 1) (by decide +kernel) rfl rfl) ?_
  refine am_all.c (s_callV (q := (cn_B, ft_B, 6)) (by decide) (ce_B_messageCount hN) rfl rfl tw_251 tw_252 tw_253 (by decide +kernel) rfl) ?_
  refine am_all.c (s_icmp_ge (off := 76) (by decide +kernel) (by decide) rfl) ?_
  refine am_all.c (s_aload_n (kf := 0) (by decide +kernel) rfl rfl) ?_
  refine am_all.c (s_get (C := cn_S) (Tf := ft_S) (N := 9) rfl fi_S (by decide) tw_95 (by decide +kernel) rfl) ?_
  refine am_all.c (s_bipush (by decide +kernel) (by decide +kernel) (by decide) rfl) ?_
  refine am_all.c (s_icmp_ge (off := 67) (by decide +kernel) (by decide) rfl) ?_
  refine am_all.c (s_aload_n (kf := 1) (by decide +kernel) rfl rfl) ?_
  refine am_all.c (s_iload_n (kf := 2) (by decide +kernel) rfl rfl) ?_
  refine am_all.c (s_callV (q := (cn_B, ft_B, 6)) (by decide) (ce_B_uidAt hN) rfl rfl tw_255 tw_256 tw_257 (by decide +kernel) rfl) ?_
  refine am_all.c (s_aload_n (kf := 0) (by decide +kernel) rfl rfl) ?_
  refine am_all.c (s_get (C := cn_S) (Tf := ft_S) (N := 9) rfl fi_S (by decide) tw_97 (by decide +kernel) rfl) ?_
  refine am_all.c (s_icmp_le (off := 49) (by decide +kernel) (by decide) rfl) ?_
  refine am_all.c (s_aload_n (kf := 0) (by decide +kernel) rfl rfl) ?_
  refine am_all.c (s_aload_n (kf := 1) (by decide +kernel) rfl rfl) ?_
  refine am_all.c (s_iload_n (kf := 2) (by decide +kernel) rfl rfl) ?_
  refine am_all.c (s_callV (q := (cn_B, ft_B, 6)) (by decide) (ce_B_uidAt hN) rfl rfl tw_255 tw_256 tw_257 (by decide +kernel) rfl) ?_
  refine am_all.c (s_put (C := cn_S) (Tf := ft_S) (N := 9) (ty := .int) rfl fi_S fy_S fo_S fn_S (by decide) tw_97 (Or.inl rfl) (by decide +kernel) (Or.inl ⟨rfl, rfl⟩) (by decide +kernel) rfl) ?_
  refine am_all.c (s_aload_n (kf := 0) (by decide +kernel) rfl rfl) ?_
  refine am_all.c (s_get (C := cn_S) (Tf := ft_S) (N := 9) rfl fi_S (by decide) tw_89 (by decide +kernel) rfl) ?_
  refine am_all.c (s_aload_n (kf := 0) (by decide +kernel) rfl rfl) ?_
  refine am_all.c (s_get (C := cn_S) (Tf := ft_S) (N := 9) rfl fi_S (by decide) tw_95 (by decide +kernel) rfl) ?_
  refine am_all.c (s_aload_n (kf := 0) (by decide +kernel) rfl rfl) ?_
  refine am_all.c (s_get (C := cn_S) (Tf := ft_S) (N := 9) rfl fi_S (by decide) tw_97 (by decide +kernel) rfl) ?_
  refine am_all.c (s_iast rfl (by decide +kernel) rfl) ?_
  refine am_all.c (s_aload_n (kf := 0) (by decide +kernel) rfl rfl) ?_
  refine am_all.c (s_get (C := cn_S) (Tf := ft_S) (N := 9) rfl fi_S (by decide) tw_90 (by decide +kernel) rfl) ?_
  refine am_all.c (s_aload_n (kf := 0) (by decide +kernel) rfl rfl) ?_
  refine am_all.c (s_get (C := cn_S) (Tf := ft_S) (N := 9) rfl fi_S (by decide) tw_95 (by decide +kernel) rfl) ?_
  refine am_all.c (s_aload_n (kf := 1) (by decide +kernel) rfl rfl) ?_
  refine am_all.c (s_iload_n (kf := 2) (by decide +kernel) rfl rfl) ?_
  refine am_all.c (s_callV (q := (cn_B, ft_B, 6)) (by decide) (ce_B_flagsAt hN) rfl rfl tw_259 tw_260 tw_261 (by decide +kernel) rfl) ?_
  refine am_all.c (s_iast rfl (by decide +kernel) rfl) ?_
  refine am_all.c (s_aload_n (kf := 0) (by decide +kernel) rfl rfl) ?_
  refine am_all.c (s_dup (by decide +kernel) rfl) ?_
  refine am_all.c (s_get (C := cn_S) (Tf := ft_S) (N := 9) rfl fi_S (by decide) tw_95 (by decide +kernel) rfl) ?_
  refine am_all.c (s_iconst (by decide +kernel) (by decide) rfl) ?_
  refine am_all.c (s_iadd (by decide +kernel) rfl) ?_
  refine am_all.c (s_put (C := cn_S) (Tf := ft_S) (N := 9) (ty := .int) rfl fi_S fy_S fo_S fn_S (by decide) tw_95 (Or.inl rfl) (by decide +kernel) (Or.inl ⟨rfl, rfl⟩) (by decide +kernel) rfl) ?_
  refine am_all.c (s_iinc (by decide +kernel) rfl) ?_
  refine am_all.c (s_goto (off := -78) (by decide +kernel) (by decide)) ?_
  refine am_all.c (s_vret (by decide +kernel) rfl) ?_
  exact trivial
set_option maxRecDepth 20000 in
theorem ga_S_learnFlags {D : va_G} {dA : Nat → ClassId} {h b L : Nat} {xs : Nat → Int32} (hN : am_nN (am_En D dA h b L xs)) : am_all (am_En D dA h b L xs) mv_tb mv_P tS_learnFlags kS_learnFlags := by
  unfold kS_learnFlags
  refine am_all.c (s_iconst (by decide +kernel) (by decide) rfl) ?_
  refine am_all.c (s_istore_n (kf := 2) (by decide +kernel) rfl rfl) ?_
  refine am_all.c (s_iload_n (kf := 2) (by decide +kernel) rfl rfl) ?_
  refine am_all.c (s_aload_n (kf := 0) (by decide +kernel) rfl rfl) ?_
  refine am_all.c (s_get (C := cn_S) (Tf := ft_S) (N := 9) rfl fi_S (by decide) tw_95 (by decide +kernel) rfl) ?_
  refine am_all.c (s_icmp_gt (off := 53) (by decide +kernel) (by decide) rfl) ?_
  refine am_all.c (s_aload_n (kf := 1) (by decide +kernel) rfl rfl) ?_
  refine am_all.c (s_aload_n (kf := 0) (by decide +kernel) rfl rfl) ?_
  refine am_all.c (s_iload_n (kf := 2) (by decide +kernel) rfl rfl) ?_
  refine am_all.c (s_callV (q := (cn_S, ft_S, 9)) (by decide) (ce_S_uidOf hN) rfl rfl tw_338 tw_339 tw_340 (by decide +kernel) rfl) ?_
  refine am_all.c (s_callV (q := (cn_B, ft_B, 6)) (by decide) (ce_B_positionOf hN) rfl rfl tw_326 tw_327 tw_328 (by decide +kernel) rfl) ?_
  refine am_all.c (s_istore_n (kf := 3) (by decide +kernel) rfl rfl) ?_
  refine am_all.c (s_iload_n (kf := 3) (by decide +kernel) rfl rfl) ?_
  refine am_all.c (s_iconst (by decide +kernel) (by decide) rfl) ?_
  refine am_all.c (s_icmp_eq (off := 32) (by decide +kernel) (by decide) rfl) ?_
  refine am_all.c (s_aload_n (kf := 1) (by decide +kernel) rfl rfl) ?_
  refine am_all.c (s_iload_n (kf := 3) (by decide +kernel) rfl rfl) ?_
  refine am_all.c (s_callV (q := (cn_B, ft_B, 6)) (by decide) (ce_B_flagsAt hN) rfl rfl tw_259 tw_260 tw_261 (by decide +kernel) rfl) ?_
  refine am_all.c (s_aload_n (kf := 0) (by decide +kernel) rfl rfl) ?_
  refine am_all.c (s_iload_n (kf := 2) (by decide +kernel) rfl rfl) ?_
  refine am_all.c (s_callV (q := (cn_S, ft_S, 9)) (by decide) (ce_S_knownFlagsOf hN) rfl rfl tw_342 tw_343 tw_344 (by decide +kernel) rfl) ?_
  refine am_all.c (s_icmp_eq (off := 19) (by decide +kernel) (by decide) rfl) ?_
  refine am_all.c (s_aload_n (kf := 0) (by decide +kernel) rfl rfl) ?_
  refine am_all.c (s_iload_n (kf := 2) (by decide +kernel) rfl rfl) ?_
  refine am_all.c (s_aload_n (kf := 1) (by decide +kernel) rfl rfl) ?_
  refine am_all.c (s_iload_n (kf := 3) (by decide +kernel) rfl rfl) ?_
  refine am_all.c (s_callV (q := (cn_B, ft_B, 6)) (by decide) (ce_B_flagsAt hN) rfl rfl tw_259 tw_260 tw_261 (by decide +kernel) rfl) ?_
  refine am_all.c (s_callV (q := (cn_S, ft_S, 9)) (by decide) (ce_S_know hN) rfl rfl tw_346 tw_347 tw_348 (by decide +kernel) rfl) ?_
  refine am_all.c (s_aload_n (kf := 0) (by decide +kernel) rfl rfl) ?_
  refine am_all.c (s_iconst (by decide +kernel) (by decide) rfl) ?_
  refine am_all.c (s_iload_n (kf := 2) (by decide +kernel) rfl rfl) ?_
  refine am_all.c (s_callV (q := (cn_S, ft_S, 9)) (by decide) (ce_S_tell hN) rfl rfl tw_330 tw_332 tw_9 (by decide +kernel) rfl) ?_
  refine am_all.c (s_iinc (by decide +kernel) rfl) ?_
  refine am_all.c (s_goto (off := -55) (by decide +kernel) (by decide)) ?_
  refine am_all.c (s_vret (by decide +kernel) rfl) ?_
  exact trivial
set_option maxRecDepth 20000 in
theorem ga_S_tell {D : va_G} {dA : Nat → ClassId} {h b L : Nat} {xs : Nat → Int32} (hN : am_nN (am_En D dA h b L xs)) : am_all (am_En D dA h b L xs) mv_tb mv_P tS_tell kS_tell := by
  unfold kS_tell
  refine am_all.c (s_aload_n (kf := 0) (by decide +kernel) rfl rfl) ?_
  refine am_all.c (s_get (C := cn_S) (Tf := ft_S) (N := 9) rfl fi_S (by decide) tw_96 (by decide +kernel) rfl) ?_
  refine am_all.c (s_bipush (by decide +kernel) (by decide +kernel) (by decide) rfl) ?_
  refine am_all.c (s_icmp_ge (off := 33) (by decide +kernel) (by decide) rfl) ?_
  refine am_all.c (s_aload_n (kf := 0) (by decide +kernel) rfl rfl) ?_
  refine am_all.c (s_get (C := cn_S) (Tf := ft_S) (N := 9) rfl fi_S (by decide) tw_91 (by decide +kernel) rfl) ?_
  refine am_all.c (s_aload_n (kf := 0) (by decide +kernel) rfl rfl) ?_
  refine am_all.c (s_get (C := cn_S) (Tf := ft_S) (N := 9) rfl fi_S (by decide) tw_96 (by decide +kernel) rfl) ?_
  refine am_all.c (s_iload_n (kf := 1) (by decide +kernel) rfl rfl) ?_
  refine am_all.c (s_iast rfl (by decide +kernel) rfl) ?_
  refine am_all.c (s_aload_n (kf := 0) (by decide +kernel) rfl rfl) ?_
  refine am_all.c (s_get (C := cn_S) (Tf := ft_S) (N := 9) rfl fi_S (by decide) tw_92 (by decide +kernel) rfl) ?_
  refine am_all.c (s_aload_n (kf := 0) (by decide +kernel) rfl rfl) ?_
  refine am_all.c (s_get (C := cn_S) (Tf := ft_S) (N := 9) rfl fi_S (by decide) tw_96 (by decide +kernel) rfl) ?_
  refine am_all.c (s_iload_n (kf := 2) (by decide +kernel) rfl rfl) ?_
  refine am_all.c (s_iast rfl (by decide +kernel) rfl) ?_
  refine am_all.c (s_aload_n (kf := 0) (by decide +kernel) rfl rfl) ?_
  refine am_all.c (s_dup (by decide +kernel) rfl) ?_
  refine am_all.c (s_get (C := cn_S) (Tf := ft_S) (N := 9) rfl fi_S (by decide) tw_96 (by decide +kernel) rfl) ?_
  refine am_all.c (s_iconst (by decide +kernel) (by decide) rfl) ?_
  refine am_all.c (s_iadd (by decide +kernel) rfl) ?_
  refine am_all.c (s_put (C := cn_S) (Tf := ft_S) (N := 9) (ty := .int) rfl fi_S fy_S fo_S fn_S (by decide) tw_96 (Or.inl rfl) (by decide +kernel) (Or.inl ⟨rfl, rfl⟩) (by decide +kernel) rfl) ?_
  refine am_all.c (s_vret (by decide +kernel) rfl) ?_
  exact trivial
set_option maxRecDepth 20000 in
theorem ga_C_init {D : va_G} {dA : Nat → ClassId} {h b L : Nat} {xs : Nat → Int32} (hN : am_nN (am_En D dA h b L xs)) : am_all (am_En D dA h b L xs) mv_tb mv_P tC_init kC_init := by
  unfold kC_init
  refine am_all.c (s_aload_n (kf := 0) (by decide +kernel) rfl rfl) ?_
  refine am_all.c (s_obj mv_P0 tw_150 tw_53 tw_54 (by decide +kernel) rfl) ?_
  refine am_all.c (s_aload_n (kf := 0) (by decide +kernel) rfl rfl) ?_
  refine am_all.c (s_bipush (by decide +kernel) (by decide +kernel) (by decide) rfl) ?_
  refine am_all.c (s_newa (at0 := .int) rfl rfl (Or.inl rfl) tw_81 (by decide +kernel) rfl) ?_
  refine am_all.c (s_put (C := cn_C) (Tf := ft_C) (N := 7) (ty := .array .int) rfl fi_C fy_C fo_C fn_C (by decide) tw_151 (Or.inr ⟨rfl, rfl, rfl⟩) (by decide +kernel) (Or.inr (Or.inr ⟨rfl, Or.inr ⟨_, rfl⟩⟩)) (by decide +kernel) rfl) ?_
  refine am_all.c (s_aload_n (kf := 0) (by decide +kernel) rfl rfl) ?_
  refine am_all.c (s_bipush (by decide +kernel) (by decide +kernel) (by decide) rfl) ?_
  refine am_all.c (s_newa (at0 := .int) rfl rfl (Or.inl rfl) tw_81 (by decide +kernel) rfl) ?_
  refine am_all.c (s_put (C := cn_C) (Tf := ft_C) (N := 7) (ty := .array .int) rfl fi_C fy_C fo_C fn_C (by decide) tw_152 (Or.inr ⟨rfl, rfl, rfl⟩) (by decide +kernel) (Or.inr (Or.inr ⟨rfl, Or.inr ⟨_, rfl⟩⟩)) (by decide +kernel) rfl) ?_
  refine am_all.c (s_aload_n (kf := 0) (by decide +kernel) rfl rfl) ?_
  refine am_all.c (s_bipush (by decide +kernel) (by decide +kernel) (by decide) rfl) ?_
  refine am_all.c (s_newa (at0 := .int) rfl rfl (Or.inl rfl) tw_81 (by decide +kernel) rfl) ?_
  refine am_all.c (s_put (C := cn_C) (Tf := ft_C) (N := 7) (ty := .array .int) rfl fi_C fy_C fo_C fn_C (by decide) tw_153 (Or.inr ⟨rfl, rfl, rfl⟩) (by decide +kernel) (Or.inr (Or.inr ⟨rfl, Or.inr ⟨_, rfl⟩⟩)) (by decide +kernel) rfl) ?_
  refine am_all.c (s_aload_n (kf := 0) (by decide +kernel) rfl rfl) ?_
  refine am_all.c (s_bipush (by decide +kernel) (by decide +kernel) (by decide) rfl) ?_
  refine am_all.c (s_newa (at0 := .int) rfl rfl (Or.inl rfl) tw_81 (by decide +kernel) rfl) ?_
  refine am_all.c (s_put (C := cn_C) (Tf := ft_C) (N := 7) (ty := .array .int) rfl fi_C fy_C fo_C fn_C (by decide) tw_154 (Or.inr ⟨rfl, rfl, rfl⟩) (by decide +kernel) (Or.inr (Or.inr ⟨rfl, Or.inr ⟨_, rfl⟩⟩)) (by decide +kernel) rfl) ?_
  refine am_all.c (s_aload_n (kf := 0) (by decide +kernel) rfl rfl) ?_
  refine am_all.c (s_bipush (by decide +kernel) (by decide +kernel) (by decide) rfl) ?_
  refine am_all.c (s_newa (at0 := .int) rfl rfl (Or.inl rfl) tw_81 (by decide +kernel) rfl) ?_
  refine am_all.c (s_put (C := cn_C) (Tf := ft_C) (N := 7) (ty := .array .int) rfl fi_C fy_C fo_C fn_C (by decide) tw_155 (Or.inr ⟨rfl, rfl, rfl⟩) (by decide +kernel) (Or.inr (Or.inr ⟨rfl, Or.inr ⟨_, rfl⟩⟩)) (by decide +kernel) rfl) ?_
  refine am_all.c (s_aload_n (kf := 0) (by decide +kernel) rfl rfl) ?_
  refine am_all.c (s_bipush (by decide +kernel) (by decide +kernel) (by decide) rfl) ?_
  refine am_all.c (s_newa (at0 := .boolean) rfl rfl (Or.inr rfl) tw_173 (by decide +kernel) rfl) ?_
  refine am_all.c (s_put (C := cn_C) (Tf := ft_C) (N := 7) (ty := .array .boolean) rfl fi_C fy_C fo_C fn_C (by decide) tw_156 (Or.inr ⟨rfl, rfl, rfl⟩) (by decide +kernel) (Or.inr (Or.inr ⟨rfl, Or.inr ⟨_, rfl⟩⟩)) (by decide +kernel) rfl) ?_
  refine am_all.c (s_aload_n (kf := 0) (by decide +kernel) rfl rfl) ?_
  refine am_all.c (s_iconst (by decide +kernel) (by decide) rfl) ?_
  refine am_all.c (s_put (C := cn_C) (Tf := ft_C) (N := 7) (ty := .int) rfl fi_C fy_C fo_C fn_C (by decide) tw_157 (Or.inl rfl) (by decide +kernel) (Or.inl ⟨rfl, rfl⟩) (by decide +kernel) rfl) ?_
  refine am_all.c (s_vret (by decide +kernel) rfl) ?_
  exact trivial
set_option maxRecDepth 20000 in
theorem ga_C_isOp {D : va_G} {dA : Nat → ClassId} {h b L : Nat} {xs : Nat → Int32} (hN : am_nN (am_En D dA h b L xs)) : am_all (am_En D dA h b L xs) mv_tb mv_P tC_isOp kC_isOp := by
  unfold kC_isOp
  refine am_all.c (s_iload_n (kf := 0) (by decide +kernel) rfl rfl) ?_
  refine am_all.c (s_if_lt (off := 13) (by decide +kernel) (by decide) rfl) ?_
  refine am_all.c (s_iload_n (kf := 0) (by decide +kernel) rfl rfl) ?_
  refine am_all.c (s_bipush (by decide +kernel) (by decide +kernel) (by decide) rfl) ?_
  refine am_all.c (s_icmp_gt (off := 7) (by decide +kernel) (by decide) rfl) ?_
  refine am_all.c (s_iconst (by decide +kernel) (by decide) rfl) ?_
  refine am_all.c (s_goto (off := 4) (by decide +kernel) (by decide)) ?_
  refine am_all.c (s_iconst (by decide +kernel) (by decide) rfl) ?_
  refine am_all.c (s_zret (by decide +kernel) rfl) ?_
  exact trivial
set_option maxRecDepth 20000 in
theorem ga_C_tokenCount {D : va_G} {dA : Nat → ClassId} {h b L : Nat} {xs : Nat → Int32} (hN : am_nN (am_En D dA h b L xs)) : am_all (am_En D dA h b L xs) mv_tb mv_P tC_tokenCount kC_tokenCount := by
  unfold kC_tokenCount
  refine am_all.c (s_aload_n (kf := 0) (by decide +kernel) rfl rfl) ?_
  refine am_all.c (s_get (C := cn_C) (Tf := ft_C) (N := 7) rfl fi_C (by decide) tw_157 (by decide +kernel) rfl) ?_
  refine am_all.c (s_iret (by decide +kernel) rfl) ?_
  exact trivial
set_option maxRecDepth 20000 in
theorem ga_C_isFull {D : va_G} {dA : Nat → ClassId} {h b L : Nat} {xs : Nat → Int32} (hN : am_nN (am_En D dA h b L xs)) : am_all (am_En D dA h b L xs) mv_tb mv_P tC_isFull kC_isFull := by
  unfold kC_isFull
  refine am_all.c (s_aload_n (kf := 0) (by decide +kernel) rfl rfl) ?_
  refine am_all.c (s_get (C := cn_C) (Tf := ft_C) (N := 7) rfl fi_C (by decide) tw_157 (by decide +kernel) rfl) ?_
  refine am_all.c (s_bipush (by decide +kernel) (by decide +kernel) (by decide) rfl) ?_
  refine am_all.c (s_icmp_lt (off := 7) (by decide +kernel) (by decide) rfl) ?_
  refine am_all.c (s_iconst (by decide +kernel) (by decide) rfl) ?_
  refine am_all.c (s_goto (off := 4) (by decide +kernel) (by decide)) ?_
  refine am_all.c (s_iconst (by decide +kernel) (by decide) rfl) ?_
  refine am_all.c (s_zret (by decide +kernel) rfl) ?_
  exact trivial
set_option maxRecDepth 20000 in
theorem ga_C_wipe {D : va_G} {dA : Nat → ClassId} {h b L : Nat} {xs : Nat → Int32} (hN : am_nN (am_En D dA h b L xs)) : am_all (am_En D dA h b L xs) mv_tb mv_P tC_wipe kC_wipe := by
  unfold kC_wipe
  refine am_all.c (s_aload_n (kf := 0) (by decide +kernel) rfl rfl) ?_
  refine am_all.c (s_iconst (by decide +kernel) (by decide) rfl) ?_
  refine am_all.c (s_put (C := cn_C) (Tf := ft_C) (N := 7) (ty := .int) rfl fi_C fy_C fo_C fn_C (by decide) tw_157 (Or.inl rfl) (by decide +kernel) (Or.inl ⟨rfl, rfl⟩) (by decide +kernel) rfl) ?_
  refine am_all.c (s_vret (by decide +kernel) rfl) ?_
  exact trivial
set_option maxRecDepth 20000 in
theorem ga_C_write {D : va_G} {dA : Nat → ClassId} {h b L : Nat} {xs : Nat → Int32} (hN : am_nN (am_En D dA h b L xs)) : am_all (am_En D dA h b L xs) mv_tb mv_P tC_write kC_write := by
  unfold kC_write
  refine am_all.c (s_aload_n (kf := 0) (by decide +kernel) rfl rfl) ?_
  refine am_all.c (s_get (C := cn_C) (Tf := ft_C) (N := 7) rfl fi_C (by decide) tw_151 (by decide +kernel) rfl) ?_
  refine am_all.c (s_aload_n (kf := 0) (by decide +kernel) rfl rfl) ?_
  refine am_all.c (s_get (C := cn_C) (Tf := ft_C) (N := 7) rfl fi_C (by decide) tw_157 (by decide +kernel) rfl) ?_
  refine am_all.c (s_iload_n (kf := 1) (by decide +kernel) rfl rfl) ?_
  refine am_all.c (s_iast rfl (by decide +kernel) rfl) ?_
  refine am_all.c (s_aload_n (kf := 0) (by decide +kernel) rfl rfl) ?_
  refine am_all.c (s_get (C := cn_C) (Tf := ft_C) (N := 7) rfl fi_C (by decide) tw_152 (by decide +kernel) rfl) ?_
  refine am_all.c (s_aload_n (kf := 0) (by decide +kernel) rfl rfl) ?_
  refine am_all.c (s_get (C := cn_C) (Tf := ft_C) (N := 7) rfl fi_C (by decide) tw_157 (by decide +kernel) rfl) ?_
  refine am_all.c (s_iload_n (kf := 2) (by decide +kernel) rfl rfl) ?_
  refine am_all.c (s_iast rfl (by decide +kernel) rfl) ?_
  refine am_all.c (s_aload_n (kf := 0) (by decide +kernel) rfl rfl) ?_
  refine am_all.c (s_get (C := cn_C) (Tf := ft_C) (N := 7) rfl fi_C (by decide) tw_153 (by decide +kernel) rfl) ?_
  refine am_all.c (s_aload_n (kf := 0) (by decide +kernel) rfl rfl) ?_
  refine am_all.c (s_get (C := cn_C) (Tf := ft_C) (N := 7) rfl fi_C (by decide) tw_157 (by decide +kernel) rfl) ?_
  refine am_all.c (s_iload_n (kf := 3) (by decide +kernel) rfl rfl) ?_
  refine am_all.c (s_iast rfl (by decide +kernel) rfl) ?_
  refine am_all.c (s_aload_n (kf := 0) (by decide +kernel) rfl rfl) ?_
  refine am_all.c (s_dup (by decide +kernel) rfl) ?_
  refine am_all.c (s_get (C := cn_C) (Tf := ft_C) (N := 7) rfl fi_C (by decide) tw_157 (by decide +kernel) rfl) ?_
  refine am_all.c (s_iconst (by decide +kernel) (by decide) rfl) ?_
  refine am_all.c (s_iadd (by decide +kernel) rfl) ?_
  refine am_all.c (s_put (C := cn_C) (Tf := ft_C) (N := 7) (ty := .int) rfl fi_C fy_C fo_C fn_C (by decide) tw_157 (Or.inl rfl) (by decide +kernel) (Or.inl ⟨rfl, rfl⟩) (by decide +kernel) rfl) ?_
  refine am_all.c (s_vret (by decide +kernel) rfl) ?_
  exact trivial
set_option maxRecDepth 20000 in
theorem ga_C_isGood {D : va_G} {dA : Nat → ClassId} {h b L : Nat} {xs : Nat → Int32} (hN : am_nN (am_En D dA h b L xs)) : am_all (am_En D dA h b L xs) mv_tb mv_P tC_isGood kC_isGood := by
  unfold kC_isGood
  refine am_all.c (s_aload_n (kf := 0) (by decide +kernel) rfl rfl) ?_
  refine am_all.c (s_get (C := cn_C) (Tf := ft_C) (N := 7) rfl fi_C (by decide) tw_157 (by decide +kernel) rfl) ?_
  refine am_all.c (s_iconst (by decide +kernel) (by decide) rfl) ?_
  refine am_all.c (s_isub (by decide +kernel) rfl) ?_
  refine am_all.c (s_istore_n (kf := 1) (by decide +kernel) rfl rfl) ?_
  refine am_all.c (s_iload_n (kf := 1) (by decide +kernel) rfl rfl) ?_
  refine am_all.c (s_if_lt (off := 14) (by decide +kernel) (by decide) rfl) ?_
  refine am_all.c (s_aload_n (kf := 0) (by decide +kernel) rfl rfl) ?_
  refine am_all.c (s_iload_n (kf := 1) (by decide +kernel) rfl rfl) ?_
  refine am_all.c (s_callV (q := (cn_C, ft_C, 7)) (by decide) (ce_C_measure hN) rfl rfl tw_415 tw_417 tw_12 (by decide +kernel) rfl) ?_
  refine am_all.c (s_iinc (by decide +kernel) rfl) ?_
  refine am_all.c (s_goto (off := -12) (by decide +kernel) (by decide)) ?_
  refine am_all.c (s_aload_n (kf := 0) (by decide +kernel) rfl rfl) ?_
  refine am_all.c (s_get (C := cn_C) (Tf := ft_C) (N := 7) rfl fi_C (by decide) tw_157 (by decide +kernel) rfl) ?_
  refine am_all.c (s_if_le (off := 30) (by decide +kernel) (by decide) rfl) ?_
  refine am_all.c (s_aload_n (kf := 0) (by decide +kernel) rfl rfl) ?_
  refine am_all.c (s_get (C := cn_C) (Tf := ft_C) (N := 7) rfl fi_C (by decide) tw_154 (by decide +kernel) rfl) ?_
  refine am_all.c (s_iconst (by decide +kernel) (by decide) rfl) ?_
  refine am_all.c (s_iald rfl (by decide +kernel) rfl) ?_
  refine am_all.c (s_aload_n (kf := 0) (by decide +kernel) rfl rfl) ?_
  refine am_all.c (s_get (C := cn_C) (Tf := ft_C) (N := 7) rfl fi_C (by decide) tw_157 (by decide +kernel) rfl) ?_
  refine am_all.c (s_icmp_ne (off := 17) (by decide +kernel) (by decide) rfl) ?_
  refine am_all.c (s_aload_n (kf := 0) (by decide +kernel) rfl rfl) ?_
  refine am_all.c (s_get (C := cn_C) (Tf := ft_C) (N := 7) rfl fi_C (by decide) tw_155 (by decide +kernel) rfl) ?_
  refine am_all.c (s_iconst (by decide +kernel) (by decide) rfl) ?_
  refine am_all.c (s_iald rfl (by decide +kernel) rfl) ?_
  refine am_all.c (s_iconst (by decide +kernel) (by decide) rfl) ?_
  refine am_all.c (s_icmp_gt (off := 7) (by decide +kernel) (by decide) rfl) ?_
  refine am_all.c (s_iconst (by decide +kernel) (by decide) rfl) ?_
  refine am_all.c (s_goto (off := 4) (by decide +kernel) (by decide)) ?_
  refine am_all.c (s_iconst (by decide +kernel) (by decide) rfl) ?_
  refine am_all.c (s_zret (by decide +kernel) rfl) ?_
  exact trivial
set_option maxRecDepth 20000 in
theorem ga_C_isFulfilledBy {D : va_G} {dA : Nat → ClassId} {h b L : Nat} {xs : Nat → Int32} (hN : am_nN (am_En D dA h b L xs)) : am_all (am_En D dA h b L xs) mv_tb mv_P tC_isFulfilledBy kC_isFulfilledBy := by
  unfold kC_isFulfilledBy
  refine am_all.c (s_aload_n (kf := 0) (by decide +kernel) rfl rfl) ?_
  refine am_all.c (s_get (C := cn_C) (Tf := ft_C) (N := 7) rfl fi_C (by decide) tw_157 (by decide +kernel) rfl) ?_
  refine am_all.c (s_iconst (by decide +kernel) (by decide) rfl) ?_
  refine am_all.c (s_isub (by decide +kernel) rfl) ?_
  refine am_all.c (s_istore (by decide +kernel) rfl) ?_
  refine am_all.c (s_iload (by decide +kernel) rfl) ?_
  refine am_all.c (s_if_lt (off := 46) (by decide +kernel) (by decide) rfl) ?_
  refine am_all.c (s_aload_n (kf := 0) (by decide +kernel) rfl rfl) ?_
  refine am_all.c (s_get (C := cn_C) (Tf := ft_C) (N := 7) rfl fi_C (by decide) tw_156 (by decide +kernel) rfl) ?_
  refine am_all.c (s_iload (by decide +kernel) rfl) ?_
  refine am_all.c (s_aload_n (kf := 0) (by decide +kernel) rfl rfl) ?_
  refine am_all.c (s_get (C := cn_C) (Tf := ft_C) (N := 7) rfl fi_C (by decide) tw_151 (by decide +kernel) rfl) ?_
  refine am_all.c (s_iload (by decide +kernel) rfl) ?_
  refine am_all.c (s_iald rfl (by decide +kernel) rfl) ?_
  refine am_all.c (s_bipush (by decide +kernel) (by decide +kernel) (by decide) rfl) ?_
  refine am_all.c (s_icmp_ge (off := 15) (by decide +kernel) (by decide) rfl) ?_
  refine am_all.c (s_aload_n (kf := 0) (by decide +kernel) rfl rfl) ?_
  refine am_all.c (s_iload (by decide +kernel) rfl) ?_
  refine am_all.c (s_aload_n (kf := 1) (by decide +kernel) rfl rfl) ?_
  refine am_all.c (s_iload_n (kf := 2) (by decide +kernel) rfl rfl) ?_
  refine am_all.c (s_iload_n (kf := 3) (by decide +kernel) rfl rfl) ?_
  refine am_all.c (s_callV (q := (cn_C, ft_C, 7)) (by decide) (ce_C_leafHolds hN) rfl rfl tw_442 tw_444 tw_16 (by decide +kernel) rfl) ?_
  refine am_all.c (s_goto (off := 9) (by decide +kernel) (by decide)) ?_
  refine am_all.c (s_aload_n (kf := 0) (by decide +kernel) rfl rfl) ?_
  refine am_all.c (s_iload (by decide +kernel) rfl) ?_
  refine am_all.c (s_callV (q := (cn_C, ft_C, 7)) (by decide) (ce_C_joinHolds hN) rfl rfl tw_449 tw_451 tw_17 (by decide +kernel) rfl) ?_
  refine am_all.c (s_zast rfl (by decide +kernel) rfl) ?_
  refine am_all.c (s_iinc (by decide +kernel) rfl) ?_
  refine am_all.c (s_goto (off := -45) (by decide +kernel) (by decide)) ?_
  refine am_all.c (s_aload_n (kf := 0) (by decide +kernel) rfl rfl) ?_
  refine am_all.c (s_get (C := cn_C) (Tf := ft_C) (N := 7) rfl fi_C (by decide) tw_157 (by decide +kernel) rfl) ?_
  refine am_all.c (s_if_le (off := 16) (by decide +kernel) (by decide) rfl) ?_
  refine am_all.c (s_aload_n (kf := 0) (by decide +kernel) rfl rfl) ?_
  refine am_all.c (s_get (C := cn_C) (Tf := ft_C) (N := 7) rfl fi_C (by decide) tw_156 (by decide +kernel) rfl) ?_
  refine am_all.c (s_iconst (by decide +kernel) (by decide) rfl) ?_
  refine am_all.c (s_zald rfl (by decide +kernel) rfl) ?_
  refine am_all.c (s_if_eq (off := 7) (by decide +kernel) (by decide) rfl) ?_
  refine am_all.c (s_iconst (by decide +kernel) (by decide) rfl) ?_
  refine am_all.c (s_goto (off := 4) (by decide +kernel) (by decide)) ?_
  refine am_all.c (s_iconst (by decide +kernel) (by decide) rfl) ?_
  refine am_all.c (s_zret (by decide +kernel) rfl) ?_
  exact trivial
set_option maxRecDepth 20000 in
theorem ga_C_measure {D : va_G} {dA : Nat → ClassId} {h b L : Nat} {xs : Nat → Int32} (hN : am_nN (am_En D dA h b L xs)) : am_all (am_En D dA h b L xs) mv_tb mv_P tC_measure kC_measure := by
  unfold kC_measure
  refine am_all.c (s_iload_n (kf := 1) (by decide +kernel) rfl rfl) ?_
  refine am_all.c (s_iconst (by decide +kernel) (by decide) rfl) ?_
  refine am_all.c (s_iadd (by decide +kernel) rfl) ?_
  refine am_all.c (s_istore_n (kf := 2) (by decide +kernel) rfl rfl) ?_
  refine am_all.c (s_aload_n (kf := 0) (by decide +kernel) rfl rfl) ?_
  refine am_all.c (s_iload_n (kf := 2) (by decide +kernel) rfl rfl) ?_
  refine am_all.c (s_callV (q := (cn_C, ft_C, 7)) (by decide) (ce_C_endFrom hN) rfl rfl tw_419 tw_421 tw_13 (by decide +kernel) rfl) ?_
  refine am_all.c (s_istore_n (kf := 3) (by decide +kernel) rfl rfl) ?_
  refine am_all.c (s_aload_n (kf := 0) (by decide +kernel) rfl rfl) ?_
  refine am_all.c (s_get (C := cn_C) (Tf := ft_C) (N := 7) rfl fi_C (by decide) tw_151 (by decide +kernel) rfl) ?_
  refine am_all.c (s_iload_n (kf := 1) (by decide +kernel) rfl rfl) ?_
  refine am_all.c (s_iald rfl (by decide +kernel) rfl) ?_
  refine am_all.c (s_bipush (by decide +kernel) (by decide +kernel) (by decide) rfl) ?_
  refine am_all.c (s_icmp_ge (off := 20) (by decide +kernel) (by decide) rfl) ?_
  refine am_all.c (s_aload_n (kf := 0) (by decide +kernel) rfl rfl) ?_
  refine am_all.c (s_get (C := cn_C) (Tf := ft_C) (N := 7) rfl fi_C (by decide) tw_154 (by decide +kernel) rfl) ?_
  refine am_all.c (s_iload_n (kf := 1) (by decide +kernel) rfl rfl) ?_
  refine am_all.c (s_iload_n (kf := 2) (by decide +kernel) rfl rfl) ?_
  refine am_all.c (s_iast rfl (by decide +kernel) rfl) ?_
  refine am_all.c (s_aload_n (kf := 0) (by decide +kernel) rfl rfl) ?_
  refine am_all.c (s_get (C := cn_C) (Tf := ft_C) (N := 7) rfl fi_C (by decide) tw_155 (by decide +kernel) rfl) ?_
  refine am_all.c (s_iload_n (kf := 1) (by decide +kernel) rfl rfl) ?_
  refine am_all.c (s_iconst (by decide +kernel) (by decide) rfl) ?_
  refine am_all.c (s_iast rfl (by decide +kernel) rfl) ?_
  refine am_all.c (s_goto (off := 69) (by decide +kernel) (by decide)) ?_
  refine am_all.c (s_aload_n (kf := 0) (by decide +kernel) rfl rfl) ?_
  refine am_all.c (s_get (C := cn_C) (Tf := ft_C) (N := 7) rfl fi_C (by decide) tw_151 (by decide +kernel) rfl) ?_
  refine am_all.c (s_iload_n (kf := 1) (by decide +kernel) rfl rfl) ?_
  refine am_all.c (s_iald rfl (by decide +kernel) rfl) ?_
  refine am_all.c (s_bipush (by decide +kernel) (by decide +kernel) (by decide) rfl) ?_
  refine am_all.c (s_icmp_ne (off := 26) (by decide +kernel) (by decide) rfl) ?_
  refine am_all.c (s_aload_n (kf := 0) (by decide +kernel) rfl rfl) ?_
  refine am_all.c (s_get (C := cn_C) (Tf := ft_C) (N := 7) rfl fi_C (by decide) tw_154 (by decide +kernel) rfl) ?_
  refine am_all.c (s_iload_n (kf := 1) (by decide +kernel) rfl rfl) ?_
  refine am_all.c (s_iload_n (kf := 3) (by decide +kernel) rfl rfl) ?_
  refine am_all.c (s_iast rfl (by decide +kernel) rfl) ?_
  refine am_all.c (s_aload_n (kf := 0) (by decide +kernel) rfl rfl) ?_
  refine am_all.c (s_get (C := cn_C) (Tf := ft_C) (N := 7) rfl fi_C (by decide) tw_155 (by decide +kernel) rfl) ?_
  refine am_all.c (s_iload_n (kf := 1) (by decide +kernel) rfl rfl) ?_
  refine am_all.c (s_iconst (by decide +kernel) (by decide) rfl) ?_
  refine am_all.c (s_aload_n (kf := 0) (by decide +kernel) rfl rfl) ?_
  refine am_all.c (s_iload_n (kf := 2) (by decide +kernel) rfl rfl) ?_
  refine am_all.c (s_callV (q := (cn_C, ft_C, 7)) (by decide) (ce_C_depthFrom hN) rfl rfl tw_423 tw_425 tw_14 (by decide +kernel) rfl) ?_
  refine am_all.c (s_iadd (by decide +kernel) rfl) ?_
  refine am_all.c (s_iast rfl (by decide +kernel) rfl) ?_
  refine am_all.c (s_goto (off := 35) (by decide +kernel) (by decide)) ?_
  refine am_all.c (s_aload_n (kf := 0) (by decide +kernel) rfl rfl) ?_
  refine am_all.c (s_get (C := cn_C) (Tf := ft_C) (N := 7) rfl fi_C (by decide) tw_154 (by decide +kernel) rfl) ?_
  refine am_all.c (s_iload_n (kf := 1) (by decide +kernel) rfl rfl) ?_
  refine am_all.c (s_aload_n (kf := 0) (by decide +kernel) rfl rfl) ?_
  refine am_all.c (s_iload_n (kf := 3) (by decide +kernel) rfl rfl) ?_
  refine am_all.c (s_callV (q := (cn_C, ft_C, 7)) (by decide) (ce_C_endFrom hN) rfl rfl tw_419 tw_421 tw_13 (by decide +kernel) rfl) ?_
  refine am_all.c (s_iast rfl (by decide +kernel) rfl) ?_
  refine am_all.c (s_aload_n (kf := 0) (by decide +kernel) rfl rfl) ?_
  refine am_all.c (s_get (C := cn_C) (Tf := ft_C) (N := 7) rfl fi_C (by decide) tw_155 (by decide +kernel) rfl) ?_
  refine am_all.c (s_iload_n (kf := 1) (by decide +kernel) rfl rfl) ?_
  refine am_all.c (s_iconst (by decide +kernel) (by decide) rfl) ?_
  refine am_all.c (s_aload_n (kf := 0) (by decide +kernel) rfl rfl) ?_
  refine am_all.c (s_iload_n (kf := 2) (by decide +kernel) rfl rfl) ?_
  refine am_all.c (s_callV (q := (cn_C, ft_C, 7)) (by decide) (ce_C_depthFrom hN) rfl rfl tw_423 tw_425 tw_14 (by decide +kernel) rfl) ?_
  refine am_all.c (s_aload_n (kf := 0) (by decide +kernel) rfl rfl) ?_
  refine am_all.c (s_iload_n (kf := 3) (by decide +kernel) rfl rfl) ?_
  refine am_all.c (s_callV (q := (cn_C, ft_C, 7)) (by decide) (ce_C_depthFrom hN) rfl rfl tw_423 tw_425 tw_14 (by decide +kernel) rfl) ?_
  refine am_all.c (s_max mv_P0 tw_427 tw_428 tw_46 tw_429 (by decide +kernel) rfl) ?_
  refine am_all.c (s_iadd (by decide +kernel) rfl) ?_
  refine am_all.c (s_iast rfl (by decide +kernel) rfl) ?_
  refine am_all.c (s_vret (by decide +kernel) rfl) ?_
  exact trivial
set_option maxRecDepth 20000 in
theorem ga_C_leafHolds {D : va_G} {dA : Nat → ClassId} {h b L : Nat} {xs : Nat → Int32} (hN : am_nN (am_En D dA h b L xs)) : am_all (am_En D dA h b L xs) mv_tb mv_P tC_leafHolds kC_leafHolds := by
  unfold kC_leafHolds
  refine am_all.c (s_aload_n (kf := 0) (by decide +kernel) rfl rfl) ?_
  refine am_all.c (s_get (C := cn_C) (Tf := ft_C) (N := 7) rfl fi_C (by decide) tw_151 (by decide +kernel) rfl) ?_
  refine am_all.c (s_iload_n (kf := 1) (by decide +kernel) rfl rfl) ?_
  refine am_all.c (s_iald rfl (by decide +kernel) rfl) ?_
  refine am_all.c (s_tsw (dflt := 157) (lo := 1) (hi := 5) (offs := #[34, 55, 75, 95, 129]) (len := 34) (by decide +kernel) (by decide) (by decide) (am_tsc (by decide))) ?_
  refine am_all.c (s_aload_n (kf := 2) (by decide +kernel) rfl rfl) ?_
  refine am_all.c (s_iload_n (kf := 3) (by decide +kernel) rfl rfl) ?_
  refine am_all.c (s_callV (q := (cn_B, ft_B, 6)) (by decide) (ce_B_flagsAt hN) rfl rfl tw_446 tw_260 tw_261 (by decide +kernel) rfl) ?_
  refine am_all.c (s_aload_n (kf := 0) (by decide +kernel) rfl rfl) ?_
  refine am_all.c (s_get (C := cn_C) (Tf := ft_C) (N := 7) rfl fi_C (by decide) tw_152 (by decide +kernel) rfl) ?_
  refine am_all.c (s_iload_n (kf := 1) (by decide +kernel) rfl rfl) ?_
  refine am_all.c (s_iald rfl (by decide +kernel) rfl) ?_
  refine am_all.c (s_iand (by decide +kernel) rfl) ?_
  refine am_all.c (s_if_eq (off := 7) (by decide +kernel) (by decide) rfl) ?_
  refine am_all.c (s_iconst (by decide +kernel) (by decide) rfl) ?_
  refine am_all.c (s_goto (off := 4) (by decide +kernel) (by decide)) ?_
  refine am_all.c (s_iconst (by decide +kernel) (by decide) rfl) ?_
  refine am_all.c (s_zret (by decide +kernel) rfl) ?_
  refine am_all.c (s_aload_n (kf := 2) (by decide +kernel) rfl rfl) ?_
  refine am_all.c (s_iload_n (kf := 3) (by decide +kernel) rfl rfl) ?_
  refine am_all.c (s_callV (q := (cn_B, ft_B, 6)) (by decide) (ce_B_sizeAt hN) rfl rfl tw_447 tw_291 tw_292 (by decide +kernel) rfl) ?_
  refine am_all.c (s_aload_n (kf := 0) (by decide +kernel) rfl rfl) ?_
  refine am_all.c (s_get (C := cn_C) (Tf := ft_C) (N := 7) rfl fi_C (by decide) tw_152 (by decide +kernel) rfl) ?_
  refine am_all.c (s_iload_n (kf := 1) (by decide +kernel) rfl rfl) ?_
  refine am_all.c (s_iald rfl (by decide +kernel) rfl) ?_
  refine am_all.c (s_icmp_le (off := 7) (by decide +kernel) (by decide) rfl) ?_
  refine am_all.c (s_iconst (by decide +kernel) (by decide) rfl) ?_
  refine am_all.c (s_goto (off := 4) (by decide +kernel) (by decide)) ?_
  refine am_all.c (s_iconst (by decide +kernel) (by decide) rfl) ?_
  refine am_all.c (s_zret (by decide +kernel) rfl) ?_
  refine am_all.c (s_aload_n (kf := 2) (by decide +kernel) rfl rfl) ?_
  refine am_all.c (s_iload_n (kf := 3) (by decide +kernel) rfl rfl) ?_
  refine am_all.c (s_callV (q := (cn_B, ft_B, 6)) (by decide) (ce_B_sizeAt hN) rfl rfl tw_447 tw_291 tw_292 (by decide +kernel) rfl) ?_
  refine am_all.c (s_aload_n (kf := 0) (by decide +kernel) rfl rfl) ?_
  refine am_all.c (s_get (C := cn_C) (Tf := ft_C) (N := 7) rfl fi_C (by decide) tw_152 (by decide +kernel) rfl) ?_
  refine am_all.c (s_iload_n (kf := 1) (by decide +kernel) rfl rfl) ?_
  refine am_all.c (s_iald rfl (by decide +kernel) rfl) ?_
  refine am_all.c (s_icmp_ge (off := 7) (by decide +kernel) (by decide) rfl) ?_
  refine am_all.c (s_iconst (by decide +kernel) (by decide) rfl) ?_
  refine am_all.c (s_goto (off := 4) (by decide +kernel) (by decide)) ?_
  refine am_all.c (s_iconst (by decide +kernel) (by decide) rfl) ?_
  refine am_all.c (s_zret (by decide +kernel) rfl) ?_
  refine am_all.c (s_aload_n (kf := 0) (by decide +kernel) rfl rfl) ?_
  refine am_all.c (s_get (C := cn_C) (Tf := ft_C) (N := 7) rfl fi_C (by decide) tw_152 (by decide +kernel) rfl) ?_
  refine am_all.c (s_iload_n (kf := 1) (by decide +kernel) rfl rfl) ?_
  refine am_all.c (s_iald rfl (by decide +kernel) rfl) ?_
  refine am_all.c (s_aload_n (kf := 2) (by decide +kernel) rfl rfl) ?_
  refine am_all.c (s_iload_n (kf := 3) (by decide +kernel) rfl rfl) ?_
  refine am_all.c (s_callV (q := (cn_B, ft_B, 6)) (by decide) (ce_B_uidAt hN) rfl rfl tw_448 tw_256 tw_257 (by decide +kernel) rfl) ?_
  refine am_all.c (s_icmp_gt (off := 21) (by decide +kernel) (by decide) rfl) ?_
  refine am_all.c (s_aload_n (kf := 2) (by decide +kernel) rfl rfl) ?_
  refine am_all.c (s_iload_n (kf := 3) (by decide +kernel) rfl rfl) ?_
  refine am_all.c (s_callV (q := (cn_B, ft_B, 6)) (by decide) (ce_B_uidAt hN) rfl rfl tw_448 tw_256 tw_257 (by decide +kernel) rfl) ?_
  refine am_all.c (s_aload_n (kf := 0) (by decide +kernel) rfl rfl) ?_
  refine am_all.c (s_get (C := cn_C) (Tf := ft_C) (N := 7) rfl fi_C (by decide) tw_153 (by decide +kernel) rfl) ?_
  refine am_all.c (s_iload_n (kf := 1) (by decide +kernel) rfl rfl) ?_
  refine am_all.c (s_iald rfl (by decide +kernel) rfl) ?_
  refine am_all.c (s_icmp_gt (off := 7) (by decide +kernel) (by decide) rfl) ?_
  refine am_all.c (s_iconst (by decide +kernel) (by decide) rfl) ?_
  refine am_all.c (s_goto (off := 4) (by decide +kernel) (by decide)) ?_
  refine am_all.c (s_iconst (by decide +kernel) (by decide) rfl) ?_
  refine am_all.c (s_zret (by decide +kernel) rfl) ?_
  refine am_all.c (s_aload_n (kf := 0) (by decide +kernel) rfl rfl) ?_
  refine am_all.c (s_get (C := cn_C) (Tf := ft_C) (N := 7) rfl fi_C (by decide) tw_152 (by decide +kernel) rfl) ?_
  refine am_all.c (s_iload_n (kf := 1) (by decide +kernel) rfl rfl) ?_
  refine am_all.c (s_iald rfl (by decide +kernel) rfl) ?_
  refine am_all.c (s_iload (by decide +kernel) rfl) ?_
  refine am_all.c (s_icmp_gt (off := 18) (by decide +kernel) (by decide) rfl) ?_
  refine am_all.c (s_iload (by decide +kernel) rfl) ?_
  refine am_all.c (s_aload_n (kf := 0) (by decide +kernel) rfl rfl) ?_
  refine am_all.c (s_get (C := cn_C) (Tf := ft_C) (N := 7) rfl fi_C (by decide) tw_153 (by decide +kernel) rfl) ?_
  refine am_all.c (s_iload_n (kf := 1) (by decide +kernel) rfl rfl) ?_
  refine am_all.c (s_iald rfl (by decide +kernel) rfl) ?_
  refine am_all.c (s_icmp_gt (off := 7) (by decide +kernel) (by decide) rfl) ?_
  refine am_all.c (s_iconst (by decide +kernel) (by decide) rfl) ?_
  refine am_all.c (s_goto (off := 4) (by decide +kernel) (by decide)) ?_
  refine am_all.c (s_iconst (by decide +kernel) (by decide) rfl) ?_
  refine am_all.c (s_zret (by decide +kernel) rfl) ?_
  refine am_all.c (s_iconst (by decide +kernel) (by decide) rfl) ?_
  refine am_all.c (s_zret (by decide +kernel) rfl) ?_
  exact trivial
set_option maxRecDepth 20000 in
theorem ga_C_joinHolds {D : va_G} {dA : Nat → ClassId} {h b L : Nat} {xs : Nat → Int32} (hN : am_nN (am_En D dA h b L xs)) : am_all (am_En D dA h b L xs) mv_tb mv_P tC_joinHolds kC_joinHolds := by
  unfold kC_joinHolds
  refine am_all.c (s_aload_n (kf := 0) (by decide +kernel) rfl rfl) ?_
  refine am_all.c (s_iload_n (kf := 1) (by decide +kernel) rfl rfl) ?_
  refine am_all.c (s_iconst (by decide +kernel) (by decide) rfl) ?_
  refine am_all.c (s_iadd (by decide +kernel) rfl) ?_
  refine am_all.c (s_callV (q := (cn_C, ft_C, 7)) (by decide) (ce_C_holdsFrom hN) rfl rfl tw_453 tw_455 tw_18 (by decide +kernel) rfl) ?_
  refine am_all.c (s_istore_n (kf := 2) (by decide +kernel) rfl rfl) ?_
  refine am_all.c (s_aload_n (kf := 0) (by decide +kernel) rfl rfl) ?_
  refine am_all.c (s_aload_n (kf := 0) (by decide +kernel) rfl rfl) ?_
  refine am_all.c (s_iload_n (kf := 1) (by decide +kernel) rfl rfl) ?_
  refine am_all.c (s_iconst (by decide +kernel) (by decide) rfl) ?_
  refine am_all.c (s_iadd (by decide +kernel) rfl) ?_
  refine am_all.c (s_callV (q := (cn_C, ft_C, 7)) (by decide) (ce_C_endFrom hN) rfl rfl tw_419 tw_421 tw_13 (by decide +kernel) rfl) ?_
  refine am_all.c (s_callV (q := (cn_C, ft_C, 7)) (by decide) (ce_C_holdsFrom hN) rfl rfl tw_453 tw_455 tw_18 (by decide +kernel) rfl) ?_
  refine am_all.c (s_istore_n (kf := 3) (by decide +kernel) rfl rfl) ?_
  refine am_all.c (s_aload_n (kf := 0) (by decide +kernel) rfl rfl) ?_
  refine am_all.c (s_get (C := cn_C) (Tf := ft_C) (N := 7) rfl fi_C (by decide) tw_151 (by decide +kernel) rfl) ?_
  refine am_all.c (s_iload_n (kf := 1) (by decide +kernel) rfl rfl) ?_
  refine am_all.c (s_iald rfl (by decide +kernel) rfl) ?_
  refine am_all.c (s_lsw (dflt := 54) (ps := #[(7, 26), (8, 40)]) (len := 26) (by decide +kernel) (by decide) (by decide) (by decide)) ?_
  refine am_all.c (s_iload_n (kf := 2) (by decide +kernel) rfl rfl) ?_
  refine am_all.c (s_if_eq (off := 11) (by decide +kernel) (by decide) rfl) ?_
  refine am_all.c (s_iload_n (kf := 3) (by decide +kernel) rfl rfl) ?_
  refine am_all.c (s_if_eq (off := 7) (by decide +kernel) (by decide) rfl) ?_
  refine am_all.c (s_iconst (by decide +kernel) (by decide) rfl) ?_
  refine am_all.c (s_goto (off := 4) (by decide +kernel) (by decide)) ?_
  refine am_all.c (s_iconst (by decide +kernel) (by decide) rfl) ?_
  refine am_all.c (s_zret (by decide +kernel) rfl) ?_
  refine am_all.c (s_iload_n (kf := 2) (by decide +kernel) rfl rfl) ?_
  refine am_all.c (s_if_ne (off := 7) (by decide +kernel) (by decide) rfl) ?_
  refine am_all.c (s_iload_n (kf := 3) (by decide +kernel) rfl rfl) ?_
  refine am_all.c (s_if_eq (off := 7) (by decide +kernel) (by decide) rfl) ?_
  refine am_all.c (s_iconst (by decide +kernel) (by decide) rfl) ?_
  refine am_all.c (s_goto (off := 4) (by decide +kernel) (by decide)) ?_
  refine am_all.c (s_iconst (by decide +kernel) (by decide) rfl) ?_
  refine am_all.c (s_zret (by decide +kernel) rfl) ?_
  refine am_all.c (s_iload_n (kf := 2) (by decide +kernel) rfl rfl) ?_
  refine am_all.c (s_if_ne (off := 7) (by decide +kernel) (by decide) rfl) ?_
  refine am_all.c (s_iconst (by decide +kernel) (by decide) rfl) ?_
  refine am_all.c (s_goto (off := 4) (by decide +kernel) (by decide)) ?_
  refine am_all.c (s_iconst (by decide +kernel) (by decide) rfl) ?_
  refine am_all.c (s_zret (by decide +kernel) rfl) ?_
  exact trivial
set_option maxRecDepth 20000 in
theorem ga_C_endFrom {D : va_G} {dA : Nat → ClassId} {h b L : Nat} {xs : Nat → Int32} (hN : am_nN (am_En D dA h b L xs)) : am_all (am_En D dA h b L xs) mv_tb mv_P tC_endFrom kC_endFrom := by
  unfold kC_endFrom
  refine am_all.c (s_iload_n (kf := 1) (by decide +kernel) rfl rfl) ?_
  refine am_all.c (s_aload_n (kf := 0) (by decide +kernel) rfl rfl) ?_
  refine am_all.c (s_get (C := cn_C) (Tf := ft_C) (N := 7) rfl fi_C (by decide) tw_157 (by decide +kernel) rfl) ?_
  refine am_all.c (s_icmp_ge (off := 12) (by decide +kernel) (by decide) rfl) ?_
  refine am_all.c (s_aload_n (kf := 0) (by decide +kernel) rfl rfl) ?_
  refine am_all.c (s_get (C := cn_C) (Tf := ft_C) (N := 7) rfl fi_C (by decide) tw_154 (by decide +kernel) rfl) ?_
  refine am_all.c (s_iload_n (kf := 1) (by decide +kernel) rfl rfl) ?_
  refine am_all.c (s_iald rfl (by decide +kernel) rfl) ?_
  refine am_all.c (s_goto (off := 5) (by decide +kernel) (by decide)) ?_
  refine am_all.c (s_bipush (by decide +kernel) (by decide +kernel) (by decide) rfl) ?_
  refine am_all.c (s_iret (by decide +kernel) rfl) ?_
  exact trivial
set_option maxRecDepth 20000 in
theorem ga_C_depthFrom {D : va_G} {dA : Nat → ClassId} {h b L : Nat} {xs : Nat → Int32} (hN : am_nN (am_En D dA h b L xs)) : am_all (am_En D dA h b L xs) mv_tb mv_P tC_depthFrom kC_depthFrom := by
  unfold kC_depthFrom
  refine am_all.c (s_iload_n (kf := 1) (by decide +kernel) rfl rfl) ?_
  refine am_all.c (s_aload_n (kf := 0) (by decide +kernel) rfl rfl) ?_
  refine am_all.c (s_get (C := cn_C) (Tf := ft_C) (N := 7) rfl fi_C (by decide) tw_157 (by decide +kernel) rfl) ?_
  refine am_all.c (s_icmp_ge (off := 12) (by decide +kernel) (by decide) rfl) ?_
  refine am_all.c (s_aload_n (kf := 0) (by decide +kernel) rfl rfl) ?_
  refine am_all.c (s_get (C := cn_C) (Tf := ft_C) (N := 7) rfl fi_C (by decide) tw_155 (by decide +kernel) rfl) ?_
  refine am_all.c (s_iload_n (kf := 1) (by decide +kernel) rfl rfl) ?_
  refine am_all.c (s_iald rfl (by decide +kernel) rfl) ?_
  refine am_all.c (s_goto (off := 4) (by decide +kernel) (by decide)) ?_
  refine am_all.c (s_iconst (by decide +kernel) (by decide) rfl) ?_
  refine am_all.c (s_iret (by decide +kernel) rfl) ?_
  exact trivial
set_option maxRecDepth 20000 in
theorem ga_C_holdsFrom {D : va_G} {dA : Nat → ClassId} {h b L : Nat} {xs : Nat → Int32} (hN : am_nN (am_En D dA h b L xs)) : am_all (am_En D dA h b L xs) mv_tb mv_P tC_holdsFrom kC_holdsFrom := by
  unfold kC_holdsFrom
  refine am_all.c (s_iload_n (kf := 1) (by decide +kernel) rfl rfl) ?_
  refine am_all.c (s_aload_n (kf := 0) (by decide +kernel) rfl rfl) ?_
  refine am_all.c (s_get (C := cn_C) (Tf := ft_C) (N := 7) rfl fi_C (by decide) tw_157 (by decide +kernel) rfl) ?_
  refine am_all.c (s_icmp_ge (off := 16) (by decide +kernel) (by decide) rfl) ?_
  refine am_all.c (s_aload_n (kf := 0) (by decide +kernel) rfl rfl) ?_
  refine am_all.c (s_get (C := cn_C) (Tf := ft_C) (N := 7) rfl fi_C (by decide) tw_156 (by decide +kernel) rfl) ?_
  refine am_all.c (s_iload_n (kf := 1) (by decide +kernel) rfl rfl) ?_
  refine am_all.c (s_zald rfl (by decide +kernel) rfl) ?_
  refine am_all.c (s_if_eq (off := 7) (by decide +kernel) (by decide) rfl) ?_
  refine am_all.c (s_iconst (by decide +kernel) (by decide) rfl) ?_
  refine am_all.c (s_goto (off := 4) (by decide +kernel) (by decide)) ?_
  refine am_all.c (s_iconst (by decide +kernel) (by decide) rfl) ?_
  refine am_all.c (s_zret (by decide +kernel) rfl) ?_
  exact trivial
end
section
/-! printed by wip/whole/gen/prog.py: each instruction against the abstract one -/
set_option maxRecDepth 20000 in
theorem ga_V_init {D : va_G} {dA : Nat → ClassId} {h b L : Nat} {xs : Nat → Int32} (hN : am_nN (am_En D dA h b L xs)) : am_all (am_En D dA h b L xs) mv_tb mv_P tV_init kV_init := by
  unfold kV_init
  refine am_all.c (s_aload_n (kf := 0) (by decide +kernel) rfl rfl) ?_
  refine am_all.c (s_obj mv_P0 tw_52 tw_53 tw_54 (by decide +kernel) rfl) ?_
  refine am_all.c (s_aload_n (kf := 0) (by decide +kernel) rfl rfl) ?_
  refine am_all.c (s_iconst (by decide +kernel) (by decide) rfl) ?_
  refine am_all.c (s_anewa rfl tw_55 nw_0 (by decide +kernel) rfl) ?_
  refine am_all.c (s_put (C := cn_V) (Tf := ft_V) (N := 6) (ty := .array (.object "MailViews$Mailbox")) rfl fi_V fy_V fo_V fn_V (by decide) tw_174 (Or.inr ⟨rfl, rfl, rfl⟩) (by decide +kernel) (Or.inr (Or.inr ⟨rfl, Or.inr ⟨_, rfl⟩⟩)) (by decide +kernel) rfl) ?_
  refine am_all.c (s_iconst (by decide +kernel) (by decide) rfl) ?_
  refine am_all.c (s_istore_n (kf := 1) (by decide +kernel) rfl rfl) ?_
  refine am_all.c (s_iload_n (kf := 1) (by decide +kernel) rfl rfl) ?_
  refine am_all.c (s_iconst (by decide +kernel) (by decide) rfl) ?_
  refine am_all.c (s_icmp_ge (off := 22) (by decide +kernel) (by decide) rfl) ?_
  refine am_all.c (s_aload_n (kf := 0) (by decide +kernel) rfl rfl) ?_
  refine am_all.c (s_get (C := cn_V) (Tf := ft_V) (N := 6) rfl fi_V (by decide) tw_174 (by decide +kernel) rfl) ?_
  refine am_all.c (s_iload_n (kf := 1) (by decide +kernel) rfl rfl) ?_
  refine am_all.c (s_new (C := cn_B) (Tf := ft_B) (N := 6) rfl fi_B fy_B fo_B tw_55 tw_57 tw_41 rfl fz_B fw_B (by decide +kernel) rfl) ?_
  refine am_all.c (s_dup (by decide +kernel) rfl) ?_
  refine am_all.c (s_callI (host := "MailViews") (by decide) (ce_B_init hN) rfl rfl (Or.inr nw_1) tw_59 (by decide +kernel) rfl) ?_
  refine am_all.c (s_aast (q := (cn_B, ft_B, 6)) rfl rfl (by decide +kernel) rfl) ?_
  refine am_all.c (s_iinc (by decide +kernel) rfl) ?_
  refine am_all.c (s_goto (off := -21) (by decide +kernel) (by decide)) ?_
  refine am_all.c (s_aload_n (kf := 0) (by decide +kernel) rfl rfl) ?_
  refine am_all.c (s_iconst (by decide +kernel) (by decide) rfl) ?_
  refine am_all.c (s_anewa rfl tw_82 nw_2 (by decide +kernel) rfl) ?_
  refine am_all.c (s_put (C := cn_V) (Tf := ft_V) (N := 6) (ty := .array (.object "MailViews$Session")) rfl fi_V fy_V fo_V fn_V (by decide) tw_175 (Or.inr ⟨rfl, rfl, rfl⟩) (by decide +kernel) (Or.inr (Or.inr ⟨rfl, Or.inr ⟨_, rfl⟩⟩)) (by decide +kernel) rfl) ?_
  refine am_all.c (s_iconst (by decide +kernel) (by decide) rfl) ?_
  refine am_all.c (s_istore_n (kf := 1) (by decide +kernel) rfl rfl) ?_
  refine am_all.c (s_iload_n (kf := 1) (by decide +kernel) rfl rfl) ?_
  refine am_all.c (s_iconst (by decide +kernel) (by decide) rfl) ?_
  refine am_all.c (s_icmp_ge (off := 22) (by decide +kernel) (by decide) rfl) ?_
  refine am_all.c (s_aload_n (kf := 0) (by decide +kernel) rfl rfl) ?_
  refine am_all.c (s_get (C := cn_V) (Tf := ft_V) (N := 6) rfl fi_V (by decide) tw_175 (by decide +kernel) rfl) ?_
  refine am_all.c (s_iload_n (kf := 1) (by decide +kernel) rfl rfl) ?_
  refine am_all.c (s_new (C := cn_S) (Tf := ft_S) (N := 9) rfl fi_S fy_S fo_S tw_82 tw_84 tw_42 rfl fz_S fw_S (by decide +kernel) rfl) ?_
  refine am_all.c (s_dup (by decide +kernel) rfl) ?_
  refine am_all.c (s_callI (host := "MailViews") (by decide) (ce_S_init hN) rfl rfl (Or.inr nw_3) tw_86 (by decide +kernel) rfl) ?_
  refine am_all.c (s_aast (q := (cn_S, ft_S, 9)) rfl rfl (by decide +kernel) rfl) ?_
  refine am_all.c (s_iinc (by decide +kernel) rfl) ?_
  refine am_all.c (s_goto (off := -21) (by decide +kernel) (by decide)) ?_
  refine am_all.c (s_aload_n (kf := 0) (by decide +kernel) rfl rfl) ?_
  refine am_all.c (s_new (C := cn_J) (Tf := ft_J) (N := 7) rfl fi_J fy_J fo_J tw_117 tw_118 tw_43 rfl fz_J fw_J (by decide +kernel) rfl) ?_
  refine am_all.c (s_dup (by decide +kernel) rfl) ?_
  refine am_all.c (s_callI (host := "MailViews") (by decide) (ce_J_init hN) rfl rfl (Or.inr nw_4) tw_120 (by decide +kernel) rfl) ?_
  refine am_all.c (s_put (C := cn_V) (Tf := ft_V) (N := 6) (ty := .object "MailViews$Journal") rfl fi_V fy_V fo_V fn_V (by decide) tw_176 (Or.inr ⟨rfl, rfl, rfl⟩) (by decide +kernel) (Or.inr (Or.inr ⟨rfl, Or.inl ⟨_, rfl⟩⟩)) (by decide +kernel) rfl) ?_
  refine am_all.c (s_aload_n (kf := 0) (by decide +kernel) rfl rfl) ?_
  refine am_all.c (s_new (C := cn_C) (Tf := ft_C) (N := 7) rfl fi_C fy_C fo_C tw_145 tw_146 tw_44 rfl fz_C fw_C (by decide +kernel) rfl) ?_
  refine am_all.c (s_dup (by decide +kernel) rfl) ?_
  refine am_all.c (s_callI (host := "MailViews") (by decide) (ce_C_init hN) rfl rfl (Or.inr nw_5) tw_148 (by decide +kernel) rfl) ?_
  refine am_all.c (s_put (C := cn_V) (Tf := ft_V) (N := 6) (ty := .object "MailViews$Criterion") rfl fi_V fy_V fo_V fn_V (by decide) tw_177 (Or.inr ⟨rfl, rfl, rfl⟩) (by decide +kernel) (Or.inr (Or.inr ⟨rfl, Or.inl ⟨_, rfl⟩⟩)) (by decide +kernel) rfl) ?_
  refine am_all.c (s_aload_n (kf := 0) (by decide +kernel) rfl rfl) ?_
  refine am_all.c (s_bipush (by decide +kernel) (by decide +kernel) (by decide) rfl) ?_
  refine am_all.c (s_newa (at0 := .int) rfl rfl (Or.inl rfl) tw_81 (by decide +kernel) rfl) ?_
  refine am_all.c (s_put (C := cn_V) (Tf := ft_V) (N := 6) (ty := .array .int) rfl fi_V fy_V fo_V fn_V (by decide) tw_178 (Or.inr ⟨rfl, rfl, rfl⟩) (by decide +kernel) (Or.inr (Or.inr ⟨rfl, Or.inr ⟨_, rfl⟩⟩)) (by decide +kernel) rfl) ?_
  refine am_all.c (s_aload_n (kf := 0) (by decide +kernel) rfl rfl) ?_
  refine am_all.c (s_iconst (by decide +kernel) (by decide) rfl) ?_
  refine am_all.c (s_put (C := cn_V) (Tf := ft_V) (N := 6) (ty := .int) rfl fi_V fy_V fo_V fn_V (by decide) tw_179 (Or.inl rfl) (by decide +kernel) (Or.inl ⟨rfl, rfl⟩) (by decide +kernel) rfl) ?_
  refine am_all.c (s_vret (by decide +kernel) rfl) ?_
  exact trivial
set_option maxRecDepth 20000 in
theorem ga_V_append {D : va_G} {dA : Nat → ClassId} {h b L : Nat} {xs : Nat → Int32} (hN : am_nN (am_En D dA h b L xs)) : am_all (am_En D dA h b L xs) mv_tb mv_P tV_append kV_append := by
  unfold kV_append
  refine am_all.c (s_iload_n (kf := 1) (by decide +kernel) rfl rfl) ?_
  refine am_all.c (s_callS (by decide) (ce_V_isMailbox hN) tw_197 tw_198 (by decide +kernel) rfl) ?_
  refine am_all.c (s_if_eq (off := 22) (by decide +kernel) (by decide) rfl) ?_
  refine am_all.c (s_iload_n (kf := 2) (by decide +kernel) rfl rfl) ?_
  refine am_all.c (s_callS (by decide) (ce_V_areFlags hN) tw_200 tw_201 (by decide +kernel) rfl) ?_
  refine am_all.c (s_if_eq (off := 15) (by decide +kernel) (by decide) rfl) ?_
  refine am_all.c (s_iload_n (kf := 3) (by decide +kernel) rfl rfl) ?_
  refine am_all.c (s_iconst (by decide +kernel) (by decide) rfl) ?_
  refine am_all.c (s_icmp_lt (off := 10) (by decide +kernel) (by decide) rfl) ?_
  refine am_all.c (s_iload_n (kf := 3) (by decide +kernel) rfl rfl) ?_
  refine am_all.c (s_sipush (by decide +kernel) (by decide +kernel) (by decide) rfl) ?_
  refine am_all.c (s_icmp_le (off := 5) (by decide +kernel) (by decide) rfl) ?_
  refine am_all.c (s_iconst (by decide +kernel) (by decide) rfl) ?_
  refine am_all.c (s_iret (by decide +kernel) rfl) ?_
  refine am_all.c (s_aload_n (kf := 0) (by decide +kernel) rfl rfl) ?_
  refine am_all.c (s_iload_n (kf := 1) (by decide +kernel) rfl rfl) ?_
  refine am_all.c (s_iload_n (kf := 2) (by decide +kernel) rfl rfl) ?_
  refine am_all.c (s_iload_n (kf := 3) (by decide +kernel) rfl rfl) ?_
  refine am_all.c (s_callV (q := (cn_V, ft_V, 6)) (by decide) (ce_V_add hN) rfl rfl tw_203 tw_205 tw_0 (by decide +kernel) rfl) ?_
  refine am_all.c (s_iret (by decide +kernel) rfl) ?_
  exact trivial
set_option maxRecDepth 20000 in
theorem ga_V_select {D : va_G} {dA : Nat → ClassId} {h b L : Nat} {xs : Nat → Int32} (hN : am_nN (am_En D dA h b L xs)) : am_all (am_En D dA h b L xs) mv_tb mv_P tV_select kV_select := by
  unfold kV_select
  refine am_all.c (s_iload_n (kf := 1) (by decide +kernel) rfl rfl) ?_
  refine am_all.c (s_callS (by decide) (ce_V_isSession hN) tw_240 tw_241 (by decide +kernel) rfl) ?_
  refine am_all.c (s_if_eq (off := 10) (by decide +kernel) (by decide) rfl) ?_
  refine am_all.c (s_iload_n (kf := 2) (by decide +kernel) rfl rfl) ?_
  refine am_all.c (s_callS (by decide) (ce_V_isMailbox hN) tw_197 tw_198 (by decide +kernel) rfl) ?_
  refine am_all.c (s_if_ne (off := 5) (by decide +kernel) (by decide) rfl) ?_
  refine am_all.c (s_iconst (by decide +kernel) (by decide) rfl) ?_
  refine am_all.c (s_iret (by decide +kernel) rfl) ?_
  refine am_all.c (s_aload_n (kf := 0) (by decide +kernel) rfl rfl) ?_
  refine am_all.c (s_get (C := cn_V) (Tf := ft_V) (N := 6) rfl fi_V (by decide) tw_175 (by decide +kernel) rfl) ?_
  refine am_all.c (s_iload_n (kf := 1) (by decide +kernel) rfl rfl) ?_
  refine am_all.c (s_aald rfl (by decide +kernel) rfl) ?_
  refine am_all.c (s_iload_n (kf := 2) (by decide +kernel) rfl rfl) ?_
  refine am_all.c (s_iload_n (kf := 3) (by decide +kernel) rfl rfl) ?_
  refine am_all.c (s_aload_n (kf := 0) (by decide +kernel) rfl rfl) ?_
  refine am_all.c (s_get (C := cn_V) (Tf := ft_V) (N := 6) rfl fi_V (by decide) tw_174 (by decide +kernel) rfl) ?_
  refine am_all.c (s_iload_n (kf := 2) (by decide +kernel) rfl rfl) ?_
  refine am_all.c (s_aald rfl (by decide +kernel) rfl) ?_
  refine am_all.c (s_callV (q := (cn_S, ft_S, 9)) (by decide) (ce_S_open hN) rfl rfl tw_243 tw_244 tw_245 (by decide +kernel) rfl) ?_
  refine am_all.c (s_aload_n (kf := 0) (by decide +kernel) rfl rfl) ?_
  refine am_all.c (s_get (C := cn_V) (Tf := ft_V) (N := 6) rfl fi_V (by decide) tw_175 (by decide +kernel) rfl) ?_
  refine am_all.c (s_iload_n (kf := 1) (by decide +kernel) rfl rfl) ?_
  refine am_all.c (s_aald rfl (by decide +kernel) rfl) ?_
  refine am_all.c (s_callV (q := (cn_S, ft_S, 9)) (by decide) (ce_S_viewLength hN) rfl rfl tw_263 tw_264 tw_265 (by decide +kernel) rfl) ?_
  refine am_all.c (s_iret (by decide +kernel) rfl) ?_
  exact trivial
set_option maxRecDepth 20000 in
theorem ga_V_close {D : va_G} {dA : Nat → ClassId} {h b L : Nat} {xs : Nat → Int32} (hN : am_nN (am_En D dA h b L xs)) : am_all (am_En D dA h b L xs) mv_tb mv_P tV_close kV_close := by
  unfold kV_close
  refine am_all.c (s_aload_n (kf := 0) (by decide +kernel) rfl rfl) ?_
  refine am_all.c (s_iload_n (kf := 1) (by decide +kernel) rfl rfl) ?_
  refine am_all.c (s_callV (q := (cn_V, ft_V, 6)) (by decide) (ce_V_hasMailbox hN) rfl rfl tw_271 tw_273 tw_4 (by decide +kernel) rfl) ?_
  refine am_all.c (s_if_ne (off := 5) (by decide +kernel) (by decide) rfl) ?_
  refine am_all.c (s_iconst (by decide +kernel) (by decide) rfl) ?_
  refine am_all.c (s_iret (by decide +kernel) rfl) ?_
  refine am_all.c (s_aload_n (kf := 0) (by decide +kernel) rfl rfl) ?_
  refine am_all.c (s_get (C := cn_V) (Tf := ft_V) (N := 6) rfl fi_V (by decide) tw_175 (by decide +kernel) rfl) ?_
  refine am_all.c (s_iload_n (kf := 1) (by decide +kernel) rfl rfl) ?_
  refine am_all.c (s_aald rfl (by decide +kernel) rfl) ?_
  refine am_all.c (s_astore_n (kf := 2) (by decide +kernel) rfl rfl) ?_
  refine am_all.c (s_aload_n (kf := 2) (by decide +kernel) rfl rfl) ?_
  refine am_all.c (s_callV (q := (cn_S, ft_S, 9)) (by decide) (ce_S_isReadOnly hN) rfl rfl tw_279 tw_280 tw_281 (by decide +kernel) rfl) ?_
  refine am_all.c (s_if_eq (off := 7) (by decide +kernel) (by decide) rfl) ?_
  refine am_all.c (s_iconst (by decide +kernel) (by decide) rfl) ?_
  refine am_all.c (s_goto (off := 11) (by decide +kernel) (by decide)) ?_
  refine am_all.c (s_aload_n (kf := 0) (by decide +kernel) rfl rfl) ?_
  refine am_all.c (s_aload_n (kf := 2) (by decide +kernel) rfl rfl) ?_
  refine am_all.c (s_callV (q := (cn_S, ft_S, 9)) (by decide) (ce_S_mailboxNumber hN) rfl rfl tw_275 tw_276 tw_277 (by decide +kernel) rfl) ?_
  refine am_all.c (s_callV (q := (cn_V, ft_V, 6)) (by decide) (ce_V_removeDeleted hN) rfl rfl tw_283 tw_285 tw_5 (by decide +kernel) rfl) ?_
  refine am_all.c (s_istore_n (kf := 3) (by decide +kernel) rfl rfl) ?_
  refine am_all.c (s_aload_n (kf := 2) (by decide +kernel) rfl rfl) ?_
  refine am_all.c (s_callV (q := (cn_S, ft_S, 9)) (by decide) (ce_S_leave hN) rfl rfl tw_302 tw_303 tw_304 (by decide +kernel) rfl) ?_
  refine am_all.c (s_iload_n (kf := 3) (by decide +kernel) rfl rfl) ?_
  refine am_all.c (s_iret (by decide +kernel) rfl) ?_
  exact trivial
set_option maxRecDepth 20000 in
theorem ga_V_check {D : va_G} {dA : Nat → ClassId} {h b L : Nat} {xs : Nat → Int32} (hN : am_nN (am_En D dA h b L xs)) : am_all (am_En D dA h b L xs) mv_tb mv_P tV_check kV_check := by
  unfold kV_check
  refine am_all.c (s_aload_n (kf := 0) (by decide +kernel) rfl rfl) ?_
  refine am_all.c (s_iload_n (kf := 1) (by decide +kernel) rfl rfl) ?_
  refine am_all.c (s_callV (q := (cn_V, ft_V, 6)) (by decide) (ce_V_hasMailbox hN) rfl rfl tw_271 tw_273 tw_4 (by decide +kernel) rfl) ?_
  refine am_all.c (s_if_ne (off := 5) (by decide +kernel) (by decide) rfl) ?_
  refine am_all.c (s_iconst (by decide +kernel) (by decide) rfl) ?_
  refine am_all.c (s_iret (by decide +kernel) rfl) ?_
  refine am_all.c (s_aload_n (kf := 0) (by decide +kernel) rfl rfl) ?_
  refine am_all.c (s_iload_n (kf := 1) (by decide +kernel) rfl rfl) ?_
  refine am_all.c (s_iconst (by decide +kernel) (by decide) rfl) ?_
  refine am_all.c (s_callV (q := (cn_V, ft_V, 6)) (by decide) (ce_V_update hN) rfl rfl tw_310 tw_312 tw_6 (by decide +kernel) rfl) ?_
  refine am_all.c (s_aload_n (kf := 0) (by decide +kernel) rfl rfl) ?_
  refine am_all.c (s_get (C := cn_V) (Tf := ft_V) (N := 6) rfl fi_V (by decide) tw_175 (by decide +kernel) rfl) ?_
  refine am_all.c (s_iload_n (kf := 1) (by decide +kernel) rfl rfl) ?_
  refine am_all.c (s_aald rfl (by decide +kernel) rfl) ?_
  refine am_all.c (s_callV (q := (cn_S, ft_S, 9)) (by decide) (ce_S_noticeCount hN) rfl rfl tw_350 tw_351 tw_352 (by decide +kernel) rfl) ?_
  refine am_all.c (s_iret (by decide +kernel) rfl) ?_
  exact trivial
set_option maxRecDepth 20000 in
theorem ga_V_fetch {D : va_G} {dA : Nat → ClassId} {h b L : Nat} {xs : Nat → Int32} (hN : am_nN (am_En D dA h b L xs)) : am_all (am_En D dA h b L xs) mv_tb mv_P tV_fetch kV_fetch := by
  unfold kV_fetch
  refine am_all.c (s_aload_n (kf := 0) (by decide +kernel) rfl rfl) ?_
  refine am_all.c (s_iload_n (kf := 1) (by decide +kernel) rfl rfl) ?_
  refine am_all.c (s_iload_n (kf := 2) (by decide +kernel) rfl rfl) ?_
  refine am_all.c (s_callV (q := (cn_V, ft_V, 6)) (by decide) (ce_V_isInView hN) rfl rfl tw_358 tw_360 tw_11 (by decide +kernel) rfl) ?_
  refine am_all.c (s_if_ne (off := 5) (by decide +kernel) (by decide) rfl) ?_
  refine am_all.c (s_iconst (by decide +kernel) (by decide) rfl) ?_
  refine am_all.c (s_iret (by decide +kernel) rfl) ?_
  refine am_all.c (s_aload_n (kf := 0) (by decide +kernel) rfl rfl) ?_
  refine am_all.c (s_iload_n (kf := 1) (by decide +kernel) rfl rfl) ?_
  refine am_all.c (s_callV (q := (cn_V, ft_V, 6)) (by decide) (ce_V_mailboxOf hN) rfl rfl tw_314 tw_316 tw_7 (by decide +kernel) rfl) ?_
  refine am_all.c (s_astore_n (kf := 3) (by decide +kernel) rfl rfl) ?_
  refine am_all.c (s_aload_n (kf := 3) (by decide +kernel) rfl rfl) ?_
  refine am_all.c (s_aload_n (kf := 0) (by decide +kernel) rfl rfl) ?_
  refine am_all.c (s_get (C := cn_V) (Tf := ft_V) (N := 6) rfl fi_V (by decide) tw_175 (by decide +kernel) rfl) ?_
  refine am_all.c (s_iload_n (kf := 1) (by decide +kernel) rfl rfl) ?_
  refine am_all.c (s_aald rfl (by decide +kernel) rfl) ?_
  refine am_all.c (s_iload_n (kf := 2) (by decide +kernel) rfl rfl) ?_
  refine am_all.c (s_callV (q := (cn_S, ft_S, 9)) (by decide) (ce_S_uidOf hN) rfl rfl tw_362 tw_339 tw_340 (by decide +kernel) rfl) ?_
  refine am_all.c (s_callV (q := (cn_B, ft_B, 6)) (by decide) (ce_B_positionOf hN) rfl rfl tw_363 tw_327 tw_328 (by decide +kernel) rfl) ?_
  refine am_all.c (s_istore (by decide +kernel) rfl) ?_
  refine am_all.c (s_iload (by decide +kernel) rfl) ?_
  refine am_all.c (s_iconst (by decide +kernel) (by decide) rfl) ?_
  refine am_all.c (s_icmp_ne (off := 6) (by decide +kernel) (by decide) rfl) ?_
  refine am_all.c (s_bipush (by decide +kernel) (by decide +kernel) (by decide) rfl) ?_
  refine am_all.c (s_iret (by decide +kernel) rfl) ?_
  refine am_all.c (s_aload_n (kf := 0) (by decide +kernel) rfl rfl) ?_
  refine am_all.c (s_get (C := cn_V) (Tf := ft_V) (N := 6) rfl fi_V (by decide) tw_175 (by decide +kernel) rfl) ?_
  refine am_all.c (s_iload_n (kf := 1) (by decide +kernel) rfl rfl) ?_
  refine am_all.c (s_aald rfl (by decide +kernel) rfl) ?_
  refine am_all.c (s_iload_n (kf := 2) (by decide +kernel) rfl rfl) ?_
  refine am_all.c (s_aload_n (kf := 3) (by decide +kernel) rfl rfl) ?_
  refine am_all.c (s_iload (by decide +kernel) rfl) ?_
  refine am_all.c (s_callV (q := (cn_B, ft_B, 6)) (by decide) (ce_B_flagsAt hN) rfl rfl tw_288 tw_260 tw_261 (by decide +kernel) rfl) ?_
  refine am_all.c (s_callV (q := (cn_S, ft_S, 9)) (by decide) (ce_S_know hN) rfl rfl tw_364 tw_347 tw_348 (by decide +kernel) rfl) ?_
  refine am_all.c (s_aload_n (kf := 3) (by decide +kernel) rfl rfl) ?_
  refine am_all.c (s_iload (by decide +kernel) rfl) ?_
  refine am_all.c (s_callV (q := (cn_B, ft_B, 6)) (by decide) (ce_B_flagsAt hN) rfl rfl tw_288 tw_260 tw_261 (by decide +kernel) rfl) ?_
  refine am_all.c (s_iret (by decide +kernel) rfl) ?_
  exact trivial
set_option maxRecDepth 20000 in
theorem ga_V_store {D : va_G} {dA : Nat → ClassId} {h b L : Nat} {xs : Nat → Int32} (hN : am_nN (am_En D dA h b L xs)) : am_all (am_En D dA h b L xs) mv_tb mv_P tV_store kV_store := by
  unfold kV_store
  refine am_all.c (s_iload_n (kf := 3) (by decide +kernel) rfl rfl) ?_
  refine am_all.c (s_if_lt (off := 25) (by decide +kernel) (by decide) rfl) ?_
  refine am_all.c (s_iload_n (kf := 3) (by decide +kernel) rfl rfl) ?_
  refine am_all.c (s_iconst (by decide +kernel) (by decide) rfl) ?_
  refine am_all.c (s_icmp_gt (off := 20) (by decide +kernel) (by decide) rfl) ?_
  refine am_all.c (s_iload (by decide +kernel) rfl) ?_
  refine am_all.c (s_callS (by decide) (ce_V_areFlags hN) tw_200 tw_201 (by decide +kernel) rfl) ?_
  refine am_all.c (s_if_eq (off := 12) (by decide +kernel) (by decide) rfl) ?_
  refine am_all.c (s_aload_n (kf := 0) (by decide +kernel) rfl rfl) ?_
  refine am_all.c (s_iload_n (kf := 1) (by decide +kernel) rfl rfl) ?_
  refine am_all.c (s_iload_n (kf := 2) (by decide +kernel) rfl rfl) ?_
  refine am_all.c (s_callV (q := (cn_V, ft_V, 6)) (by decide) (ce_V_isInView hN) rfl rfl tw_358 tw_360 tw_11 (by decide +kernel) rfl) ?_
  refine am_all.c (s_if_ne (off := 5) (by decide +kernel) (by decide) rfl) ?_
  refine am_all.c (s_iconst (by decide +kernel) (by decide) rfl) ?_
  refine am_all.c (s_iret (by decide +kernel) rfl) ?_
  refine am_all.c (s_aload_n (kf := 0) (by decide +kernel) rfl rfl) ?_
  refine am_all.c (s_get (C := cn_V) (Tf := ft_V) (N := 6) rfl fi_V (by decide) tw_175 (by decide +kernel) rfl) ?_
  refine am_all.c (s_iload_n (kf := 1) (by decide +kernel) rfl rfl) ?_
  refine am_all.c (s_aald rfl (by decide +kernel) rfl) ?_
  refine am_all.c (s_callV (q := (cn_S, ft_S, 9)) (by decide) (ce_S_isReadOnly hN) rfl rfl tw_279 tw_280 tw_281 (by decide +kernel) rfl) ?_
  refine am_all.c (s_if_eq (off := 6) (by decide +kernel) (by decide) rfl) ?_
  refine am_all.c (s_bipush (by decide +kernel) (by decide +kernel) (by decide) rfl) ?_
  refine am_all.c (s_iret (by decide +kernel) rfl) ?_
  refine am_all.c (s_aload_n (kf := 0) (by decide +kernel) rfl rfl) ?_
  refine am_all.c (s_iload_n (kf := 1) (by decide +kernel) rfl rfl) ?_
  refine am_all.c (s_callV (q := (cn_V, ft_V, 6)) (by decide) (ce_V_mailboxOf hN) rfl rfl tw_314 tw_316 tw_7 (by decide +kernel) rfl) ?_
  refine am_all.c (s_astore (by decide +kernel) rfl) ?_
  refine am_all.c (s_aload_n (kf := 0) (by decide +kernel) rfl rfl) ?_
  refine am_all.c (s_get (C := cn_V) (Tf := ft_V) (N := 6) rfl fi_V (by decide) tw_175 (by decide +kernel) rfl) ?_
  refine am_all.c (s_iload_n (kf := 1) (by decide +kernel) rfl rfl) ?_
  refine am_all.c (s_aald rfl (by decide +kernel) rfl) ?_
  refine am_all.c (s_iload_n (kf := 2) (by decide +kernel) rfl rfl) ?_
  refine am_all.c (s_callV (q := (cn_S, ft_S, 9)) (by decide) (ce_S_uidOf hN) rfl rfl tw_362 tw_339 tw_340 (by decide +kernel) rfl) ?_
  refine am_all.c (s_istore (by decide +kernel) rfl) ?_
  refine am_all.c (s_aload (by decide +kernel) rfl) ?_
  refine am_all.c (s_iload (by decide +kernel) rfl) ?_
  refine am_all.c (s_callV (q := (cn_B, ft_B, 6)) (by decide) (ce_B_positionOf hN) rfl rfl tw_363 tw_327 tw_328 (by decide +kernel) rfl) ?_
  refine am_all.c (s_istore (by decide +kernel) rfl) ?_
  refine am_all.c (s_iload (by decide +kernel) rfl) ?_
  refine am_all.c (s_iconst (by decide +kernel) (by decide) rfl) ?_
  refine am_all.c (s_icmp_ne (off := 6) (by decide +kernel) (by decide) rfl) ?_
  refine am_all.c (s_bipush (by decide +kernel) (by decide +kernel) (by decide) rfl) ?_
  refine am_all.c (s_iret (by decide +kernel) rfl) ?_
  refine am_all.c (s_aload (by decide +kernel) rfl) ?_
  refine am_all.c (s_iload (by decide +kernel) rfl) ?_
  refine am_all.c (s_callV (q := (cn_B, ft_B, 6)) (by decide) (ce_B_flagsAt hN) rfl rfl tw_288 tw_260 tw_261 (by decide +kernel) rfl) ?_
  refine am_all.c (s_istore (by decide +kernel) rfl) ?_
  refine am_all.c (s_iload (by decide +kernel) rfl) ?_
  refine am_all.c (s_iload_n (kf := 3) (by decide +kernel) rfl rfl) ?_
  refine am_all.c (s_iload (by decide +kernel) rfl) ?_
  refine am_all.c (s_callS (by decide) (ce_V_changedFlags hN) tw_369 tw_370 (by decide +kernel) rfl) ?_
  refine am_all.c (s_istore (by decide +kernel) rfl) ?_
  refine am_all.c (s_aload (by decide +kernel) rfl) ?_
  refine am_all.c (s_iload (by decide +kernel) rfl) ?_
  refine am_all.c (s_iload (by decide +kernel) rfl) ?_
  refine am_all.c (s_callV (q := (cn_B, ft_B, 6)) (by decide) (ce_B_setFlagsAt hN) rfl rfl tw_372 tw_373 tw_374 (by decide +kernel) rfl) ?_
  refine am_all.c (s_aload_n (kf := 0) (by decide +kernel) rfl rfl) ?_
  refine am_all.c (s_get (C := cn_V) (Tf := ft_V) (N := 6) rfl fi_V (by decide) tw_176 (by decide +kernel) rfl) ?_
  refine am_all.c (s_aload_n (kf := 0) (by decide +kernel) rfl rfl) ?_
  refine am_all.c (s_get (C := cn_V) (Tf := ft_V) (N := 6) rfl fi_V (by decide) tw_175 (by decide +kernel) rfl) ?_
  refine am_all.c (s_iload_n (kf := 1) (by decide +kernel) rfl rfl) ?_
  refine am_all.c (s_aald rfl (by decide +kernel) rfl) ?_
  refine am_all.c (s_callV (q := (cn_S, ft_S, 9)) (by decide) (ce_S_mailboxNumber hN) rfl rfl tw_275 tw_276 tw_277 (by decide +kernel) rfl) ?_
  refine am_all.c (s_iload (by decide +kernel) rfl) ?_
  refine am_all.c (s_iload (by decide +kernel) rfl) ?_
  refine am_all.c (s_callV (q := (cn_J, ft_J, 7)) (by decide) (ce_J_noteFlagsSet hN) rfl rfl tw_376 tw_377 tw_378 (by decide +kernel) rfl) ?_
  refine am_all.c (s_aload_n (kf := 0) (by decide +kernel) rfl rfl) ?_
  refine am_all.c (s_get (C := cn_V) (Tf := ft_V) (N := 6) rfl fi_V (by decide) tw_175 (by decide +kernel) rfl) ?_
  refine am_all.c (s_iload_n (kf := 1) (by decide +kernel) rfl rfl) ?_
  refine am_all.c (s_aald rfl (by decide +kernel) rfl) ?_
  refine am_all.c (s_iload_n (kf := 2) (by decide +kernel) rfl rfl) ?_
  refine am_all.c (s_iload (by decide +kernel) rfl) ?_
  refine am_all.c (s_callV (q := (cn_S, ft_S, 9)) (by decide) (ce_S_know hN) rfl rfl tw_364 tw_347 tw_348 (by decide +kernel) rfl) ?_
  refine am_all.c (s_aload_n (kf := 0) (by decide +kernel) rfl rfl) ?_
  refine am_all.c (s_iload_n (kf := 1) (by decide +kernel) rfl rfl) ?_
  refine am_all.c (s_iconst (by decide +kernel) (by decide) rfl) ?_
  refine am_all.c (s_callV (q := (cn_V, ft_V, 6)) (by decide) (ce_V_update hN) rfl rfl tw_310 tw_312 tw_6 (by decide +kernel) rfl) ?_
  refine am_all.c (s_iload (by decide +kernel) rfl) ?_
  refine am_all.c (s_iret (by decide +kernel) rfl) ?_
  exact trivial
set_option maxRecDepth 20000 in
theorem ga_V_expunge {D : va_G} {dA : Nat → ClassId} {h b L : Nat} {xs : Nat → Int32} (hN : am_nN (am_En D dA h b L xs)) : am_all (am_En D dA h b L xs) mv_tb mv_P tV_expunge kV_expunge := by
  unfold kV_expunge
  refine am_all.c (s_aload_n (kf := 0) (by decide +kernel) rfl rfl) ?_
  refine am_all.c (s_iload_n (kf := 1) (by decide +kernel) rfl rfl) ?_
  refine am_all.c (s_callV (q := (cn_V, ft_V, 6)) (by decide) (ce_V_hasMailbox hN) rfl rfl tw_271 tw_273 tw_4 (by decide +kernel) rfl) ?_
  refine am_all.c (s_if_ne (off := 5) (by decide +kernel) (by decide) rfl) ?_
  refine am_all.c (s_iconst (by decide +kernel) (by decide) rfl) ?_
  refine am_all.c (s_iret (by decide +kernel) rfl) ?_
  refine am_all.c (s_aload_n (kf := 0) (by decide +kernel) rfl rfl) ?_
  refine am_all.c (s_get (C := cn_V) (Tf := ft_V) (N := 6) rfl fi_V (by decide) tw_175 (by decide +kernel) rfl) ?_
  refine am_all.c (s_iload_n (kf := 1) (by decide +kernel) rfl rfl) ?_
  refine am_all.c (s_aald rfl (by decide +kernel) rfl) ?_
  refine am_all.c (s_callV (q := (cn_S, ft_S, 9)) (by decide) (ce_S_isReadOnly hN) rfl rfl tw_279 tw_280 tw_281 (by decide +kernel) rfl) ?_
  refine am_all.c (s_if_eq (off := 6) (by decide +kernel) (by decide) rfl) ?_
  refine am_all.c (s_bipush (by decide +kernel) (by decide +kernel) (by decide) rfl) ?_
  refine am_all.c (s_iret (by decide +kernel) rfl) ?_
  refine am_all.c (s_aload_n (kf := 0) (by decide +kernel) rfl rfl) ?_
  refine am_all.c (s_aload_n (kf := 0) (by decide +kernel) rfl rfl) ?_
  refine am_all.c (s_get (C := cn_V) (Tf := ft_V) (N := 6) rfl fi_V (by decide) tw_175 (by decide +kernel) rfl) ?_
  refine am_all.c (s_iload_n (kf := 1) (by decide +kernel) rfl rfl) ?_
  refine am_all.c (s_aald rfl (by decide +kernel) rfl) ?_
  refine am_all.c (s_callV (q := (cn_S, ft_S, 9)) (by decide) (ce_S_mailboxNumber hN) rfl rfl tw_275 tw_276 tw_277 (by decide +kernel) rfl) ?_
  refine am_all.c (s_callV (q := (cn_V, ft_V, 6)) (by decide) (ce_V_removeDeleted hN) rfl rfl tw_283 tw_285 tw_5 (by decide +kernel) rfl) ?_
  refine am_all.c (s_istore_n (kf := 2) (by decide +kernel) rfl rfl) ?_
  refine am_all.c (s_aload_n (kf := 0) (by decide +kernel) rfl rfl) ?_
  refine am_all.c (s_iload_n (kf := 1) (by decide +kernel) rfl rfl) ?_
  refine am_all.c (s_iconst (by decide +kernel) (by decide) rfl) ?_
  refine am_all.c (s_callV (q := (cn_V, ft_V, 6)) (by decide) (ce_V_update hN) rfl rfl tw_310 tw_312 tw_6 (by decide +kernel) rfl) ?_
  refine am_all.c (s_iload_n (kf := 2) (by decide +kernel) rfl rfl) ?_
  refine am_all.c (s_iret (by decide +kernel) rfl) ?_
  exact trivial
set_option maxRecDepth 20000 in
theorem ga_V_copy {D : va_G} {dA : Nat → ClassId} {h b L : Nat} {xs : Nat → Int32} (hN : am_nN (am_En D dA h b L xs)) : am_all (am_En D dA h b L xs) mv_tb mv_P tV_copy kV_copy := by
  unfold kV_copy
  refine am_all.c (s_iload_n (kf := 3) (by decide +kernel) rfl rfl) ?_
  refine am_all.c (s_callS (by decide) (ce_V_isMailbox hN) tw_197 tw_198 (by decide +kernel) rfl) ?_
  refine am_all.c (s_if_eq (off := 12) (by decide +kernel) (by decide) rfl) ?_
  refine am_all.c (s_aload_n (kf := 0) (by decide +kernel) rfl rfl) ?_
  refine am_all.c (s_iload_n (kf := 1) (by decide +kernel) rfl rfl) ?_
  refine am_all.c (s_iload_n (kf := 2) (by decide +kernel) rfl rfl) ?_
  refine am_all.c (s_callV (q := (cn_V, ft_V, 6)) (by decide) (ce_V_isInView hN) rfl rfl tw_358 tw_360 tw_11 (by decide +kernel) rfl) ?_
  refine am_all.c (s_if_ne (off := 5) (by decide +kernel) (by decide) rfl) ?_
  refine am_all.c (s_iconst (by decide +kernel) (by decide) rfl) ?_
  refine am_all.c (s_iret (by decide +kernel) rfl) ?_
  refine am_all.c (s_aload_n (kf := 0) (by decide +kernel) rfl rfl) ?_
  refine am_all.c (s_iload_n (kf := 1) (by decide +kernel) rfl rfl) ?_
  refine am_all.c (s_callV (q := (cn_V, ft_V, 6)) (by decide) (ce_V_mailboxOf hN) rfl rfl tw_314 tw_316 tw_7 (by decide +kernel) rfl) ?_
  refine am_all.c (s_astore (by decide +kernel) rfl) ?_
  refine am_all.c (s_aload (by decide +kernel) rfl) ?_
  refine am_all.c (s_aload_n (kf := 0) (by decide +kernel) rfl rfl) ?_
  refine am_all.c (s_get (C := cn_V) (Tf := ft_V) (N := 6) rfl fi_V (by decide) tw_175 (by decide +kernel) rfl) ?_
  refine am_all.c (s_iload_n (kf := 1) (by decide +kernel) rfl rfl) ?_
  refine am_all.c (s_aald rfl (by decide +kernel) rfl) ?_
  refine am_all.c (s_iload_n (kf := 2) (by decide +kernel) rfl rfl) ?_
  refine am_all.c (s_callV (q := (cn_S, ft_S, 9)) (by decide) (ce_S_uidOf hN) rfl rfl tw_362 tw_339 tw_340 (by decide +kernel) rfl) ?_
  refine am_all.c (s_callV (q := (cn_B, ft_B, 6)) (by decide) (ce_B_positionOf hN) rfl rfl tw_363 tw_327 tw_328 (by decide +kernel) rfl) ?_
  refine am_all.c (s_istore (by decide +kernel) rfl) ?_
  refine am_all.c (s_iload (by decide +kernel) rfl) ?_
  refine am_all.c (s_iconst (by decide +kernel) (by decide) rfl) ?_
  refine am_all.c (s_icmp_ne (off := 6) (by decide +kernel) (by decide) rfl) ?_
  refine am_all.c (s_bipush (by decide +kernel) (by decide +kernel) (by decide) rfl) ?_
  refine am_all.c (s_iret (by decide +kernel) rfl) ?_
  refine am_all.c (s_aload_n (kf := 0) (by decide +kernel) rfl rfl) ?_
  refine am_all.c (s_iload_n (kf := 3) (by decide +kernel) rfl rfl) ?_
  refine am_all.c (s_aload (by decide +kernel) rfl) ?_
  refine am_all.c (s_iload (by decide +kernel) rfl) ?_
  refine am_all.c (s_callV (q := (cn_B, ft_B, 6)) (by decide) (ce_B_flagsAt hN) rfl rfl tw_288 tw_260 tw_261 (by decide +kernel) rfl) ?_
  refine am_all.c (s_aload (by decide +kernel) rfl) ?_
  refine am_all.c (s_iload (by decide +kernel) rfl) ?_
  refine am_all.c (s_callV (q := (cn_B, ft_B, 6)) (by decide) (ce_B_sizeAt hN) rfl rfl tw_290 tw_291 tw_292 (by decide +kernel) rfl) ?_
  refine am_all.c (s_callV (q := (cn_V, ft_V, 6)) (by decide) (ce_V_add hN) rfl rfl tw_203 tw_205 tw_0 (by decide +kernel) rfl) ?_
  refine am_all.c (s_istore (by decide +kernel) rfl) ?_
  refine am_all.c (s_iload (by decide +kernel) rfl) ?_
  refine am_all.c (s_bipush (by decide +kernel) (by decide +kernel) (by decide) rfl) ?_
  refine am_all.c (s_icmp_ne (off := 6) (by decide +kernel) (by decide) rfl) ?_
  refine am_all.c (s_bipush (by decide +kernel) (by decide +kernel) (by decide) rfl) ?_
  refine am_all.c (s_iret (by decide +kernel) rfl) ?_
  refine am_all.c (s_aload_n (kf := 0) (by decide +kernel) rfl rfl) ?_
  refine am_all.c (s_iload_n (kf := 1) (by decide +kernel) rfl rfl) ?_
  refine am_all.c (s_iconst (by decide +kernel) (by decide) rfl) ?_
  refine am_all.c (s_callV (q := (cn_V, ft_V, 6)) (by decide) (ce_V_update hN) rfl rfl tw_310 tw_312 tw_6 (by decide +kernel) rfl) ?_
  refine am_all.c (s_iload (by decide +kernel) rfl) ?_
  refine am_all.c (s_iret (by decide +kernel) rfl) ?_
  exact trivial
set_option maxRecDepth 20000 in
theorem ga_V_criterion {D : va_G} {dA : Nat → ClassId} {h b L : Nat} {xs : Nat → Int32} (hN : am_nN (am_En D dA h b L xs)) : am_all (am_En D dA h b L xs) mv_tb mv_P tV_criterion kV_criterion := by
  unfold kV_criterion
  refine am_all.c (s_iload_n (kf := 1) (by decide +kernel) rfl rfl) ?_
  refine am_all.c (s_callS (by decide) (ce_C_isOp hN) tw_392 tw_393 (by decide +kernel) rfl) ?_
  refine am_all.c (s_if_ne (off := 5) (by decide +kernel) (by decide) rfl) ?_
  refine am_all.c (s_iconst (by decide +kernel) (by decide) rfl) ?_
  refine am_all.c (s_iret (by decide +kernel) rfl) ?_
  refine am_all.c (s_aload_n (kf := 0) (by decide +kernel) rfl rfl) ?_
  refine am_all.c (s_get (C := cn_V) (Tf := ft_V) (N := 6) rfl fi_V (by decide) tw_177 (by decide +kernel) rfl) ?_
  refine am_all.c (s_callV (q := (cn_C, ft_C, 7)) (by decide) (ce_C_isFull hN) rfl rfl tw_395 tw_396 tw_397 (by decide +kernel) rfl) ?_
  refine am_all.c (s_if_eq (off := 6) (by decide +kernel) (by decide) rfl) ?_
  refine am_all.c (s_bipush (by decide +kernel) (by decide +kernel) (by decide) rfl) ?_
  refine am_all.c (s_iret (by decide +kernel) rfl) ?_
  refine am_all.c (s_aload_n (kf := 0) (by decide +kernel) rfl rfl) ?_
  refine am_all.c (s_get (C := cn_V) (Tf := ft_V) (N := 6) rfl fi_V (by decide) tw_177 (by decide +kernel) rfl) ?_
  refine am_all.c (s_iload_n (kf := 1) (by decide +kernel) rfl rfl) ?_
  refine am_all.c (s_iload_n (kf := 2) (by decide +kernel) rfl rfl) ?_
  refine am_all.c (s_iload_n (kf := 3) (by decide +kernel) rfl rfl) ?_
  refine am_all.c (s_callV (q := (cn_C, ft_C, 7)) (by decide) (ce_C_write hN) rfl rfl tw_399 tw_400 tw_401 (by decide +kernel) rfl) ?_
  refine am_all.c (s_aload_n (kf := 0) (by decide +kernel) rfl rfl) ?_
  refine am_all.c (s_get (C := cn_V) (Tf := ft_V) (N := 6) rfl fi_V (by decide) tw_177 (by decide +kernel) rfl) ?_
  refine am_all.c (s_callV (q := (cn_C, ft_C, 7)) (by decide) (ce_C_tokenCount hN) rfl rfl tw_403 tw_404 tw_405 (by decide +kernel) rfl) ?_
  refine am_all.c (s_iret (by decide +kernel) rfl) ?_
  exact trivial
set_option maxRecDepth 20000 in
theorem ga_V_search {D : va_G} {dA : Nat → ClassId} {h b L : Nat} {xs : Nat → Int32} (hN : am_nN (am_En D dA h b L xs)) : am_all (am_En D dA h b L xs) mv_tb mv_P tV_search kV_search := by
  unfold kV_search
  refine am_all.c (s_aload_n (kf := 0) (by decide +kernel) rfl rfl) ?_
  refine am_all.c (s_iload_n (kf := 1) (by decide +kernel) rfl rfl) ?_
  refine am_all.c (s_callV (q := (cn_V, ft_V, 6)) (by decide) (ce_V_hasMailbox hN) rfl rfl tw_271 tw_273 tw_4 (by decide +kernel) rfl) ?_
  refine am_all.c (s_if_ne (off := 5) (by decide +kernel) (by decide) rfl) ?_
  refine am_all.c (s_iconst (by decide +kernel) (by decide) rfl) ?_
  refine am_all.c (s_iret (by decide +kernel) rfl) ?_
  refine am_all.c (s_aload_n (kf := 0) (by decide +kernel) rfl rfl) ?_
  refine am_all.c (s_get (C := cn_V) (Tf := ft_V) (N := 6) rfl fi_V (by decide) tw_177 (by decide +kernel) rfl) ?_
  refine am_all.c (s_callV (q := (cn_C, ft_C, 7)) (by decide) (ce_C_isGood hN) rfl rfl tw_411 tw_412 tw_413 (by decide +kernel) rfl) ?_
  refine am_all.c (s_if_ne (off := 13) (by decide +kernel) (by decide) rfl) ?_
  refine am_all.c (s_aload_n (kf := 0) (by decide +kernel) rfl rfl) ?_
  refine am_all.c (s_get (C := cn_V) (Tf := ft_V) (N := 6) rfl fi_V (by decide) tw_177 (by decide +kernel) rfl) ?_
  refine am_all.c (s_callV (q := (cn_C, ft_C, 7)) (by decide) (ce_C_wipe hN) rfl rfl tw_430 tw_431 tw_432 (by decide +kernel) rfl) ?_
  refine am_all.c (s_bipush (by decide +kernel) (by decide +kernel) (by decide) rfl) ?_
  refine am_all.c (s_iret (by decide +kernel) rfl) ?_
  refine am_all.c (s_aload_n (kf := 0) (by decide +kernel) rfl rfl) ?_
  refine am_all.c (s_aload_n (kf := 0) (by decide +kernel) rfl rfl) ?_
  refine am_all.c (s_get (C := cn_V) (Tf := ft_V) (N := 6) rfl fi_V (by decide) tw_175 (by decide +kernel) rfl) ?_
  refine am_all.c (s_iload_n (kf := 1) (by decide +kernel) rfl rfl) ?_
  refine am_all.c (s_aald rfl (by decide +kernel) rfl) ?_
  refine am_all.c (s_aload_n (kf := 0) (by decide +kernel) rfl rfl) ?_
  refine am_all.c (s_iload_n (kf := 1) (by decide +kernel) rfl rfl) ?_
  refine am_all.c (s_callV (q := (cn_V, ft_V, 6)) (by decide) (ce_V_mailboxOf hN) rfl rfl tw_314 tw_316 tw_7 (by decide +kernel) rfl) ?_
  refine am_all.c (s_callV (q := (cn_V, ft_V, 6)) (by decide) (ce_V_findHits hN) rfl rfl tw_434 tw_436 tw_15 (by decide +kernel) rfl) ?_
  refine am_all.c (s_aload_n (kf := 0) (by decide +kernel) rfl rfl) ?_
  refine am_all.c (s_get (C := cn_V) (Tf := ft_V) (N := 6) rfl fi_V (by decide) tw_177 (by decide +kernel) rfl) ?_
  refine am_all.c (s_callV (q := (cn_C, ft_C, 7)) (by decide) (ce_C_wipe hN) rfl rfl tw_430 tw_431 tw_432 (by decide +kernel) rfl) ?_
  refine am_all.c (s_aload_n (kf := 0) (by decide +kernel) rfl rfl) ?_
  refine am_all.c (s_iload_n (kf := 1) (by decide +kernel) rfl rfl) ?_
  refine am_all.c (s_iconst (by decide +kernel) (by decide) rfl) ?_
  refine am_all.c (s_callV (q := (cn_V, ft_V, 6)) (by decide) (ce_V_update hN) rfl rfl tw_310 tw_312 tw_6 (by decide +kernel) rfl) ?_
  refine am_all.c (s_aload_n (kf := 0) (by decide +kernel) rfl rfl) ?_
  refine am_all.c (s_get (C := cn_V) (Tf := ft_V) (N := 6) rfl fi_V (by decide) tw_179 (by decide +kernel) rfl) ?_
  refine am_all.c (s_iret (by decide +kernel) rfl) ?_
  exact trivial
set_option maxRecDepth 20000 in
theorem ga_V_found {D : va_G} {dA : Nat → ClassId} {h b L : Nat} {xs : Nat → Int32} (hN : am_nN (am_En D dA h b L xs)) : am_all (am_En D dA h b L xs) mv_tb mv_P tV_found kV_found := by
  unfold kV_found
  refine am_all.c (s_iload_n (kf := 1) (by decide +kernel) rfl rfl) ?_
  refine am_all.c (s_if_lt (off := 20) (by decide +kernel) (by decide) rfl) ?_
  refine am_all.c (s_iload_n (kf := 1) (by decide +kernel) rfl rfl) ?_
  refine am_all.c (s_aload_n (kf := 0) (by decide +kernel) rfl rfl) ?_
  refine am_all.c (s_get (C := cn_V) (Tf := ft_V) (N := 6) rfl fi_V (by decide) tw_179 (by decide +kernel) rfl) ?_
  refine am_all.c (s_icmp_ge (off := 12) (by decide +kernel) (by decide) rfl) ?_
  refine am_all.c (s_aload_n (kf := 0) (by decide +kernel) rfl rfl) ?_
  refine am_all.c (s_get (C := cn_V) (Tf := ft_V) (N := 6) rfl fi_V (by decide) tw_178 (by decide +kernel) rfl) ?_
  refine am_all.c (s_iload_n (kf := 1) (by decide +kernel) rfl rfl) ?_
  refine am_all.c (s_iald rfl (by decide +kernel) rfl) ?_
  refine am_all.c (s_goto (off := 4) (by decide +kernel) (by decide)) ?_
  refine am_all.c (s_iconst (by decide +kernel) (by decide) rfl) ?_
  refine am_all.c (s_iret (by decide +kernel) rfl) ?_
  exact trivial
set_option maxRecDepth 20000 in
theorem ga_V_sync {D : va_G} {dA : Nat → ClassId} {h b L : Nat} {xs : Nat → Int32} (hN : am_nN (am_En D dA h b L xs)) : am_all (am_En D dA h b L xs) mv_tb mv_P tV_sync kV_sync := by
  unfold kV_sync
  refine am_all.c (s_aload_n (kf := 0) (by decide +kernel) rfl rfl) ?_
  refine am_all.c (s_get (C := cn_V) (Tf := ft_V) (N := 6) rfl fi_V (by decide) tw_176 (by decide +kernel) rfl) ?_
  refine am_all.c (s_callV (q := (cn_J, ft_J, 7)) (by decide) (ce_J_makeAllDurable hN) rfl rfl tw_465 tw_233 tw_234 (by decide +kernel) rfl) ?_
  refine am_all.c (s_aload_n (kf := 0) (by decide +kernel) rfl rfl) ?_
  refine am_all.c (s_get (C := cn_V) (Tf := ft_V) (N := 6) rfl fi_V (by decide) tw_176 (by decide +kernel) rfl) ?_
  refine am_all.c (s_callV (q := (cn_J, ft_J, 7)) (by decide) (ce_J_changeCount hN) rfl rfl tw_466 tw_467 tw_468 (by decide +kernel) rfl) ?_
  refine am_all.c (s_iret (by decide +kernel) rfl) ?_
  exact trivial
set_option maxRecDepth 20000 in
theorem ga_V_crash {D : va_G} {dA : Nat → ClassId} {h b L : Nat} {xs : Nat → Int32} (hN : am_nN (am_En D dA h b L xs)) : am_all (am_En D dA h b L xs) mv_tb mv_P tV_crash kV_crash := by
  unfold kV_crash
  refine am_all.c (s_iconst (by decide +kernel) (by decide) rfl) ?_
  refine am_all.c (s_istore_n (kf := 1) (by decide +kernel) rfl rfl) ?_
  refine am_all.c (s_iload_n (kf := 1) (by decide +kernel) rfl rfl) ?_
  refine am_all.c (s_iconst (by decide +kernel) (by decide) rfl) ?_
  refine am_all.c (s_icmp_ge (off := 18) (by decide +kernel) (by decide) rfl) ?_
  refine am_all.c (s_aload_n (kf := 0) (by decide +kernel) rfl rfl) ?_
  refine am_all.c (s_get (C := cn_V) (Tf := ft_V) (N := 6) rfl fi_V (by decide) tw_175 (by decide +kernel) rfl) ?_
  refine am_all.c (s_iload_n (kf := 1) (by decide +kernel) rfl rfl) ?_
  refine am_all.c (s_aald rfl (by decide +kernel) rfl) ?_
  refine am_all.c (s_callV (q := (cn_S, ft_S, 9)) (by decide) (ce_S_leave hN) rfl rfl tw_302 tw_303 tw_304 (by decide +kernel) rfl) ?_
  refine am_all.c (s_iinc (by decide +kernel) rfl) ?_
  refine am_all.c (s_goto (off := -17) (by decide +kernel) (by decide)) ?_
  refine am_all.c (s_iconst (by decide +kernel) (by decide) rfl) ?_
  refine am_all.c (s_istore_n (kf := 1) (by decide +kernel) rfl rfl) ?_
  refine am_all.c (s_iload_n (kf := 1) (by decide +kernel) rfl rfl) ?_
  refine am_all.c (s_iconst (by decide +kernel) (by decide) rfl) ?_
  refine am_all.c (s_icmp_ge (off := 29) (by decide +kernel) (by decide) rfl) ?_
  refine am_all.c (s_aload_n (kf := 0) (by decide +kernel) rfl rfl) ?_
  refine am_all.c (s_get (C := cn_V) (Tf := ft_V) (N := 6) rfl fi_V (by decide) tw_176 (by decide +kernel) rfl) ?_
  refine am_all.c (s_iload_n (kf := 1) (by decide +kernel) rfl rfl) ?_
  refine am_all.c (s_callV (q := (cn_J, ft_J, 7)) (by decide) (ce_J_hasOpenAdditionTo hN) rfl rfl tw_474 tw_475 tw_476 (by decide +kernel) rfl) ?_
  refine am_all.c (s_if_eq (off := 12) (by decide +kernel) (by decide) rfl) ?_
  refine am_all.c (s_aload_n (kf := 0) (by decide +kernel) rfl rfl) ?_
  refine am_all.c (s_get (C := cn_V) (Tf := ft_V) (N := 6) rfl fi_V (by decide) tw_174 (by decide +kernel) rfl) ?_
  refine am_all.c (s_iload_n (kf := 1) (by decide +kernel) rfl rfl) ?_
  refine am_all.c (s_aald rfl (by decide +kernel) rfl) ?_
  refine am_all.c (s_callV (q := (cn_B, ft_B, 6)) (by decide) (ce_B_growValidity hN) rfl rfl tw_478 tw_479 tw_480 (by decide +kernel) rfl) ?_
  refine am_all.c (s_iinc (by decide +kernel) rfl) ?_
  refine am_all.c (s_goto (off := -28) (by decide +kernel) (by decide)) ?_
  refine am_all.c (s_aload_n (kf := 0) (by decide +kernel) rfl rfl) ?_
  refine am_all.c (s_get (C := cn_V) (Tf := ft_V) (N := 6) rfl fi_V (by decide) tw_176 (by decide +kernel) rfl) ?_
  refine am_all.c (s_aload_n (kf := 0) (by decide +kernel) rfl rfl) ?_
  refine am_all.c (s_get (C := cn_V) (Tf := ft_V) (N := 6) rfl fi_V (by decide) tw_174 (by decide +kernel) rfl) ?_
  refine am_all.c (s_callV (q := (cn_J, ft_J, 7)) (by decide) (ce_J_takeBackAll hN) rfl rfl tw_482 tw_483 tw_484 (by decide +kernel) rfl) ?_
  refine am_all.c (s_aload_n (kf := 0) (by decide +kernel) rfl rfl) ?_
  refine am_all.c (s_get (C := cn_V) (Tf := ft_V) (N := 6) rfl fi_V (by decide) tw_176 (by decide +kernel) rfl) ?_
  refine am_all.c (s_callV (q := (cn_J, ft_J, 7)) (by decide) (ce_J_changeCount hN) rfl rfl tw_466 tw_467 tw_468 (by decide +kernel) rfl) ?_
  refine am_all.c (s_iret (by decide +kernel) rfl) ?_
  exact trivial
set_option maxRecDepth 20000 in
theorem ga_V_message {D : va_G} {dA : Nat → ClassId} {h b L : Nat} {xs : Nat → Int32} (hN : am_nN (am_En D dA h b L xs)) : am_all (am_En D dA h b L xs) mv_tb mv_P tV_message kV_message := by
  unfold kV_message
  refine am_all.c (s_iload_n (kf := 1) (by decide +kernel) rfl rfl) ?_
  refine am_all.c (s_callS (by decide) (ce_V_isMailbox hN) tw_197 tw_198 (by decide +kernel) rfl) ?_
  refine am_all.c (s_if_eq (off := 20) (by decide +kernel) (by decide) rfl) ?_
  refine am_all.c (s_iload_n (kf := 2) (by decide +kernel) rfl rfl) ?_
  refine am_all.c (s_if_lt (off := 16) (by decide +kernel) (by decide) rfl) ?_
  refine am_all.c (s_iload_n (kf := 2) (by decide +kernel) rfl rfl) ?_
  refine am_all.c (s_aload_n (kf := 0) (by decide +kernel) rfl rfl) ?_
  refine am_all.c (s_get (C := cn_V) (Tf := ft_V) (N := 6) rfl fi_V (by decide) tw_174 (by decide +kernel) rfl) ?_
  refine am_all.c (s_iload_n (kf := 1) (by decide +kernel) rfl rfl) ?_
  refine am_all.c (s_aald rfl (by decide +kernel) rfl) ?_
  refine am_all.c (s_callV (q := (cn_B, ft_B, 6)) (by decide) (ce_B_messageCount hN) rfl rfl tw_287 tw_252 tw_253 (by decide +kernel) rfl) ?_
  refine am_all.c (s_icmp_lt (off := 5) (by decide +kernel) (by decide) rfl) ?_
  refine am_all.c (s_iconst (by decide +kernel) (by decide) rfl) ?_
  refine am_all.c (s_iret (by decide +kernel) rfl) ?_
  refine am_all.c (s_iload_n (kf := 3) (by decide +kernel) rfl rfl) ?_
  refine am_all.c (s_tsw (dflt := 58) (lo := 0) (hi := 2) (offs := #[25, 36, 47]) (len := 25) (by decide +kernel) (by decide) (by decide) (am_tsc (by decide))) ?_
  refine am_all.c (s_aload_n (kf := 0) (by decide +kernel) rfl rfl) ?_
  refine am_all.c (s_get (C := cn_V) (Tf := ft_V) (N := 6) rfl fi_V (by decide) tw_174 (by decide +kernel) rfl) ?_
  refine am_all.c (s_iload_n (kf := 1) (by decide +kernel) rfl rfl) ?_
  refine am_all.c (s_aald rfl (by decide +kernel) rfl) ?_
  refine am_all.c (s_iload_n (kf := 2) (by decide +kernel) rfl rfl) ?_
  refine am_all.c (s_callV (q := (cn_B, ft_B, 6)) (by decide) (ce_B_uidAt hN) rfl rfl tw_289 tw_256 tw_257 (by decide +kernel) rfl) ?_
  refine am_all.c (s_iret (by decide +kernel) rfl) ?_
  refine am_all.c (s_aload_n (kf := 0) (by decide +kernel) rfl rfl) ?_
  refine am_all.c (s_get (C := cn_V) (Tf := ft_V) (N := 6) rfl fi_V (by decide) tw_174 (by decide +kernel) rfl) ?_
  refine am_all.c (s_iload_n (kf := 1) (by decide +kernel) rfl rfl) ?_
  refine am_all.c (s_aald rfl (by decide +kernel) rfl) ?_
  refine am_all.c (s_iload_n (kf := 2) (by decide +kernel) rfl rfl) ?_
  refine am_all.c (s_callV (q := (cn_B, ft_B, 6)) (by decide) (ce_B_flagsAt hN) rfl rfl tw_288 tw_260 tw_261 (by decide +kernel) rfl) ?_
  refine am_all.c (s_iret (by decide +kernel) rfl) ?_
  refine am_all.c (s_aload_n (kf := 0) (by decide +kernel) rfl rfl) ?_
  refine am_all.c (s_get (C := cn_V) (Tf := ft_V) (N := 6) rfl fi_V (by decide) tw_174 (by decide +kernel) rfl) ?_
  refine am_all.c (s_iload_n (kf := 1) (by decide +kernel) rfl rfl) ?_
  refine am_all.c (s_aald rfl (by decide +kernel) rfl) ?_
  refine am_all.c (s_iload_n (kf := 2) (by decide +kernel) rfl rfl) ?_
  refine am_all.c (s_callV (q := (cn_B, ft_B, 6)) (by decide) (ce_B_sizeAt hN) rfl rfl tw_290 tw_291 tw_292 (by decide +kernel) rfl) ?_
  refine am_all.c (s_iret (by decide +kernel) rfl) ?_
  refine am_all.c (s_iconst (by decide +kernel) (by decide) rfl) ?_
  refine am_all.c (s_iret (by decide +kernel) rfl) ?_
  exact trivial
set_option maxRecDepth 20000 in
theorem ga_V_seen {D : va_G} {dA : Nat → ClassId} {h b L : Nat} {xs : Nat → Int32} (hN : am_nN (am_En D dA h b L xs)) : am_all (am_En D dA h b L xs) mv_tb mv_P tV_seen kV_seen := by
  unfold kV_seen
  refine am_all.c (s_aload_n (kf := 0) (by decide +kernel) rfl rfl) ?_
  refine am_all.c (s_iload_n (kf := 1) (by decide +kernel) rfl rfl) ?_
  refine am_all.c (s_iload_n (kf := 2) (by decide +kernel) rfl rfl) ?_
  refine am_all.c (s_callV (q := (cn_V, ft_V, 6)) (by decide) (ce_V_isInView hN) rfl rfl tw_358 tw_360 tw_11 (by decide +kernel) rfl) ?_
  refine am_all.c (s_if_ne (off := 5) (by decide +kernel) (by decide) rfl) ?_
  refine am_all.c (s_iconst (by decide +kernel) (by decide) rfl) ?_
  refine am_all.c (s_iret (by decide +kernel) rfl) ?_
  refine am_all.c (s_iload_n (kf := 3) (by decide +kernel) rfl rfl) ?_
  refine am_all.c (s_lsw (dflt := 50) (ps := #[(0, 28), (1, 39)]) (len := 28) (by decide +kernel) (by decide) (by decide) (by decide)) ?_
  refine am_all.c (s_aload_n (kf := 0) (by decide +kernel) rfl rfl) ?_
  refine am_all.c (s_get (C := cn_V) (Tf := ft_V) (N := 6) rfl fi_V (by decide) tw_175 (by decide +kernel) rfl) ?_
  refine am_all.c (s_iload_n (kf := 1) (by decide +kernel) rfl rfl) ?_
  refine am_all.c (s_aald rfl (by decide +kernel) rfl) ?_
  refine am_all.c (s_iload_n (kf := 2) (by decide +kernel) rfl rfl) ?_
  refine am_all.c (s_callV (q := (cn_S, ft_S, 9)) (by decide) (ce_S_uidOf hN) rfl rfl tw_362 tw_339 tw_340 (by decide +kernel) rfl) ?_
  refine am_all.c (s_iret (by decide +kernel) rfl) ?_
  refine am_all.c (s_aload_n (kf := 0) (by decide +kernel) rfl rfl) ?_
  refine am_all.c (s_get (C := cn_V) (Tf := ft_V) (N := 6) rfl fi_V (by decide) tw_175 (by decide +kernel) rfl) ?_
  refine am_all.c (s_iload_n (kf := 1) (by decide +kernel) rfl rfl) ?_
  refine am_all.c (s_aald rfl (by decide +kernel) rfl) ?_
  refine am_all.c (s_iload_n (kf := 2) (by decide +kernel) rfl rfl) ?_
  refine am_all.c (s_callV (q := (cn_S, ft_S, 9)) (by decide) (ce_S_knownFlagsOf hN) rfl rfl tw_509 tw_343 tw_344 (by decide +kernel) rfl) ?_
  refine am_all.c (s_iret (by decide +kernel) rfl) ?_
  refine am_all.c (s_iconst (by decide +kernel) (by decide) rfl) ?_
  refine am_all.c (s_iret (by decide +kernel) rfl) ?_
  exact trivial
set_option maxRecDepth 20000 in
theorem ga_V_notice {D : va_G} {dA : Nat → ClassId} {h b L : Nat} {xs : Nat → Int32} (hN : am_nN (am_En D dA h b L xs)) : am_all (am_En D dA h b L xs) mv_tb mv_P tV_notice kV_notice := by
  unfold kV_notice
  refine am_all.c (s_aload_n (kf := 0) (by decide +kernel) rfl rfl) ?_
  refine am_all.c (s_iload_n (kf := 1) (by decide +kernel) rfl rfl) ?_
  refine am_all.c (s_callV (q := (cn_V, ft_V, 6)) (by decide) (ce_V_hasMailbox hN) rfl rfl tw_271 tw_273 tw_4 (by decide +kernel) rfl) ?_
  refine am_all.c (s_if_eq (off := 20) (by decide +kernel) (by decide) rfl) ?_
  refine am_all.c (s_iload_n (kf := 2) (by decide +kernel) rfl rfl) ?_
  refine am_all.c (s_if_lt (off := 16) (by decide +kernel) (by decide) rfl) ?_
  refine am_all.c (s_iload_n (kf := 2) (by decide +kernel) rfl rfl) ?_
  refine am_all.c (s_aload_n (kf := 0) (by decide +kernel) rfl rfl) ?_
  refine am_all.c (s_get (C := cn_V) (Tf := ft_V) (N := 6) rfl fi_V (by decide) tw_175 (by decide +kernel) rfl) ?_
  refine am_all.c (s_iload_n (kf := 1) (by decide +kernel) rfl rfl) ?_
  refine am_all.c (s_aald rfl (by decide +kernel) rfl) ?_
  refine am_all.c (s_callV (q := (cn_S, ft_S, 9)) (by decide) (ce_S_noticeCount hN) rfl rfl tw_350 tw_351 tw_352 (by decide +kernel) rfl) ?_
  refine am_all.c (s_icmp_lt (off := 5) (by decide +kernel) (by decide) rfl) ?_
  refine am_all.c (s_iconst (by decide +kernel) (by decide) rfl) ?_
  refine am_all.c (s_iret (by decide +kernel) rfl) ?_
  refine am_all.c (s_iload_n (kf := 3) (by decide +kernel) rfl rfl) ?_
  refine am_all.c (s_lsw (dflt := 50) (ps := #[(0, 28), (1, 39)]) (len := 28) (by decide +kernel) (by decide) (by decide) (by decide)) ?_
  refine am_all.c (s_aload_n (kf := 0) (by decide +kernel) rfl rfl) ?_
  refine am_all.c (s_get (C := cn_V) (Tf := ft_V) (N := 6) rfl fi_V (by decide) tw_175 (by decide +kernel) rfl) ?_
  refine am_all.c (s_iload_n (kf := 1) (by decide +kernel) rfl rfl) ?_
  refine am_all.c (s_aald rfl (by decide +kernel) rfl) ?_
  refine am_all.c (s_iload_n (kf := 2) (by decide +kernel) rfl rfl) ?_
  refine am_all.c (s_callV (q := (cn_S, ft_S, 9)) (by decide) (ce_S_noticeKindAt hN) rfl rfl tw_514 tw_515 tw_516 (by decide +kernel) rfl) ?_
  refine am_all.c (s_iret (by decide +kernel) rfl) ?_
  refine am_all.c (s_aload_n (kf := 0) (by decide +kernel) rfl rfl) ?_
  refine am_all.c (s_get (C := cn_V) (Tf := ft_V) (N := 6) rfl fi_V (by decide) tw_175 (by decide +kernel) rfl) ?_
  refine am_all.c (s_iload_n (kf := 1) (by decide +kernel) rfl rfl) ?_
  refine am_all.c (s_aald rfl (by decide +kernel) rfl) ?_
  refine am_all.c (s_iload_n (kf := 2) (by decide +kernel) rfl rfl) ?_
  refine am_all.c (s_callV (q := (cn_S, ft_S, 9)) (by decide) (ce_S_noticeNumberAt hN) rfl rfl tw_518 tw_519 tw_520 (by decide +kernel) rfl) ?_
  refine am_all.c (s_iret (by decide +kernel) rfl) ?_
  refine am_all.c (s_iconst (by decide +kernel) (by decide) rfl) ?_
  refine am_all.c (s_iret (by decide +kernel) rfl) ?_
  exact trivial
set_option maxRecDepth 20000 in
theorem ga_V_mailbox {D : va_G} {dA : Nat → ClassId} {h b L : Nat} {xs : Nat → Int32} (hN : am_nN (am_En D dA h b L xs)) : am_all (am_En D dA h b L xs) mv_tb mv_P tV_mailbox kV_mailbox := by
  unfold kV_mailbox
  refine am_all.c (s_iload_n (kf := 1) (by decide +kernel) rfl rfl) ?_
  refine am_all.c (s_callS (by decide) (ce_V_isMailbox hN) tw_197 tw_198 (by decide +kernel) rfl) ?_
  refine am_all.c (s_if_ne (off := 5) (by decide +kernel) (by decide) rfl) ?_
  refine am_all.c (s_iconst (by decide +kernel) (by decide) rfl) ?_
  refine am_all.c (s_iret (by decide +kernel) rfl) ?_
  refine am_all.c (s_iload_n (kf := 2) (by decide +kernel) rfl rfl) ?_
  refine am_all.c (s_tsw (dflt := 66) (lo := 0) (hi := 3) (offs := #[30, 40, 50, 60]) (len := 30) (by decide +kernel) (by decide) (by decide) (am_tsc (by decide))) ?_
  refine am_all.c (s_aload_n (kf := 0) (by decide +kernel) rfl rfl) ?_
  refine am_all.c (s_get (C := cn_V) (Tf := ft_V) (N := 6) rfl fi_V (by decide) tw_174 (by decide +kernel) rfl) ?_
  refine am_all.c (s_iload_n (kf := 1) (by decide +kernel) rfl rfl) ?_
  refine am_all.c (s_aald rfl (by decide +kernel) rfl) ?_
  refine am_all.c (s_callV (q := (cn_B, ft_B, 6)) (by decide) (ce_B_messageCount hN) rfl rfl tw_287 tw_252 tw_253 (by decide +kernel) rfl) ?_
  refine am_all.c (s_iret (by decide +kernel) rfl) ?_
  refine am_all.c (s_aload_n (kf := 0) (by decide +kernel) rfl rfl) ?_
  refine am_all.c (s_get (C := cn_V) (Tf := ft_V) (N := 6) rfl fi_V (by decide) tw_174 (by decide +kernel) rfl) ?_
  refine am_all.c (s_iload_n (kf := 1) (by decide +kernel) rfl rfl) ?_
  refine am_all.c (s_aald rfl (by decide +kernel) rfl) ?_
  refine am_all.c (s_callV (q := (cn_B, ft_B, 6)) (by decide) (ce_B_nextUid hN) rfl rfl tw_526 tw_527 tw_528 (by decide +kernel) rfl) ?_
  refine am_all.c (s_iret (by decide +kernel) rfl) ?_
  refine am_all.c (s_aload_n (kf := 0) (by decide +kernel) rfl rfl) ?_
  refine am_all.c (s_get (C := cn_V) (Tf := ft_V) (N := 6) rfl fi_V (by decide) tw_174 (by decide +kernel) rfl) ?_
  refine am_all.c (s_iload_n (kf := 1) (by decide +kernel) rfl rfl) ?_
  refine am_all.c (s_aald rfl (by decide +kernel) rfl) ?_
  refine am_all.c (s_callV (q := (cn_B, ft_B, 6)) (by decide) (ce_B_validity hN) rfl rfl tw_530 tw_531 tw_532 (by decide +kernel) rfl) ?_
  refine am_all.c (s_iret (by decide +kernel) rfl) ?_
  refine am_all.c (s_aload_n (kf := 0) (by decide +kernel) rfl rfl) ?_
  refine am_all.c (s_iload_n (kf := 1) (by decide +kernel) rfl rfl) ?_
  refine am_all.c (s_callV (q := (cn_V, ft_V, 6)) (by decide) (ce_V_sessionsWith hN) rfl rfl tw_534 tw_536 tw_20 (by decide +kernel) rfl) ?_
  refine am_all.c (s_iret (by decide +kernel) rfl) ?_
  refine am_all.c (s_iconst (by decide +kernel) (by decide) rfl) ?_
  refine am_all.c (s_iret (by decide +kernel) rfl) ?_
  exact trivial
set_option maxRecDepth 20000 in
theorem ga_V_count {D : va_G} {dA : Nat → ClassId} {h b L : Nat} {xs : Nat → Int32} (hN : am_nN (am_En D dA h b L xs)) : am_all (am_En D dA h b L xs) mv_tb mv_P tV_count kV_count := by
  unfold kV_count
  refine am_all.c (s_iload_n (kf := 1) (by decide +kernel) rfl rfl) ?_
  refine am_all.c (s_tsw (dflt := 60) (lo := 0) (hi := 3) (offs := #[31, 39, 47, 55]) (len := 31) (by decide +kernel) (by decide) (by decide) (am_tsc (by decide))) ?_
  refine am_all.c (s_aload_n (kf := 0) (by decide +kernel) rfl rfl) ?_
  refine am_all.c (s_get (C := cn_V) (Tf := ft_V) (N := 6) rfl fi_V (by decide) tw_176 (by decide +kernel) rfl) ?_
  refine am_all.c (s_callV (q := (cn_J, ft_J, 7)) (by decide) (ce_J_changeCount hN) rfl rfl tw_466 tw_467 tw_468 (by decide +kernel) rfl) ?_
  refine am_all.c (s_iret (by decide +kernel) rfl) ?_
  refine am_all.c (s_aload_n (kf := 0) (by decide +kernel) rfl rfl) ?_
  refine am_all.c (s_get (C := cn_V) (Tf := ft_V) (N := 6) rfl fi_V (by decide) tw_176 (by decide +kernel) rfl) ?_
  refine am_all.c (s_callV (q := (cn_J, ft_J, 7)) (by decide) (ce_J_durableCount hN) rfl rfl tw_542 tw_543 tw_544 (by decide +kernel) rfl) ?_
  refine am_all.c (s_iret (by decide +kernel) rfl) ?_
  refine am_all.c (s_aload_n (kf := 0) (by decide +kernel) rfl rfl) ?_
  refine am_all.c (s_get (C := cn_V) (Tf := ft_V) (N := 6) rfl fi_V (by decide) tw_177 (by decide +kernel) rfl) ?_
  refine am_all.c (s_callV (q := (cn_C, ft_C, 7)) (by decide) (ce_C_tokenCount hN) rfl rfl tw_403 tw_404 tw_405 (by decide +kernel) rfl) ?_
  refine am_all.c (s_iret (by decide +kernel) rfl) ?_
  refine am_all.c (s_aload_n (kf := 0) (by decide +kernel) rfl rfl) ?_
  refine am_all.c (s_get (C := cn_V) (Tf := ft_V) (N := 6) rfl fi_V (by decide) tw_179 (by decide +kernel) rfl) ?_
  refine am_all.c (s_iret (by decide +kernel) rfl) ?_
  refine am_all.c (s_iconst (by decide +kernel) (by decide) rfl) ?_
  refine am_all.c (s_iret (by decide +kernel) rfl) ?_
  exact trivial
set_option maxRecDepth 20000 in
theorem ga_V_isMailbox {D : va_G} {dA : Nat → ClassId} {h b L : Nat} {xs : Nat → Int32} (hN : am_nN (am_En D dA h b L xs)) : am_all (am_En D dA h b L xs) mv_tb mv_P tV_isMailbox kV_isMailbox := by
  unfold kV_isMailbox
  refine am_all.c (s_iload_n (kf := 0) (by decide +kernel) rfl rfl) ?_
  refine am_all.c (s_if_lt (off := 12) (by decide +kernel) (by decide) rfl) ?_
  refine am_all.c (s_iload_n (kf := 0) (by decide +kernel) rfl rfl) ?_
  refine am_all.c (s_iconst (by decide +kernel) (by decide) rfl) ?_
  refine am_all.c (s_icmp_ge (off := 7) (by decide +kernel) (by decide) rfl) ?_
  refine am_all.c (s_iconst (by decide +kernel) (by decide) rfl) ?_
  refine am_all.c (s_goto (off := 4) (by decide +kernel) (by decide)) ?_
  refine am_all.c (s_iconst (by decide +kernel) (by decide) rfl) ?_
  refine am_all.c (s_zret (by decide +kernel) rfl) ?_
  exact trivial
set_option maxRecDepth 20000 in
theorem ga_V_isSession {D : va_G} {dA : Nat → ClassId} {h b L : Nat} {xs : Nat → Int32} (hN : am_nN (am_En D dA h b L xs)) : am_all (am_En D dA h b L xs) mv_tb mv_P tV_isSession kV_isSession := by
  unfold kV_isSession
  refine am_all.c (s_iload_n (kf := 0) (by decide +kernel) rfl rfl) ?_
  refine am_all.c (s_if_lt (off := 12) (by decide +kernel) (by decide) rfl) ?_
  refine am_all.c (s_iload_n (kf := 0) (by decide +kernel) rfl rfl) ?_
  refine am_all.c (s_iconst (by decide +kernel) (by decide) rfl) ?_
  refine am_all.c (s_icmp_ge (off := 7) (by decide +kernel) (by decide) rfl) ?_
  refine am_all.c (s_iconst (by decide +kernel) (by decide) rfl) ?_
  refine am_all.c (s_goto (off := 4) (by decide +kernel) (by decide)) ?_
  refine am_all.c (s_iconst (by decide +kernel) (by decide) rfl) ?_
  refine am_all.c (s_zret (by decide +kernel) rfl) ?_
  exact trivial
set_option maxRecDepth 20000 in
theorem ga_V_areFlags {D : va_G} {dA : Nat → ClassId} {h b L : Nat} {xs : Nat → Int32} (hN : am_nN (am_En D dA h b L xs)) : am_all (am_En D dA h b L xs) mv_tb mv_P tV_areFlags kV_areFlags := by
  unfold kV_areFlags
  refine am_all.c (s_iload_n (kf := 0) (by decide +kernel) rfl rfl) ?_
  refine am_all.c (s_if_lt (off := 13) (by decide +kernel) (by decide) rfl) ?_
  refine am_all.c (s_iload_n (kf := 0) (by decide +kernel) rfl rfl) ?_
  refine am_all.c (s_bipush (by decide +kernel) (by decide +kernel) (by decide) rfl) ?_
  refine am_all.c (s_icmp_gt (off := 7) (by decide +kernel) (by decide) rfl) ?_
  refine am_all.c (s_iconst (by decide +kernel) (by decide) rfl) ?_
  refine am_all.c (s_goto (off := 4) (by decide +kernel) (by decide)) ?_
  refine am_all.c (s_iconst (by decide +kernel) (by decide) rfl) ?_
  refine am_all.c (s_zret (by decide +kernel) rfl) ?_
  exact trivial
set_option maxRecDepth 20000 in
theorem ga_V_hasMailbox {D : va_G} {dA : Nat → ClassId} {h b L : Nat} {xs : Nat → Int32} (hN : am_nN (am_En D dA h b L xs)) : am_all (am_En D dA h b L xs) mv_tb mv_P tV_hasMailbox kV_hasMailbox := by
  unfold kV_hasMailbox
  refine am_all.c (s_iload_n (kf := 1) (by decide +kernel) rfl rfl) ?_
  refine am_all.c (s_callS (by decide) (ce_V_isSession hN) tw_240 tw_241 (by decide +kernel) rfl) ?_
  refine am_all.c (s_if_eq (off := 20) (by decide +kernel) (by decide) rfl) ?_
  refine am_all.c (s_aload_n (kf := 0) (by decide +kernel) rfl rfl) ?_
  refine am_all.c (s_get (C := cn_V) (Tf := ft_V) (N := 6) rfl fi_V (by decide) tw_175 (by decide +kernel) rfl) ?_
  refine am_all.c (s_iload_n (kf := 1) (by decide +kernel) rfl rfl) ?_
  refine am_all.c (s_aald rfl (by decide +kernel) rfl) ?_
  refine am_all.c (s_callV (q := (cn_S, ft_S, 9)) (by decide) (ce_S_mailboxNumber hN) rfl rfl tw_275 tw_276 tw_277 (by decide +kernel) rfl) ?_
  refine am_all.c (s_iconst (by decide +kernel) (by decide) rfl) ?_
  refine am_all.c (s_icmp_eq (off := 7) (by decide +kernel) (by decide) rfl) ?_
  refine am_all.c (s_iconst (by decide +kernel) (by decide) rfl) ?_
  refine am_all.c (s_goto (off := 4) (by decide +kernel) (by decide)) ?_
  refine am_all.c (s_iconst (by decide +kernel) (by decide) rfl) ?_
  refine am_all.c (s_zret (by decide +kernel) rfl) ?_
  exact trivial
set_option maxRecDepth 20000 in
theorem ga_V_isInView {D : va_G} {dA : Nat → ClassId} {h b L : Nat} {xs : Nat → Int32} (hN : am_nN (am_En D dA h b L xs)) : am_all (am_En D dA h b L xs) mv_tb mv_P tV_isInView kV_isInView := by
  unfold kV_isInView
  refine am_all.c (s_aload_n (kf := 0) (by decide +kernel) rfl rfl) ?_
  refine am_all.c (s_iload_n (kf := 1) (by decide +kernel) rfl rfl) ?_
  refine am_all.c (s_callV (q := (cn_V, ft_V, 6)) (by decide) (ce_V_hasMailbox hN) rfl rfl tw_271 tw_273 tw_4 (by decide +kernel) rfl) ?_
  refine am_all.c (s_if_eq (off := 25) (by decide +kernel) (by decide) rfl) ?_
  refine am_all.c (s_iload_n (kf := 2) (by decide +kernel) rfl rfl) ?_
  refine am_all.c (s_iconst (by decide +kernel) (by decide) rfl) ?_
  refine am_all.c (s_icmp_lt (off := 20) (by decide +kernel) (by decide) rfl) ?_
  refine am_all.c (s_iload_n (kf := 2) (by decide +kernel) rfl rfl) ?_
  refine am_all.c (s_aload_n (kf := 0) (by decide +kernel) rfl rfl) ?_
  refine am_all.c (s_get (C := cn_V) (Tf := ft_V) (N := 6) rfl fi_V (by decide) tw_175 (by decide +kernel) rfl) ?_
  refine am_all.c (s_iload_n (kf := 1) (by decide +kernel) rfl rfl) ?_
  refine am_all.c (s_aald rfl (by decide +kernel) rfl) ?_
  refine am_all.c (s_callV (q := (cn_S, ft_S, 9)) (by decide) (ce_S_viewLength hN) rfl rfl tw_263 tw_264 tw_265 (by decide +kernel) rfl) ?_
  refine am_all.c (s_icmp_gt (off := 7) (by decide +kernel) (by decide) rfl) ?_
  refine am_all.c (s_iconst (by decide +kernel) (by decide) rfl) ?_
  refine am_all.c (s_goto (off := 4) (by decide +kernel) (by decide)) ?_
  refine am_all.c (s_iconst (by decide +kernel) (by decide) rfl) ?_
  refine am_all.c (s_zret (by decide +kernel) rfl) ?_
  exact trivial
set_option maxRecDepth 20000 in
theorem ga_V_mailboxOf {D : va_G} {dA : Nat → ClassId} {h b L : Nat} {xs : Nat → Int32} (hN : am_nN (am_En D dA h b L xs)) : am_all (am_En D dA h b L xs) mv_tb mv_P tV_mailboxOf kV_mailboxOf := by
  unfold kV_mailboxOf
  refine am_all.c (s_aload_n (kf := 0) (by decide +kernel) rfl rfl) ?_
  refine am_all.c (s_get (C := cn_V) (Tf := ft_V) (N := 6) rfl fi_V (by decide) tw_174 (by decide +kernel) rfl) ?_
  refine am_all.c (s_aload_n (kf := 0) (by decide +kernel) rfl rfl) ?_
  refine am_all.c (s_get (C := cn_V) (Tf := ft_V) (N := 6) rfl fi_V (by decide) tw_175 (by decide +kernel) rfl) ?_
  refine am_all.c (s_iload_n (kf := 1) (by decide +kernel) rfl rfl) ?_
  refine am_all.c (s_aald rfl (by decide +kernel) rfl) ?_
  refine am_all.c (s_callV (q := (cn_S, ft_S, 9)) (by decide) (ce_S_mailboxNumber hN) rfl rfl tw_275 tw_276 tw_277 (by decide +kernel) rfl) ?_
  refine am_all.c (s_aald rfl (by decide +kernel) rfl) ?_
  refine am_all.c (s_aret (by decide +kernel) rfl (Or.inl ⟨_, rfl⟩)) ?_
  exact trivial
set_option maxRecDepth 20000 in
theorem ga_V_sessionsWith {D : va_G} {dA : Nat → ClassId} {h b L : Nat} {xs : Nat → Int32} (hN : am_nN (am_En D dA h b L xs)) : am_all (am_En D dA h b L xs) mv_tb mv_P tV_sessionsWith kV_sessionsWith := by
  unfold kV_sessionsWith
  refine am_all.c (s_iconst (by decide +kernel) (by decide) rfl) ?_
  refine am_all.c (s_istore_n (kf := 2) (by decide +kernel) rfl rfl) ?_
  refine am_all.c (s_iconst (by decide +kernel) (by decide) rfl) ?_
  refine am_all.c (s_istore_n (kf := 3) (by decide +kernel) rfl rfl) ?_
  refine am_all.c (s_iload_n (kf := 3) (by decide +kernel) rfl rfl) ?_
  refine am_all.c (s_iconst (by decide +kernel) (by decide) rfl) ?_
  refine am_all.c (s_icmp_ge (off := 25) (by decide +kernel) (by decide) rfl) ?_
  refine am_all.c (s_aload_n (kf := 0) (by decide +kernel) rfl rfl) ?_
  refine am_all.c (s_get (C := cn_V) (Tf := ft_V) (N := 6) rfl fi_V (by decide) tw_175 (by decide +kernel) rfl) ?_
  refine am_all.c (s_iload_n (kf := 3) (by decide +kernel) rfl rfl) ?_
  refine am_all.c (s_aald rfl (by decide +kernel) rfl) ?_
  refine am_all.c (s_callV (q := (cn_S, ft_S, 9)) (by decide) (ce_S_mailboxNumber hN) rfl rfl tw_275 tw_276 tw_277 (by decide +kernel) rfl) ?_
  refine am_all.c (s_iload_n (kf := 1) (by decide +kernel) rfl rfl) ?_
  refine am_all.c (s_icmp_ne (off := 6) (by decide +kernel) (by decide) rfl) ?_
  refine am_all.c (s_iinc (by decide +kernel) rfl) ?_
  refine am_all.c (s_iinc (by decide +kernel) rfl) ?_
  refine am_all.c (s_goto (off := -24) (by decide +kernel) (by decide)) ?_
  refine am_all.c (s_iload_n (kf := 2) (by decide +kernel) rfl rfl) ?_
  refine am_all.c (s_iret (by decide +kernel) rfl) ?_
  exact trivial
set_option maxRecDepth 20000 in
theorem ga_V_update {D : va_G} {dA : Nat → ClassId} {h b L : Nat} {xs : Nat → Int32} (hN : am_nN (am_En D dA h b L xs)) : am_all (am_En D dA h b L xs) mv_tb mv_P tV_update kV_update := by
  unfold kV_update
  refine am_all.c (s_aload_n (kf := 0) (by decide +kernel) rfl rfl) ?_
  refine am_all.c (s_get (C := cn_V) (Tf := ft_V) (N := 6) rfl fi_V (by decide) tw_175 (by decide +kernel) rfl) ?_
  refine am_all.c (s_iload_n (kf := 1) (by decide +kernel) rfl rfl) ?_
  refine am_all.c (s_aald rfl (by decide +kernel) rfl) ?_
  refine am_all.c (s_aload_n (kf := 0) (by decide +kernel) rfl rfl) ?_
  refine am_all.c (s_iload_n (kf := 1) (by decide +kernel) rfl rfl) ?_
  refine am_all.c (s_callV (q := (cn_V, ft_V, 6)) (by decide) (ce_V_mailboxOf hN) rfl rfl tw_314 tw_316 tw_7 (by decide +kernel) rfl) ?_
  refine am_all.c (s_iload_n (kf := 2) (by decide +kernel) rfl rfl) ?_
  refine am_all.c (s_callV (q := (cn_S, ft_S, 9)) (by decide) (ce_S_update hN) rfl rfl tw_318 tw_319 tw_320 (by decide +kernel) rfl) ?_
  refine am_all.c (s_vret (by decide +kernel) rfl) ?_
  exact trivial
set_option maxRecDepth 20000 in
theorem ga_V_add {D : va_G} {dA : Nat → ClassId} {h b L : Nat} {xs : Nat → Int32} (hN : am_nN (am_En D dA h b L xs)) : am_all (am_En D dA h b L xs) mv_tb mv_P tV_add kV_add := by
  unfold kV_add
  refine am_all.c (s_aload_n (kf := 0) (by decide +kernel) rfl rfl) ?_
  refine am_all.c (s_get (C := cn_V) (Tf := ft_V) (N := 6) rfl fi_V (by decide) tw_174 (by decide +kernel) rfl) ?_
  refine am_all.c (s_iload_n (kf := 1) (by decide +kernel) rfl rfl) ?_
  refine am_all.c (s_aald rfl (by decide +kernel) rfl) ?_
  refine am_all.c (s_astore (by decide +kernel) rfl) ?_
  refine am_all.c (s_aload (by decide +kernel) rfl) ?_
  refine am_all.c (s_callV (q := (cn_B, ft_B, 6)) (by decide) (ce_B_isFull hN) rfl rfl tw_207 tw_208 tw_209 (by decide +kernel) rfl) ?_
  refine am_all.c (s_if_eq (off := 6) (by decide +kernel) (by decide) rfl) ?_
  refine am_all.c (s_bipush (by decide +kernel) (by decide +kernel) (by decide) rfl) ?_
  refine am_all.c (s_iret (by decide +kernel) rfl) ?_
  refine am_all.c (s_aload (by decide +kernel) rfl) ?_
  refine am_all.c (s_iload_n (kf := 2) (by decide +kernel) rfl rfl) ?_
  refine am_all.c (s_iload_n (kf := 3) (by decide +kernel) rfl rfl) ?_
  refine am_all.c (s_callV (q := (cn_B, ft_B, 6)) (by decide) (ce_B_addNew hN) rfl rfl tw_211 tw_212 tw_213 (by decide +kernel) rfl) ?_
  refine am_all.c (s_istore (by decide +kernel) rfl) ?_
  refine am_all.c (s_aload_n (kf := 0) (by decide +kernel) rfl rfl) ?_
  refine am_all.c (s_get (C := cn_V) (Tf := ft_V) (N := 6) rfl fi_V (by decide) tw_176 (by decide +kernel) rfl) ?_
  refine am_all.c (s_iload_n (kf := 1) (by decide +kernel) rfl rfl) ?_
  refine am_all.c (s_iload (by decide +kernel) rfl) ?_
  refine am_all.c (s_callV (q := (cn_J, ft_J, 7)) (by decide) (ce_J_noteAdded hN) rfl rfl tw_224 tw_225 tw_226 (by decide +kernel) rfl) ?_
  refine am_all.c (s_iload (by decide +kernel) rfl) ?_
  refine am_all.c (s_iret (by decide +kernel) rfl) ?_
  exact trivial
set_option maxRecDepth 20000 in
theorem ga_V_removeDeleted {D : va_G} {dA : Nat → ClassId} {h b L : Nat} {xs : Nat → Int32} (hN : am_nN (am_En D dA h b L xs)) : am_all (am_En D dA h b L xs) mv_tb mv_P tV_removeDeleted kV_removeDeleted := by
  unfold kV_removeDeleted
  refine am_all.c (s_aload_n (kf := 0) (by decide +kernel) rfl rfl) ?_
  refine am_all.c (s_get (C := cn_V) (Tf := ft_V) (N := 6) rfl fi_V (by decide) tw_174 (by decide +kernel) rfl) ?_
  refine am_all.c (s_iload_n (kf := 1) (by decide +kernel) rfl rfl) ?_
  refine am_all.c (s_aald rfl (by decide +kernel) rfl) ?_
  refine am_all.c (s_astore_n (kf := 2) (by decide +kernel) rfl rfl) ?_
  refine am_all.c (s_iconst (by decide +kernel) (by decide) rfl) ?_
  refine am_all.c (s_istore_n (kf := 3) (by decide +kernel) rfl rfl) ?_
  refine am_all.c (s_iconst (by decide +kernel) (by decide) rfl) ?_
  refine am_all.c (s_istore (by decide +kernel) rfl) ?_
  refine am_all.c (s_aload_n (kf := 2) (by decide +kernel) rfl rfl) ?_
  refine am_all.c (s_callV (q := (cn_B, ft_B, 6)) (by decide) (ce_B_messageCount hN) rfl rfl tw_287 tw_252 tw_253 (by decide +kernel) rfl) ?_
  refine am_all.c (s_istore (by decide +kernel) rfl) ?_
  refine am_all.c (s_iload (by decide +kernel) rfl) ?_
  refine am_all.c (s_if_le (off := 62) (by decide +kernel) (by decide) rfl) ?_
  refine am_all.c (s_aload_n (kf := 2) (by decide +kernel) rfl rfl) ?_
  refine am_all.c (s_iload (by decide +kernel) rfl) ?_
  refine am_all.c (s_callV (q := (cn_B, ft_B, 6)) (by decide) (ce_B_flagsAt hN) rfl rfl tw_288 tw_260 tw_261 (by decide +kernel) rfl) ?_
  refine am_all.c (s_bipush (by decide +kernel) (by decide +kernel) (by decide) rfl) ?_
  refine am_all.c (s_iand (by decide +kernel) rfl) ?_
  refine am_all.c (s_if_eq (off := 41) (by decide +kernel) (by decide) rfl) ?_
  refine am_all.c (s_aload_n (kf := 0) (by decide +kernel) rfl rfl) ?_
  refine am_all.c (s_get (C := cn_V) (Tf := ft_V) (N := 6) rfl fi_V (by decide) tw_176 (by decide +kernel) rfl) ?_
  refine am_all.c (s_iload_n (kf := 1) (by decide +kernel) rfl rfl) ?_
  refine am_all.c (s_aload_n (kf := 2) (by decide +kernel) rfl rfl) ?_
  refine am_all.c (s_iload (by decide +kernel) rfl) ?_
  refine am_all.c (s_callV (q := (cn_B, ft_B, 6)) (by decide) (ce_B_uidAt hN) rfl rfl tw_289 tw_256 tw_257 (by decide +kernel) rfl) ?_
  refine am_all.c (s_aload_n (kf := 2) (by decide +kernel) rfl rfl) ?_
  refine am_all.c (s_iload (by decide +kernel) rfl) ?_
  refine am_all.c (s_callV (q := (cn_B, ft_B, 6)) (by decide) (ce_B_flagsAt hN) rfl rfl tw_288 tw_260 tw_261 (by decide +kernel) rfl) ?_
  refine am_all.c (s_aload_n (kf := 2) (by decide +kernel) rfl rfl) ?_
  refine am_all.c (s_iload (by decide +kernel) rfl) ?_
  refine am_all.c (s_callV (q := (cn_B, ft_B, 6)) (by decide) (ce_B_sizeAt hN) rfl rfl tw_290 tw_291 tw_292 (by decide +kernel) rfl) ?_
  refine am_all.c (s_callV (q := (cn_J, ft_J, 7)) (by decide) (ce_J_noteRemoved hN) rfl rfl tw_294 tw_295 tw_296 (by decide +kernel) rfl) ?_
  refine am_all.c (s_aload_n (kf := 2) (by decide +kernel) rfl rfl) ?_
  refine am_all.c (s_iload (by decide +kernel) rfl) ?_
  refine am_all.c (s_callV (q := (cn_B, ft_B, 6)) (by decide) (ce_B_removeAt hN) rfl rfl tw_298 tw_299 tw_300 (by decide +kernel) rfl) ?_
  refine am_all.c (s_iinc (by decide +kernel) rfl) ?_
  refine am_all.c (s_goto (off := 6) (by decide +kernel) (by decide)) ?_
  refine am_all.c (s_iinc (by decide +kernel) rfl) ?_
  refine am_all.c (s_iinc (by decide +kernel) rfl) ?_
  refine am_all.c (s_goto (off := -61) (by decide +kernel) (by decide)) ?_
  refine am_all.c (s_iload_n (kf := 3) (by decide +kernel) rfl rfl) ?_
  refine am_all.c (s_iret (by decide +kernel) rfl) ?_
  exact trivial
set_option maxRecDepth 20000 in
theorem ga_V_changedFlags {D : va_G} {dA : Nat → ClassId} {h b L : Nat} {xs : Nat → Int32} (hN : am_nN (am_En D dA h b L xs)) : am_all (am_En D dA h b L xs) mv_tb mv_P tV_changedFlags kV_changedFlags := by
  unfold kV_changedFlags
  refine am_all.c (s_iload_n (kf := 1) (by decide +kernel) rfl rfl) ?_
  refine am_all.c (s_lsw (dflt := 37) (ps := #[(1, 27), (2, 31)]) (len := 27) (by decide +kernel) (by decide) (by decide) (by decide)) ?_
  refine am_all.c (s_iload_n (kf := 0) (by decide +kernel) rfl rfl) ?_
  refine am_all.c (s_iload_n (kf := 2) (by decide +kernel) rfl rfl) ?_
  refine am_all.c (s_ior (by decide +kernel) rfl) ?_
  refine am_all.c (s_iret (by decide +kernel) rfl) ?_
  refine am_all.c (s_iload_n (kf := 0) (by decide +kernel) rfl rfl) ?_
  refine am_all.c (s_iload_n (kf := 2) (by decide +kernel) rfl rfl) ?_
  refine am_all.c (s_iconst (by decide +kernel) (by decide) rfl) ?_
  refine am_all.c (s_ixor (by decide +kernel) rfl) ?_
  refine am_all.c (s_iand (by decide +kernel) rfl) ?_
  refine am_all.c (s_iret (by decide +kernel) rfl) ?_
  refine am_all.c (s_iload_n (kf := 2) (by decide +kernel) rfl rfl) ?_
  refine am_all.c (s_iret (by decide +kernel) rfl) ?_
  exact trivial
set_option maxRecDepth 20000 in
theorem ga_V_findHits {D : va_G} {dA : Nat → ClassId} {h b L : Nat} {xs : Nat → Int32} (hN : am_nN (am_En D dA h b L xs)) : am_all (am_En D dA h b L xs) mv_tb mv_P tV_findHits kV_findHits := by
  unfold kV_findHits
  refine am_all.c (s_aload_n (kf := 0) (by decide +kernel) rfl rfl) ?_
  refine am_all.c (s_iconst (by decide +kernel) (by decide) rfl) ?_
  refine am_all.c (s_put (C := cn_V) (Tf := ft_V) (N := 6) (ty := .int) rfl fi_V fy_V fo_V fn_V (by decide) tw_179 (Or.inl rfl) (by decide +kernel) (Or.inl ⟨rfl, rfl⟩) (by decide +kernel) rfl) ?_
  refine am_all.c (s_iconst (by decide +kernel) (by decide) rfl) ?_
  refine am_all.c (s_istore_n (kf := 3) (by decide +kernel) rfl rfl) ?_
  refine am_all.c (s_iload_n (kf := 3) (by decide +kernel) rfl rfl) ?_
  refine am_all.c (s_aload_n (kf := 1) (by decide +kernel) rfl rfl) ?_
  refine am_all.c (s_callV (q := (cn_S, ft_S, 9)) (by decide) (ce_S_viewLength hN) rfl rfl tw_263 tw_264 tw_265 (by decide +kernel) rfl) ?_
  refine am_all.c (s_icmp_gt (off := 60) (by decide +kernel) (by decide) rfl) ?_
  refine am_all.c (s_aload_n (kf := 2) (by decide +kernel) rfl rfl) ?_
  refine am_all.c (s_aload_n (kf := 1) (by decide +kernel) rfl rfl) ?_
  refine am_all.c (s_iload_n (kf := 3) (by decide +kernel) rfl rfl) ?_
  refine am_all.c (s_callV (q := (cn_S, ft_S, 9)) (by decide) (ce_S_uidOf hN) rfl rfl tw_362 tw_339 tw_340 (by decide +kernel) rfl) ?_
  refine am_all.c (s_callV (q := (cn_B, ft_B, 6)) (by decide) (ce_B_positionOf hN) rfl rfl tw_363 tw_327 tw_328 (by decide +kernel) rfl) ?_
  refine am_all.c (s_istore (by decide +kernel) rfl) ?_
  refine am_all.c (s_iload (by decide +kernel) rfl) ?_
  refine am_all.c (s_iconst (by decide +kernel) (by decide) rfl) ?_
  refine am_all.c (s_icmp_eq (off := 37) (by decide +kernel) (by decide) rfl) ?_
  refine am_all.c (s_aload_n (kf := 0) (by decide +kernel) rfl rfl) ?_
  refine am_all.c (s_get (C := cn_V) (Tf := ft_V) (N := 6) rfl fi_V (by decide) tw_177 (by decide +kernel) rfl) ?_
  refine am_all.c (s_aload_n (kf := 2) (by decide +kernel) rfl rfl) ?_
  refine am_all.c (s_iload (by decide +kernel) rfl) ?_
  refine am_all.c (s_iload_n (kf := 3) (by decide +kernel) rfl rfl) ?_
  refine am_all.c (s_callV (q := (cn_C, ft_C, 7)) (by decide) (ce_C_isFulfilledBy hN) rfl rfl tw_438 tw_439 tw_440 (by decide +kernel) rfl) ?_
  refine am_all.c (s_if_eq (off := 23) (by decide +kernel) (by decide) rfl) ?_
  refine am_all.c (s_aload_n (kf := 0) (by decide +kernel) rfl rfl) ?_
  refine am_all.c (s_get (C := cn_V) (Tf := ft_V) (N := 6) rfl fi_V (by decide) tw_178 (by decide +kernel) rfl) ?_
  refine am_all.c (s_aload_n (kf := 0) (by decide +kernel) rfl rfl) ?_
  refine am_all.c (s_get (C := cn_V) (Tf := ft_V) (N := 6) rfl fi_V (by decide) tw_179 (by decide +kernel) rfl) ?_
  refine am_all.c (s_iload_n (kf := 3) (by decide +kernel) rfl rfl) ?_
  refine am_all.c (s_iast rfl (by decide +kernel) rfl) ?_
  refine am_all.c (s_aload_n (kf := 0) (by decide +kernel) rfl rfl) ?_
  refine am_all.c (s_dup (by decide +kernel) rfl) ?_
  refine am_all.c (s_get (C := cn_V) (Tf := ft_V) (N := 6) rfl fi_V (by decide) tw_179 (by decide +kernel) rfl) ?_
  refine am_all.c (s_iconst (by decide +kernel) (by decide) rfl) ?_
  refine am_all.c (s_iadd (by decide +kernel) rfl) ?_
  refine am_all.c (s_put (C := cn_V) (Tf := ft_V) (N := 6) (ty := .int) rfl fi_V fy_V fo_V fn_V (by decide) tw_179 (Or.inl rfl) (by decide +kernel) (Or.inl ⟨rfl, rfl⟩) (by decide +kernel) rfl) ?_
  refine am_all.c (s_iinc (by decide +kernel) rfl) ?_
  refine am_all.c (s_goto (off := -62) (by decide +kernel) (by decide)) ?_
  refine am_all.c (s_vret (by decide +kernel) rfl) ?_
  exact trivial
end
section
/-! printed by wip/whole/gen/prog.py: each instruction against the abstract one -/
set_option maxRecDepth 20000 in
theorem ga_M_init {D : va_G} {dA : Nat → ClassId} {h b L : Nat} {xs : Nat → Int32} (hN : am_nN (am_En D dA h b L xs)) : am_all (am_En D dA h b L xs) mv_tb mv_P tM_init kM_init := by
  unfold kM_init
  refine am_all.c (s_aload_n (kf := 0) (by decide +kernel) rfl rfl) ?_
  refine am_all.c (s_obj mv_P0 tw_551 tw_53 tw_54 (by decide +kernel) rfl) ?_
  refine am_all.c (s_aload_n (kf := 0) (by decide +kernel) rfl rfl) ?_
  refine am_all.c (s_sipush (by decide +kernel) (by decide +kernel) (by decide) rfl) ?_
  refine am_all.c (s_newa (at0 := .int) rfl rfl (Or.inl rfl) tw_81 (by decide +kernel) rfl) ?_
  refine am_all.c (s_put (C := cn_M) (Tf := ft_M) (N := 21) (ty := .array .int) rfl fi_M fy_M fo_M fn_M (by decide) tw_554 (Or.inr ⟨rfl, rfl, rfl⟩) (by decide +kernel) (Or.inr (Or.inr ⟨rfl, Or.inr ⟨_, rfl⟩⟩)) (by decide +kernel) rfl) ?_
  refine am_all.c (s_aload_n (kf := 0) (by decide +kernel) rfl rfl) ?_
  refine am_all.c (s_iconst (by decide +kernel) (by decide) rfl) ?_
  refine am_all.c (s_newa (at0 := .int) rfl rfl (Or.inl rfl) tw_81 (by decide +kernel) rfl) ?_
  refine am_all.c (s_put (C := cn_M) (Tf := ft_M) (N := 21) (ty := .array .int) rfl fi_M fy_M fo_M fn_M (by decide) tw_555 (Or.inr ⟨rfl, rfl, rfl⟩) (by decide +kernel) (Or.inr (Or.inr ⟨rfl, Or.inr ⟨_, rfl⟩⟩)) (by decide +kernel) rfl) ?_
  refine am_all.c (s_aload_n (kf := 0) (by decide +kernel) rfl rfl) ?_
  refine am_all.c (s_bipush (by decide +kernel) (by decide +kernel) (by decide) rfl) ?_
  refine am_all.c (s_newa (at0 := .int) rfl rfl (Or.inl rfl) tw_81 (by decide +kernel) rfl) ?_
  refine am_all.c (s_put (C := cn_M) (Tf := ft_M) (N := 21) (ty := .array .int) rfl fi_M fy_M fo_M fn_M (by decide) tw_556 (Or.inr ⟨rfl, rfl, rfl⟩) (by decide +kernel) (Or.inr (Or.inr ⟨rfl, Or.inr ⟨_, rfl⟩⟩)) (by decide +kernel) rfl) ?_
  refine am_all.c (s_aload_n (kf := 0) (by decide +kernel) rfl rfl) ?_
  refine am_all.c (s_iconst (by decide +kernel) (by decide) rfl) ?_
  refine am_all.c (s_newa (at0 := .int) rfl rfl (Or.inl rfl) tw_81 (by decide +kernel) rfl) ?_
  refine am_all.c (s_put (C := cn_M) (Tf := ft_M) (N := 21) (ty := .array .int) rfl fi_M fy_M fo_M fn_M (by decide) tw_557 (Or.inr ⟨rfl, rfl, rfl⟩) (by decide +kernel) (Or.inr (Or.inr ⟨rfl, Or.inr ⟨_, rfl⟩⟩)) (by decide +kernel) rfl) ?_
  refine am_all.c (s_aload_n (kf := 0) (by decide +kernel) rfl rfl) ?_
  refine am_all.c (s_iconst (by decide +kernel) (by decide) rfl) ?_
  refine am_all.c (s_newa (at0 := .int) rfl rfl (Or.inl rfl) tw_81 (by decide +kernel) rfl) ?_
  refine am_all.c (s_put (C := cn_M) (Tf := ft_M) (N := 21) (ty := .array .int) rfl fi_M fy_M fo_M fn_M (by decide) tw_558 (Or.inr ⟨rfl, rfl, rfl⟩) (by decide +kernel) (Or.inr (Or.inr ⟨rfl, Or.inr ⟨_, rfl⟩⟩)) (by decide +kernel) rfl) ?_
  refine am_all.c (s_aload_n (kf := 0) (by decide +kernel) rfl rfl) ?_
  refine am_all.c (s_iconst (by decide +kernel) (by decide) rfl) ?_
  refine am_all.c (s_newa (at0 := .int) rfl rfl (Or.inl rfl) tw_81 (by decide +kernel) rfl) ?_
  refine am_all.c (s_put (C := cn_M) (Tf := ft_M) (N := 21) (ty := .array .int) rfl fi_M fy_M fo_M fn_M (by decide) tw_559 (Or.inr ⟨rfl, rfl, rfl⟩) (by decide +kernel) (Or.inr (Or.inr ⟨rfl, Or.inr ⟨_, rfl⟩⟩)) (by decide +kernel) rfl) ?_
  refine am_all.c (s_aload_n (kf := 0) (by decide +kernel) rfl rfl) ?_
  refine am_all.c (s_iconst (by decide +kernel) (by decide) rfl) ?_
  refine am_all.c (s_newa (at0 := .boolean) rfl rfl (Or.inr rfl) tw_173 (by decide +kernel) rfl) ?_
  refine am_all.c (s_put (C := cn_M) (Tf := ft_M) (N := 21) (ty := .array .boolean) rfl fi_M fy_M fo_M fn_M (by decide) tw_560 (Or.inr ⟨rfl, rfl, rfl⟩) (by decide +kernel) (Or.inr (Or.inr ⟨rfl, Or.inr ⟨_, rfl⟩⟩)) (by decide +kernel) rfl) ?_
  refine am_all.c (s_aload_n (kf := 0) (by decide +kernel) rfl rfl) ?_
  refine am_all.c (s_iconst (by decide +kernel) (by decide) rfl) ?_
  refine am_all.c (s_newa (at0 := .int) rfl rfl (Or.inl rfl) tw_81 (by decide +kernel) rfl) ?_
  refine am_all.c (s_put (C := cn_M) (Tf := ft_M) (N := 21) (ty := .array .int) rfl fi_M fy_M fo_M fn_M (by decide) tw_561 (Or.inr ⟨rfl, rfl, rfl⟩) (by decide +kernel) (Or.inr (Or.inr ⟨rfl, Or.inr ⟨_, rfl⟩⟩)) (by decide +kernel) rfl) ?_
  refine am_all.c (s_aload_n (kf := 0) (by decide +kernel) rfl rfl) ?_
  refine am_all.c (s_bipush (by decide +kernel) (by decide +kernel) (by decide) rfl) ?_
  refine am_all.c (s_newa (at0 := .int) rfl rfl (Or.inl rfl) tw_81 (by decide +kernel) rfl) ?_
  refine am_all.c (s_put (C := cn_M) (Tf := ft_M) (N := 21) (ty := .array .int) rfl fi_M fy_M fo_M fn_M (by decide) tw_562 (Or.inr ⟨rfl, rfl, rfl⟩) (by decide +kernel) (Or.inr (Or.inr ⟨rfl, Or.inr ⟨_, rfl⟩⟩)) (by decide +kernel) rfl) ?_
  refine am_all.c (s_aload_n (kf := 0) (by decide +kernel) rfl rfl) ?_
  refine am_all.c (s_bipush (by decide +kernel) (by decide +kernel) (by decide) rfl) ?_
  refine am_all.c (s_newa (at0 := .int) rfl rfl (Or.inl rfl) tw_81 (by decide +kernel) rfl) ?_
  refine am_all.c (s_put (C := cn_M) (Tf := ft_M) (N := 21) (ty := .array .int) rfl fi_M fy_M fo_M fn_M (by decide) tw_563 (Or.inr ⟨rfl, rfl, rfl⟩) (by decide +kernel) (Or.inr (Or.inr ⟨rfl, Or.inr ⟨_, rfl⟩⟩)) (by decide +kernel) rfl) ?_
  refine am_all.c (s_aload_n (kf := 0) (by decide +kernel) rfl rfl) ?_
  refine am_all.c (s_iconst (by decide +kernel) (by decide) rfl) ?_
  refine am_all.c (s_newa (at0 := .int) rfl rfl (Or.inl rfl) tw_81 (by decide +kernel) rfl) ?_
  refine am_all.c (s_put (C := cn_M) (Tf := ft_M) (N := 21) (ty := .array .int) rfl fi_M fy_M fo_M fn_M (by decide) tw_564 (Or.inr ⟨rfl, rfl, rfl⟩) (by decide +kernel) (Or.inr (Or.inr ⟨rfl, Or.inr ⟨_, rfl⟩⟩)) (by decide +kernel) rfl) ?_
  refine am_all.c (s_aload_n (kf := 0) (by decide +kernel) rfl rfl) ?_
  refine am_all.c (s_iconst (by decide +kernel) (by decide) rfl) ?_
  refine am_all.c (s_newa (at0 := .int) rfl rfl (Or.inl rfl) tw_81 (by decide +kernel) rfl) ?_
  refine am_all.c (s_put (C := cn_M) (Tf := ft_M) (N := 21) (ty := .array .int) rfl fi_M fy_M fo_M fn_M (by decide) tw_565 (Or.inr ⟨rfl, rfl, rfl⟩) (by decide +kernel) (Or.inr (Or.inr ⟨rfl, Or.inr ⟨_, rfl⟩⟩)) (by decide +kernel) rfl) ?_
  refine am_all.c (s_aload_n (kf := 0) (by decide +kernel) rfl rfl) ?_
  refine am_all.c (s_sipush (by decide +kernel) (by decide +kernel) (by decide) rfl) ?_
  refine am_all.c (s_newa (at0 := .int) rfl rfl (Or.inl rfl) tw_81 (by decide +kernel) rfl) ?_
  refine am_all.c (s_put (C := cn_M) (Tf := ft_M) (N := 21) (ty := .array .int) rfl fi_M fy_M fo_M fn_M (by decide) tw_566 (Or.inr ⟨rfl, rfl, rfl⟩) (by decide +kernel) (Or.inr (Or.inr ⟨rfl, Or.inr ⟨_, rfl⟩⟩)) (by decide +kernel) rfl) ?_
  refine am_all.c (s_aload_n (kf := 0) (by decide +kernel) rfl rfl) ?_
  refine am_all.c (s_bipush (by decide +kernel) (by decide +kernel) (by decide) rfl) ?_
  refine am_all.c (s_newa (at0 := .int) rfl rfl (Or.inl rfl) tw_81 (by decide +kernel) rfl) ?_
  refine am_all.c (s_put (C := cn_M) (Tf := ft_M) (N := 21) (ty := .array .int) rfl fi_M fy_M fo_M fn_M (by decide) tw_568 (Or.inr ⟨rfl, rfl, rfl⟩) (by decide +kernel) (Or.inr (Or.inr ⟨rfl, Or.inr ⟨_, rfl⟩⟩)) (by decide +kernel) rfl) ?_
  refine am_all.c (s_aload_n (kf := 0) (by decide +kernel) rfl rfl) ?_
  refine am_all.c (s_bipush (by decide +kernel) (by decide +kernel) (by decide) rfl) ?_
  refine am_all.c (s_newa (at0 := .int) rfl rfl (Or.inl rfl) tw_81 (by decide +kernel) rfl) ?_
  refine am_all.c (s_put (C := cn_M) (Tf := ft_M) (N := 21) (ty := .array .int) rfl fi_M fy_M fo_M fn_M (by decide) tw_570 (Or.inr ⟨rfl, rfl, rfl⟩) (by decide +kernel) (Or.inr (Or.inr ⟨rfl, Or.inr ⟨_, rfl⟩⟩)) (by decide +kernel) rfl) ?_
  refine am_all.c (s_aload_n (kf := 0) (by decide +kernel) rfl rfl) ?_
  refine am_all.c (s_bipush (by decide +kernel) (by decide +kernel) (by decide) rfl) ?_
  refine am_all.c (s_newa (at0 := .boolean) rfl rfl (Or.inr rfl) tw_173 (by decide +kernel) rfl) ?_
  refine am_all.c (s_put (C := cn_M) (Tf := ft_M) (N := 21) (ty := .array .boolean) rfl fi_M fy_M fo_M fn_M (by decide) tw_571 (Or.inr ⟨rfl, rfl, rfl⟩) (by decide +kernel) (Or.inr (Or.inr ⟨rfl, Or.inr ⟨_, rfl⟩⟩)) (by decide +kernel) rfl) ?_
  refine am_all.c (s_aload_n (kf := 0) (by decide +kernel) rfl rfl) ?_
  refine am_all.c (s_bipush (by decide +kernel) (by decide +kernel) (by decide) rfl) ?_
  refine am_all.c (s_newa (at0 := .int) rfl rfl (Or.inl rfl) tw_81 (by decide +kernel) rfl) ?_
  refine am_all.c (s_put (C := cn_M) (Tf := ft_M) (N := 21) (ty := .array .int) rfl fi_M fy_M fo_M fn_M (by decide) tw_572 (Or.inr ⟨rfl, rfl, rfl⟩) (by decide +kernel) (Or.inr (Or.inr ⟨rfl, Or.inr ⟨_, rfl⟩⟩)) (by decide +kernel) rfl) ?_
  refine am_all.c (s_iconst (by decide +kernel) (by decide) rfl) ?_
  refine am_all.c (s_istore_n (kf := 1) (by decide +kernel) rfl rfl) ?_
  refine am_all.c (s_iload_n (kf := 1) (by decide +kernel) rfl rfl) ?_
  refine am_all.c (s_iconst (by decide +kernel) (by decide) rfl) ?_
  refine am_all.c (s_icmp_ge (off := 23) (by decide +kernel) (by decide) rfl) ?_
  refine am_all.c (s_aload_n (kf := 0) (by decide +kernel) rfl rfl) ?_
  refine am_all.c (s_get (C := cn_M) (Tf := ft_M) (N := 21) rfl fi_M (by decide) tw_557 (by decide +kernel) rfl) ?_
  refine am_all.c (s_iload_n (kf := 1) (by decide +kernel) rfl rfl) ?_
  refine am_all.c (s_iconst (by decide +kernel) (by decide) rfl) ?_
  refine am_all.c (s_iast rfl (by decide +kernel) rfl) ?_
  refine am_all.c (s_aload_n (kf := 0) (by decide +kernel) rfl rfl) ?_
  refine am_all.c (s_get (C := cn_M) (Tf := ft_M) (N := 21) rfl fi_M (by decide) tw_558 (by decide +kernel) rfl) ?_
  refine am_all.c (s_iload_n (kf := 1) (by decide +kernel) rfl rfl) ?_
  refine am_all.c (s_iconst (by decide +kernel) (by decide) rfl) ?_
  refine am_all.c (s_iast rfl (by decide +kernel) rfl) ?_
  refine am_all.c (s_iinc (by decide +kernel) rfl) ?_
  refine am_all.c (s_goto (off := -22) (by decide +kernel) (by decide)) ?_
  refine am_all.c (s_iconst (by decide +kernel) (by decide) rfl) ?_
  refine am_all.c (s_istore_n (kf := 1) (by decide +kernel) rfl rfl) ?_
  refine am_all.c (s_iload_n (kf := 1) (by decide +kernel) rfl rfl) ?_
  refine am_all.c (s_iconst (by decide +kernel) (by decide) rfl) ?_
  refine am_all.c (s_icmp_ge (off := 16) (by decide +kernel) (by decide) rfl) ?_
  refine am_all.c (s_aload_n (kf := 0) (by decide +kernel) rfl rfl) ?_
  refine am_all.c (s_get (C := cn_M) (Tf := ft_M) (N := 21) rfl fi_M (by decide) tw_559 (by decide +kernel) rfl) ?_
  refine am_all.c (s_iload_n (kf := 1) (by decide +kernel) rfl rfl) ?_
  refine am_all.c (s_iconst (by decide +kernel) (by decide) rfl) ?_
  refine am_all.c (s_iast rfl (by decide +kernel) rfl) ?_
  refine am_all.c (s_iinc (by decide +kernel) rfl) ?_
  refine am_all.c (s_goto (off := -15) (by decide +kernel) (by decide)) ?_
  refine am_all.c (s_vret (by decide +kernel) rfl) ?_
  exact trivial
set_option maxRecDepth 20000 in
theorem ga_M_in {D : va_G} {dA : Nat → ClassId} {h b L : Nat} {xs : Nat → Int32} (hN : am_nN (am_En D dA h b L xs)) : am_all (am_En D dA h b L xs) mv_tb mv_P tM_in kM_in := by
  unfold kM_in
  refine am_all.c (s_iload_n (kf := 0) (by decide +kernel) rfl rfl) ?_
  refine am_all.c (s_iload_n (kf := 1) (by decide +kernel) rfl rfl) ?_
  refine am_all.c (s_icmp_lt (off := 12) (by decide +kernel) (by decide) rfl) ?_
  refine am_all.c (s_iload_n (kf := 0) (by decide +kernel) rfl rfl) ?_
  refine am_all.c (s_iload_n (kf := 2) (by decide +kernel) rfl rfl) ?_
  refine am_all.c (s_icmp_gt (off := 7) (by decide +kernel) (by decide) rfl) ?_
  refine am_all.c (s_iconst (by decide +kernel) (by decide) rfl) ?_
  refine am_all.c (s_goto (off := 4) (by decide +kernel) (by decide)) ?_
  refine am_all.c (s_iconst (by decide +kernel) (by decide) rfl) ?_
  refine am_all.c (s_zret (by decide +kernel) rfl) ?_
  exact trivial
set_option maxRecDepth 20000 in
theorem ga_M_place {D : va_G} {dA : Nat → ClassId} {h b L : Nat} {xs : Nat → Int32} (hN : am_nN (am_En D dA h b L xs)) : am_all (am_En D dA h b L xs) mv_tb mv_P tM_place kM_place := by
  unfold kM_place
  refine am_all.c (s_iconst (by decide +kernel) (by decide) rfl) ?_
  refine am_all.c (s_istore_n (kf := 3) (by decide +kernel) rfl rfl) ?_
  refine am_all.c (s_iload_n (kf := 3) (by decide +kernel) rfl rfl) ?_
  refine am_all.c (s_aload_n (kf := 0) (by decide +kernel) rfl rfl) ?_
  refine am_all.c (s_get (C := cn_M) (Tf := ft_M) (N := 21) rfl fi_M (by decide) tw_555 (by decide +kernel) rfl) ?_
  refine am_all.c (s_iload_n (kf := 1) (by decide +kernel) rfl rfl) ?_
  refine am_all.c (s_iald rfl (by decide +kernel) rfl) ?_
  refine am_all.c (s_icmp_ge (off := 28) (by decide +kernel) (by decide) rfl) ?_
  refine am_all.c (s_aload_n (kf := 0) (by decide +kernel) rfl rfl) ?_
  refine am_all.c (s_get (C := cn_M) (Tf := ft_M) (N := 21) rfl fi_M (by decide) tw_556 (by decide +kernel) rfl) ?_
  refine am_all.c (s_bipush (by decide +kernel) (by decide +kernel) (by decide) rfl) ?_
  refine am_all.c (s_iload_n (kf := 1) (by decide +kernel) rfl rfl) ?_
  refine am_all.c (s_imul (by decide +kernel) rfl) ?_
  refine am_all.c (s_iconst (by decide +kernel) (by decide) rfl) ?_
  refine am_all.c (s_iload_n (kf := 3) (by decide +kernel) rfl rfl) ?_
  refine am_all.c (s_imul (by decide +kernel) rfl) ?_
  refine am_all.c (s_iadd (by decide +kernel) rfl) ?_
  refine am_all.c (s_iald rfl (by decide +kernel) rfl) ?_
  refine am_all.c (s_iload_n (kf := 2) (by decide +kernel) rfl rfl) ?_
  refine am_all.c (s_icmp_ne (off := 5) (by decide +kernel) (by decide) rfl) ?_
  refine am_all.c (s_iload_n (kf := 3) (by decide +kernel) rfl rfl) ?_
  refine am_all.c (s_iret (by decide +kernel) rfl) ?_
  refine am_all.c (s_iinc (by decide +kernel) rfl) ?_
  refine am_all.c (s_goto (off := -32) (by decide +kernel) (by decide)) ?_
  refine am_all.c (s_iconst (by decide +kernel) (by decide) rfl) ?_
  refine am_all.c (s_iret (by decide +kernel) rfl) ?_
  exact trivial
set_option maxRecDepth 20000 in
theorem ga_M_flagsOf {D : va_G} {dA : Nat → ClassId} {h b L : Nat} {xs : Nat → Int32} (hN : am_nN (am_En D dA h b L xs)) : am_all (am_En D dA h b L xs) mv_tb mv_P tM_flagsOf kM_flagsOf := by
  unfold kM_flagsOf
  refine am_all.c (s_aload_n (kf := 0) (by decide +kernel) rfl rfl) ?_
  refine am_all.c (s_get (C := cn_M) (Tf := ft_M) (N := 21) rfl fi_M (by decide) tw_556 (by decide +kernel) rfl) ?_
  refine am_all.c (s_bipush (by decide +kernel) (by decide +kernel) (by decide) rfl) ?_
  refine am_all.c (s_iload_n (kf := 1) (by decide +kernel) rfl rfl) ?_
  refine am_all.c (s_imul (by decide +kernel) rfl) ?_
  refine am_all.c (s_iconst (by decide +kernel) (by decide) rfl) ?_
  refine am_all.c (s_aload_n (kf := 0) (by decide +kernel) rfl rfl) ?_
  refine am_all.c (s_iload_n (kf := 1) (by decide +kernel) rfl rfl) ?_
  refine am_all.c (s_iload_n (kf := 2) (by decide +kernel) rfl rfl) ?_
  refine am_all.c (s_callV (q := (cn_M, ft_M, 21)) (by decide) (ce_M_place hN) rfl rfl tw_635 tw_637 tw_24 (by decide +kernel) rfl) ?_
  refine am_all.c (s_imul (by decide +kernel) rfl) ?_
  refine am_all.c (s_iadd (by decide +kernel) rfl) ?_
  refine am_all.c (s_iconst (by decide +kernel) (by decide) rfl) ?_
  refine am_all.c (s_iadd (by decide +kernel) rfl) ?_
  refine am_all.c (s_iald rfl (by decide +kernel) rfl) ?_
  refine am_all.c (s_iret (by decide +kernel) rfl) ?_
  exact trivial
set_option maxRecDepth 20000 in
theorem ga_M_apply {D : va_G} {dA : Nat → ClassId} {h b L : Nat} {xs : Nat → Int32} (hN : am_nN (am_En D dA h b L xs)) : am_all (am_En D dA h b L xs) mv_tb mv_P tM_apply kM_apply := by
  unfold kM_apply
  refine am_all.c (s_iconst (by decide +kernel) (by decide) rfl) ?_
  refine am_all.c (s_iload_n (kf := 1) (by decide +kernel) rfl rfl) ?_
  refine am_all.c (s_imul (by decide +kernel) rfl) ?_
  refine am_all.c (s_istore_n (kf := 2) (by decide +kernel) rfl rfl) ?_
  refine am_all.c (s_aload_n (kf := 0) (by decide +kernel) rfl rfl) ?_
  refine am_all.c (s_get (C := cn_M) (Tf := ft_M) (N := 21) rfl fi_M (by decide) tw_554 (by decide +kernel) rfl) ?_
  refine am_all.c (s_iload_n (kf := 2) (by decide +kernel) rfl rfl) ?_
  refine am_all.c (s_iconst (by decide +kernel) (by decide) rfl) ?_
  refine am_all.c (s_iadd (by decide +kernel) rfl) ?_
  refine am_all.c (s_iald rfl (by decide +kernel) rfl) ?_
  refine am_all.c (s_istore_n (kf := 3) (by decide +kernel) rfl rfl) ?_
  refine am_all.c (s_aload_n (kf := 0) (by decide +kernel) rfl rfl) ?_
  refine am_all.c (s_get (C := cn_M) (Tf := ft_M) (N := 21) rfl fi_M (by decide) tw_554 (by decide +kernel) rfl) ?_
  refine am_all.c (s_iload_n (kf := 2) (by decide +kernel) rfl rfl) ?_
  refine am_all.c (s_iconst (by decide +kernel) (by decide) rfl) ?_
  refine am_all.c (s_iadd (by decide +kernel) rfl) ?_
  refine am_all.c (s_iald rfl (by decide +kernel) rfl) ?_
  refine am_all.c (s_istore (by decide +kernel) rfl) ?_
  refine am_all.c (s_aload_n (kf := 0) (by decide +kernel) rfl rfl) ?_
  refine am_all.c (s_get (C := cn_M) (Tf := ft_M) (N := 21) rfl fi_M (by decide) tw_554 (by decide +kernel) rfl) ?_
  refine am_all.c (s_iload_n (kf := 2) (by decide +kernel) rfl rfl) ?_
  refine am_all.c (s_iald rfl (by decide +kernel) rfl) ?_
  refine am_all.c (s_iconst (by decide +kernel) (by decide) rfl) ?_
  refine am_all.c (s_icmp_ne (off := 32) (by decide +kernel) (by decide) rfl) ?_
  refine am_all.c (s_aload_n (kf := 0) (by decide +kernel) rfl rfl) ?_
  refine am_all.c (s_get (C := cn_M) (Tf := ft_M) (N := 21) rfl fi_M (by decide) tw_556 (by decide +kernel) rfl) ?_
  refine am_all.c (s_bipush (by decide +kernel) (by decide +kernel) (by decide) rfl) ?_
  refine am_all.c (s_iload_n (kf := 3) (by decide +kernel) rfl rfl) ?_
  refine am_all.c (s_imul (by decide +kernel) rfl) ?_
  refine am_all.c (s_iconst (by decide +kernel) (by decide) rfl) ?_
  refine am_all.c (s_aload_n (kf := 0) (by decide +kernel) rfl rfl) ?_
  refine am_all.c (s_iload_n (kf := 3) (by decide +kernel) rfl rfl) ?_
  refine am_all.c (s_iload (by decide +kernel) rfl) ?_
  refine am_all.c (s_callV (q := (cn_M, ft_M, 21)) (by decide) (ce_M_place hN) rfl rfl tw_635 tw_637 tw_24 (by decide +kernel) rfl) ?_
  refine am_all.c (s_imul (by decide +kernel) rfl) ?_
  refine am_all.c (s_iadd (by decide +kernel) rfl) ?_
  refine am_all.c (s_iconst (by decide +kernel) (by decide) rfl) ?_
  refine am_all.c (s_iadd (by decide +kernel) rfl) ?_
  refine am_all.c (s_aload_n (kf := 0) (by decide +kernel) rfl rfl) ?_
  refine am_all.c (s_get (C := cn_M) (Tf := ft_M) (N := 21) rfl fi_M (by decide) tw_554 (by decide +kernel) rfl) ?_
  refine am_all.c (s_iload_n (kf := 2) (by decide +kernel) rfl rfl) ?_
  refine am_all.c (s_iconst (by decide +kernel) (by decide) rfl) ?_
  refine am_all.c (s_iadd (by decide +kernel) rfl) ?_
  refine am_all.c (s_iald rfl (by decide +kernel) rfl) ?_
  refine am_all.c (s_iast rfl (by decide +kernel) rfl) ?_
  refine am_all.c (s_aload_n (kf := 0) (by decide +kernel) rfl rfl) ?_
  refine am_all.c (s_get (C := cn_M) (Tf := ft_M) (N := 21) rfl fi_M (by decide) tw_554 (by decide +kernel) rfl) ?_
  refine am_all.c (s_iload_n (kf := 2) (by decide +kernel) rfl rfl) ?_
  refine am_all.c (s_iald rfl (by decide +kernel) rfl) ?_
  refine am_all.c (s_iconst (by decide +kernel) (by decide) rfl) ?_
  refine am_all.c (s_icmp_ne (off := 73) (by decide +kernel) (by decide) rfl) ?_
  refine am_all.c (s_aload_n (kf := 0) (by decide +kernel) rfl rfl) ?_
  refine am_all.c (s_iload_n (kf := 3) (by decide +kernel) rfl rfl) ?_
  refine am_all.c (s_iload (by decide +kernel) rfl) ?_
  refine am_all.c (s_callV (q := (cn_M, ft_M, 21)) (by decide) (ce_M_place hN) rfl rfl tw_635 tw_637 tw_24 (by decide +kernel) rfl) ?_
  refine am_all.c (s_istore (by decide +kernel) rfl) ?_
  refine am_all.c (s_aload_n (kf := 0) (by decide +kernel) rfl rfl) ?_
  refine am_all.c (s_get (C := cn_M) (Tf := ft_M) (N := 21) rfl fi_M (by decide) tw_555 (by decide +kernel) rfl) ?_
  refine am_all.c (s_iload_n (kf := 3) (by decide +kernel) rfl rfl) ?_
  refine am_all.c (s_dup2 (by decide +kernel) rfl) ?_
  refine am_all.c (s_iald rfl (by decide +kernel) rfl) ?_
  refine am_all.c (s_iconst (by decide +kernel) (by decide) rfl) ?_
  refine am_all.c (s_isub (by decide +kernel) rfl) ?_
  refine am_all.c (s_iast rfl (by decide +kernel) rfl) ?_
  refine am_all.c (s_bipush (by decide +kernel) (by decide +kernel) (by decide) rfl) ?_
  refine am_all.c (s_iload_n (kf := 3) (by decide +kernel) rfl rfl) ?_
  refine am_all.c (s_imul (by decide +kernel) rfl) ?_
  refine am_all.c (s_iconst (by decide +kernel) (by decide) rfl) ?_
  refine am_all.c (s_iload (by decide +kernel) rfl) ?_
  refine am_all.c (s_imul (by decide +kernel) rfl) ?_
  refine am_all.c (s_iadd (by decide +kernel) rfl) ?_
  refine am_all.c (s_istore (by decide +kernel) rfl) ?_
  refine am_all.c (s_iload (by decide +kernel) rfl) ?_
  refine am_all.c (s_bipush (by decide +kernel) (by decide +kernel) (by decide) rfl) ?_
  refine am_all.c (s_iload_n (kf := 3) (by decide +kernel) rfl rfl) ?_
  refine am_all.c (s_imul (by decide +kernel) rfl) ?_
  refine am_all.c (s_iconst (by decide +kernel) (by decide) rfl) ?_
  refine am_all.c (s_aload_n (kf := 0) (by decide +kernel) rfl rfl) ?_
  refine am_all.c (s_get (C := cn_M) (Tf := ft_M) (N := 21) rfl fi_M (by decide) tw_555 (by decide +kernel) rfl) ?_
  refine am_all.c (s_iload_n (kf := 3) (by decide +kernel) rfl rfl) ?_
  refine am_all.c (s_iald rfl (by decide +kernel) rfl) ?_
  refine am_all.c (s_imul (by decide +kernel) rfl) ?_
  refine am_all.c (s_iadd (by decide +kernel) rfl) ?_
  refine am_all.c (s_icmp_ge (off := 25) (by decide +kernel) (by decide) rfl) ?_
  refine am_all.c (s_aload_n (kf := 0) (by decide +kernel) rfl rfl) ?_
  refine am_all.c (s_get (C := cn_M) (Tf := ft_M) (N := 21) rfl fi_M (by decide) tw_556 (by decide +kernel) rfl) ?_
  refine am_all.c (s_iload (by decide +kernel) rfl) ?_
  refine am_all.c (s_aload_n (kf := 0) (by decide +kernel) rfl rfl) ?_
  refine am_all.c (s_get (C := cn_M) (Tf := ft_M) (N := 21) rfl fi_M (by decide) tw_556 (by decide +kernel) rfl) ?_
  refine am_all.c (s_iload (by decide +kernel) rfl) ?_
  refine am_all.c (s_iconst (by decide +kernel) (by decide) rfl) ?_
  refine am_all.c (s_iadd (by decide +kernel) rfl) ?_
  refine am_all.c (s_iald rfl (by decide +kernel) rfl) ?_
  refine am_all.c (s_iast rfl (by decide +kernel) rfl) ?_
  refine am_all.c (s_iinc (by decide +kernel) rfl) ?_
  refine am_all.c (s_goto (off := -37) (by decide +kernel) (by decide)) ?_
  refine am_all.c (s_aload_n (kf := 0) (by decide +kernel) rfl rfl) ?_
  refine am_all.c (s_get (C := cn_M) (Tf := ft_M) (N := 21) rfl fi_M (by decide) tw_554 (by decide +kernel) rfl) ?_
  refine am_all.c (s_iload_n (kf := 2) (by decide +kernel) rfl rfl) ?_
  refine am_all.c (s_iald rfl (by decide +kernel) rfl) ?_
  refine am_all.c (s_iconst (by decide +kernel) (by decide) rfl) ?_
  refine am_all.c (s_icmp_ne (off := 81) (by decide +kernel) (by decide) rfl) ?_
  refine am_all.c (s_bipush (by decide +kernel) (by decide +kernel) (by decide) rfl) ?_
  refine am_all.c (s_iload_n (kf := 3) (by decide +kernel) rfl rfl) ?_
  refine am_all.c (s_imul (by decide +kernel) rfl) ?_
  refine am_all.c (s_iconst (by decide +kernel) (by decide) rfl) ?_
  refine am_all.c (s_aload_n (kf := 0) (by decide +kernel) rfl rfl) ?_
  refine am_all.c (s_get (C := cn_M) (Tf := ft_M) (N := 21) rfl fi_M (by decide) tw_555 (by decide +kernel) rfl) ?_
  refine am_all.c (s_iload_n (kf := 3) (by decide +kernel) rfl rfl) ?_
  refine am_all.c (s_iald rfl (by decide +kernel) rfl) ?_
  refine am_all.c (s_imul (by decide +kernel) rfl) ?_
  refine am_all.c (s_iadd (by decide +kernel) rfl) ?_
  refine am_all.c (s_istore (by decide +kernel) rfl) ?_
  refine am_all.c (s_aload_n (kf := 0) (by decide +kernel) rfl rfl) ?_
  refine am_all.c (s_get (C := cn_M) (Tf := ft_M) (N := 21) rfl fi_M (by decide) tw_556 (by decide +kernel) rfl) ?_
  refine am_all.c (s_iload (by decide +kernel) rfl) ?_
  refine am_all.c (s_iload (by decide +kernel) rfl) ?_
  refine am_all.c (s_iast rfl (by decide +kernel) rfl) ?_
  refine am_all.c (s_aload_n (kf := 0) (by decide +kernel) rfl rfl) ?_
  refine am_all.c (s_get (C := cn_M) (Tf := ft_M) (N := 21) rfl fi_M (by decide) tw_556 (by decide +kernel) rfl) ?_
  refine am_all.c (s_iload (by decide +kernel) rfl) ?_
  refine am_all.c (s_iconst (by decide +kernel) (by decide) rfl) ?_
  refine am_all.c (s_iadd (by decide +kernel) rfl) ?_
  refine am_all.c (s_aload_n (kf := 0) (by decide +kernel) rfl rfl) ?_
  refine am_all.c (s_get (C := cn_M) (Tf := ft_M) (N := 21) rfl fi_M (by decide) tw_554 (by decide +kernel) rfl) ?_
  refine am_all.c (s_iload_n (kf := 2) (by decide +kernel) rfl rfl) ?_
  refine am_all.c (s_iconst (by decide +kernel) (by decide) rfl) ?_
  refine am_all.c (s_iadd (by decide +kernel) rfl) ?_
  refine am_all.c (s_iald rfl (by decide +kernel) rfl) ?_
  refine am_all.c (s_iast rfl (by decide +kernel) rfl) ?_
  refine am_all.c (s_aload_n (kf := 0) (by decide +kernel) rfl rfl) ?_
  refine am_all.c (s_get (C := cn_M) (Tf := ft_M) (N := 21) rfl fi_M (by decide) tw_556 (by decide +kernel) rfl) ?_
  refine am_all.c (s_iload (by decide +kernel) rfl) ?_
  refine am_all.c (s_iconst (by decide +kernel) (by decide) rfl) ?_
  refine am_all.c (s_iadd (by decide +kernel) rfl) ?_
  refine am_all.c (s_aload_n (kf := 0) (by decide +kernel) rfl rfl) ?_
  refine am_all.c (s_get (C := cn_M) (Tf := ft_M) (N := 21) rfl fi_M (by decide) tw_554 (by decide +kernel) rfl) ?_
  refine am_all.c (s_iload_n (kf := 2) (by decide +kernel) rfl rfl) ?_
  refine am_all.c (s_iconst (by decide +kernel) (by decide) rfl) ?_
  refine am_all.c (s_iadd (by decide +kernel) rfl) ?_
  refine am_all.c (s_iald rfl (by decide +kernel) rfl) ?_
  refine am_all.c (s_iast rfl (by decide +kernel) rfl) ?_
  refine am_all.c (s_aload_n (kf := 0) (by decide +kernel) rfl rfl) ?_
  refine am_all.c (s_get (C := cn_M) (Tf := ft_M) (N := 21) rfl fi_M (by decide) tw_555 (by decide +kernel) rfl) ?_
  refine am_all.c (s_iload_n (kf := 3) (by decide +kernel) rfl rfl) ?_
  refine am_all.c (s_dup2 (by decide +kernel) rfl) ?_
  refine am_all.c (s_iald rfl (by decide +kernel) rfl) ?_
  refine am_all.c (s_iconst (by decide +kernel) (by decide) rfl) ?_
  refine am_all.c (s_iadd (by decide +kernel) rfl) ?_
  refine am_all.c (s_iast rfl (by decide +kernel) rfl) ?_
  refine am_all.c (s_aload_n (kf := 0) (by decide +kernel) rfl rfl) ?_
  refine am_all.c (s_get (C := cn_M) (Tf := ft_M) (N := 21) rfl fi_M (by decide) tw_557 (by decide +kernel) rfl) ?_
  refine am_all.c (s_iload_n (kf := 3) (by decide +kernel) rfl rfl) ?_
  refine am_all.c (s_iload (by decide +kernel) rfl) ?_
  refine am_all.c (s_iconst (by decide +kernel) (by decide) rfl) ?_
  refine am_all.c (s_iadd (by decide +kernel) rfl) ?_
  refine am_all.c (s_iast rfl (by decide +kernel) rfl) ?_
  refine am_all.c (s_vret (by decide +kernel) rfl) ?_
  exact trivial
set_option maxRecDepth 20000 in
theorem ga_M_note {D : va_G} {dA : Nat → ClassId} {h b L : Nat} {xs : Nat → Int32} (hN : am_nN (am_En D dA h b L xs)) : am_all (am_En D dA h b L xs) mv_tb mv_P tM_note kM_note := by
  unfold kM_note
  refine am_all.c (s_iconst (by decide +kernel) (by decide) rfl) ?_
  refine am_all.c (s_aload_n (kf := 0) (by decide +kernel) rfl rfl) ?_
  refine am_all.c (s_get (C := cn_M) (Tf := ft_M) (N := 21) rfl fi_M (by decide) tw_552 (by decide +kernel) rfl) ?_
  refine am_all.c (s_imul (by decide +kernel) rfl) ?_
  refine am_all.c (s_istore (by decide +kernel) rfl) ?_
  refine am_all.c (s_aload_n (kf := 0) (by decide +kernel) rfl rfl) ?_
  refine am_all.c (s_get (C := cn_M) (Tf := ft_M) (N := 21) rfl fi_M (by decide) tw_554 (by decide +kernel) rfl) ?_
  refine am_all.c (s_iload (by decide +kernel) rfl) ?_
  refine am_all.c (s_iload_n (kf := 1) (by decide +kernel) rfl rfl) ?_
  refine am_all.c (s_iast rfl (by decide +kernel) rfl) ?_
  refine am_all.c (s_aload_n (kf := 0) (by decide +kernel) rfl rfl) ?_
  refine am_all.c (s_get (C := cn_M) (Tf := ft_M) (N := 21) rfl fi_M (by decide) tw_554 (by decide +kernel) rfl) ?_
  refine am_all.c (s_iload (by decide +kernel) rfl) ?_
  refine am_all.c (s_iconst (by decide +kernel) (by decide) rfl) ?_
  refine am_all.c (s_iadd (by decide +kernel) rfl) ?_
  refine am_all.c (s_iload_n (kf := 2) (by decide +kernel) rfl rfl) ?_
  refine am_all.c (s_iast rfl (by decide +kernel) rfl) ?_
  refine am_all.c (s_aload_n (kf := 0) (by decide +kernel) rfl rfl) ?_
  refine am_all.c (s_get (C := cn_M) (Tf := ft_M) (N := 21) rfl fi_M (by decide) tw_554 (by decide +kernel) rfl) ?_
  refine am_all.c (s_iload (by decide +kernel) rfl) ?_
  refine am_all.c (s_iconst (by decide +kernel) (by decide) rfl) ?_
  refine am_all.c (s_iadd (by decide +kernel) rfl) ?_
  refine am_all.c (s_iload_n (kf := 3) (by decide +kernel) rfl rfl) ?_
  refine am_all.c (s_iast rfl (by decide +kernel) rfl) ?_
  refine am_all.c (s_aload_n (kf := 0) (by decide +kernel) rfl rfl) ?_
  refine am_all.c (s_get (C := cn_M) (Tf := ft_M) (N := 21) rfl fi_M (by decide) tw_554 (by decide +kernel) rfl) ?_
  refine am_all.c (s_iload (by decide +kernel) rfl) ?_
  refine am_all.c (s_iconst (by decide +kernel) (by decide) rfl) ?_
  refine am_all.c (s_iadd (by decide +kernel) rfl) ?_
  refine am_all.c (s_iload (by decide +kernel) rfl) ?_
  refine am_all.c (s_iast rfl (by decide +kernel) rfl) ?_
  refine am_all.c (s_aload_n (kf := 0) (by decide +kernel) rfl rfl) ?_
  refine am_all.c (s_get (C := cn_M) (Tf := ft_M) (N := 21) rfl fi_M (by decide) tw_554 (by decide +kernel) rfl) ?_
  refine am_all.c (s_iload (by decide +kernel) rfl) ?_
  refine am_all.c (s_iconst (by decide +kernel) (by decide) rfl) ?_
  refine am_all.c (s_iadd (by decide +kernel) rfl) ?_
  refine am_all.c (s_iload (by decide +kernel) rfl) ?_
  refine am_all.c (s_iast rfl (by decide +kernel) rfl) ?_
  refine am_all.c (s_aload_n (kf := 0) (by decide +kernel) rfl rfl) ?_
  refine am_all.c (s_aload_n (kf := 0) (by decide +kernel) rfl rfl) ?_
  refine am_all.c (s_get (C := cn_M) (Tf := ft_M) (N := 21) rfl fi_M (by decide) tw_552 (by decide +kernel) rfl) ?_
  refine am_all.c (s_callV (q := (cn_M, ft_M, 21)) (by decide) (ce_M_apply hN) rfl rfl tw_631 tw_633 tw_23 (by decide +kernel) rfl) ?_
  refine am_all.c (s_aload_n (kf := 0) (by decide +kernel) rfl rfl) ?_
  refine am_all.c (s_dup (by decide +kernel) rfl) ?_
  refine am_all.c (s_get (C := cn_M) (Tf := ft_M) (N := 21) rfl fi_M (by decide) tw_552 (by decide +kernel) rfl) ?_
  refine am_all.c (s_iconst (by decide +kernel) (by decide) rfl) ?_
  refine am_all.c (s_iadd (by decide +kernel) rfl) ?_
  refine am_all.c (s_put (C := cn_M) (Tf := ft_M) (N := 21) (ty := .int) rfl fi_M fy_M fo_M fn_M (by decide) tw_552 (Or.inl rfl) (by decide +kernel) (Or.inl ⟨rfl, rfl⟩) (by decide +kernel) rfl) ?_
  refine am_all.c (s_aload_n (kf := 0) (by decide +kernel) rfl rfl) ?_
  refine am_all.c (s_get (C := cn_M) (Tf := ft_M) (N := 21) rfl fi_M (by decide) tw_552 (by decide +kernel) rfl) ?_
  refine am_all.c (s_aload_n (kf := 0) (by decide +kernel) rfl rfl) ?_
  refine am_all.c (s_get (C := cn_M) (Tf := ft_M) (N := 21) rfl fi_M (by decide) tw_553 (by decide +kernel) rfl) ?_
  refine am_all.c (s_isub (by decide +kernel) rfl) ?_
  refine am_all.c (s_bipush (by decide +kernel) (by decide +kernel) (by decide) rfl) ?_
  refine am_all.c (s_icmp_ne (off := 11) (by decide +kernel) (by decide) rfl) ?_
  refine am_all.c (s_aload_n (kf := 0) (by decide +kernel) rfl rfl) ?_
  refine am_all.c (s_aload_n (kf := 0) (by decide +kernel) rfl rfl) ?_
  refine am_all.c (s_get (C := cn_M) (Tf := ft_M) (N := 21) rfl fi_M (by decide) tw_552 (by decide +kernel) rfl) ?_
  refine am_all.c (s_put (C := cn_M) (Tf := ft_M) (N := 21) (ty := .int) rfl fi_M fy_M fo_M fn_M (by decide) tw_553 (Or.inl rfl) (by decide +kernel) (Or.inl ⟨rfl, rfl⟩) (by decide +kernel) rfl) ?_
  refine am_all.c (s_vret (by decide +kernel) rfl) ?_
  exact trivial
set_option maxRecDepth 20000 in
theorem ga_M_add {D : va_G} {dA : Nat → ClassId} {h b L : Nat} {xs : Nat → Int32} (hN : am_nN (am_En D dA h b L xs)) : am_all (am_En D dA h b L xs) mv_tb mv_P tM_add kM_add := by
  unfold kM_add
  refine am_all.c (s_aload_n (kf := 0) (by decide +kernel) rfl rfl) ?_
  refine am_all.c (s_get (C := cn_M) (Tf := ft_M) (N := 21) rfl fi_M (by decide) tw_555 (by decide +kernel) rfl) ?_
  refine am_all.c (s_iload_n (kf := 1) (by decide +kernel) rfl rfl) ?_
  refine am_all.c (s_iald rfl (by decide +kernel) rfl) ?_
  refine am_all.c (s_bipush (by decide +kernel) (by decide +kernel) (by decide) rfl) ?_
  refine am_all.c (s_icmp_ne (off := 6) (by decide +kernel) (by decide) rfl) ?_
  refine am_all.c (s_bipush (by decide +kernel) (by decide +kernel) (by decide) rfl) ?_
  refine am_all.c (s_iret (by decide +kernel) rfl) ?_
  refine am_all.c (s_aload_n (kf := 0) (by decide +kernel) rfl rfl) ?_
  refine am_all.c (s_iconst (by decide +kernel) (by decide) rfl) ?_
  refine am_all.c (s_iload_n (kf := 1) (by decide +kernel) rfl rfl) ?_
  refine am_all.c (s_aload_n (kf := 0) (by decide +kernel) rfl rfl) ?_
  refine am_all.c (s_get (C := cn_M) (Tf := ft_M) (N := 21) rfl fi_M (by decide) tw_557 (by decide +kernel) rfl) ?_
  refine am_all.c (s_iload_n (kf := 1) (by decide +kernel) rfl rfl) ?_
  refine am_all.c (s_iald rfl (by decide +kernel) rfl) ?_
  refine am_all.c (s_iload_n (kf := 2) (by decide +kernel) rfl rfl) ?_
  refine am_all.c (s_iload_n (kf := 3) (by decide +kernel) rfl rfl) ?_
  refine am_all.c (s_callV (q := (cn_M, ft_M, 21)) (by decide) (ce_M_note hN) rfl rfl tw_627 tw_629 tw_22 (by decide +kernel) rfl) ?_
  refine am_all.c (s_aload_n (kf := 0) (by decide +kernel) rfl rfl) ?_
  refine am_all.c (s_get (C := cn_M) (Tf := ft_M) (N := 21) rfl fi_M (by decide) tw_557 (by decide +kernel) rfl) ?_
  refine am_all.c (s_iload_n (kf := 1) (by decide +kernel) rfl rfl) ?_
  refine am_all.c (s_iald rfl (by decide +kernel) rfl) ?_
  refine am_all.c (s_iconst (by decide +kernel) (by decide) rfl) ?_
  refine am_all.c (s_isub (by decide +kernel) rfl) ?_
  refine am_all.c (s_iret (by decide +kernel) rfl) ?_
  exact trivial
set_option maxRecDepth 20000 in
theorem ga_M_purge {D : va_G} {dA : Nat → ClassId} {h b L : Nat} {xs : Nat → Int32} (hN : am_nN (am_En D dA h b L xs)) : am_all (am_En D dA h b L xs) mv_tb mv_P tM_purge kM_purge := by
  unfold kM_purge
  refine am_all.c (s_iconst (by decide +kernel) (by decide) rfl) ?_
  refine am_all.c (s_istore_n (kf := 2) (by decide +kernel) rfl rfl) ?_
  refine am_all.c (s_iconst (by decide +kernel) (by decide) rfl) ?_
  refine am_all.c (s_istore_n (kf := 3) (by decide +kernel) rfl rfl) ?_
  refine am_all.c (s_iload_n (kf := 3) (by decide +kernel) rfl rfl) ?_
  refine am_all.c (s_aload_n (kf := 0) (by decide +kernel) rfl rfl) ?_
  refine am_all.c (s_get (C := cn_M) (Tf := ft_M) (N := 21) rfl fi_M (by decide) tw_555 (by decide +kernel) rfl) ?_
  refine am_all.c (s_iload_n (kf := 1) (by decide +kernel) rfl rfl) ?_
  refine am_all.c (s_iald rfl (by decide +kernel) rfl) ?_
  refine am_all.c (s_icmp_ge (off := 57) (by decide +kernel) (by decide) rfl) ?_
  refine am_all.c (s_aload_n (kf := 0) (by decide +kernel) rfl rfl) ?_
  refine am_all.c (s_get (C := cn_M) (Tf := ft_M) (N := 21) rfl fi_M (by decide) tw_556 (by decide +kernel) rfl) ?_
  refine am_all.c (s_bipush (by decide +kernel) (by decide +kernel) (by decide) rfl) ?_
  refine am_all.c (s_iload_n (kf := 1) (by decide +kernel) rfl rfl) ?_
  refine am_all.c (s_imul (by decide +kernel) rfl) ?_
  refine am_all.c (s_iconst (by decide +kernel) (by decide) rfl) ?_
  refine am_all.c (s_iload_n (kf := 3) (by decide +kernel) rfl rfl) ?_
  refine am_all.c (s_imul (by decide +kernel) rfl) ?_
  refine am_all.c (s_iadd (by decide +kernel) rfl) ?_
  refine am_all.c (s_iconst (by decide +kernel) (by decide) rfl) ?_
  refine am_all.c (s_iadd (by decide +kernel) rfl) ?_
  refine am_all.c (s_iald rfl (by decide +kernel) rfl) ?_
  refine am_all.c (s_bipush (by decide +kernel) (by decide +kernel) (by decide) rfl) ?_
  refine am_all.c (s_iand (by decide +kernel) rfl) ?_
  refine am_all.c (s_if_ne (off := 9) (by decide +kernel) (by decide) rfl) ?_
  refine am_all.c (s_iinc (by decide +kernel) rfl) ?_
  refine am_all.c (s_goto (off := -34) (by decide +kernel) (by decide)) ?_
  refine am_all.c (s_aload_n (kf := 0) (by decide +kernel) rfl rfl) ?_
  refine am_all.c (s_iconst (by decide +kernel) (by decide) rfl) ?_
  refine am_all.c (s_iload_n (kf := 1) (by decide +kernel) rfl rfl) ?_
  refine am_all.c (s_aload_n (kf := 0) (by decide +kernel) rfl rfl) ?_
  refine am_all.c (s_get (C := cn_M) (Tf := ft_M) (N := 21) rfl fi_M (by decide) tw_556 (by decide +kernel) rfl) ?_
  refine am_all.c (s_bipush (by decide +kernel) (by decide +kernel) (by decide) rfl) ?_
  refine am_all.c (s_iload_n (kf := 1) (by decide +kernel) rfl rfl) ?_
  refine am_all.c (s_imul (by decide +kernel) rfl) ?_
  refine am_all.c (s_iconst (by decide +kernel) (by decide) rfl) ?_
  refine am_all.c (s_iload_n (kf := 3) (by decide +kernel) rfl rfl) ?_
  refine am_all.c (s_imul (by decide +kernel) rfl) ?_
  refine am_all.c (s_iadd (by decide +kernel) rfl) ?_
  refine am_all.c (s_iald rfl (by decide +kernel) rfl) ?_
  refine am_all.c (s_iconst (by decide +kernel) (by decide) rfl) ?_
  refine am_all.c (s_iconst (by decide +kernel) (by decide) rfl) ?_
  refine am_all.c (s_callV (q := (cn_M, ft_M, 21)) (by decide) (ce_M_note hN) rfl rfl tw_627 tw_629 tw_22 (by decide +kernel) rfl) ?_
  refine am_all.c (s_iinc (by decide +kernel) rfl) ?_
  refine am_all.c (s_goto (off := -61) (by decide +kernel) (by decide)) ?_
  refine am_all.c (s_iload_n (kf := 2) (by decide +kernel) rfl rfl) ?_
  refine am_all.c (s_iret (by decide +kernel) rfl) ?_
  exact trivial
set_option maxRecDepth 20000 in
theorem ga_M_append {D : va_G} {dA : Nat → ClassId} {h b L : Nat} {xs : Nat → Int32} (hN : am_nN (am_En D dA h b L xs)) : am_all (am_En D dA h b L xs) mv_tb mv_P tM_append kM_append := by
  unfold kM_append
  refine am_all.c (s_iload_n (kf := 1) (by decide +kernel) rfl rfl) ?_
  refine am_all.c (s_iconst (by decide +kernel) (by decide) rfl) ?_
  refine am_all.c (s_iconst (by decide +kernel) (by decide) rfl) ?_
  refine am_all.c (s_callS (by decide) (ce_M_in hN) tw_620 tw_621 (by decide +kernel) rfl) ?_
  refine am_all.c (s_if_eq (off := 24) (by decide +kernel) (by decide) rfl) ?_
  refine am_all.c (s_iload_n (kf := 2) (by decide +kernel) rfl rfl) ?_
  refine am_all.c (s_iconst (by decide +kernel) (by decide) rfl) ?_
  refine am_all.c (s_bipush (by decide +kernel) (by decide +kernel) (by decide) rfl) ?_
  refine am_all.c (s_callS (by decide) (ce_M_in hN) tw_620 tw_621 (by decide +kernel) rfl) ?_
  refine am_all.c (s_if_eq (off := 14) (by decide +kernel) (by decide) rfl) ?_
  refine am_all.c (s_iload_n (kf := 3) (by decide +kernel) rfl rfl) ?_
  refine am_all.c (s_iconst (by decide +kernel) (by decide) rfl) ?_
  refine am_all.c (s_sipush (by decide +kernel) (by decide +kernel) (by decide) rfl) ?_
  refine am_all.c (s_callS (by decide) (ce_M_in hN) tw_620 tw_621 (by decide +kernel) rfl) ?_
  refine am_all.c (s_if_ne (off := 5) (by decide +kernel) (by decide) rfl) ?_
  refine am_all.c (s_iconst (by decide +kernel) (by decide) rfl) ?_
  refine am_all.c (s_iret (by decide +kernel) rfl) ?_
  refine am_all.c (s_aload_n (kf := 0) (by decide +kernel) rfl rfl) ?_
  refine am_all.c (s_iload_n (kf := 1) (by decide +kernel) rfl rfl) ?_
  refine am_all.c (s_iload_n (kf := 2) (by decide +kernel) rfl rfl) ?_
  refine am_all.c (s_iload_n (kf := 3) (by decide +kernel) rfl rfl) ?_
  refine am_all.c (s_callV (q := (cn_M, ft_M, 21)) (by decide) (ce_M_add hN) rfl rfl tw_623 tw_625 tw_21 (by decide +kernel) rfl) ?_
  refine am_all.c (s_iret (by decide +kernel) rfl) ?_
  exact trivial
set_option maxRecDepth 20000 in
theorem ga_M_none {D : va_G} {dA : Nat → ClassId} {h b L : Nat} {xs : Nat → Int32} (hN : am_nN (am_En D dA h b L xs)) : am_all (am_En D dA h b L xs) mv_tb mv_P tM_none kM_none := by
  unfold kM_none
  refine am_all.c (s_iload_n (kf := 1) (by decide +kernel) rfl rfl) ?_
  refine am_all.c (s_iconst (by decide +kernel) (by decide) rfl) ?_
  refine am_all.c (s_iconst (by decide +kernel) (by decide) rfl) ?_
  refine am_all.c (s_callS (by decide) (ce_M_in hN) tw_620 tw_621 (by decide +kernel) rfl) ?_
  refine am_all.c (s_if_eq (off := 12) (by decide +kernel) (by decide) rfl) ?_
  refine am_all.c (s_aload_n (kf := 0) (by decide +kernel) rfl rfl) ?_
  refine am_all.c (s_get (C := cn_M) (Tf := ft_M) (N := 21) rfl fi_M (by decide) tw_559 (by decide +kernel) rfl) ?_
  refine am_all.c (s_iload_n (kf := 1) (by decide +kernel) rfl rfl) ?_
  refine am_all.c (s_iald rfl (by decide +kernel) rfl) ?_
  refine am_all.c (s_if_ge (off := 7) (by decide +kernel) (by decide) rfl) ?_
  refine am_all.c (s_iconst (by decide +kernel) (by decide) rfl) ?_
  refine am_all.c (s_goto (off := 4) (by decide +kernel) (by decide)) ?_
  refine am_all.c (s_iconst (by decide +kernel) (by decide) rfl) ?_
  refine am_all.c (s_zret (by decide +kernel) rfl) ?_
  exact trivial
set_option maxRecDepth 20000 in
theorem ga_M_bad {D : va_G} {dA : Nat → ClassId} {h b L : Nat} {xs : Nat → Int32} (hN : am_nN (am_En D dA h b L xs)) : am_all (am_En D dA h b L xs) mv_tb mv_P tM_bad kM_bad := by
  unfold kM_bad
  refine am_all.c (s_aload_n (kf := 0) (by decide +kernel) rfl rfl) ?_
  refine am_all.c (s_iload_n (kf := 1) (by decide +kernel) rfl rfl) ?_
  refine am_all.c (s_callV (q := (cn_M, ft_M, 21)) (by decide) (ce_M_none hN) rfl rfl tw_651 tw_653 tw_26 (by decide +kernel) rfl) ?_
  refine am_all.c (s_if_ne (off := 17) (by decide +kernel) (by decide) rfl) ?_
  refine am_all.c (s_iload_n (kf := 2) (by decide +kernel) rfl rfl) ?_
  refine am_all.c (s_iconst (by decide +kernel) (by decide) rfl) ?_
  refine am_all.c (s_aload_n (kf := 0) (by decide +kernel) rfl rfl) ?_
  refine am_all.c (s_get (C := cn_M) (Tf := ft_M) (N := 21) rfl fi_M (by decide) tw_561 (by decide +kernel) rfl) ?_
  refine am_all.c (s_iload_n (kf := 1) (by decide +kernel) rfl rfl) ?_
  refine am_all.c (s_iald rfl (by decide +kernel) rfl) ?_
  refine am_all.c (s_callS (by decide) (ce_M_in hN) tw_620 tw_621 (by decide +kernel) rfl) ?_
  refine am_all.c (s_if_ne (off := 7) (by decide +kernel) (by decide) rfl) ?_
  refine am_all.c (s_iconst (by decide +kernel) (by decide) rfl) ?_
  refine am_all.c (s_goto (off := 4) (by decide +kernel) (by decide)) ?_
  refine am_all.c (s_iconst (by decide +kernel) (by decide) rfl) ?_
  refine am_all.c (s_zret (by decide +kernel) rfl) ?_
  exact trivial
set_option maxRecDepth 20000 in
theorem ga_M_uidOf {D : va_G} {dA : Nat → ClassId} {h b L : Nat} {xs : Nat → Int32} (hN : am_nN (am_En D dA h b L xs)) : am_all (am_En D dA h b L xs) mv_tb mv_P tM_uidOf kM_uidOf := by
  unfold kM_uidOf
  refine am_all.c (s_aload_n (kf := 0) (by decide +kernel) rfl rfl) ?_
  refine am_all.c (s_get (C := cn_M) (Tf := ft_M) (N := 21) rfl fi_M (by decide) tw_562 (by decide +kernel) rfl) ?_
  refine am_all.c (s_bipush (by decide +kernel) (by decide +kernel) (by decide) rfl) ?_
  refine am_all.c (s_iload_n (kf := 1) (by decide +kernel) rfl rfl) ?_
  refine am_all.c (s_imul (by decide +kernel) rfl) ?_
  refine am_all.c (s_iload_n (kf := 2) (by decide +kernel) rfl rfl) ?_
  refine am_all.c (s_iadd (by decide +kernel) rfl) ?_
  refine am_all.c (s_iconst (by decide +kernel) (by decide) rfl) ?_
  refine am_all.c (s_isub (by decide +kernel) rfl) ?_
  refine am_all.c (s_iald rfl (by decide +kernel) rfl) ?_
  refine am_all.c (s_iret (by decide +kernel) rfl) ?_
  exact trivial
set_option maxRecDepth 20000 in
theorem ga_M_gone {D : va_G} {dA : Nat → ClassId} {h b L : Nat} {xs : Nat → Int32} (hN : am_nN (am_En D dA h b L xs)) : am_all (am_En D dA h b L xs) mv_tb mv_P tM_gone kM_gone := by
  unfold kM_gone
  refine am_all.c (s_aload_n (kf := 0) (by decide +kernel) rfl rfl) ?_
  refine am_all.c (s_aload_n (kf := 0) (by decide +kernel) rfl rfl) ?_
  refine am_all.c (s_get (C := cn_M) (Tf := ft_M) (N := 21) rfl fi_M (by decide) tw_559 (by decide +kernel) rfl) ?_
  refine am_all.c (s_iload_n (kf := 1) (by decide +kernel) rfl rfl) ?_
  refine am_all.c (s_iald rfl (by decide +kernel) rfl) ?_
  refine am_all.c (s_aload_n (kf := 0) (by decide +kernel) rfl rfl) ?_
  refine am_all.c (s_iload_n (kf := 1) (by decide +kernel) rfl rfl) ?_
  refine am_all.c (s_iload_n (kf := 2) (by decide +kernel) rfl rfl) ?_
  refine am_all.c (s_callV (q := (cn_M, ft_M, 21)) (by decide) (ce_M_uidOf hN) rfl rfl tw_671 tw_673 tw_30 (by decide +kernel) rfl) ?_
  refine am_all.c (s_callV (q := (cn_M, ft_M, 21)) (by decide) (ce_M_place hN) rfl rfl tw_635 tw_637 tw_24 (by decide +kernel) rfl) ?_
  refine am_all.c (s_if_ge (off := 7) (by decide +kernel) (by decide) rfl) ?_
  refine am_all.c (s_iconst (by decide +kernel) (by decide) rfl) ?_
  refine am_all.c (s_goto (off := 4) (by decide +kernel) (by decide)) ?_
  refine am_all.c (s_iconst (by decide +kernel) (by decide) rfl) ?_
  refine am_all.c (s_zret (by decide +kernel) rfl) ?_
  exact trivial
set_option maxRecDepth 20000 in
theorem ga_M_tell {D : va_G} {dA : Nat → ClassId} {h b L : Nat} {xs : Nat → Int32} (hN : am_nN (am_En D dA h b L xs)) : am_all (am_En D dA h b L xs) mv_tb mv_P tM_tell kM_tell := by
  unfold kM_tell
  refine am_all.c (s_aload_n (kf := 0) (by decide +kernel) rfl rfl) ?_
  refine am_all.c (s_get (C := cn_M) (Tf := ft_M) (N := 21) rfl fi_M (by decide) tw_566 (by decide +kernel) rfl) ?_
  refine am_all.c (s_bipush (by decide +kernel) (by decide +kernel) (by decide) rfl) ?_
  refine am_all.c (s_iload_n (kf := 1) (by decide +kernel) rfl rfl) ?_
  refine am_all.c (s_imul (by decide +kernel) rfl) ?_
  refine am_all.c (s_iconst (by decide +kernel) (by decide) rfl) ?_
  refine am_all.c (s_aload_n (kf := 0) (by decide +kernel) rfl rfl) ?_
  refine am_all.c (s_get (C := cn_M) (Tf := ft_M) (N := 21) rfl fi_M (by decide) tw_565 (by decide +kernel) rfl) ?_
  refine am_all.c (s_iload_n (kf := 1) (by decide +kernel) rfl rfl) ?_
  refine am_all.c (s_iald rfl (by decide +kernel) rfl) ?_
  refine am_all.c (s_imul (by decide +kernel) rfl) ?_
  refine am_all.c (s_iadd (by decide +kernel) rfl) ?_
  refine am_all.c (s_iload_n (kf := 2) (by decide +kernel) rfl rfl) ?_
  refine am_all.c (s_iast rfl (by decide +kernel) rfl) ?_
  refine am_all.c (s_aload_n (kf := 0) (by decide +kernel) rfl rfl) ?_
  refine am_all.c (s_get (C := cn_M) (Tf := ft_M) (N := 21) rfl fi_M (by decide) tw_566 (by decide +kernel) rfl) ?_
  refine am_all.c (s_bipush (by decide +kernel) (by decide +kernel) (by decide) rfl) ?_
  refine am_all.c (s_iload_n (kf := 1) (by decide +kernel) rfl rfl) ?_
  refine am_all.c (s_imul (by decide +kernel) rfl) ?_
  refine am_all.c (s_iconst (by decide +kernel) (by decide) rfl) ?_
  refine am_all.c (s_aload_n (kf := 0) (by decide +kernel) rfl rfl) ?_
  refine am_all.c (s_get (C := cn_M) (Tf := ft_M) (N := 21) rfl fi_M (by decide) tw_565 (by decide +kernel) rfl) ?_
  refine am_all.c (s_iload_n (kf := 1) (by decide +kernel) rfl rfl) ?_
  refine am_all.c (s_iald rfl (by decide +kernel) rfl) ?_
  refine am_all.c (s_imul (by decide +kernel) rfl) ?_
  refine am_all.c (s_iadd (by decide +kernel) rfl) ?_
  refine am_all.c (s_iconst (by decide +kernel) (by decide) rfl) ?_
  refine am_all.c (s_iadd (by decide +kernel) rfl) ?_
  refine am_all.c (s_iload_n (kf := 3) (by decide +kernel) rfl rfl) ?_
  refine am_all.c (s_iast rfl (by decide +kernel) rfl) ?_
  refine am_all.c (s_aload_n (kf := 0) (by decide +kernel) rfl rfl) ?_
  refine am_all.c (s_get (C := cn_M) (Tf := ft_M) (N := 21) rfl fi_M (by decide) tw_565 (by decide +kernel) rfl) ?_
  refine am_all.c (s_iload_n (kf := 1) (by decide +kernel) rfl rfl) ?_
  refine am_all.c (s_dup2 (by decide +kernel) rfl) ?_
  refine am_all.c (s_iald rfl (by decide +kernel) rfl) ?_
  refine am_all.c (s_iconst (by decide +kernel) (by decide) rfl) ?_
  refine am_all.c (s_iadd (by decide +kernel) rfl) ?_
  refine am_all.c (s_iast rfl (by decide +kernel) rfl) ?_
  refine am_all.c (s_vret (by decide +kernel) rfl) ?_
  exact trivial
set_option maxRecDepth 20000 in
theorem ga_M_leave {D : va_G} {dA : Nat → ClassId} {h b L : Nat} {xs : Nat → Int32} (hN : am_nN (am_En D dA h b L xs)) : am_all (am_En D dA h b L xs) mv_tb mv_P tM_leave kM_leave := by
  unfold kM_leave
  refine am_all.c (s_aload_n (kf := 0) (by decide +kernel) rfl rfl) ?_
  refine am_all.c (s_get (C := cn_M) (Tf := ft_M) (N := 21) rfl fi_M (by decide) tw_561 (by decide +kernel) rfl) ?_
  refine am_all.c (s_iload_n (kf := 1) (by decide +kernel) rfl rfl) ?_
  refine am_all.c (s_dup2 (by decide +kernel) rfl) ?_
  refine am_all.c (s_iald rfl (by decide +kernel) rfl) ?_
  refine am_all.c (s_iconst (by decide +kernel) (by decide) rfl) ?_
  refine am_all.c (s_isub (by decide +kernel) rfl) ?_
  refine am_all.c (s_iast rfl (by decide +kernel) rfl) ?_
  refine am_all.c (s_bipush (by decide +kernel) (by decide +kernel) (by decide) rfl) ?_
  refine am_all.c (s_iload_n (kf := 1) (by decide +kernel) rfl rfl) ?_
  refine am_all.c (s_imul (by decide +kernel) rfl) ?_
  refine am_all.c (s_iload_n (kf := 2) (by decide +kernel) rfl rfl) ?_
  refine am_all.c (s_iadd (by decide +kernel) rfl) ?_
  refine am_all.c (s_iconst (by decide +kernel) (by decide) rfl) ?_
  refine am_all.c (s_isub (by decide +kernel) rfl) ?_
  refine am_all.c (s_istore_n (kf := 3) (by decide +kernel) rfl rfl) ?_
  refine am_all.c (s_iload_n (kf := 3) (by decide +kernel) rfl rfl) ?_
  refine am_all.c (s_bipush (by decide +kernel) (by decide +kernel) (by decide) rfl) ?_
  refine am_all.c (s_iload_n (kf := 1) (by decide +kernel) rfl rfl) ?_
  refine am_all.c (s_imul (by decide +kernel) rfl) ?_
  refine am_all.c (s_aload_n (kf := 0) (by decide +kernel) rfl rfl) ?_
  refine am_all.c (s_get (C := cn_M) (Tf := ft_M) (N := 21) rfl fi_M (by decide) tw_561 (by decide +kernel) rfl) ?_
  refine am_all.c (s_iload_n (kf := 1) (by decide +kernel) rfl rfl) ?_
  refine am_all.c (s_iald rfl (by decide +kernel) rfl) ?_
  refine am_all.c (s_iadd (by decide +kernel) rfl) ?_
  refine am_all.c (s_icmp_ge (off := 37) (by decide +kernel) (by decide) rfl) ?_
  refine am_all.c (s_aload_n (kf := 0) (by decide +kernel) rfl rfl) ?_
  refine am_all.c (s_get (C := cn_M) (Tf := ft_M) (N := 21) rfl fi_M (by decide) tw_562 (by decide +kernel) rfl) ?_
  refine am_all.c (s_iload_n (kf := 3) (by decide +kernel) rfl rfl) ?_
  refine am_all.c (s_aload_n (kf := 0) (by decide +kernel) rfl rfl) ?_
  refine am_all.c (s_get (C := cn_M) (Tf := ft_M) (N := 21) rfl fi_M (by decide) tw_562 (by decide +kernel) rfl) ?_
  refine am_all.c (s_iload_n (kf := 3) (by decide +kernel) rfl rfl) ?_
  refine am_all.c (s_iconst (by decide +kernel) (by decide) rfl) ?_
  refine am_all.c (s_iadd (by decide +kernel) rfl) ?_
  refine am_all.c (s_iald rfl (by decide +kernel) rfl) ?_
  refine am_all.c (s_iast rfl (by decide +kernel) rfl) ?_
  refine am_all.c (s_aload_n (kf := 0) (by decide +kernel) rfl rfl) ?_
  refine am_all.c (s_get (C := cn_M) (Tf := ft_M) (N := 21) rfl fi_M (by decide) tw_563 (by decide +kernel) rfl) ?_
  refine am_all.c (s_iload_n (kf := 3) (by decide +kernel) rfl rfl) ?_
  refine am_all.c (s_aload_n (kf := 0) (by decide +kernel) rfl rfl) ?_
  refine am_all.c (s_get (C := cn_M) (Tf := ft_M) (N := 21) rfl fi_M (by decide) tw_563 (by decide +kernel) rfl) ?_
  refine am_all.c (s_iload_n (kf := 3) (by decide +kernel) rfl rfl) ?_
  refine am_all.c (s_iconst (by decide +kernel) (by decide) rfl) ?_
  refine am_all.c (s_iadd (by decide +kernel) rfl) ?_
  refine am_all.c (s_iald rfl (by decide +kernel) rfl) ?_
  refine am_all.c (s_iast rfl (by decide +kernel) rfl) ?_
  refine am_all.c (s_iinc (by decide +kernel) rfl) ?_
  refine am_all.c (s_goto (off := -46) (by decide +kernel) (by decide)) ?_
  refine am_all.c (s_vret (by decide +kernel) rfl) ?_
  exact trivial
set_option maxRecDepth 20000 in
theorem ga_M_gather {D : va_G} {dA : Nat → ClassId} {h b L : Nat} {xs : Nat → Int32} (hN : am_nN (am_En D dA h b L xs)) : am_all (am_En D dA h b L xs) mv_tb mv_P tM_gather kM_gather := by
  unfold kM_gather
  refine am_all.c (s_aload_n (kf := 0) (by decide +kernel) rfl rfl) ?_
  refine am_all.c (s_get (C := cn_M) (Tf := ft_M) (N := 21) rfl fi_M (by decide) tw_559 (by decide +kernel) rfl) ?_
  refine am_all.c (s_iload_n (kf := 1) (by decide +kernel) rfl rfl) ?_
  refine am_all.c (s_iald rfl (by decide +kernel) rfl) ?_
  refine am_all.c (s_istore_n (kf := 2) (by decide +kernel) rfl rfl) ?_
  refine am_all.c (s_iconst (by decide +kernel) (by decide) rfl) ?_
  refine am_all.c (s_istore_n (kf := 3) (by decide +kernel) rfl rfl) ?_
  refine am_all.c (s_iconst (by decide +kernel) (by decide) rfl) ?_
  refine am_all.c (s_istore (by decide +kernel) rfl) ?_
  refine am_all.c (s_iload (by decide +kernel) rfl) ?_
  refine am_all.c (s_aload_n (kf := 0) (by decide +kernel) rfl rfl) ?_
  refine am_all.c (s_get (C := cn_M) (Tf := ft_M) (N := 21) rfl fi_M (by decide) tw_555 (by decide +kernel) rfl) ?_
  refine am_all.c (s_iload_n (kf := 2) (by decide +kernel) rfl rfl) ?_
  refine am_all.c (s_iald rfl (by decide +kernel) rfl) ?_
  refine am_all.c (s_icmp_ge (off := 121) (by decide +kernel) (by decide) rfl) ?_
  refine am_all.c (s_aload_n (kf := 0) (by decide +kernel) rfl rfl) ?_
  refine am_all.c (s_get (C := cn_M) (Tf := ft_M) (N := 21) rfl fi_M (by decide) tw_556 (by decide +kernel) rfl) ?_
  refine am_all.c (s_bipush (by decide +kernel) (by decide +kernel) (by decide) rfl) ?_
  refine am_all.c (s_iload_n (kf := 2) (by decide +kernel) rfl rfl) ?_
  refine am_all.c (s_imul (by decide +kernel) rfl) ?_
  refine am_all.c (s_iconst (by decide +kernel) (by decide) rfl) ?_
  refine am_all.c (s_iload (by decide +kernel) rfl) ?_
  refine am_all.c (s_imul (by decide +kernel) rfl) ?_
  refine am_all.c (s_iadd (by decide +kernel) rfl) ?_
  refine am_all.c (s_iald rfl (by decide +kernel) rfl) ?_
  refine am_all.c (s_istore (by decide +kernel) rfl) ?_
  refine am_all.c (s_iload (by decide +kernel) rfl) ?_
  refine am_all.c (s_aload_n (kf := 0) (by decide +kernel) rfl rfl) ?_
  refine am_all.c (s_get (C := cn_M) (Tf := ft_M) (N := 21) rfl fi_M (by decide) tw_564 (by decide +kernel) rfl) ?_
  refine am_all.c (s_iload_n (kf := 1) (by decide +kernel) rfl rfl) ?_
  refine am_all.c (s_iald rfl (by decide +kernel) rfl) ?_
  refine am_all.c (s_icmp_le (off := 88) (by decide +kernel) (by decide) rfl) ?_
  refine am_all.c (s_aload_n (kf := 0) (by decide +kernel) rfl rfl) ?_
  refine am_all.c (s_get (C := cn_M) (Tf := ft_M) (N := 21) rfl fi_M (by decide) tw_561 (by decide +kernel) rfl) ?_
  refine am_all.c (s_iload_n (kf := 1) (by decide +kernel) rfl rfl) ?_
  refine am_all.c (s_iald rfl (by decide +kernel) rfl) ?_
  refine am_all.c (s_bipush (by decide +kernel) (by decide +kernel) (by decide) rfl) ?_
  refine am_all.c (s_icmp_ne (off := 6) (by decide +kernel) (by decide) rfl) ?_
  refine am_all.c (s_goto (off := 74) (by decide +kernel) (by decide)) ?_
  refine am_all.c (s_aload_n (kf := 0) (by decide +kernel) rfl rfl) ?_
  refine am_all.c (s_get (C := cn_M) (Tf := ft_M) (N := 21) rfl fi_M (by decide) tw_562 (by decide +kernel) rfl) ?_
  refine am_all.c (s_bipush (by decide +kernel) (by decide +kernel) (by decide) rfl) ?_
  refine am_all.c (s_iload_n (kf := 1) (by decide +kernel) rfl rfl) ?_
  refine am_all.c (s_imul (by decide +kernel) rfl) ?_
  refine am_all.c (s_aload_n (kf := 0) (by decide +kernel) rfl rfl) ?_
  refine am_all.c (s_get (C := cn_M) (Tf := ft_M) (N := 21) rfl fi_M (by decide) tw_561 (by decide +kernel) rfl) ?_
  refine am_all.c (s_iload_n (kf := 1) (by decide +kernel) rfl rfl) ?_
  refine am_all.c (s_iald rfl (by decide +kernel) rfl) ?_
  refine am_all.c (s_iadd (by decide +kernel) rfl) ?_
  refine am_all.c (s_iload (by decide +kernel) rfl) ?_
  refine am_all.c (s_iast rfl (by decide +kernel) rfl) ?_
  refine am_all.c (s_aload_n (kf := 0) (by decide +kernel) rfl rfl) ?_
  refine am_all.c (s_get (C := cn_M) (Tf := ft_M) (N := 21) rfl fi_M (by decide) tw_563 (by decide +kernel) rfl) ?_
  refine am_all.c (s_bipush (by decide +kernel) (by decide +kernel) (by decide) rfl) ?_
  refine am_all.c (s_iload_n (kf := 1) (by decide +kernel) rfl rfl) ?_
  refine am_all.c (s_imul (by decide +kernel) rfl) ?_
  refine am_all.c (s_aload_n (kf := 0) (by decide +kernel) rfl rfl) ?_
  refine am_all.c (s_get (C := cn_M) (Tf := ft_M) (N := 21) rfl fi_M (by decide) tw_561 (by decide +kernel) rfl) ?_
  refine am_all.c (s_iload_n (kf := 1) (by decide +kernel) rfl rfl) ?_
  refine am_all.c (s_iald rfl (by decide +kernel) rfl) ?_
  refine am_all.c (s_iadd (by decide +kernel) rfl) ?_
  refine am_all.c (s_aload_n (kf := 0) (by decide +kernel) rfl rfl) ?_
  refine am_all.c (s_get (C := cn_M) (Tf := ft_M) (N := 21) rfl fi_M (by decide) tw_556 (by decide +kernel) rfl) ?_
  refine am_all.c (s_bipush (by decide +kernel) (by decide +kernel) (by decide) rfl) ?_
  refine am_all.c (s_iload_n (kf := 2) (by decide +kernel) rfl rfl) ?_
  refine am_all.c (s_imul (by decide +kernel) rfl) ?_
  refine am_all.c (s_iconst (by decide +kernel) (by decide) rfl) ?_
  refine am_all.c (s_iload (by decide +kernel) rfl) ?_
  refine am_all.c (s_imul (by decide +kernel) rfl) ?_
  refine am_all.c (s_iadd (by decide +kernel) rfl) ?_
  refine am_all.c (s_iconst (by decide +kernel) (by decide) rfl) ?_
  refine am_all.c (s_iadd (by decide +kernel) rfl) ?_
  refine am_all.c (s_iald rfl (by decide +kernel) rfl) ?_
  refine am_all.c (s_iast rfl (by decide +kernel) rfl) ?_
  refine am_all.c (s_aload_n (kf := 0) (by decide +kernel) rfl rfl) ?_
  refine am_all.c (s_get (C := cn_M) (Tf := ft_M) (N := 21) rfl fi_M (by decide) tw_561 (by decide +kernel) rfl) ?_
  refine am_all.c (s_iload_n (kf := 1) (by decide +kernel) rfl rfl) ?_
  refine am_all.c (s_dup2 (by decide +kernel) rfl) ?_
  refine am_all.c (s_iald rfl (by decide +kernel) rfl) ?_
  refine am_all.c (s_iconst (by decide +kernel) (by decide) rfl) ?_
  refine am_all.c (s_iadd (by decide +kernel) rfl) ?_
  refine am_all.c (s_iast rfl (by decide +kernel) rfl) ?_
  refine am_all.c (s_aload_n (kf := 0) (by decide +kernel) rfl rfl) ?_
  refine am_all.c (s_get (C := cn_M) (Tf := ft_M) (N := 21) rfl fi_M (by decide) tw_564 (by decide +kernel) rfl) ?_
  refine am_all.c (s_iload_n (kf := 1) (by decide +kernel) rfl rfl) ?_
  refine am_all.c (s_iload (by decide +kernel) rfl) ?_
  refine am_all.c (s_iast rfl (by decide +kernel) rfl) ?_
  refine am_all.c (s_iinc (by decide +kernel) rfl) ?_
  refine am_all.c (s_iinc (by decide +kernel) rfl) ?_
  refine am_all.c (s_goto (off := -126) (by decide +kernel) (by decide)) ?_
  refine am_all.c (s_iload_n (kf := 3) (by decide +kernel) rfl rfl) ?_
  refine am_all.c (s_iret (by decide +kernel) rfl) ?_
  exact trivial
set_option maxRecDepth 20000 in
theorem ga_M_update {D : va_G} {dA : Nat → ClassId} {h b L : Nat} {xs : Nat → Int32} (hN : am_nN (am_En D dA h b L xs)) : am_all (am_En D dA h b L xs) mv_tb mv_P tM_update kM_update := by
  unfold kM_update
  refine am_all.c (s_aload_n (kf := 0) (by decide +kernel) rfl rfl) ?_
  refine am_all.c (s_get (C := cn_M) (Tf := ft_M) (N := 21) rfl fi_M (by decide) tw_565 (by decide +kernel) rfl) ?_
  refine am_all.c (s_iload_n (kf := 1) (by decide +kernel) rfl rfl) ?_
  refine am_all.c (s_iconst (by decide +kernel) (by decide) rfl) ?_
  refine am_all.c (s_iast rfl (by decide +kernel) rfl) ?_
  refine am_all.c (s_iconst (by decide +kernel) (by decide) rfl) ?_
  refine am_all.c (s_istore_n (kf := 3) (by decide +kernel) rfl rfl) ?_
  refine am_all.c (s_iload_n (kf := 2) (by decide +kernel) rfl rfl) ?_
  refine am_all.c (s_if_eq (off := 44) (by decide +kernel) (by decide) rfl) ?_
  refine am_all.c (s_iload_n (kf := 3) (by decide +kernel) rfl rfl) ?_
  refine am_all.c (s_aload_n (kf := 0) (by decide +kernel) rfl rfl) ?_
  refine am_all.c (s_get (C := cn_M) (Tf := ft_M) (N := 21) rfl fi_M (by decide) tw_561 (by decide +kernel) rfl) ?_
  refine am_all.c (s_iload_n (kf := 1) (by decide +kernel) rfl rfl) ?_
  refine am_all.c (s_iald rfl (by decide +kernel) rfl) ?_
  refine am_all.c (s_icmp_gt (off := 34) (by decide +kernel) (by decide) rfl) ?_
  refine am_all.c (s_aload_n (kf := 0) (by decide +kernel) rfl rfl) ?_
  refine am_all.c (s_iload_n (kf := 1) (by decide +kernel) rfl rfl) ?_
  refine am_all.c (s_iload_n (kf := 3) (by decide +kernel) rfl rfl) ?_
  refine am_all.c (s_callV (q := (cn_M, ft_M, 21)) (by decide) (ce_M_gone hN) rfl rfl tw_667 tw_669 tw_29 (by decide +kernel) rfl) ?_
  refine am_all.c (s_if_eq (off := 19) (by decide +kernel) (by decide) rfl) ?_
  refine am_all.c (s_aload_n (kf := 0) (by decide +kernel) rfl rfl) ?_
  refine am_all.c (s_iload_n (kf := 1) (by decide +kernel) rfl rfl) ?_
  refine am_all.c (s_iload_n (kf := 3) (by decide +kernel) rfl rfl) ?_
  refine am_all.c (s_callV (q := (cn_M, ft_M, 21)) (by decide) (ce_M_leave hN) rfl rfl tw_675 tw_677 tw_31 (by decide +kernel) rfl) ?_
  refine am_all.c (s_aload_n (kf := 0) (by decide +kernel) rfl rfl) ?_
  refine am_all.c (s_iload_n (kf := 1) (by decide +kernel) rfl rfl) ?_
  refine am_all.c (s_iconst (by decide +kernel) (by decide) rfl) ?_
  refine am_all.c (s_iload_n (kf := 3) (by decide +kernel) rfl rfl) ?_
  refine am_all.c (s_callV (q := (cn_M, ft_M, 21)) (by decide) (ce_M_tell hN) rfl rfl tw_679 tw_681 tw_32 (by decide +kernel) rfl) ?_
  refine am_all.c (s_goto (off := -36) (by decide +kernel) (by decide)) ?_
  refine am_all.c (s_iinc (by decide +kernel) rfl) ?_
  refine am_all.c (s_goto (off := -42) (by decide +kernel) (by decide)) ?_
  refine am_all.c (s_aload_n (kf := 0) (by decide +kernel) rfl rfl) ?_
  refine am_all.c (s_iload_n (kf := 1) (by decide +kernel) rfl rfl) ?_
  refine am_all.c (s_callV (q := (cn_M, ft_M, 21)) (by decide) (ce_M_gather hN) rfl rfl tw_643 tw_645 tw_25 (by decide +kernel) rfl) ?_
  refine am_all.c (s_if_le (off := 15) (by decide +kernel) (by decide) rfl) ?_
  refine am_all.c (s_aload_n (kf := 0) (by decide +kernel) rfl rfl) ?_
  refine am_all.c (s_iload_n (kf := 1) (by decide +kernel) rfl rfl) ?_
  refine am_all.c (s_iconst (by decide +kernel) (by decide) rfl) ?_
  refine am_all.c (s_aload_n (kf := 0) (by decide +kernel) rfl rfl) ?_
  refine am_all.c (s_get (C := cn_M) (Tf := ft_M) (N := 21) rfl fi_M (by decide) tw_561 (by decide +kernel) rfl) ?_
  refine am_all.c (s_iload_n (kf := 1) (by decide +kernel) rfl rfl) ?_
  refine am_all.c (s_iald rfl (by decide +kernel) rfl) ?_
  refine am_all.c (s_callV (q := (cn_M, ft_M, 21)) (by decide) (ce_M_tell hN) rfl rfl tw_679 tw_681 tw_32 (by decide +kernel) rfl) ?_
  refine am_all.c (s_iconst (by decide +kernel) (by decide) rfl) ?_
  refine am_all.c (s_istore (by decide +kernel) rfl) ?_
  refine am_all.c (s_iload (by decide +kernel) rfl) ?_
  refine am_all.c (s_aload_n (kf := 0) (by decide +kernel) rfl rfl) ?_
  refine am_all.c (s_get (C := cn_M) (Tf := ft_M) (N := 21) rfl fi_M (by decide) tw_561 (by decide +kernel) rfl) ?_
  refine am_all.c (s_iload_n (kf := 1) (by decide +kernel) rfl rfl) ?_
  refine am_all.c (s_iald rfl (by decide +kernel) rfl) ?_
  refine am_all.c (s_icmp_gt (off := 87) (by decide +kernel) (by decide) rfl) ?_
  refine am_all.c (s_aload_n (kf := 0) (by decide +kernel) rfl rfl) ?_
  refine am_all.c (s_iload_n (kf := 1) (by decide +kernel) rfl rfl) ?_
  refine am_all.c (s_iload (by decide +kernel) rfl) ?_
  refine am_all.c (s_callV (q := (cn_M, ft_M, 21)) (by decide) (ce_M_gone hN) rfl rfl tw_667 tw_669 tw_29 (by decide +kernel) rfl) ?_
  refine am_all.c (s_if_eq (off := 6) (by decide +kernel) (by decide) rfl) ?_
  refine am_all.c (s_goto (off := 68) (by decide +kernel) (by decide)) ?_
  refine am_all.c (s_aload_n (kf := 0) (by decide +kernel) rfl rfl) ?_
  refine am_all.c (s_aload_n (kf := 0) (by decide +kernel) rfl rfl) ?_
  refine am_all.c (s_get (C := cn_M) (Tf := ft_M) (N := 21) rfl fi_M (by decide) tw_559 (by decide +kernel) rfl) ?_
  refine am_all.c (s_iload_n (kf := 1) (by decide +kernel) rfl rfl) ?_
  refine am_all.c (s_iald rfl (by decide +kernel) rfl) ?_
  refine am_all.c (s_aload_n (kf := 0) (by decide +kernel) rfl rfl) ?_
  refine am_all.c (s_iload_n (kf := 1) (by decide +kernel) rfl rfl) ?_
  refine am_all.c (s_iload (by decide +kernel) rfl) ?_
  refine am_all.c (s_callV (q := (cn_M, ft_M, 21)) (by decide) (ce_M_uidOf hN) rfl rfl tw_671 tw_673 tw_30 (by decide +kernel) rfl) ?_
  refine am_all.c (s_callV (q := (cn_M, ft_M, 21)) (by decide) (ce_M_flagsOf hN) rfl rfl tw_683 tw_685 tw_33 (by decide +kernel) rfl) ?_
  refine am_all.c (s_istore (by decide +kernel) rfl) ?_
  refine am_all.c (s_iload (by decide +kernel) rfl) ?_
  refine am_all.c (s_aload_n (kf := 0) (by decide +kernel) rfl rfl) ?_
  refine am_all.c (s_get (C := cn_M) (Tf := ft_M) (N := 21) rfl fi_M (by decide) tw_563 (by decide +kernel) rfl) ?_
  refine am_all.c (s_bipush (by decide +kernel) (by decide +kernel) (by decide) rfl) ?_
  refine am_all.c (s_iload_n (kf := 1) (by decide +kernel) rfl rfl) ?_
  refine am_all.c (s_imul (by decide +kernel) rfl) ?_
  refine am_all.c (s_iload (by decide +kernel) rfl) ?_
  refine am_all.c (s_iadd (by decide +kernel) rfl) ?_
  refine am_all.c (s_iconst (by decide +kernel) (by decide) rfl) ?_
  refine am_all.c (s_isub (by decide +kernel) rfl) ?_
  refine am_all.c (s_iald rfl (by decide +kernel) rfl) ?_
  refine am_all.c (s_icmp_ne (off := 6) (by decide +kernel) (by decide) rfl) ?_
  refine am_all.c (s_goto (off := 27) (by decide +kernel) (by decide)) ?_
  refine am_all.c (s_aload_n (kf := 0) (by decide +kernel) rfl rfl) ?_
  refine am_all.c (s_get (C := cn_M) (Tf := ft_M) (N := 21) rfl fi_M (by decide) tw_563 (by decide +kernel) rfl) ?_
  refine am_all.c (s_bipush (by decide +kernel) (by decide +kernel) (by decide) rfl) ?_
  refine am_all.c (s_iload_n (kf := 1) (by decide +kernel) rfl rfl) ?_
  refine am_all.c (s_imul (by decide +kernel) rfl) ?_
  refine am_all.c (s_iload (by decide +kernel) rfl) ?_
  refine am_all.c (s_iadd (by decide +kernel) rfl) ?_
  refine am_all.c (s_iconst (by decide +kernel) (by decide) rfl) ?_
  refine am_all.c (s_isub (by decide +kernel) rfl) ?_
  refine am_all.c (s_iload (by decide +kernel) rfl) ?_
  refine am_all.c (s_iast rfl (by decide +kernel) rfl) ?_
  refine am_all.c (s_aload_n (kf := 0) (by decide +kernel) rfl rfl) ?_
  refine am_all.c (s_iload_n (kf := 1) (by decide +kernel) rfl rfl) ?_
  refine am_all.c (s_iconst (by decide +kernel) (by decide) rfl) ?_
  refine am_all.c (s_iload (by decide +kernel) rfl) ?_
  refine am_all.c (s_callV (q := (cn_M, ft_M, 21)) (by decide) (ce_M_tell hN) rfl rfl tw_679 tw_681 tw_32 (by decide +kernel) rfl) ?_
  refine am_all.c (s_iinc (by decide +kernel) rfl) ?_
  refine am_all.c (s_goto (off := -92) (by decide +kernel) (by decide)) ?_
  refine am_all.c (s_vret (by decide +kernel) rfl) ?_
  exact trivial
set_option maxRecDepth 20000 in
theorem ga_M_select {D : va_G} {dA : Nat → ClassId} {h b L : Nat} {xs : Nat → Int32} (hN : am_nN (am_En D dA h b L xs)) : am_all (am_En D dA h b L xs) mv_tb mv_P tM_select kM_select := by
  unfold kM_select
  refine am_all.c (s_iload_n (kf := 1) (by decide +kernel) rfl rfl) ?_
  refine am_all.c (s_iconst (by decide +kernel) (by decide) rfl) ?_
  refine am_all.c (s_iconst (by decide +kernel) (by decide) rfl) ?_
  refine am_all.c (s_callS (by decide) (ce_M_in hN) tw_620 tw_621 (by decide +kernel) rfl) ?_
  refine am_all.c (s_if_eq (off := 12) (by decide +kernel) (by decide) rfl) ?_
  refine am_all.c (s_iload_n (kf := 2) (by decide +kernel) rfl rfl) ?_
  refine am_all.c (s_iconst (by decide +kernel) (by decide) rfl) ?_
  refine am_all.c (s_iconst (by decide +kernel) (by decide) rfl) ?_
  refine am_all.c (s_callS (by decide) (ce_M_in hN) tw_620 tw_621 (by decide +kernel) rfl) ?_
  refine am_all.c (s_if_ne (off := 5) (by decide +kernel) (by decide) rfl) ?_
  refine am_all.c (s_iconst (by decide +kernel) (by decide) rfl) ?_
  refine am_all.c (s_iret (by decide +kernel) rfl) ?_
  refine am_all.c (s_aload_n (kf := 0) (by decide +kernel) rfl rfl) ?_
  refine am_all.c (s_get (C := cn_M) (Tf := ft_M) (N := 21) rfl fi_M (by decide) tw_559 (by decide +kernel) rfl) ?_
  refine am_all.c (s_iload_n (kf := 1) (by decide +kernel) rfl rfl) ?_
  refine am_all.c (s_iload_n (kf := 2) (by decide +kernel) rfl rfl) ?_
  refine am_all.c (s_iast rfl (by decide +kernel) rfl) ?_
  refine am_all.c (s_aload_n (kf := 0) (by decide +kernel) rfl rfl) ?_
  refine am_all.c (s_get (C := cn_M) (Tf := ft_M) (N := 21) rfl fi_M (by decide) tw_560 (by decide +kernel) rfl) ?_
  refine am_all.c (s_iload_n (kf := 1) (by decide +kernel) rfl rfl) ?_
  refine am_all.c (s_iload_n (kf := 3) (by decide +kernel) rfl rfl) ?_
  refine am_all.c (s_zast rfl (by decide +kernel) rfl) ?_
  refine am_all.c (s_aload_n (kf := 0) (by decide +kernel) rfl rfl) ?_
  refine am_all.c (s_get (C := cn_M) (Tf := ft_M) (N := 21) rfl fi_M (by decide) tw_561 (by decide +kernel) rfl) ?_
  refine am_all.c (s_iload_n (kf := 1) (by decide +kernel) rfl rfl) ?_
  refine am_all.c (s_iconst (by decide +kernel) (by decide) rfl) ?_
  refine am_all.c (s_iast rfl (by decide +kernel) rfl) ?_
  refine am_all.c (s_aload_n (kf := 0) (by decide +kernel) rfl rfl) ?_
  refine am_all.c (s_get (C := cn_M) (Tf := ft_M) (N := 21) rfl fi_M (by decide) tw_564 (by decide +kernel) rfl) ?_
  refine am_all.c (s_iload_n (kf := 1) (by decide +kernel) rfl rfl) ?_
  refine am_all.c (s_iconst (by decide +kernel) (by decide) rfl) ?_
  refine am_all.c (s_iast rfl (by decide +kernel) rfl) ?_
  refine am_all.c (s_aload_n (kf := 0) (by decide +kernel) rfl rfl) ?_
  refine am_all.c (s_get (C := cn_M) (Tf := ft_M) (N := 21) rfl fi_M (by decide) tw_565 (by decide +kernel) rfl) ?_
  refine am_all.c (s_iload_n (kf := 1) (by decide +kernel) rfl rfl) ?_
  refine am_all.c (s_iconst (by decide +kernel) (by decide) rfl) ?_
  refine am_all.c (s_iast rfl (by decide +kernel) rfl) ?_
  refine am_all.c (s_aload_n (kf := 0) (by decide +kernel) rfl rfl) ?_
  refine am_all.c (s_iload_n (kf := 1) (by decide +kernel) rfl rfl) ?_
  refine am_all.c (s_callV (q := (cn_M, ft_M, 21)) (by decide) (ce_M_gather hN) rfl rfl tw_643 tw_645 tw_25 (by decide +kernel) rfl) ?_
  refine am_all.c (s_iret (by decide +kernel) rfl) ?_
  exact trivial
end
section
/-! printed by wip/whole/gen/prog.py: each instruction against the abstract one -/
set_option maxRecDepth 20000 in
theorem ga_M_close {D : va_G} {dA : Nat → ClassId} {h b L : Nat} {xs : Nat → Int32} (hN : am_nN (am_En D dA h b L xs)) : am_all (am_En D dA h b L xs) mv_tb mv_P tM_close kM_close := by
  unfold kM_close
  refine am_all.c (s_aload_n (kf := 0) (by decide +kernel) rfl rfl) ?_
  refine am_all.c (s_iload_n (kf := 1) (by decide +kernel) rfl rfl) ?_
  refine am_all.c (s_callV (q := (cn_M, ft_M, 21)) (by decide) (ce_M_none hN) rfl rfl tw_651 tw_653 tw_26 (by decide +kernel) rfl) ?_
  refine am_all.c (s_if_eq (off := 5) (by decide +kernel) (by decide) rfl) ?_
  refine am_all.c (s_iconst (by decide +kernel) (by decide) rfl) ?_
  refine am_all.c (s_iret (by decide +kernel) rfl) ?_
  refine am_all.c (s_aload_n (kf := 0) (by decide +kernel) rfl rfl) ?_
  refine am_all.c (s_get (C := cn_M) (Tf := ft_M) (N := 21) rfl fi_M (by decide) tw_560 (by decide +kernel) rfl) ?_
  refine am_all.c (s_iload_n (kf := 1) (by decide +kernel) rfl rfl) ?_
  refine am_all.c (s_zald rfl (by decide +kernel) rfl) ?_
  refine am_all.c (s_if_eq (off := 7) (by decide +kernel) (by decide) rfl) ?_
  refine am_all.c (s_iconst (by decide +kernel) (by decide) rfl) ?_
  refine am_all.c (s_goto (off := 13) (by decide +kernel) (by decide)) ?_
  refine am_all.c (s_aload_n (kf := 0) (by decide +kernel) rfl rfl) ?_
  refine am_all.c (s_aload_n (kf := 0) (by decide +kernel) rfl rfl) ?_
  refine am_all.c (s_get (C := cn_M) (Tf := ft_M) (N := 21) rfl fi_M (by decide) tw_559 (by decide +kernel) rfl) ?_
  refine am_all.c (s_iload_n (kf := 1) (by decide +kernel) rfl rfl) ?_
  refine am_all.c (s_iald rfl (by decide +kernel) rfl) ?_
  refine am_all.c (s_callV (q := (cn_M, ft_M, 21)) (by decide) (ce_M_purge hN) rfl rfl tw_655 tw_657 tw_27 (by decide +kernel) rfl) ?_
  refine am_all.c (s_istore_n (kf := 2) (by decide +kernel) rfl rfl) ?_
  refine am_all.c (s_aload_n (kf := 0) (by decide +kernel) rfl rfl) ?_
  refine am_all.c (s_get (C := cn_M) (Tf := ft_M) (N := 21) rfl fi_M (by decide) tw_559 (by decide +kernel) rfl) ?_
  refine am_all.c (s_iload_n (kf := 1) (by decide +kernel) rfl rfl) ?_
  refine am_all.c (s_iconst (by decide +kernel) (by decide) rfl) ?_
  refine am_all.c (s_iast rfl (by decide +kernel) rfl) ?_
  refine am_all.c (s_iload_n (kf := 2) (by decide +kernel) rfl rfl) ?_
  refine am_all.c (s_iret (by decide +kernel) rfl) ?_
  exact trivial
set_option maxRecDepth 20000 in
theorem ga_M_check {D : va_G} {dA : Nat → ClassId} {h b L : Nat} {xs : Nat → Int32} (hN : am_nN (am_En D dA h b L xs)) : am_all (am_En D dA h b L xs) mv_tb mv_P tM_check kM_check := by
  unfold kM_check
  refine am_all.c (s_aload_n (kf := 0) (by decide +kernel) rfl rfl) ?_
  refine am_all.c (s_iload_n (kf := 1) (by decide +kernel) rfl rfl) ?_
  refine am_all.c (s_callV (q := (cn_M, ft_M, 21)) (by decide) (ce_M_none hN) rfl rfl tw_651 tw_653 tw_26 (by decide +kernel) rfl) ?_
  refine am_all.c (s_if_eq (off := 5) (by decide +kernel) (by decide) rfl) ?_
  refine am_all.c (s_iconst (by decide +kernel) (by decide) rfl) ?_
  refine am_all.c (s_iret (by decide +kernel) rfl) ?_
  refine am_all.c (s_aload_n (kf := 0) (by decide +kernel) rfl rfl) ?_
  refine am_all.c (s_iload_n (kf := 1) (by decide +kernel) rfl rfl) ?_
  refine am_all.c (s_iconst (by decide +kernel) (by decide) rfl) ?_
  refine am_all.c (s_callV (q := (cn_M, ft_M, 21)) (by decide) (ce_M_update hN) rfl rfl tw_663 tw_665 tw_28 (by decide +kernel) rfl) ?_
  refine am_all.c (s_aload_n (kf := 0) (by decide +kernel) rfl rfl) ?_
  refine am_all.c (s_get (C := cn_M) (Tf := ft_M) (N := 21) rfl fi_M (by decide) tw_565 (by decide +kernel) rfl) ?_
  refine am_all.c (s_iload_n (kf := 1) (by decide +kernel) rfl rfl) ?_
  refine am_all.c (s_iald rfl (by decide +kernel) rfl) ?_
  refine am_all.c (s_iret (by decide +kernel) rfl) ?_
  exact trivial
set_option maxRecDepth 20000 in
theorem ga_M_fetch {D : va_G} {dA : Nat → ClassId} {h b L : Nat} {xs : Nat → Int32} (hN : am_nN (am_En D dA h b L xs)) : am_all (am_En D dA h b L xs) mv_tb mv_P tM_fetch kM_fetch := by
  unfold kM_fetch
  refine am_all.c (s_aload_n (kf := 0) (by decide +kernel) rfl rfl) ?_
  refine am_all.c (s_iload_n (kf := 1) (by decide +kernel) rfl rfl) ?_
  refine am_all.c (s_iload_n (kf := 2) (by decide +kernel) rfl rfl) ?_
  refine am_all.c (s_callV (q := (cn_M, ft_M, 21)) (by decide) (ce_M_bad hN) rfl rfl tw_691 tw_693 tw_34 (by decide +kernel) rfl) ?_
  refine am_all.c (s_if_eq (off := 5) (by decide +kernel) (by decide) rfl) ?_
  refine am_all.c (s_iconst (by decide +kernel) (by decide) rfl) ?_
  refine am_all.c (s_iret (by decide +kernel) rfl) ?_
  refine am_all.c (s_aload_n (kf := 0) (by decide +kernel) rfl rfl) ?_
  refine am_all.c (s_iload_n (kf := 1) (by decide +kernel) rfl rfl) ?_
  refine am_all.c (s_iload_n (kf := 2) (by decide +kernel) rfl rfl) ?_
  refine am_all.c (s_callV (q := (cn_M, ft_M, 21)) (by decide) (ce_M_gone hN) rfl rfl tw_667 tw_669 tw_29 (by decide +kernel) rfl) ?_
  refine am_all.c (s_if_eq (off := 6) (by decide +kernel) (by decide) rfl) ?_
  refine am_all.c (s_bipush (by decide +kernel) (by decide +kernel) (by decide) rfl) ?_
  refine am_all.c (s_iret (by decide +kernel) rfl) ?_
  refine am_all.c (s_aload_n (kf := 0) (by decide +kernel) rfl rfl) ?_
  refine am_all.c (s_aload_n (kf := 0) (by decide +kernel) rfl rfl) ?_
  refine am_all.c (s_get (C := cn_M) (Tf := ft_M) (N := 21) rfl fi_M (by decide) tw_559 (by decide +kernel) rfl) ?_
  refine am_all.c (s_iload_n (kf := 1) (by decide +kernel) rfl rfl) ?_
  refine am_all.c (s_iald rfl (by decide +kernel) rfl) ?_
  refine am_all.c (s_aload_n (kf := 0) (by decide +kernel) rfl rfl) ?_
  refine am_all.c (s_iload_n (kf := 1) (by decide +kernel) rfl rfl) ?_
  refine am_all.c (s_iload_n (kf := 2) (by decide +kernel) rfl rfl) ?_
  refine am_all.c (s_callV (q := (cn_M, ft_M, 21)) (by decide) (ce_M_uidOf hN) rfl rfl tw_671 tw_673 tw_30 (by decide +kernel) rfl) ?_
  refine am_all.c (s_callV (q := (cn_M, ft_M, 21)) (by decide) (ce_M_flagsOf hN) rfl rfl tw_683 tw_685 tw_33 (by decide +kernel) rfl) ?_
  refine am_all.c (s_istore_n (kf := 3) (by decide +kernel) rfl rfl) ?_
  refine am_all.c (s_aload_n (kf := 0) (by decide +kernel) rfl rfl) ?_
  refine am_all.c (s_get (C := cn_M) (Tf := ft_M) (N := 21) rfl fi_M (by decide) tw_563 (by decide +kernel) rfl) ?_
  refine am_all.c (s_bipush (by decide +kernel) (by decide +kernel) (by decide) rfl) ?_
  refine am_all.c (s_iload_n (kf := 1) (by decide +kernel) rfl rfl) ?_
  refine am_all.c (s_imul (by decide +kernel) rfl) ?_
  refine am_all.c (s_iload_n (kf := 2) (by decide +kernel) rfl rfl) ?_
  refine am_all.c (s_iadd (by decide +kernel) rfl) ?_
  refine am_all.c (s_iconst (by decide +kernel) (by decide) rfl) ?_
  refine am_all.c (s_isub (by decide +kernel) rfl) ?_
  refine am_all.c (s_iload_n (kf := 3) (by decide +kernel) rfl rfl) ?_
  refine am_all.c (s_iast rfl (by decide +kernel) rfl) ?_
  refine am_all.c (s_iload_n (kf := 3) (by decide +kernel) rfl rfl) ?_
  refine am_all.c (s_iret (by decide +kernel) rfl) ?_
  exact trivial
set_option maxRecDepth 20000 in
theorem ga_M_store {D : va_G} {dA : Nat → ClassId} {h b L : Nat} {xs : Nat → Int32} (hN : am_nN (am_En D dA h b L xs)) : am_all (am_En D dA h b L xs) mv_tb mv_P tM_store kM_store := by
  unfold kM_store
  refine am_all.c (s_aload_n (kf := 0) (by decide +kernel) rfl rfl) ?_
  refine am_all.c (s_iload_n (kf := 1) (by decide +kernel) rfl rfl) ?_
  refine am_all.c (s_iload_n (kf := 2) (by decide +kernel) rfl rfl) ?_
  refine am_all.c (s_callV (q := (cn_M, ft_M, 21)) (by decide) (ce_M_bad hN) rfl rfl tw_691 tw_693 tw_34 (by decide +kernel) rfl) ?_
  refine am_all.c (s_if_ne (off := 23) (by decide +kernel) (by decide) rfl) ?_
  refine am_all.c (s_iload_n (kf := 3) (by decide +kernel) rfl rfl) ?_
  refine am_all.c (s_iconst (by decide +kernel) (by decide) rfl) ?_
  refine am_all.c (s_iconst (by decide +kernel) (by decide) rfl) ?_
  refine am_all.c (s_callS (by decide) (ce_M_in hN) tw_620 tw_621 (by decide +kernel) rfl) ?_
  refine am_all.c (s_if_eq (off := 14) (by decide +kernel) (by decide) rfl) ?_
  refine am_all.c (s_iload (by decide +kernel) rfl) ?_
  refine am_all.c (s_iconst (by decide +kernel) (by decide) rfl) ?_
  refine am_all.c (s_bipush (by decide +kernel) (by decide +kernel) (by decide) rfl) ?_
  refine am_all.c (s_callS (by decide) (ce_M_in hN) tw_620 tw_621 (by decide +kernel) rfl) ?_
  refine am_all.c (s_if_ne (off := 5) (by decide +kernel) (by decide) rfl) ?_
  refine am_all.c (s_iconst (by decide +kernel) (by decide) rfl) ?_
  refine am_all.c (s_iret (by decide +kernel) rfl) ?_
  refine am_all.c (s_aload_n (kf := 0) (by decide +kernel) rfl rfl) ?_
  refine am_all.c (s_get (C := cn_M) (Tf := ft_M) (N := 21) rfl fi_M (by decide) tw_560 (by decide +kernel) rfl) ?_
  refine am_all.c (s_iload_n (kf := 1) (by decide +kernel) rfl rfl) ?_
  refine am_all.c (s_zald rfl (by decide +kernel) rfl) ?_
  refine am_all.c (s_if_eq (off := 6) (by decide +kernel) (by decide) rfl) ?_
  refine am_all.c (s_bipush (by decide +kernel) (by decide +kernel) (by decide) rfl) ?_
  refine am_all.c (s_iret (by decide +kernel) rfl) ?_
  refine am_all.c (s_aload_n (kf := 0) (by decide +kernel) rfl rfl) ?_
  refine am_all.c (s_iload_n (kf := 1) (by decide +kernel) rfl rfl) ?_
  refine am_all.c (s_iload_n (kf := 2) (by decide +kernel) rfl rfl) ?_
  refine am_all.c (s_callV (q := (cn_M, ft_M, 21)) (by decide) (ce_M_gone hN) rfl rfl tw_667 tw_669 tw_29 (by decide +kernel) rfl) ?_
  refine am_all.c (s_if_eq (off := 6) (by decide +kernel) (by decide) rfl) ?_
  refine am_all.c (s_bipush (by decide +kernel) (by decide +kernel) (by decide) rfl) ?_
  refine am_all.c (s_iret (by decide +kernel) rfl) ?_
  refine am_all.c (s_aload_n (kf := 0) (by decide +kernel) rfl rfl) ?_
  refine am_all.c (s_iload_n (kf := 1) (by decide +kernel) rfl rfl) ?_
  refine am_all.c (s_iload_n (kf := 2) (by decide +kernel) rfl rfl) ?_
  refine am_all.c (s_callV (q := (cn_M, ft_M, 21)) (by decide) (ce_M_uidOf hN) rfl rfl tw_671 tw_673 tw_30 (by decide +kernel) rfl) ?_
  refine am_all.c (s_istore (by decide +kernel) rfl) ?_
  refine am_all.c (s_aload_n (kf := 0) (by decide +kernel) rfl rfl) ?_
  refine am_all.c (s_aload_n (kf := 0) (by decide +kernel) rfl rfl) ?_
  refine am_all.c (s_get (C := cn_M) (Tf := ft_M) (N := 21) rfl fi_M (by decide) tw_559 (by decide +kernel) rfl) ?_
  refine am_all.c (s_iload_n (kf := 1) (by decide +kernel) rfl rfl) ?_
  refine am_all.c (s_iald rfl (by decide +kernel) rfl) ?_
  refine am_all.c (s_iload (by decide +kernel) rfl) ?_
  refine am_all.c (s_callV (q := (cn_M, ft_M, 21)) (by decide) (ce_M_flagsOf hN) rfl rfl tw_683 tw_685 tw_33 (by decide +kernel) rfl) ?_
  refine am_all.c (s_istore (by decide +kernel) rfl) ?_
  refine am_all.c (s_iload_n (kf := 3) (by decide +kernel) rfl rfl) ?_
  refine am_all.c (s_if_ne (off := 8) (by decide +kernel) (by decide) rfl) ?_
  refine am_all.c (s_iload (by decide +kernel) rfl) ?_
  refine am_all.c (s_goto (off := 23) (by decide +kernel) (by decide)) ?_
  refine am_all.c (s_iload_n (kf := 3) (by decide +kernel) rfl rfl) ?_
  refine am_all.c (s_iconst (by decide +kernel) (by decide) rfl) ?_
  refine am_all.c (s_icmp_ne (off := 11) (by decide +kernel) (by decide) rfl) ?_
  refine am_all.c (s_iload (by decide +kernel) rfl) ?_
  refine am_all.c (s_iload (by decide +kernel) rfl) ?_
  refine am_all.c (s_ior (by decide +kernel) rfl) ?_
  refine am_all.c (s_goto (off := 10) (by decide +kernel) (by decide)) ?_
  refine am_all.c (s_iload (by decide +kernel) rfl) ?_
  refine am_all.c (s_iload (by decide +kernel) rfl) ?_
  refine am_all.c (s_iconst (by decide +kernel) (by decide) rfl) ?_
  refine am_all.c (s_ixor (by decide +kernel) rfl) ?_
  refine am_all.c (s_iand (by decide +kernel) rfl) ?_
  refine am_all.c (s_istore (by decide +kernel) rfl) ?_
  refine am_all.c (s_aload_n (kf := 0) (by decide +kernel) rfl rfl) ?_
  refine am_all.c (s_iconst (by decide +kernel) (by decide) rfl) ?_
  refine am_all.c (s_aload_n (kf := 0) (by decide +kernel) rfl rfl) ?_
  refine am_all.c (s_get (C := cn_M) (Tf := ft_M) (N := 21) rfl fi_M (by decide) tw_559 (by decide +kernel) rfl) ?_
  refine am_all.c (s_iload_n (kf := 1) (by decide +kernel) rfl rfl) ?_
  refine am_all.c (s_iald rfl (by decide +kernel) rfl) ?_
  refine am_all.c (s_iload (by decide +kernel) rfl) ?_
  refine am_all.c (s_iload (by decide +kernel) rfl) ?_
  refine am_all.c (s_iconst (by decide +kernel) (by decide) rfl) ?_
  refine am_all.c (s_callV (q := (cn_M, ft_M, 21)) (by decide) (ce_M_note hN) rfl rfl tw_627 tw_629 tw_22 (by decide +kernel) rfl) ?_
  refine am_all.c (s_aload_n (kf := 0) (by decide +kernel) rfl rfl) ?_
  refine am_all.c (s_get (C := cn_M) (Tf := ft_M) (N := 21) rfl fi_M (by decide) tw_563 (by decide +kernel) rfl) ?_
  refine am_all.c (s_bipush (by decide +kernel) (by decide +kernel) (by decide) rfl) ?_
  refine am_all.c (s_iload_n (kf := 1) (by decide +kernel) rfl rfl) ?_
  refine am_all.c (s_imul (by decide +kernel) rfl) ?_
  refine am_all.c (s_iload_n (kf := 2) (by decide +kernel) rfl rfl) ?_
  refine am_all.c (s_iadd (by decide +kernel) rfl) ?_
  refine am_all.c (s_iconst (by decide +kernel) (by decide) rfl) ?_
  refine am_all.c (s_isub (by decide +kernel) rfl) ?_
  refine am_all.c (s_iload (by decide +kernel) rfl) ?_
  refine am_all.c (s_iast rfl (by decide +kernel) rfl) ?_
  refine am_all.c (s_aload_n (kf := 0) (by decide +kernel) rfl rfl) ?_
  refine am_all.c (s_iload_n (kf := 1) (by decide +kernel) rfl rfl) ?_
  refine am_all.c (s_iconst (by decide +kernel) (by decide) rfl) ?_
  refine am_all.c (s_callV (q := (cn_M, ft_M, 21)) (by decide) (ce_M_update hN) rfl rfl tw_663 tw_665 tw_28 (by decide +kernel) rfl) ?_
  refine am_all.c (s_iload (by decide +kernel) rfl) ?_
  refine am_all.c (s_iret (by decide +kernel) rfl) ?_
  exact trivial
set_option maxRecDepth 20000 in
theorem ga_M_expunge {D : va_G} {dA : Nat → ClassId} {h b L : Nat} {xs : Nat → Int32} (hN : am_nN (am_En D dA h b L xs)) : am_all (am_En D dA h b L xs) mv_tb mv_P tM_expunge kM_expunge := by
  unfold kM_expunge
  refine am_all.c (s_aload_n (kf := 0) (by decide +kernel) rfl rfl) ?_
  refine am_all.c (s_iload_n (kf := 1) (by decide +kernel) rfl rfl) ?_
  refine am_all.c (s_callV (q := (cn_M, ft_M, 21)) (by decide) (ce_M_none hN) rfl rfl tw_651 tw_653 tw_26 (by decide +kernel) rfl) ?_
  refine am_all.c (s_if_eq (off := 5) (by decide +kernel) (by decide) rfl) ?_
  refine am_all.c (s_iconst (by decide +kernel) (by decide) rfl) ?_
  refine am_all.c (s_iret (by decide +kernel) rfl) ?_
  refine am_all.c (s_aload_n (kf := 0) (by decide +kernel) rfl rfl) ?_
  refine am_all.c (s_get (C := cn_M) (Tf := ft_M) (N := 21) rfl fi_M (by decide) tw_560 (by decide +kernel) rfl) ?_
  refine am_all.c (s_iload_n (kf := 1) (by decide +kernel) rfl rfl) ?_
  refine am_all.c (s_zald rfl (by decide +kernel) rfl) ?_
  refine am_all.c (s_if_eq (off := 6) (by decide +kernel) (by decide) rfl) ?_
  refine am_all.c (s_bipush (by decide +kernel) (by decide +kernel) (by decide) rfl) ?_
  refine am_all.c (s_iret (by decide +kernel) rfl) ?_
  refine am_all.c (s_aload_n (kf := 0) (by decide +kernel) rfl rfl) ?_
  refine am_all.c (s_aload_n (kf := 0) (by decide +kernel) rfl rfl) ?_
  refine am_all.c (s_get (C := cn_M) (Tf := ft_M) (N := 21) rfl fi_M (by decide) tw_559 (by decide +kernel) rfl) ?_
  refine am_all.c (s_iload_n (kf := 1) (by decide +kernel) rfl rfl) ?_
  refine am_all.c (s_iald rfl (by decide +kernel) rfl) ?_
  refine am_all.c (s_callV (q := (cn_M, ft_M, 21)) (by decide) (ce_M_purge hN) rfl rfl tw_655 tw_657 tw_27 (by decide +kernel) rfl) ?_
  refine am_all.c (s_istore_n (kf := 2) (by decide +kernel) rfl rfl) ?_
  refine am_all.c (s_aload_n (kf := 0) (by decide +kernel) rfl rfl) ?_
  refine am_all.c (s_iload_n (kf := 1) (by decide +kernel) rfl rfl) ?_
  refine am_all.c (s_iconst (by decide +kernel) (by decide) rfl) ?_
  refine am_all.c (s_callV (q := (cn_M, ft_M, 21)) (by decide) (ce_M_update hN) rfl rfl tw_663 tw_665 tw_28 (by decide +kernel) rfl) ?_
  refine am_all.c (s_iload_n (kf := 2) (by decide +kernel) rfl rfl) ?_
  refine am_all.c (s_iret (by decide +kernel) rfl) ?_
  exact trivial
set_option maxRecDepth 20000 in
theorem ga_M_copy {D : va_G} {dA : Nat → ClassId} {h b L : Nat} {xs : Nat → Int32} (hN : am_nN (am_En D dA h b L xs)) : am_all (am_En D dA h b L xs) mv_tb mv_P tM_copy kM_copy := by
  unfold kM_copy
  refine am_all.c (s_aload_n (kf := 0) (by decide +kernel) rfl rfl) ?_
  refine am_all.c (s_iload_n (kf := 1) (by decide +kernel) rfl rfl) ?_
  refine am_all.c (s_iload_n (kf := 2) (by decide +kernel) rfl rfl) ?_
  refine am_all.c (s_callV (q := (cn_M, ft_M, 21)) (by decide) (ce_M_bad hN) rfl rfl tw_691 tw_693 tw_34 (by decide +kernel) rfl) ?_
  refine am_all.c (s_if_ne (off := 12) (by decide +kernel) (by decide) rfl) ?_
  refine am_all.c (s_iload_n (kf := 3) (by decide +kernel) rfl rfl) ?_
  refine am_all.c (s_iconst (by decide +kernel) (by decide) rfl) ?_
  refine am_all.c (s_iconst (by decide +kernel) (by decide) rfl) ?_
  refine am_all.c (s_callS (by decide) (ce_M_in hN) tw_620 tw_621 (by decide +kernel) rfl) ?_
  refine am_all.c (s_if_ne (off := 5) (by decide +kernel) (by decide) rfl) ?_
  refine am_all.c (s_iconst (by decide +kernel) (by decide) rfl) ?_
  refine am_all.c (s_iret (by decide +kernel) rfl) ?_
  refine am_all.c (s_aload_n (kf := 0) (by decide +kernel) rfl rfl) ?_
  refine am_all.c (s_iload_n (kf := 1) (by decide +kernel) rfl rfl) ?_
  refine am_all.c (s_iload_n (kf := 2) (by decide +kernel) rfl rfl) ?_
  refine am_all.c (s_callV (q := (cn_M, ft_M, 21)) (by decide) (ce_M_gone hN) rfl rfl tw_667 tw_669 tw_29 (by decide +kernel) rfl) ?_
  refine am_all.c (s_if_eq (off := 6) (by decide +kernel) (by decide) rfl) ?_
  refine am_all.c (s_bipush (by decide +kernel) (by decide +kernel) (by decide) rfl) ?_
  refine am_all.c (s_iret (by decide +kernel) rfl) ?_
  refine am_all.c (s_bipush (by decide +kernel) (by decide +kernel) (by decide) rfl) ?_
  refine am_all.c (s_aload_n (kf := 0) (by decide +kernel) rfl rfl) ?_
  refine am_all.c (s_get (C := cn_M) (Tf := ft_M) (N := 21) rfl fi_M (by decide) tw_559 (by decide +kernel) rfl) ?_
  refine am_all.c (s_iload_n (kf := 1) (by decide +kernel) rfl rfl) ?_
  refine am_all.c (s_iald rfl (by decide +kernel) rfl) ?_
  refine am_all.c (s_imul (by decide +kernel) rfl) ?_
  refine am_all.c (s_iconst (by decide +kernel) (by decide) rfl) ?_
  refine am_all.c (s_aload_n (kf := 0) (by decide +kernel) rfl rfl) ?_
  refine am_all.c (s_aload_n (kf := 0) (by decide +kernel) rfl rfl) ?_
  refine am_all.c (s_get (C := cn_M) (Tf := ft_M) (N := 21) rfl fi_M (by decide) tw_559 (by decide +kernel) rfl) ?_
  refine am_all.c (s_iload_n (kf := 1) (by decide +kernel) rfl rfl) ?_
  refine am_all.c (s_iald rfl (by decide +kernel) rfl) ?_
  refine am_all.c (s_aload_n (kf := 0) (by decide +kernel) rfl rfl) ?_
  refine am_all.c (s_iload_n (kf := 1) (by decide +kernel) rfl rfl) ?_
  refine am_all.c (s_iload_n (kf := 2) (by decide +kernel) rfl rfl) ?_
  refine am_all.c (s_callV (q := (cn_M, ft_M, 21)) (by decide) (ce_M_uidOf hN) rfl rfl tw_671 tw_673 tw_30 (by decide +kernel) rfl) ?_
  refine am_all.c (s_callV (q := (cn_M, ft_M, 21)) (by decide) (ce_M_place hN) rfl rfl tw_635 tw_637 tw_24 (by decide +kernel) rfl) ?_
  refine am_all.c (s_imul (by decide +kernel) rfl) ?_
  refine am_all.c (s_iadd (by decide +kernel) rfl) ?_
  refine am_all.c (s_istore (by decide +kernel) rfl) ?_
  refine am_all.c (s_aload_n (kf := 0) (by decide +kernel) rfl rfl) ?_
  refine am_all.c (s_iload_n (kf := 3) (by decide +kernel) rfl rfl) ?_
  refine am_all.c (s_aload_n (kf := 0) (by decide +kernel) rfl rfl) ?_
  refine am_all.c (s_get (C := cn_M) (Tf := ft_M) (N := 21) rfl fi_M (by decide) tw_556 (by decide +kernel) rfl) ?_
  refine am_all.c (s_iload (by decide +kernel) rfl) ?_
  refine am_all.c (s_iconst (by decide +kernel) (by decide) rfl) ?_
  refine am_all.c (s_iadd (by decide +kernel) rfl) ?_
  refine am_all.c (s_iald rfl (by decide +kernel) rfl) ?_
  refine am_all.c (s_aload_n (kf := 0) (by decide +kernel) rfl rfl) ?_
  refine am_all.c (s_get (C := cn_M) (Tf := ft_M) (N := 21) rfl fi_M (by decide) tw_556 (by decide +kernel) rfl) ?_
  refine am_all.c (s_iload (by decide +kernel) rfl) ?_
  refine am_all.c (s_iconst (by decide +kernel) (by decide) rfl) ?_
  refine am_all.c (s_iadd (by decide +kernel) rfl) ?_
  refine am_all.c (s_iald rfl (by decide +kernel) rfl) ?_
  refine am_all.c (s_callV (q := (cn_M, ft_M, 21)) (by decide) (ce_M_add hN) rfl rfl tw_623 tw_625 tw_21 (by decide +kernel) rfl) ?_
  refine am_all.c (s_istore (by decide +kernel) rfl) ?_
  refine am_all.c (s_iload (by decide +kernel) rfl) ?_
  refine am_all.c (s_if_le (off := 9) (by decide +kernel) (by decide) rfl) ?_
  refine am_all.c (s_aload_n (kf := 0) (by decide +kernel) rfl rfl) ?_
  refine am_all.c (s_iload_n (kf := 1) (by decide +kernel) rfl rfl) ?_
  refine am_all.c (s_iconst (by decide +kernel) (by decide) rfl) ?_
  refine am_all.c (s_callV (q := (cn_M, ft_M, 21)) (by decide) (ce_M_update hN) rfl rfl tw_663 tw_665 tw_28 (by decide +kernel) rfl) ?_
  refine am_all.c (s_iload (by decide +kernel) rfl) ?_
  refine am_all.c (s_iret (by decide +kernel) rfl) ?_
  exact trivial
set_option maxRecDepth 20000 in
theorem ga_M_criterion {D : va_G} {dA : Nat → ClassId} {h b L : Nat} {xs : Nat → Int32} (hN : am_nN (am_En D dA h b L xs)) : am_all (am_En D dA h b L xs) mv_tb mv_P tM_criterion kM_criterion := by
  unfold kM_criterion
  refine am_all.c (s_iload_n (kf := 1) (by decide +kernel) rfl rfl) ?_
  refine am_all.c (s_iconst (by decide +kernel) (by decide) rfl) ?_
  refine am_all.c (s_bipush (by decide +kernel) (by decide +kernel) (by decide) rfl) ?_
  refine am_all.c (s_callS (by decide) (ce_M_in hN) tw_620 tw_621 (by decide +kernel) rfl) ?_
  refine am_all.c (s_if_ne (off := 5) (by decide +kernel) (by decide) rfl) ?_
  refine am_all.c (s_iconst (by decide +kernel) (by decide) rfl) ?_
  refine am_all.c (s_iret (by decide +kernel) rfl) ?_
  refine am_all.c (s_aload_n (kf := 0) (by decide +kernel) rfl rfl) ?_
  refine am_all.c (s_get (C := cn_M) (Tf := ft_M) (N := 21) rfl fi_M (by decide) tw_567 (by decide +kernel) rfl) ?_
  refine am_all.c (s_bipush (by decide +kernel) (by decide +kernel) (by decide) rfl) ?_
  refine am_all.c (s_icmp_ne (off := 6) (by decide +kernel) (by decide) rfl) ?_
  refine am_all.c (s_bipush (by decide +kernel) (by decide +kernel) (by decide) rfl) ?_
  refine am_all.c (s_iret (by decide +kernel) rfl) ?_
  refine am_all.c (s_aload_n (kf := 0) (by decide +kernel) rfl rfl) ?_
  refine am_all.c (s_get (C := cn_M) (Tf := ft_M) (N := 21) rfl fi_M (by decide) tw_568 (by decide +kernel) rfl) ?_
  refine am_all.c (s_iconst (by decide +kernel) (by decide) rfl) ?_
  refine am_all.c (s_aload_n (kf := 0) (by decide +kernel) rfl rfl) ?_
  refine am_all.c (s_get (C := cn_M) (Tf := ft_M) (N := 21) rfl fi_M (by decide) tw_567 (by decide +kernel) rfl) ?_
  refine am_all.c (s_imul (by decide +kernel) rfl) ?_
  refine am_all.c (s_iload_n (kf := 1) (by decide +kernel) rfl rfl) ?_
  refine am_all.c (s_iast rfl (by decide +kernel) rfl) ?_
  refine am_all.c (s_aload_n (kf := 0) (by decide +kernel) rfl rfl) ?_
  refine am_all.c (s_get (C := cn_M) (Tf := ft_M) (N := 21) rfl fi_M (by decide) tw_568 (by decide +kernel) rfl) ?_
  refine am_all.c (s_iconst (by decide +kernel) (by decide) rfl) ?_
  refine am_all.c (s_aload_n (kf := 0) (by decide +kernel) rfl rfl) ?_
  refine am_all.c (s_get (C := cn_M) (Tf := ft_M) (N := 21) rfl fi_M (by decide) tw_567 (by decide +kernel) rfl) ?_
  refine am_all.c (s_imul (by decide +kernel) rfl) ?_
  refine am_all.c (s_iconst (by decide +kernel) (by decide) rfl) ?_
  refine am_all.c (s_iadd (by decide +kernel) rfl) ?_
  refine am_all.c (s_iload_n (kf := 2) (by decide +kernel) rfl rfl) ?_
  refine am_all.c (s_iast rfl (by decide +kernel) rfl) ?_
  refine am_all.c (s_aload_n (kf := 0) (by decide +kernel) rfl rfl) ?_
  refine am_all.c (s_get (C := cn_M) (Tf := ft_M) (N := 21) rfl fi_M (by decide) tw_568 (by decide +kernel) rfl) ?_
  refine am_all.c (s_iconst (by decide +kernel) (by decide) rfl) ?_
  refine am_all.c (s_aload_n (kf := 0) (by decide +kernel) rfl rfl) ?_
  refine am_all.c (s_get (C := cn_M) (Tf := ft_M) (N := 21) rfl fi_M (by decide) tw_567 (by decide +kernel) rfl) ?_
  refine am_all.c (s_imul (by decide +kernel) rfl) ?_
  refine am_all.c (s_iconst (by decide +kernel) (by decide) rfl) ?_
  refine am_all.c (s_iadd (by decide +kernel) rfl) ?_
  refine am_all.c (s_iload_n (kf := 3) (by decide +kernel) rfl rfl) ?_
  refine am_all.c (s_iast rfl (by decide +kernel) rfl) ?_
  refine am_all.c (s_aload_n (kf := 0) (by decide +kernel) rfl rfl) ?_
  refine am_all.c (s_dup (by decide +kernel) rfl) ?_
  refine am_all.c (s_get (C := cn_M) (Tf := ft_M) (N := 21) rfl fi_M (by decide) tw_567 (by decide +kernel) rfl) ?_
  refine am_all.c (s_iconst (by decide +kernel) (by decide) rfl) ?_
  refine am_all.c (s_iadd (by decide +kernel) rfl) ?_
  refine am_all.c (s_put (C := cn_M) (Tf := ft_M) (N := 21) (ty := .int) rfl fi_M fy_M fo_M fn_M (by decide) tw_567 (Or.inl rfl) (by decide +kernel) (Or.inl ⟨rfl, rfl⟩) (by decide +kernel) rfl) ?_
  refine am_all.c (s_aload_n (kf := 0) (by decide +kernel) rfl rfl) ?_
  refine am_all.c (s_get (C := cn_M) (Tf := ft_M) (N := 21) rfl fi_M (by decide) tw_567 (by decide +kernel) rfl) ?_
  refine am_all.c (s_iret (by decide +kernel) rfl) ?_
  exact trivial
set_option maxRecDepth 20000 in
theorem ga_M_parts {D : va_G} {dA : Nat → ClassId} {h b L : Nat} {xs : Nat → Int32} (hN : am_nN (am_En D dA h b L xs)) : am_all (am_En D dA h b L xs) mv_tb mv_P tM_parts kM_parts := by
  unfold kM_parts
  refine am_all.c (s_aload_n (kf := 0) (by decide +kernel) rfl rfl) ?_
  refine am_all.c (s_get (C := cn_M) (Tf := ft_M) (N := 21) rfl fi_M (by decide) tw_568 (by decide +kernel) rfl) ?_
  refine am_all.c (s_iconst (by decide +kernel) (by decide) rfl) ?_
  refine am_all.c (s_iload_n (kf := 1) (by decide +kernel) rfl rfl) ?_
  refine am_all.c (s_imul (by decide +kernel) rfl) ?_
  refine am_all.c (s_iald rfl (by decide +kernel) rfl) ?_
  refine am_all.c (s_istore_n (kf := 2) (by decide +kernel) rfl rfl) ?_
  refine am_all.c (s_iload_n (kf := 2) (by decide +kernel) rfl rfl) ?_
  refine am_all.c (s_bipush (by decide +kernel) (by decide +kernel) (by decide) rfl) ?_
  refine am_all.c (s_icmp_ge (off := 7) (by decide +kernel) (by decide) rfl) ?_
  refine am_all.c (s_iconst (by decide +kernel) (by decide) rfl) ?_
  refine am_all.c (s_goto (off := 14) (by decide +kernel) (by decide)) ?_
  refine am_all.c (s_iload_n (kf := 2) (by decide +kernel) rfl rfl) ?_
  refine am_all.c (s_bipush (by decide +kernel) (by decide +kernel) (by decide) rfl) ?_
  refine am_all.c (s_icmp_ne (off := 7) (by decide +kernel) (by decide) rfl) ?_
  refine am_all.c (s_iconst (by decide +kernel) (by decide) rfl) ?_
  refine am_all.c (s_goto (off := 4) (by decide +kernel) (by decide)) ?_
  refine am_all.c (s_iconst (by decide +kernel) (by decide) rfl) ?_
  refine am_all.c (s_iret (by decide +kernel) rfl) ?_
  exact trivial
set_option maxRecDepth 20000 in
theorem ga_M_good {D : va_G} {dA : Nat → ClassId} {h b L : Nat} {xs : Nat → Int32} (hN : am_nN (am_En D dA h b L xs)) : am_all (am_En D dA h b L xs) mv_tb mv_P tM_good kM_good := by
  unfold kM_good
  refine am_all.c (s_iconst (by decide +kernel) (by decide) rfl) ?_
  refine am_all.c (s_istore_n (kf := 1) (by decide +kernel) rfl rfl) ?_
  refine am_all.c (s_iconst (by decide +kernel) (by decide) rfl) ?_
  refine am_all.c (s_istore_n (kf := 2) (by decide +kernel) rfl rfl) ?_
  refine am_all.c (s_iload_n (kf := 2) (by decide +kernel) rfl rfl) ?_
  refine am_all.c (s_aload_n (kf := 0) (by decide +kernel) rfl rfl) ?_
  refine am_all.c (s_get (C := cn_M) (Tf := ft_M) (N := 21) rfl fi_M (by decide) tw_567 (by decide +kernel) rfl) ?_
  refine am_all.c (s_icmp_ge (off := 75) (by decide +kernel) (by decide) rfl) ?_
  refine am_all.c (s_iload_n (kf := 2) (by decide +kernel) rfl rfl) ?_
  refine am_all.c (s_if_le (off := 7) (by decide +kernel) (by decide) rfl) ?_
  refine am_all.c (s_iload_n (kf := 1) (by decide +kernel) rfl rfl) ?_
  refine am_all.c (s_if_eq (off := 8) (by decide +kernel) (by decide) rfl) ?_
  refine am_all.c (s_iload_n (kf := 1) (by decide +kernel) rfl rfl) ?_
  refine am_all.c (s_iconst (by decide +kernel) (by decide) rfl) ?_
  refine am_all.c (s_icmp_le (off := 5) (by decide +kernel) (by decide) rfl) ?_
  refine am_all.c (s_iconst (by decide +kernel) (by decide) rfl) ?_
  refine am_all.c (s_zret (by decide +kernel) rfl) ?_
  refine am_all.c (s_aload_n (kf := 0) (by decide +kernel) rfl rfl) ?_
  refine am_all.c (s_get (C := cn_M) (Tf := ft_M) (N := 21) rfl fi_M (by decide) tw_572 (by decide +kernel) rfl) ?_
  refine am_all.c (s_iload_n (kf := 1) (by decide +kernel) rfl rfl) ?_
  refine am_all.c (s_aload_n (kf := 0) (by decide +kernel) rfl rfl) ?_
  refine am_all.c (s_iload_n (kf := 2) (by decide +kernel) rfl rfl) ?_
  refine am_all.c (s_callV (q := (cn_M, ft_M, 21)) (by decide) (ce_M_parts hN) rfl rfl tw_719 tw_721 tw_36 (by decide +kernel) rfl) ?_
  refine am_all.c (s_iast rfl (by decide +kernel) rfl) ?_
  refine am_all.c (s_iinc (by decide +kernel) rfl) ?_
  refine am_all.c (s_iload_n (kf := 1) (by decide +kernel) rfl rfl) ?_
  refine am_all.c (s_if_le (off := 36) (by decide +kernel) (by decide) rfl) ?_
  refine am_all.c (s_aload_n (kf := 0) (by decide +kernel) rfl rfl) ?_
  refine am_all.c (s_get (C := cn_M) (Tf := ft_M) (N := 21) rfl fi_M (by decide) tw_572 (by decide +kernel) rfl) ?_
  refine am_all.c (s_iload_n (kf := 1) (by decide +kernel) rfl rfl) ?_
  refine am_all.c (s_iconst (by decide +kernel) (by decide) rfl) ?_
  refine am_all.c (s_isub (by decide +kernel) rfl) ?_
  refine am_all.c (s_iald rfl (by decide +kernel) rfl) ?_
  refine am_all.c (s_if_ne (off := 25) (by decide +kernel) (by decide) rfl) ?_
  refine am_all.c (s_iinc (by decide +kernel) rfl) ?_
  refine am_all.c (s_iload_n (kf := 1) (by decide +kernel) rfl rfl) ?_
  refine am_all.c (s_if_le (off := -19) (by decide +kernel) (by decide) rfl) ?_
  refine am_all.c (s_aload_n (kf := 0) (by decide +kernel) rfl rfl) ?_
  refine am_all.c (s_get (C := cn_M) (Tf := ft_M) (N := 21) rfl fi_M (by decide) tw_572 (by decide +kernel) rfl) ?_
  refine am_all.c (s_iload_n (kf := 1) (by decide +kernel) rfl rfl) ?_
  refine am_all.c (s_iconst (by decide +kernel) (by decide) rfl) ?_
  refine am_all.c (s_isub (by decide +kernel) rfl) ?_
  refine am_all.c (s_dup2 (by decide +kernel) rfl) ?_
  refine am_all.c (s_iald rfl (by decide +kernel) rfl) ?_
  refine am_all.c (s_iconst (by decide +kernel) (by decide) rfl) ?_
  refine am_all.c (s_isub (by decide +kernel) rfl) ?_
  refine am_all.c (s_iast rfl (by decide +kernel) rfl) ?_
  refine am_all.c (s_goto (off := -34) (by decide +kernel) (by decide)) ?_
  refine am_all.c (s_iinc (by decide +kernel) rfl) ?_
  refine am_all.c (s_goto (off := -77) (by decide +kernel) (by decide)) ?_
  refine am_all.c (s_aload_n (kf := 0) (by decide +kernel) rfl rfl) ?_
  refine am_all.c (s_get (C := cn_M) (Tf := ft_M) (N := 21) rfl fi_M (by decide) tw_567 (by decide +kernel) rfl) ?_
  refine am_all.c (s_if_le (off := 11) (by decide +kernel) (by decide) rfl) ?_
  refine am_all.c (s_iload_n (kf := 1) (by decide +kernel) rfl rfl) ?_
  refine am_all.c (s_if_ne (off := 7) (by decide +kernel) (by decide) rfl) ?_
  refine am_all.c (s_iconst (by decide +kernel) (by decide) rfl) ?_
  refine am_all.c (s_goto (off := 4) (by decide +kernel) (by decide)) ?_
  refine am_all.c (s_iconst (by decide +kernel) (by decide) rfl) ?_
  refine am_all.c (s_zret (by decide +kernel) rfl) ?_
  exact trivial
set_option maxRecDepth 20000 in
theorem ga_M_leaf {D : va_G} {dA : Nat → ClassId} {h b L : Nat} {xs : Nat → Int32} (hN : am_nN (am_En D dA h b L xs)) : am_all (am_En D dA h b L xs) mv_tb mv_P tM_leaf kM_leaf := by
  unfold kM_leaf
  refine am_all.c (s_aload_n (kf := 0) (by decide +kernel) rfl rfl) ?_
  refine am_all.c (s_get (C := cn_M) (Tf := ft_M) (N := 21) rfl fi_M (by decide) tw_559 (by decide +kernel) rfl) ?_
  refine am_all.c (s_iload_n (kf := 2) (by decide +kernel) rfl rfl) ?_
  refine am_all.c (s_iald rfl (by decide +kernel) rfl) ?_
  refine am_all.c (s_istore (by decide +kernel) rfl) ?_
  refine am_all.c (s_aload_n (kf := 0) (by decide +kernel) rfl rfl) ?_
  refine am_all.c (s_iload_n (kf := 2) (by decide +kernel) rfl rfl) ?_
  refine am_all.c (s_iload_n (kf := 3) (by decide +kernel) rfl rfl) ?_
  refine am_all.c (s_callV (q := (cn_M, ft_M, 21)) (by decide) (ce_M_uidOf hN) rfl rfl tw_671 tw_673 tw_30 (by decide +kernel) rfl) ?_
  refine am_all.c (s_istore (by decide +kernel) rfl) ?_
  refine am_all.c (s_bipush (by decide +kernel) (by decide +kernel) (by decide) rfl) ?_
  refine am_all.c (s_iload (by decide +kernel) rfl) ?_
  refine am_all.c (s_imul (by decide +kernel) rfl) ?_
  refine am_all.c (s_iconst (by decide +kernel) (by decide) rfl) ?_
  refine am_all.c (s_aload_n (kf := 0) (by decide +kernel) rfl rfl) ?_
  refine am_all.c (s_iload (by decide +kernel) rfl) ?_
  refine am_all.c (s_iload (by decide +kernel) rfl) ?_
  refine am_all.c (s_callV (q := (cn_M, ft_M, 21)) (by decide) (ce_M_place hN) rfl rfl tw_635 tw_637 tw_24 (by decide +kernel) rfl) ?_
  refine am_all.c (s_imul (by decide +kernel) rfl) ?_
  refine am_all.c (s_iadd (by decide +kernel) rfl) ?_
  refine am_all.c (s_istore (by decide +kernel) rfl) ?_
  refine am_all.c (s_aload_n (kf := 0) (by decide +kernel) rfl rfl) ?_
  refine am_all.c (s_get (C := cn_M) (Tf := ft_M) (N := 21) rfl fi_M (by decide) tw_568 (by decide +kernel) rfl) ?_
  refine am_all.c (s_iconst (by decide +kernel) (by decide) rfl) ?_
  refine am_all.c (s_iload_n (kf := 1) (by decide +kernel) rfl rfl) ?_
  refine am_all.c (s_imul (by decide +kernel) rfl) ?_
  refine am_all.c (s_iconst (by decide +kernel) (by decide) rfl) ?_
  refine am_all.c (s_iadd (by decide +kernel) rfl) ?_
  refine am_all.c (s_iald rfl (by decide +kernel) rfl) ?_
  refine am_all.c (s_istore (by decide +kernel) rfl) ?_
  refine am_all.c (s_aload_n (kf := 0) (by decide +kernel) rfl rfl) ?_
  refine am_all.c (s_get (C := cn_M) (Tf := ft_M) (N := 21) rfl fi_M (by decide) tw_568 (by decide +kernel) rfl) ?_
  refine am_all.c (s_iconst (by decide +kernel) (by decide) rfl) ?_
  refine am_all.c (s_iload_n (kf := 1) (by decide +kernel) rfl rfl) ?_
  refine am_all.c (s_imul (by decide +kernel) rfl) ?_
  refine am_all.c (s_iconst (by decide +kernel) (by decide) rfl) ?_
  refine am_all.c (s_iadd (by decide +kernel) rfl) ?_
  refine am_all.c (s_iald rfl (by decide +kernel) rfl) ?_
  refine am_all.c (s_istore (by decide +kernel) rfl) ?_
  refine am_all.c (s_aload_n (kf := 0) (by decide +kernel) rfl rfl) ?_
  refine am_all.c (s_get (C := cn_M) (Tf := ft_M) (N := 21) rfl fi_M (by decide) tw_568 (by decide +kernel) rfl) ?_
  refine am_all.c (s_iconst (by decide +kernel) (by decide) rfl) ?_
  refine am_all.c (s_iload_n (kf := 1) (by decide +kernel) rfl rfl) ?_
  refine am_all.c (s_imul (by decide +kernel) rfl) ?_
  refine am_all.c (s_iald rfl (by decide +kernel) rfl) ?_
  refine am_all.c (s_tsw (dflt := 114) (lo := 1) (hi := 5) (offs := #[34, 55, 75, 95, 105]) (len := 34) (by decide +kernel) (by decide) (by decide) (am_tsc (by decide))) ?_
  refine am_all.c (s_aload_n (kf := 0) (by decide +kernel) rfl rfl) ?_
  refine am_all.c (s_get (C := cn_M) (Tf := ft_M) (N := 21) rfl fi_M (by decide) tw_556 (by decide +kernel) rfl) ?_
  refine am_all.c (s_iload (by decide +kernel) rfl) ?_
  refine am_all.c (s_iconst (by decide +kernel) (by decide) rfl) ?_
  refine am_all.c (s_iadd (by decide +kernel) rfl) ?_
  refine am_all.c (s_iald rfl (by decide +kernel) rfl) ?_
  refine am_all.c (s_iload (by decide +kernel) rfl) ?_
  refine am_all.c (s_iand (by decide +kernel) rfl) ?_
  refine am_all.c (s_if_eq (off := 7) (by decide +kernel) (by decide) rfl) ?_
  refine am_all.c (s_iconst (by decide +kernel) (by decide) rfl) ?_
  refine am_all.c (s_goto (off := 4) (by decide +kernel) (by decide)) ?_
  refine am_all.c (s_iconst (by decide +kernel) (by decide) rfl) ?_
  refine am_all.c (s_zret (by decide +kernel) rfl) ?_
  refine am_all.c (s_aload_n (kf := 0) (by decide +kernel) rfl rfl) ?_
  refine am_all.c (s_get (C := cn_M) (Tf := ft_M) (N := 21) rfl fi_M (by decide) tw_556 (by decide +kernel) rfl) ?_
  refine am_all.c (s_iload (by decide +kernel) rfl) ?_
  refine am_all.c (s_iconst (by decide +kernel) (by decide) rfl) ?_
  refine am_all.c (s_iadd (by decide +kernel) rfl) ?_
  refine am_all.c (s_iald rfl (by decide +kernel) rfl) ?_
  refine am_all.c (s_iload (by decide +kernel) rfl) ?_
  refine am_all.c (s_icmp_le (off := 7) (by decide +kernel) (by decide) rfl) ?_
  refine am_all.c (s_iconst (by decide +kernel) (by decide) rfl) ?_
  refine am_all.c (s_goto (off := 4) (by decide +kernel) (by decide)) ?_
  refine am_all.c (s_iconst (by decide +kernel) (by decide) rfl) ?_
  refine am_all.c (s_zret (by decide +kernel) rfl) ?_
  refine am_all.c (s_aload_n (kf := 0) (by decide +kernel) rfl rfl) ?_
  refine am_all.c (s_get (C := cn_M) (Tf := ft_M) (N := 21) rfl fi_M (by decide) tw_556 (by decide +kernel) rfl) ?_
  refine am_all.c (s_iload (by decide +kernel) rfl) ?_
  refine am_all.c (s_iconst (by decide +kernel) (by decide) rfl) ?_
  refine am_all.c (s_iadd (by decide +kernel) rfl) ?_
  refine am_all.c (s_iald rfl (by decide +kernel) rfl) ?_
  refine am_all.c (s_iload (by decide +kernel) rfl) ?_
  refine am_all.c (s_icmp_ge (off := 7) (by decide +kernel) (by decide) rfl) ?_
  refine am_all.c (s_iconst (by decide +kernel) (by decide) rfl) ?_
  refine am_all.c (s_goto (off := 4) (by decide +kernel) (by decide)) ?_
  refine am_all.c (s_iconst (by decide +kernel) (by decide) rfl) ?_
  refine am_all.c (s_zret (by decide +kernel) rfl) ?_
  refine am_all.c (s_iload (by decide +kernel) rfl) ?_
  refine am_all.c (s_iload (by decide +kernel) rfl) ?_
  refine am_all.c (s_iload (by decide +kernel) rfl) ?_
  refine am_all.c (s_callS (by decide) (ce_M_in hN) tw_620 tw_621 (by decide +kernel) rfl) ?_
  refine am_all.c (s_zret (by decide +kernel) rfl) ?_
  refine am_all.c (s_iload_n (kf := 3) (by decide +kernel) rfl rfl) ?_
  refine am_all.c (s_iload (by decide +kernel) rfl) ?_
  refine am_all.c (s_iload (by decide +kernel) rfl) ?_
  refine am_all.c (s_callS (by decide) (ce_M_in hN) tw_620 tw_621 (by decide +kernel) rfl) ?_
  refine am_all.c (s_zret (by decide +kernel) rfl) ?_
  refine am_all.c (s_iconst (by decide +kernel) (by decide) rfl) ?_
  refine am_all.c (s_zret (by decide +kernel) rfl) ?_
  exact trivial
set_option maxRecDepth 20000 in
theorem ga_M_fulfils {D : va_G} {dA : Nat → ClassId} {h b L : Nat} {xs : Nat → Int32} (hN : am_nN (am_En D dA h b L xs)) : am_all (am_En D dA h b L xs) mv_tb mv_P tM_fulfils kM_fulfils := by
  unfold kM_fulfils
  refine am_all.c (s_iconst (by decide +kernel) (by decide) rfl) ?_
  refine am_all.c (s_istore_n (kf := 3) (by decide +kernel) rfl rfl) ?_
  refine am_all.c (s_aload_n (kf := 0) (by decide +kernel) rfl rfl) ?_
  refine am_all.c (s_get (C := cn_M) (Tf := ft_M) (N := 21) rfl fi_M (by decide) tw_567 (by decide +kernel) rfl) ?_
  refine am_all.c (s_iconst (by decide +kernel) (by decide) rfl) ?_
  refine am_all.c (s_isub (by decide +kernel) rfl) ?_
  refine am_all.c (s_istore (by decide +kernel) rfl) ?_
  refine am_all.c (s_iload (by decide +kernel) rfl) ?_
  refine am_all.c (s_if_lt (off := 150) (by decide +kernel) (by decide) rfl) ?_
  refine am_all.c (s_aload_n (kf := 0) (by decide +kernel) rfl rfl) ?_
  refine am_all.c (s_get (C := cn_M) (Tf := ft_M) (N := 21) rfl fi_M (by decide) tw_568 (by decide +kernel) rfl) ?_
  refine am_all.c (s_iconst (by decide +kernel) (by decide) rfl) ?_
  refine am_all.c (s_iload (by decide +kernel) rfl) ?_
  refine am_all.c (s_imul (by decide +kernel) rfl) ?_
  refine am_all.c (s_iald rfl (by decide +kernel) rfl) ?_
  refine am_all.c (s_istore (by decide +kernel) rfl) ?_
  refine am_all.c (s_iload (by decide +kernel) rfl) ?_
  refine am_all.c (s_bipush (by decide +kernel) (by decide +kernel) (by decide) rfl) ?_
  refine am_all.c (s_icmp_ge (off := 23) (by decide +kernel) (by decide) rfl) ?_
  refine am_all.c (s_aload_n (kf := 0) (by decide +kernel) rfl rfl) ?_
  refine am_all.c (s_get (C := cn_M) (Tf := ft_M) (N := 21) rfl fi_M (by decide) tw_571 (by decide +kernel) rfl) ?_
  refine am_all.c (s_iload_n (kf := 3) (by decide +kernel) rfl rfl) ?_
  refine am_all.c (s_aload_n (kf := 0) (by decide +kernel) rfl rfl) ?_
  refine am_all.c (s_iload (by decide +kernel) rfl) ?_
  refine am_all.c (s_iload_n (kf := 1) (by decide +kernel) rfl rfl) ?_
  refine am_all.c (s_iload_n (kf := 2) (by decide +kernel) rfl rfl) ?_
  refine am_all.c (s_callV (q := (cn_M, ft_M, 21)) (by decide) (ce_M_leaf hN) rfl rfl tw_727 tw_729 tw_38 (by decide +kernel) rfl) ?_
  refine am_all.c (s_zast rfl (by decide +kernel) rfl) ?_
  refine am_all.c (s_iinc (by decide +kernel) rfl) ?_
  refine am_all.c (s_goto (off := 106) (by decide +kernel) (by decide)) ?_
  refine am_all.c (s_iload (by decide +kernel) rfl) ?_
  refine am_all.c (s_bipush (by decide +kernel) (by decide +kernel) (by decide) rfl) ?_
  refine am_all.c (s_icmp_ne (off := 30) (by decide +kernel) (by decide) rfl) ?_
  refine am_all.c (s_aload_n (kf := 0) (by decide +kernel) rfl rfl) ?_
  refine am_all.c (s_get (C := cn_M) (Tf := ft_M) (N := 21) rfl fi_M (by decide) tw_571 (by decide +kernel) rfl) ?_
  refine am_all.c (s_iload_n (kf := 3) (by decide +kernel) rfl rfl) ?_
  refine am_all.c (s_iconst (by decide +kernel) (by decide) rfl) ?_
  refine am_all.c (s_isub (by decide +kernel) rfl) ?_
  refine am_all.c (s_aload_n (kf := 0) (by decide +kernel) rfl rfl) ?_
  refine am_all.c (s_get (C := cn_M) (Tf := ft_M) (N := 21) rfl fi_M (by decide) tw_571 (by decide +kernel) rfl) ?_
  refine am_all.c (s_iload_n (kf := 3) (by decide +kernel) rfl rfl) ?_
  refine am_all.c (s_iconst (by decide +kernel) (by decide) rfl) ?_
  refine am_all.c (s_isub (by decide +kernel) rfl) ?_
  refine am_all.c (s_zald rfl (by decide +kernel) rfl) ?_
  refine am_all.c (s_if_ne (off := 7) (by decide +kernel) (by decide) rfl) ?_
  refine am_all.c (s_iconst (by decide +kernel) (by decide) rfl) ?_
  refine am_all.c (s_goto (off := 4) (by decide +kernel) (by decide)) ?_
  refine am_all.c (s_iconst (by decide +kernel) (by decide) rfl) ?_
  refine am_all.c (s_zast rfl (by decide +kernel) rfl) ?_
  refine am_all.c (s_goto (off := 72) (by decide +kernel) (by decide)) ?_
  refine am_all.c (s_iinc (by decide +kernel) rfl) ?_
  refine am_all.c (s_aload_n (kf := 0) (by decide +kernel) rfl rfl) ?_
  refine am_all.c (s_get (C := cn_M) (Tf := ft_M) (N := 21) rfl fi_M (by decide) tw_571 (by decide +kernel) rfl) ?_
  refine am_all.c (s_iload_n (kf := 3) (by decide +kernel) rfl rfl) ?_
  refine am_all.c (s_zald rfl (by decide +kernel) rfl) ?_
  refine am_all.c (s_istore (by decide +kernel) rfl) ?_
  refine am_all.c (s_aload_n (kf := 0) (by decide +kernel) rfl rfl) ?_
  refine am_all.c (s_get (C := cn_M) (Tf := ft_M) (N := 21) rfl fi_M (by decide) tw_571 (by decide +kernel) rfl) ?_
  refine am_all.c (s_iload_n (kf := 3) (by decide +kernel) rfl rfl) ?_
  refine am_all.c (s_iconst (by decide +kernel) (by decide) rfl) ?_
  refine am_all.c (s_isub (by decide +kernel) rfl) ?_
  refine am_all.c (s_zald rfl (by decide +kernel) rfl) ?_
  refine am_all.c (s_istore (by decide +kernel) rfl) ?_
  refine am_all.c (s_aload_n (kf := 0) (by decide +kernel) rfl rfl) ?_
  refine am_all.c (s_get (C := cn_M) (Tf := ft_M) (N := 21) rfl fi_M (by decide) tw_571 (by decide +kernel) rfl) ?_
  refine am_all.c (s_iload_n (kf := 3) (by decide +kernel) rfl rfl) ?_
  refine am_all.c (s_iconst (by decide +kernel) (by decide) rfl) ?_
  refine am_all.c (s_isub (by decide +kernel) rfl) ?_
  refine am_all.c (s_iload (by decide +kernel) rfl) ?_
  refine am_all.c (s_bipush (by decide +kernel) (by decide +kernel) (by decide) rfl) ?_
  refine am_all.c (s_icmp_ne (off := 21) (by decide +kernel) (by decide) rfl) ?_
  refine am_all.c (s_iload (by decide +kernel) rfl) ?_
  refine am_all.c (s_if_eq (off := 12) (by decide +kernel) (by decide) rfl) ?_
  refine am_all.c (s_iload (by decide +kernel) rfl) ?_
  refine am_all.c (s_if_eq (off := 7) (by decide +kernel) (by decide) rfl) ?_
  refine am_all.c (s_iconst (by decide +kernel) (by decide) rfl) ?_
  refine am_all.c (s_goto (off := 22) (by decide +kernel) (by decide)) ?_
  refine am_all.c (s_iconst (by decide +kernel) (by decide) rfl) ?_
  refine am_all.c (s_goto (off := 18) (by decide +kernel) (by decide)) ?_
  refine am_all.c (s_iload (by decide +kernel) rfl) ?_
  refine am_all.c (s_if_ne (off := 8) (by decide +kernel) (by decide) rfl) ?_
  refine am_all.c (s_iload (by decide +kernel) rfl) ?_
  refine am_all.c (s_if_eq (off := 7) (by decide +kernel) (by decide) rfl) ?_
  refine am_all.c (s_iconst (by decide +kernel) (by decide) rfl) ?_
  refine am_all.c (s_goto (off := 4) (by decide +kernel) (by decide)) ?_
  refine am_all.c (s_iconst (by decide +kernel) (by decide) rfl) ?_
  refine am_all.c (s_zast rfl (by decide +kernel) rfl) ?_
  refine am_all.c (s_iinc (by decide +kernel) rfl) ?_
  refine am_all.c (s_goto (off := -149) (by decide +kernel) (by decide)) ?_
  refine am_all.c (s_aload_n (kf := 0) (by decide +kernel) rfl rfl) ?_
  refine am_all.c (s_get (C := cn_M) (Tf := ft_M) (N := 21) rfl fi_M (by decide) tw_571 (by decide +kernel) rfl) ?_
  refine am_all.c (s_iconst (by decide +kernel) (by decide) rfl) ?_
  refine am_all.c (s_zald rfl (by decide +kernel) rfl) ?_
  refine am_all.c (s_zret (by decide +kernel) rfl) ?_
  exact trivial
set_option maxRecDepth 20000 in
theorem ga_M_search {D : va_G} {dA : Nat → ClassId} {h b L : Nat} {xs : Nat → Int32} (hN : am_nN (am_En D dA h b L xs)) : am_all (am_En D dA h b L xs) mv_tb mv_P tM_search kM_search := by
  unfold kM_search
  refine am_all.c (s_aload_n (kf := 0) (by decide +kernel) rfl rfl) ?_
  refine am_all.c (s_iload_n (kf := 1) (by decide +kernel) rfl rfl) ?_
  refine am_all.c (s_callV (q := (cn_M, ft_M, 21)) (by decide) (ce_M_none hN) rfl rfl tw_651 tw_653 tw_26 (by decide +kernel) rfl) ?_
  refine am_all.c (s_if_eq (off := 5) (by decide +kernel) (by decide) rfl) ?_
  refine am_all.c (s_iconst (by decide +kernel) (by decide) rfl) ?_
  refine am_all.c (s_iret (by decide +kernel) rfl) ?_
  refine am_all.c (s_aload_n (kf := 0) (by decide +kernel) rfl rfl) ?_
  refine am_all.c (s_callV (q := (cn_M, ft_M, 21)) (by decide) (ce_M_good hN) rfl rfl tw_715 tw_717 tw_35 (by decide +kernel) rfl) ?_
  refine am_all.c (s_istore_n (kf := 2) (by decide +kernel) rfl rfl) ?_
  refine am_all.c (s_iload_n (kf := 2) (by decide +kernel) rfl rfl) ?_
  refine am_all.c (s_if_eq (off := 73) (by decide +kernel) (by decide) rfl) ?_
  refine am_all.c (s_aload_n (kf := 0) (by decide +kernel) rfl rfl) ?_
  refine am_all.c (s_iconst (by decide +kernel) (by decide) rfl) ?_
  refine am_all.c (s_put (C := cn_M) (Tf := ft_M) (N := 21) (ty := .int) rfl fi_M fy_M fo_M fn_M (by decide) tw_569 (Or.inl rfl) (by decide +kernel) (Or.inl ⟨rfl, rfl⟩) (by decide +kernel) rfl) ?_
  refine am_all.c (s_iconst (by decide +kernel) (by decide) rfl) ?_
  refine am_all.c (s_istore_n (kf := 3) (by decide +kernel) rfl rfl) ?_
  refine am_all.c (s_iload_n (kf := 3) (by decide +kernel) rfl rfl) ?_
  refine am_all.c (s_aload_n (kf := 0) (by decide +kernel) rfl rfl) ?_
  refine am_all.c (s_get (C := cn_M) (Tf := ft_M) (N := 21) rfl fi_M (by decide) tw_561 (by decide +kernel) rfl) ?_
  refine am_all.c (s_iload_n (kf := 1) (by decide +kernel) rfl rfl) ?_
  refine am_all.c (s_iald rfl (by decide +kernel) rfl) ?_
  refine am_all.c (s_icmp_gt (off := 50) (by decide +kernel) (by decide) rfl) ?_
  refine am_all.c (s_aload_n (kf := 0) (by decide +kernel) rfl rfl) ?_
  refine am_all.c (s_iload_n (kf := 1) (by decide +kernel) rfl rfl) ?_
  refine am_all.c (s_iload_n (kf := 3) (by decide +kernel) rfl rfl) ?_
  refine am_all.c (s_callV (q := (cn_M, ft_M, 21)) (by decide) (ce_M_gone hN) rfl rfl tw_667 tw_669 tw_29 (by decide +kernel) rfl) ?_
  refine am_all.c (s_if_ne (off := 35) (by decide +kernel) (by decide) rfl) ?_
  refine am_all.c (s_aload_n (kf := 0) (by decide +kernel) rfl rfl) ?_
  refine am_all.c (s_iload_n (kf := 1) (by decide +kernel) rfl rfl) ?_
  refine am_all.c (s_iload_n (kf := 3) (by decide +kernel) rfl rfl) ?_
  refine am_all.c (s_callV (q := (cn_M, ft_M, 21)) (by decide) (ce_M_fulfils hN) rfl rfl tw_723 tw_725 tw_37 (by decide +kernel) rfl) ?_
  refine am_all.c (s_if_ne (off := 6) (by decide +kernel) (by decide) rfl) ?_
  refine am_all.c (s_goto (off := 23) (by decide +kernel) (by decide)) ?_
  refine am_all.c (s_aload_n (kf := 0) (by decide +kernel) rfl rfl) ?_
  refine am_all.c (s_get (C := cn_M) (Tf := ft_M) (N := 21) rfl fi_M (by decide) tw_570 (by decide +kernel) rfl) ?_
  refine am_all.c (s_aload_n (kf := 0) (by decide +kernel) rfl rfl) ?_
  refine am_all.c (s_get (C := cn_M) (Tf := ft_M) (N := 21) rfl fi_M (by decide) tw_569 (by decide +kernel) rfl) ?_
  refine am_all.c (s_iload_n (kf := 3) (by decide +kernel) rfl rfl) ?_
  refine am_all.c (s_iast rfl (by decide +kernel) rfl) ?_
  refine am_all.c (s_aload_n (kf := 0) (by decide +kernel) rfl rfl) ?_
  refine am_all.c (s_dup (by decide +kernel) rfl) ?_
  refine am_all.c (s_get (C := cn_M) (Tf := ft_M) (N := 21) rfl fi_M (by decide) tw_569 (by decide +kernel) rfl) ?_
  refine am_all.c (s_iconst (by decide +kernel) (by decide) rfl) ?_
  refine am_all.c (s_iadd (by decide +kernel) rfl) ?_
  refine am_all.c (s_put (C := cn_M) (Tf := ft_M) (N := 21) (ty := .int) rfl fi_M fy_M fo_M fn_M (by decide) tw_569 (Or.inl rfl) (by decide +kernel) (Or.inl ⟨rfl, rfl⟩) (by decide +kernel) rfl) ?_
  refine am_all.c (s_iinc (by decide +kernel) rfl) ?_
  refine am_all.c (s_goto (off := -54) (by decide +kernel) (by decide)) ?_
  refine am_all.c (s_aload_n (kf := 0) (by decide +kernel) rfl rfl) ?_
  refine am_all.c (s_iload_n (kf := 1) (by decide +kernel) rfl rfl) ?_
  refine am_all.c (s_iconst (by decide +kernel) (by decide) rfl) ?_
  refine am_all.c (s_callV (q := (cn_M, ft_M, 21)) (by decide) (ce_M_update hN) rfl rfl tw_663 tw_665 tw_28 (by decide +kernel) rfl) ?_
  refine am_all.c (s_aload_n (kf := 0) (by decide +kernel) rfl rfl) ?_
  refine am_all.c (s_iconst (by decide +kernel) (by decide) rfl) ?_
  refine am_all.c (s_put (C := cn_M) (Tf := ft_M) (N := 21) (ty := .int) rfl fi_M fy_M fo_M fn_M (by decide) tw_567 (Or.inl rfl) (by decide +kernel) (Or.inl ⟨rfl, rfl⟩) (by decide +kernel) rfl) ?_
  refine am_all.c (s_iload_n (kf := 2) (by decide +kernel) rfl rfl) ?_
  refine am_all.c (s_if_eq (off := 10) (by decide +kernel) (by decide) rfl) ?_
  refine am_all.c (s_aload_n (kf := 0) (by decide +kernel) rfl rfl) ?_
  refine am_all.c (s_get (C := cn_M) (Tf := ft_M) (N := 21) rfl fi_M (by decide) tw_569 (by decide +kernel) rfl) ?_
  refine am_all.c (s_goto (off := 5) (by decide +kernel) (by decide)) ?_
  refine am_all.c (s_bipush (by decide +kernel) (by decide +kernel) (by decide) rfl) ?_
  refine am_all.c (s_iret (by decide +kernel) rfl) ?_
  exact trivial
set_option maxRecDepth 20000 in
theorem ga_M_found {D : va_G} {dA : Nat → ClassId} {h b L : Nat} {xs : Nat → Int32} (hN : am_nN (am_En D dA h b L xs)) : am_all (am_En D dA h b L xs) mv_tb mv_P tM_found kM_found := by
  unfold kM_found
  refine am_all.c (s_iload_n (kf := 1) (by decide +kernel) rfl rfl) ?_
  refine am_all.c (s_iconst (by decide +kernel) (by decide) rfl) ?_
  refine am_all.c (s_aload_n (kf := 0) (by decide +kernel) rfl rfl) ?_
  refine am_all.c (s_get (C := cn_M) (Tf := ft_M) (N := 21) rfl fi_M (by decide) tw_569 (by decide +kernel) rfl) ?_
  refine am_all.c (s_iconst (by decide +kernel) (by decide) rfl) ?_
  refine am_all.c (s_isub (by decide +kernel) rfl) ?_
  refine am_all.c (s_callS (by decide) (ce_M_in hN) tw_620 tw_621 (by decide +kernel) rfl) ?_
  refine am_all.c (s_if_eq (off := 12) (by decide +kernel) (by decide) rfl) ?_
  refine am_all.c (s_aload_n (kf := 0) (by decide +kernel) rfl rfl) ?_
  refine am_all.c (s_get (C := cn_M) (Tf := ft_M) (N := 21) rfl fi_M (by decide) tw_570 (by decide +kernel) rfl) ?_
  refine am_all.c (s_iload_n (kf := 1) (by decide +kernel) rfl rfl) ?_
  refine am_all.c (s_iald rfl (by decide +kernel) rfl) ?_
  refine am_all.c (s_goto (off := 4) (by decide +kernel) (by decide)) ?_
  refine am_all.c (s_iconst (by decide +kernel) (by decide) rfl) ?_
  refine am_all.c (s_iret (by decide +kernel) rfl) ?_
  exact trivial
set_option maxRecDepth 20000 in
theorem ga_M_sync {D : va_G} {dA : Nat → ClassId} {h b L : Nat} {xs : Nat → Int32} (hN : am_nN (am_En D dA h b L xs)) : am_all (am_En D dA h b L xs) mv_tb mv_P tM_sync kM_sync := by
  unfold kM_sync
  refine am_all.c (s_aload_n (kf := 0) (by decide +kernel) rfl rfl) ?_
  refine am_all.c (s_aload_n (kf := 0) (by decide +kernel) rfl rfl) ?_
  refine am_all.c (s_get (C := cn_M) (Tf := ft_M) (N := 21) rfl fi_M (by decide) tw_552 (by decide +kernel) rfl) ?_
  refine am_all.c (s_put (C := cn_M) (Tf := ft_M) (N := 21) (ty := .int) rfl fi_M fy_M fo_M fn_M (by decide) tw_553 (Or.inl rfl) (by decide +kernel) (Or.inl ⟨rfl, rfl⟩) (by decide +kernel) rfl) ?_
  refine am_all.c (s_aload_n (kf := 0) (by decide +kernel) rfl rfl) ?_
  refine am_all.c (s_get (C := cn_M) (Tf := ft_M) (N := 21) rfl fi_M (by decide) tw_552 (by decide +kernel) rfl) ?_
  refine am_all.c (s_iret (by decide +kernel) rfl) ?_
  exact trivial
set_option maxRecDepth 20000 in
theorem ga_M_crash {D : va_G} {dA : Nat → ClassId} {h b L : Nat} {xs : Nat → Int32} (hN : am_nN (am_En D dA h b L xs)) : am_all (am_En D dA h b L xs) mv_tb mv_P tM_crash kM_crash := by
  unfold kM_crash
  refine am_all.c (s_iconst (by decide +kernel) (by decide) rfl) ?_
  refine am_all.c (s_istore_n (kf := 1) (by decide +kernel) rfl rfl) ?_
  refine am_all.c (s_iload_n (kf := 1) (by decide +kernel) rfl rfl) ?_
  refine am_all.c (s_iconst (by decide +kernel) (by decide) rfl) ?_
  refine am_all.c (s_icmp_ge (off := 86) (by decide +kernel) (by decide) rfl) ?_
  refine am_all.c (s_iconst (by decide +kernel) (by decide) rfl) ?_
  refine am_all.c (s_istore_n (kf := 2) (by decide +kernel) rfl rfl) ?_
  refine am_all.c (s_aload_n (kf := 0) (by decide +kernel) rfl rfl) ?_
  refine am_all.c (s_get (C := cn_M) (Tf := ft_M) (N := 21) rfl fi_M (by decide) tw_553 (by decide +kernel) rfl) ?_
  refine am_all.c (s_istore_n (kf := 3) (by decide +kernel) rfl rfl) ?_
  refine am_all.c (s_iload_n (kf := 3) (by decide +kernel) rfl rfl) ?_
  refine am_all.c (s_aload_n (kf := 0) (by decide +kernel) rfl rfl) ?_
  refine am_all.c (s_get (C := cn_M) (Tf := ft_M) (N := 21) rfl fi_M (by decide) tw_552 (by decide +kernel) rfl) ?_
  refine am_all.c (s_icmp_ge (off := 37) (by decide +kernel) (by decide) rfl) ?_
  refine am_all.c (s_aload_n (kf := 0) (by decide +kernel) rfl rfl) ?_
  refine am_all.c (s_get (C := cn_M) (Tf := ft_M) (N := 21) rfl fi_M (by decide) tw_554 (by decide +kernel) rfl) ?_
  refine am_all.c (s_iconst (by decide +kernel) (by decide) rfl) ?_
  refine am_all.c (s_iload_n (kf := 3) (by decide +kernel) rfl rfl) ?_
  refine am_all.c (s_imul (by decide +kernel) rfl) ?_
  refine am_all.c (s_iald rfl (by decide +kernel) rfl) ?_
  refine am_all.c (s_iconst (by decide +kernel) (by decide) rfl) ?_
  refine am_all.c (s_icmp_ne (off := 19) (by decide +kernel) (by decide) rfl) ?_
  refine am_all.c (s_aload_n (kf := 0) (by decide +kernel) rfl rfl) ?_
  refine am_all.c (s_get (C := cn_M) (Tf := ft_M) (N := 21) rfl fi_M (by decide) tw_554 (by decide +kernel) rfl) ?_
  refine am_all.c (s_iconst (by decide +kernel) (by decide) rfl) ?_
  refine am_all.c (s_iload_n (kf := 3) (by decide +kernel) rfl rfl) ?_
  refine am_all.c (s_imul (by decide +kernel) rfl) ?_
  refine am_all.c (s_iconst (by decide +kernel) (by decide) rfl) ?_
  refine am_all.c (s_iadd (by decide +kernel) rfl) ?_
  refine am_all.c (s_iald rfl (by decide +kernel) rfl) ?_
  refine am_all.c (s_iload_n (kf := 1) (by decide +kernel) rfl rfl) ?_
  refine am_all.c (s_icmp_ne (off := 5) (by decide +kernel) (by decide) rfl) ?_
  refine am_all.c (s_iconst (by decide +kernel) (by decide) rfl) ?_
  refine am_all.c (s_istore_n (kf := 2) (by decide +kernel) rfl rfl) ?_
  refine am_all.c (s_iinc (by decide +kernel) rfl) ?_
  refine am_all.c (s_goto (off := -39) (by decide +kernel) (by decide)) ?_
  refine am_all.c (s_iload_n (kf := 2) (by decide +kernel) rfl rfl) ?_
  refine am_all.c (s_if_eq (off := 13) (by decide +kernel) (by decide) rfl) ?_
  refine am_all.c (s_aload_n (kf := 0) (by decide +kernel) rfl rfl) ?_
  refine am_all.c (s_get (C := cn_M) (Tf := ft_M) (N := 21) rfl fi_M (by decide) tw_558 (by decide +kernel) rfl) ?_
  refine am_all.c (s_iload_n (kf := 1) (by decide +kernel) rfl rfl) ?_
  refine am_all.c (s_dup2 (by decide +kernel) rfl) ?_
  refine am_all.c (s_iald rfl (by decide +kernel) rfl) ?_
  refine am_all.c (s_iconst (by decide +kernel) (by decide) rfl) ?_
  refine am_all.c (s_iadd (by decide +kernel) rfl) ?_
  refine am_all.c (s_iast rfl (by decide +kernel) rfl) ?_
  refine am_all.c (s_aload_n (kf := 0) (by decide +kernel) rfl rfl) ?_
  refine am_all.c (s_get (C := cn_M) (Tf := ft_M) (N := 21) rfl fi_M (by decide) tw_555 (by decide +kernel) rfl) ?_
  refine am_all.c (s_iload_n (kf := 1) (by decide +kernel) rfl rfl) ?_
  refine am_all.c (s_iconst (by decide +kernel) (by decide) rfl) ?_
  refine am_all.c (s_iast rfl (by decide +kernel) rfl) ?_
  refine am_all.c (s_aload_n (kf := 0) (by decide +kernel) rfl rfl) ?_
  refine am_all.c (s_get (C := cn_M) (Tf := ft_M) (N := 21) rfl fi_M (by decide) tw_557 (by decide +kernel) rfl) ?_
  refine am_all.c (s_iload_n (kf := 1) (by decide +kernel) rfl rfl) ?_
  refine am_all.c (s_iconst (by decide +kernel) (by decide) rfl) ?_
  refine am_all.c (s_iast rfl (by decide +kernel) rfl) ?_
  refine am_all.c (s_iinc (by decide +kernel) rfl) ?_
  refine am_all.c (s_goto (off := -85) (by decide +kernel) (by decide)) ?_
  refine am_all.c (s_aload_n (kf := 0) (by decide +kernel) rfl rfl) ?_
  refine am_all.c (s_aload_n (kf := 0) (by decide +kernel) rfl rfl) ?_
  refine am_all.c (s_get (C := cn_M) (Tf := ft_M) (N := 21) rfl fi_M (by decide) tw_553 (by decide +kernel) rfl) ?_
  refine am_all.c (s_put (C := cn_M) (Tf := ft_M) (N := 21) (ty := .int) rfl fi_M fy_M fo_M fn_M (by decide) tw_552 (Or.inl rfl) (by decide +kernel) (Or.inl ⟨rfl, rfl⟩) (by decide +kernel) rfl) ?_
  refine am_all.c (s_iconst (by decide +kernel) (by decide) rfl) ?_
  refine am_all.c (s_istore_n (kf := 1) (by decide +kernel) rfl rfl) ?_
  refine am_all.c (s_iload_n (kf := 1) (by decide +kernel) rfl rfl) ?_
  refine am_all.c (s_aload_n (kf := 0) (by decide +kernel) rfl rfl) ?_
  refine am_all.c (s_get (C := cn_M) (Tf := ft_M) (N := 21) rfl fi_M (by decide) tw_552 (by decide +kernel) rfl) ?_
  refine am_all.c (s_icmp_ge (off := 14) (by decide +kernel) (by decide) rfl) ?_
  refine am_all.c (s_aload_n (kf := 0) (by decide +kernel) rfl rfl) ?_
  refine am_all.c (s_iload_n (kf := 1) (by decide +kernel) rfl rfl) ?_
  refine am_all.c (s_callV (q := (cn_M, ft_M, 21)) (by decide) (ce_M_apply hN) rfl rfl tw_631 tw_633 tw_23 (by decide +kernel) rfl) ?_
  refine am_all.c (s_iinc (by decide +kernel) rfl) ?_
  refine am_all.c (s_goto (off := -16) (by decide +kernel) (by decide)) ?_
  refine am_all.c (s_iconst (by decide +kernel) (by decide) rfl) ?_
  refine am_all.c (s_istore_n (kf := 1) (by decide +kernel) rfl rfl) ?_
  refine am_all.c (s_iload_n (kf := 1) (by decide +kernel) rfl rfl) ?_
  refine am_all.c (s_iconst (by decide +kernel) (by decide) rfl) ?_
  refine am_all.c (s_icmp_ge (off := 16) (by decide +kernel) (by decide) rfl) ?_
  refine am_all.c (s_aload_n (kf := 0) (by decide +kernel) rfl rfl) ?_
  refine am_all.c (s_get (C := cn_M) (Tf := ft_M) (N := 21) rfl fi_M (by decide) tw_559 (by decide +kernel) rfl) ?_
  refine am_all.c (s_iload_n (kf := 1) (by decide +kernel) rfl rfl) ?_
  refine am_all.c (s_iconst (by decide +kernel) (by decide) rfl) ?_
  refine am_all.c (s_iast rfl (by decide +kernel) rfl) ?_
  refine am_all.c (s_iinc (by decide +kernel) rfl) ?_
  refine am_all.c (s_goto (off := -15) (by decide +kernel) (by decide)) ?_
  refine am_all.c (s_aload_n (kf := 0) (by decide +kernel) rfl rfl) ?_
  refine am_all.c (s_get (C := cn_M) (Tf := ft_M) (N := 21) rfl fi_M (by decide) tw_552 (by decide +kernel) rfl) ?_
  refine am_all.c (s_iret (by decide +kernel) rfl) ?_
  exact trivial
set_option maxRecDepth 20000 in
theorem ga_M_message {D : va_G} {dA : Nat → ClassId} {h b L : Nat} {xs : Nat → Int32} (hN : am_nN (am_En D dA h b L xs)) : am_all (am_En D dA h b L xs) mv_tb mv_P tM_message kM_message := by
  unfold kM_message
  refine am_all.c (s_iload_n (kf := 1) (by decide +kernel) rfl rfl) ?_
  refine am_all.c (s_iconst (by decide +kernel) (by decide) rfl) ?_
  refine am_all.c (s_iconst (by decide +kernel) (by decide) rfl) ?_
  refine am_all.c (s_callS (by decide) (ce_M_in hN) tw_620 tw_621 (by decide +kernel) rfl) ?_
  refine am_all.c (s_if_eq (off := 28) (by decide +kernel) (by decide) rfl) ?_
  refine am_all.c (s_iload_n (kf := 2) (by decide +kernel) rfl rfl) ?_
  refine am_all.c (s_iconst (by decide +kernel) (by decide) rfl) ?_
  refine am_all.c (s_aload_n (kf := 0) (by decide +kernel) rfl rfl) ?_
  refine am_all.c (s_get (C := cn_M) (Tf := ft_M) (N := 21) rfl fi_M (by decide) tw_555 (by decide +kernel) rfl) ?_
  refine am_all.c (s_iload_n (kf := 1) (by decide +kernel) rfl rfl) ?_
  refine am_all.c (s_iald rfl (by decide +kernel) rfl) ?_
  refine am_all.c (s_iconst (by decide +kernel) (by decide) rfl) ?_
  refine am_all.c (s_isub (by decide +kernel) rfl) ?_
  refine am_all.c (s_callS (by decide) (ce_M_in hN) tw_620 tw_621 (by decide +kernel) rfl) ?_
  refine am_all.c (s_if_eq (off := 12) (by decide +kernel) (by decide) rfl) ?_
  refine am_all.c (s_iload_n (kf := 3) (by decide +kernel) rfl rfl) ?_
  refine am_all.c (s_iconst (by decide +kernel) (by decide) rfl) ?_
  refine am_all.c (s_iconst (by decide +kernel) (by decide) rfl) ?_
  refine am_all.c (s_callS (by decide) (ce_M_in hN) tw_620 tw_621 (by decide +kernel) rfl) ?_
  refine am_all.c (s_if_ne (off := 5) (by decide +kernel) (by decide) rfl) ?_
  refine am_all.c (s_iconst (by decide +kernel) (by decide) rfl) ?_
  refine am_all.c (s_iret (by decide +kernel) rfl) ?_
  refine am_all.c (s_aload_n (kf := 0) (by decide +kernel) rfl rfl) ?_
  refine am_all.c (s_get (C := cn_M) (Tf := ft_M) (N := 21) rfl fi_M (by decide) tw_556 (by decide +kernel) rfl) ?_
  refine am_all.c (s_bipush (by decide +kernel) (by decide +kernel) (by decide) rfl) ?_
  refine am_all.c (s_iload_n (kf := 1) (by decide +kernel) rfl rfl) ?_
  refine am_all.c (s_imul (by decide +kernel) rfl) ?_
  refine am_all.c (s_iconst (by decide +kernel) (by decide) rfl) ?_
  refine am_all.c (s_iload_n (kf := 2) (by decide +kernel) rfl rfl) ?_
  refine am_all.c (s_imul (by decide +kernel) rfl) ?_
  refine am_all.c (s_iadd (by decide +kernel) rfl) ?_
  refine am_all.c (s_iload_n (kf := 3) (by decide +kernel) rfl rfl) ?_
  refine am_all.c (s_iadd (by decide +kernel) rfl) ?_
  refine am_all.c (s_iald rfl (by decide +kernel) rfl) ?_
  refine am_all.c (s_iret (by decide +kernel) rfl) ?_
  exact trivial
set_option maxRecDepth 20000 in
theorem ga_M_seen {D : va_G} {dA : Nat → ClassId} {h b L : Nat} {xs : Nat → Int32} (hN : am_nN (am_En D dA h b L xs)) : am_all (am_En D dA h b L xs) mv_tb mv_P tM_seen kM_seen := by
  unfold kM_seen
  refine am_all.c (s_aload_n (kf := 0) (by decide +kernel) rfl rfl) ?_
  refine am_all.c (s_iload_n (kf := 1) (by decide +kernel) rfl rfl) ?_
  refine am_all.c (s_iload_n (kf := 2) (by decide +kernel) rfl rfl) ?_
  refine am_all.c (s_callV (q := (cn_M, ft_M, 21)) (by decide) (ce_M_bad hN) rfl rfl tw_691 tw_693 tw_34 (by decide +kernel) rfl) ?_
  refine am_all.c (s_if_ne (off := 12) (by decide +kernel) (by decide) rfl) ?_
  refine am_all.c (s_iload_n (kf := 3) (by decide +kernel) rfl rfl) ?_
  refine am_all.c (s_iconst (by decide +kernel) (by decide) rfl) ?_
  refine am_all.c (s_iconst (by decide +kernel) (by decide) rfl) ?_
  refine am_all.c (s_callS (by decide) (ce_M_in hN) tw_620 tw_621 (by decide +kernel) rfl) ?_
  refine am_all.c (s_if_ne (off := 5) (by decide +kernel) (by decide) rfl) ?_
  refine am_all.c (s_iconst (by decide +kernel) (by decide) rfl) ?_
  refine am_all.c (s_iret (by decide +kernel) rfl) ?_
  refine am_all.c (s_iload_n (kf := 3) (by decide +kernel) rfl rfl) ?_
  refine am_all.c (s_if_ne (off := 12) (by decide +kernel) (by decide) rfl) ?_
  refine am_all.c (s_aload_n (kf := 0) (by decide +kernel) rfl rfl) ?_
  refine am_all.c (s_iload_n (kf := 1) (by decide +kernel) rfl rfl) ?_
  refine am_all.c (s_iload_n (kf := 2) (by decide +kernel) rfl rfl) ?_
  refine am_all.c (s_callV (q := (cn_M, ft_M, 21)) (by decide) (ce_M_uidOf hN) rfl rfl tw_671 tw_673 tw_30 (by decide +kernel) rfl) ?_
  refine am_all.c (s_goto (off := 16) (by decide +kernel) (by decide)) ?_
  refine am_all.c (s_aload_n (kf := 0) (by decide +kernel) rfl rfl) ?_
  refine am_all.c (s_get (C := cn_M) (Tf := ft_M) (N := 21) rfl fi_M (by decide) tw_563 (by decide +kernel) rfl) ?_
  refine am_all.c (s_bipush (by decide +kernel) (by decide +kernel) (by decide) rfl) ?_
  refine am_all.c (s_iload_n (kf := 1) (by decide +kernel) rfl rfl) ?_
  refine am_all.c (s_imul (by decide +kernel) rfl) ?_
  refine am_all.c (s_iload_n (kf := 2) (by decide +kernel) rfl rfl) ?_
  refine am_all.c (s_iadd (by decide +kernel) rfl) ?_
  refine am_all.c (s_iconst (by decide +kernel) (by decide) rfl) ?_
  refine am_all.c (s_isub (by decide +kernel) rfl) ?_
  refine am_all.c (s_iald rfl (by decide +kernel) rfl) ?_
  refine am_all.c (s_iret (by decide +kernel) rfl) ?_
  exact trivial
set_option maxRecDepth 20000 in
theorem ga_M_notice {D : va_G} {dA : Nat → ClassId} {h b L : Nat} {xs : Nat → Int32} (hN : am_nN (am_En D dA h b L xs)) : am_all (am_En D dA h b L xs) mv_tb mv_P tM_notice kM_notice := by
  unfold kM_notice
  refine am_all.c (s_aload_n (kf := 0) (by decide +kernel) rfl rfl) ?_
  refine am_all.c (s_iload_n (kf := 1) (by decide +kernel) rfl rfl) ?_
  refine am_all.c (s_callV (q := (cn_M, ft_M, 21)) (by decide) (ce_M_none hN) rfl rfl tw_651 tw_653 tw_26 (by decide +kernel) rfl) ?_
  refine am_all.c (s_if_ne (off := 28) (by decide +kernel) (by decide) rfl) ?_
  refine am_all.c (s_iload_n (kf := 2) (by decide +kernel) rfl rfl) ?_
  refine am_all.c (s_iconst (by decide +kernel) (by decide) rfl) ?_
  refine am_all.c (s_aload_n (kf := 0) (by decide +kernel) rfl rfl) ?_
  refine am_all.c (s_get (C := cn_M) (Tf := ft_M) (N := 21) rfl fi_M (by decide) tw_565 (by decide +kernel) rfl) ?_
  refine am_all.c (s_iload_n (kf := 1) (by decide +kernel) rfl rfl) ?_
  refine am_all.c (s_iald rfl (by decide +kernel) rfl) ?_
  refine am_all.c (s_iconst (by decide +kernel) (by decide) rfl) ?_
  refine am_all.c (s_isub (by decide +kernel) rfl) ?_
  refine am_all.c (s_callS (by decide) (ce_M_in hN) tw_620 tw_621 (by decide +kernel) rfl) ?_
  refine am_all.c (s_if_eq (off := 12) (by decide +kernel) (by decide) rfl) ?_
  refine am_all.c (s_iload_n (kf := 3) (by decide +kernel) rfl rfl) ?_
  refine am_all.c (s_iconst (by decide +kernel) (by decide) rfl) ?_
  refine am_all.c (s_iconst (by decide +kernel) (by decide) rfl) ?_
  refine am_all.c (s_callS (by decide) (ce_M_in hN) tw_620 tw_621 (by decide +kernel) rfl) ?_
  refine am_all.c (s_if_ne (off := 5) (by decide +kernel) (by decide) rfl) ?_
  refine am_all.c (s_iconst (by decide +kernel) (by decide) rfl) ?_
  refine am_all.c (s_iret (by decide +kernel) rfl) ?_
  refine am_all.c (s_aload_n (kf := 0) (by decide +kernel) rfl rfl) ?_
  refine am_all.c (s_get (C := cn_M) (Tf := ft_M) (N := 21) rfl fi_M (by decide) tw_566 (by decide +kernel) rfl) ?_
  refine am_all.c (s_bipush (by decide +kernel) (by decide +kernel) (by decide) rfl) ?_
  refine am_all.c (s_iload_n (kf := 1) (by decide +kernel) rfl rfl) ?_
  refine am_all.c (s_imul (by decide +kernel) rfl) ?_
  refine am_all.c (s_iconst (by decide +kernel) (by decide) rfl) ?_
  refine am_all.c (s_iload_n (kf := 2) (by decide +kernel) rfl rfl) ?_
  refine am_all.c (s_imul (by decide +kernel) rfl) ?_
  refine am_all.c (s_iadd (by decide +kernel) rfl) ?_
  refine am_all.c (s_iload_n (kf := 3) (by decide +kernel) rfl rfl) ?_
  refine am_all.c (s_iadd (by decide +kernel) rfl) ?_
  refine am_all.c (s_iald rfl (by decide +kernel) rfl) ?_
  refine am_all.c (s_iret (by decide +kernel) rfl) ?_
  exact trivial
set_option maxRecDepth 20000 in
theorem ga_M_mailbox {D : va_G} {dA : Nat → ClassId} {h b L : Nat} {xs : Nat → Int32} (hN : am_nN (am_En D dA h b L xs)) : am_all (am_En D dA h b L xs) mv_tb mv_P tM_mailbox kM_mailbox := by
  unfold kM_mailbox
  refine am_all.c (s_iload_n (kf := 1) (by decide +kernel) rfl rfl) ?_
  refine am_all.c (s_iconst (by decide +kernel) (by decide) rfl) ?_
  refine am_all.c (s_iconst (by decide +kernel) (by decide) rfl) ?_
  refine am_all.c (s_callS (by decide) (ce_M_in hN) tw_620 tw_621 (by decide +kernel) rfl) ?_
  refine am_all.c (s_if_eq (off := 12) (by decide +kernel) (by decide) rfl) ?_
  refine am_all.c (s_iload_n (kf := 2) (by decide +kernel) rfl rfl) ?_
  refine am_all.c (s_iconst (by decide +kernel) (by decide) rfl) ?_
  refine am_all.c (s_iconst (by decide +kernel) (by decide) rfl) ?_
  refine am_all.c (s_callS (by decide) (ce_M_in hN) tw_620 tw_621 (by decide +kernel) rfl) ?_
  refine am_all.c (s_if_ne (off := 5) (by decide +kernel) (by decide) rfl) ?_
  refine am_all.c (s_iconst (by decide +kernel) (by decide) rfl) ?_
  refine am_all.c (s_iret (by decide +kernel) rfl) ?_
  refine am_all.c (s_iload_n (kf := 2) (by decide +kernel) rfl rfl) ?_
  refine am_all.c (s_if_ne (off := 10) (by decide +kernel) (by decide) rfl) ?_
  refine am_all.c (s_aload_n (kf := 0) (by decide +kernel) rfl rfl) ?_
  refine am_all.c (s_get (C := cn_M) (Tf := ft_M) (N := 21) rfl fi_M (by decide) tw_555 (by decide +kernel) rfl) ?_
  refine am_all.c (s_iload_n (kf := 1) (by decide +kernel) rfl rfl) ?_
  refine am_all.c (s_iald rfl (by decide +kernel) rfl) ?_
  refine am_all.c (s_iret (by decide +kernel) rfl) ?_
  refine am_all.c (s_iload_n (kf := 2) (by decide +kernel) rfl rfl) ?_
  refine am_all.c (s_iconst (by decide +kernel) (by decide) rfl) ?_
  refine am_all.c (s_icmp_ge (off := 24) (by decide +kernel) (by decide) rfl) ?_
  refine am_all.c (s_iload_n (kf := 2) (by decide +kernel) rfl rfl) ?_
  refine am_all.c (s_iconst (by decide +kernel) (by decide) rfl) ?_
  refine am_all.c (s_icmp_ne (off := 12) (by decide +kernel) (by decide) rfl) ?_
  refine am_all.c (s_aload_n (kf := 0) (by decide +kernel) rfl rfl) ?_
  refine am_all.c (s_get (C := cn_M) (Tf := ft_M) (N := 21) rfl fi_M (by decide) tw_557 (by decide +kernel) rfl) ?_
  refine am_all.c (s_iload_n (kf := 1) (by decide +kernel) rfl rfl) ?_
  refine am_all.c (s_iald rfl (by decide +kernel) rfl) ?_
  refine am_all.c (s_goto (off := 9) (by decide +kernel) (by decide)) ?_
  refine am_all.c (s_aload_n (kf := 0) (by decide +kernel) rfl rfl) ?_
  refine am_all.c (s_get (C := cn_M) (Tf := ft_M) (N := 21) rfl fi_M (by decide) tw_558 (by decide +kernel) rfl) ?_
  refine am_all.c (s_iload_n (kf := 1) (by decide +kernel) rfl rfl) ?_
  refine am_all.c (s_iald rfl (by decide +kernel) rfl) ?_
  refine am_all.c (s_iret (by decide +kernel) rfl) ?_
  refine am_all.c (s_iconst (by decide +kernel) (by decide) rfl) ?_
  refine am_all.c (s_istore_n (kf := 3) (by decide +kernel) rfl rfl) ?_
  refine am_all.c (s_iconst (by decide +kernel) (by decide) rfl) ?_
  refine am_all.c (s_istore (by decide +kernel) rfl) ?_
  refine am_all.c (s_iload (by decide +kernel) rfl) ?_
  refine am_all.c (s_iconst (by decide +kernel) (by decide) rfl) ?_
  refine am_all.c (s_icmp_ge (off := 23) (by decide +kernel) (by decide) rfl) ?_
  refine am_all.c (s_aload_n (kf := 0) (by decide +kernel) rfl rfl) ?_
  refine am_all.c (s_get (C := cn_M) (Tf := ft_M) (N := 21) rfl fi_M (by decide) tw_559 (by decide +kernel) rfl) ?_
  refine am_all.c (s_iload (by decide +kernel) rfl) ?_
  refine am_all.c (s_iald rfl (by decide +kernel) rfl) ?_
  refine am_all.c (s_iload_n (kf := 1) (by decide +kernel) rfl rfl) ?_
  refine am_all.c (s_icmp_ne (off := 6) (by decide +kernel) (by decide) rfl) ?_
  refine am_all.c (s_iinc (by decide +kernel) rfl) ?_
  refine am_all.c (s_iinc (by decide +kernel) rfl) ?_
  refine am_all.c (s_goto (off := -23) (by decide +kernel) (by decide)) ?_
  refine am_all.c (s_iload_n (kf := 3) (by decide +kernel) rfl rfl) ?_
  refine am_all.c (s_iret (by decide +kernel) rfl) ?_
  exact trivial
set_option maxRecDepth 20000 in
theorem ga_M_count {D : va_G} {dA : Nat → ClassId} {h b L : Nat} {xs : Nat → Int32} (hN : am_nN (am_En D dA h b L xs)) : am_all (am_En D dA h b L xs) mv_tb mv_P tM_count kM_count := by
  unfold kM_count
  refine am_all.c (s_iload_n (kf := 1) (by decide +kernel) rfl rfl) ?_
  refine am_all.c (s_iconst (by decide +kernel) (by decide) rfl) ?_
  refine am_all.c (s_iconst (by decide +kernel) (by decide) rfl) ?_
  refine am_all.c (s_callS (by decide) (ce_M_in hN) tw_620 tw_621 (by decide +kernel) rfl) ?_
  refine am_all.c (s_if_eq (off := 19) (by decide +kernel) (by decide) rfl) ?_
  refine am_all.c (s_iload_n (kf := 1) (by decide +kernel) rfl rfl) ?_
  refine am_all.c (s_if_ne (off := 10) (by decide +kernel) (by decide) rfl) ?_
  refine am_all.c (s_aload_n (kf := 0) (by decide +kernel) rfl rfl) ?_
  refine am_all.c (s_get (C := cn_M) (Tf := ft_M) (N := 21) rfl fi_M (by decide) tw_552 (by decide +kernel) rfl) ?_
  refine am_all.c (s_goto (off := 7) (by decide +kernel) (by decide)) ?_
  refine am_all.c (s_aload_n (kf := 0) (by decide +kernel) rfl rfl) ?_
  refine am_all.c (s_get (C := cn_M) (Tf := ft_M) (N := 21) rfl fi_M (by decide) tw_553 (by decide +kernel) rfl) ?_
  refine am_all.c (s_iret (by decide +kernel) rfl) ?_
  refine am_all.c (s_iload_n (kf := 1) (by decide +kernel) rfl rfl) ?_
  refine am_all.c (s_iconst (by decide +kernel) (by decide) rfl) ?_
  refine am_all.c (s_icmp_ne (off := 10) (by decide +kernel) (by decide) rfl) ?_
  refine am_all.c (s_aload_n (kf := 0) (by decide +kernel) rfl rfl) ?_
  refine am_all.c (s_get (C := cn_M) (Tf := ft_M) (N := 21) rfl fi_M (by decide) tw_567 (by decide +kernel) rfl) ?_
  refine am_all.c (s_goto (off := 16) (by decide +kernel) (by decide)) ?_
  refine am_all.c (s_iload_n (kf := 1) (by decide +kernel) rfl rfl) ?_
  refine am_all.c (s_iconst (by decide +kernel) (by decide) rfl) ?_
  refine am_all.c (s_icmp_ne (off := 10) (by decide +kernel) (by decide) rfl) ?_
  refine am_all.c (s_aload_n (kf := 0) (by decide +kernel) rfl rfl) ?_
  refine am_all.c (s_get (C := cn_M) (Tf := ft_M) (N := 21) rfl fi_M (by decide) tw_569 (by decide +kernel) rfl) ?_
  refine am_all.c (s_goto (off := 4) (by decide +kernel) (by decide)) ?_
  refine am_all.c (s_iconst (by decide +kernel) (by decide) rfl) ?_
  refine am_all.c (s_iret (by decide +kernel) rfl) ?_
  exact trivial
end
section
/-! printed by wip/whole/gen/prog.py: the law, and all methods together -/
set_option maxRecDepth 20000 in
theorem ga_L_law {D : va_G} {dA : Nat → ClassId} {h b L : Nat} {xs : Nat → Int32} (hN : am_nN (am_En D dA h b L xs)) (hL : L < 2147483648) : am_all (am_En D dA h b L xs) mv_tb mv_P tL_law (kL_law L (fun j => (xs j).toInt)) := by
  unfold kL_law
  have hxs : ∀ j, (fun j => (xs j).toInt) j = (e_xs (am_En D dA h b L xs) j).toInt := fun _ => rfl
  refine am_all.c (s_new (C := cn_V) (Tf := ft_V) (N := 6) rfl fi_V fy_V fo_V tw_47 tw_48 tw_40 rfl fz_V fw_V (by decide +kernel) rfl) ?_
  refine am_all.c (s_dup (by decide +kernel) rfl) ?_
  refine am_all.c (s_callI (host := "") (by decide) (ce_V_init hN) rfl rfl (Or.inl tw_49) tw_50 (by decide +kernel) rfl) ?_
  refine am_all.c (s_astore_n (kf := 1) (by decide +kernel) rfl rfl) ?_
  refine am_all.c (s_new (C := cn_M) (Tf := ft_M) (N := 21) rfl fi_M fy_M fo_M tw_546 tw_547 tw_45 rfl fz_M fw_M (by decide +kernel) rfl) ?_
  refine am_all.c (s_dup (by decide +kernel) rfl) ?_
  refine am_all.c (s_callI (host := "") (by decide) (ce_M_init hN) rfl rfl (Or.inl tw_548) tw_549 (by decide +kernel) rfl) ?_
  refine am_all.c (s_astore_n (kf := 2) (by decide +kernel) rfl rfl) ?_
  refine am_all.c (s_iconst (by decide +kernel) (by decide) rfl) ?_
  refine am_all.c (s_istore_n (kf := 3) (by decide +kernel) rfl rfl) ?_
  refine am_all.c (s_iload_n (kf := 3) (by decide +kernel) rfl rfl) ?_
  refine am_all.c (s_aload_n (kf := 0) (by decide +kernel) rfl rfl) ?_
  refine am_all.c (s_slen hN hL (show decode code 20 = .ok (.arraylength, 1) by decide +kernel) rfl) ?_
  refine am_all.c (s_iconst (by decide +kernel) (by decide) rfl) ?_
  refine am_all.c (s_isub (by decide +kernel) rfl) ?_
  refine am_all.c (s_icmp_gt (off := 703) (by decide +kernel) (by decide) rfl) ?_
  refine am_all.c (s_aload_n (kf := 0) (by decide +kernel) rfl rfl) ?_
  refine am_all.c (s_iload_n (kf := 3) (by decide +kernel) rfl rfl) ?_
  refine am_all.c (s_sld hN hxs (show decode code 28 = .ok (.iaload, 1) by decide +kernel) rfl) ?_
  refine am_all.c (s_bipush (by decide +kernel) (by decide +kernel) (by decide) rfl) ?_
  refine am_all.c (s_iand (by decide +kernel) rfl) ?_
  refine am_all.c (s_tsw (dflt := 688) (lo := 0) (hi := 17) (offs := #[88, 131, 190, 213, 236, 269, 322, 345, 388, 431, 454, 477, 490, 503, 546, 589, 632, 665]) (len := 88) (by decide +kernel) (by decide) (by decide) (am_tsc (by decide))) ?_
  refine am_all.c (s_aload_n (kf := 1) (by decide +kernel) rfl rfl) ?_
  refine am_all.c (s_aload_n (kf := 0) (by decide +kernel) rfl rfl) ?_
  refine am_all.c (s_iload_n (kf := 3) (by decide +kernel) rfl rfl) ?_
  refine am_all.c (s_iconst (by decide +kernel) (by decide) rfl) ?_
  refine am_all.c (s_iadd (by decide +kernel) rfl) ?_
  refine am_all.c (s_sld hN hxs (show decode code 125 = .ok (.iaload, 1) by decide +kernel) rfl) ?_
  refine am_all.c (s_aload_n (kf := 0) (by decide +kernel) rfl rfl) ?_
  refine am_all.c (s_iload_n (kf := 3) (by decide +kernel) rfl rfl) ?_
  refine am_all.c (s_iconst (by decide +kernel) (by decide) rfl) ?_
  refine am_all.c (s_iadd (by decide +kernel) rfl) ?_
  refine am_all.c (s_sld hN hxs (show decode code 130 = .ok (.iaload, 1) by decide +kernel) rfl) ?_
  refine am_all.c (s_aload_n (kf := 0) (by decide +kernel) rfl rfl) ?_
  refine am_all.c (s_iload_n (kf := 3) (by decide +kernel) rfl rfl) ?_
  refine am_all.c (s_iconst (by decide +kernel) (by decide) rfl) ?_
  refine am_all.c (s_iadd (by decide +kernel) rfl) ?_
  refine am_all.c (s_sld hN hxs (show decode code 135 = .ok (.iaload, 1) by decide +kernel) rfl) ?_
  refine am_all.c (s_callV (q := (cn_V, ft_V, 6)) (by decide) (ce_V_append hN) rfl rfl tw_193 tw_194 tw_195 (by decide +kernel) rfl) ?_
  refine am_all.c (s_aload_n (kf := 2) (by decide +kernel) rfl rfl) ?_
  refine am_all.c (s_aload_n (kf := 0) (by decide +kernel) rfl rfl) ?_
  refine am_all.c (s_iload_n (kf := 3) (by decide +kernel) rfl rfl) ?_
  refine am_all.c (s_iconst (by decide +kernel) (by decide) rfl) ?_
  refine am_all.c (s_iadd (by decide +kernel) rfl) ?_
  refine am_all.c (s_sld hN hxs (show decode code 144 = .ok (.iaload, 1) by decide +kernel) rfl) ?_
  refine am_all.c (s_aload_n (kf := 0) (by decide +kernel) rfl rfl) ?_
  refine am_all.c (s_iload_n (kf := 3) (by decide +kernel) rfl rfl) ?_
  refine am_all.c (s_iconst (by decide +kernel) (by decide) rfl) ?_
  refine am_all.c (s_iadd (by decide +kernel) rfl) ?_
  refine am_all.c (s_sld hN hxs (show decode code 149 = .ok (.iaload, 1) by decide +kernel) rfl) ?_
  refine am_all.c (s_aload_n (kf := 0) (by decide +kernel) rfl rfl) ?_
  refine am_all.c (s_iload_n (kf := 3) (by decide +kernel) rfl rfl) ?_
  refine am_all.c (s_iconst (by decide +kernel) (by decide) rfl) ?_
  refine am_all.c (s_iadd (by decide +kernel) rfl) ?_
  refine am_all.c (s_sld hN hxs (show decode code 154 = .ok (.iaload, 1) by decide +kernel) rfl) ?_
  refine am_all.c (s_callV (q := (cn_M, ft_M, 21)) (by decide) (ce_M_append hN) rfl rfl tw_616 tw_617 tw_618 (by decide +kernel) rfl) ?_
  refine am_all.c (s_icmp_eq (off := 562) (by decide +kernel) (by decide) rfl) ?_
  refine am_all.c (s_iconst (by decide +kernel) (by decide) rfl) ?_
  refine am_all.c (s_zret (by decide +kernel) rfl) ?_
  refine am_all.c (s_aload_n (kf := 1) (by decide +kernel) rfl rfl) ?_
  refine am_all.c (s_aload_n (kf := 0) (by decide +kernel) rfl rfl) ?_
  refine am_all.c (s_iload_n (kf := 3) (by decide +kernel) rfl rfl) ?_
  refine am_all.c (s_iconst (by decide +kernel) (by decide) rfl) ?_
  refine am_all.c (s_iadd (by decide +kernel) rfl) ?_
  refine am_all.c (s_sld hN hxs (show decode code 168 = .ok (.iaload, 1) by decide +kernel) rfl) ?_
  refine am_all.c (s_aload_n (kf := 0) (by decide +kernel) rfl rfl) ?_
  refine am_all.c (s_iload_n (kf := 3) (by decide +kernel) rfl rfl) ?_
  refine am_all.c (s_iconst (by decide +kernel) (by decide) rfl) ?_
  refine am_all.c (s_iadd (by decide +kernel) rfl) ?_
  refine am_all.c (s_sld hN hxs (show decode code 173 = .ok (.iaload, 1) by decide +kernel) rfl) ?_
  refine am_all.c (s_aload_n (kf := 0) (by decide +kernel) rfl rfl) ?_
  refine am_all.c (s_iload_n (kf := 3) (by decide +kernel) rfl rfl) ?_
  refine am_all.c (s_iconst (by decide +kernel) (by decide) rfl) ?_
  refine am_all.c (s_iadd (by decide +kernel) rfl) ?_
  refine am_all.c (s_sld hN hxs (show decode code 178 = .ok (.iaload, 1) by decide +kernel) rfl) ?_
  refine am_all.c (s_if_eq (off := 7) (by decide +kernel) (by decide) rfl) ?_
  refine am_all.c (s_iconst (by decide +kernel) (by decide) rfl) ?_
  refine am_all.c (s_goto (off := 4) (by decide +kernel) (by decide)) ?_
  refine am_all.c (s_iconst (by decide +kernel) (by decide) rfl) ?_
  refine am_all.c (s_callV (q := (cn_V, ft_V, 6)) (by decide) (ce_V_select hN) rfl rfl tw_236 tw_237 tw_238 (by decide +kernel) rfl) ?_
  refine am_all.c (s_aload_n (kf := 2) (by decide +kernel) rfl rfl) ?_
  refine am_all.c (s_aload_n (kf := 0) (by decide +kernel) rfl rfl) ?_
  refine am_all.c (s_iload_n (kf := 3) (by decide +kernel) rfl rfl) ?_
  refine am_all.c (s_iconst (by decide +kernel) (by decide) rfl) ?_
  refine am_all.c (s_iadd (by decide +kernel) rfl) ?_
  refine am_all.c (s_sld hN hxs (show decode code 195 = .ok (.iaload, 1) by decide +kernel) rfl) ?_
  refine am_all.c (s_aload_n (kf := 0) (by decide +kernel) rfl rfl) ?_
  refine am_all.c (s_iload_n (kf := 3) (by decide +kernel) rfl rfl) ?_
  refine am_all.c (s_iconst (by decide +kernel) (by decide) rfl) ?_
  refine am_all.c (s_iadd (by decide +kernel) rfl) ?_
  refine am_all.c (s_sld hN hxs (show decode code 200 = .ok (.iaload, 1) by decide +kernel) rfl) ?_
  refine am_all.c (s_aload_n (kf := 0) (by decide +kernel) rfl rfl) ?_
  refine am_all.c (s_iload_n (kf := 3) (by decide +kernel) rfl rfl) ?_
  refine am_all.c (s_iconst (by decide +kernel) (by decide) rfl) ?_
  refine am_all.c (s_iadd (by decide +kernel) rfl) ?_
  refine am_all.c (s_sld hN hxs (show decode code 205 = .ok (.iaload, 1) by decide +kernel) rfl) ?_
  refine am_all.c (s_if_eq (off := 7) (by decide +kernel) (by decide) rfl) ?_
  refine am_all.c (s_iconst (by decide +kernel) (by decide) rfl) ?_
  refine am_all.c (s_goto (off := 4) (by decide +kernel) (by decide)) ?_
  refine am_all.c (s_iconst (by decide +kernel) (by decide) rfl) ?_
  refine am_all.c (s_callV (q := (cn_M, ft_M, 21)) (by decide) (ce_M_select hN) rfl rfl tw_639 tw_640 tw_641 (by decide +kernel) rfl) ?_
  refine am_all.c (s_icmp_eq (off := 503) (by decide +kernel) (by decide) rfl) ?_
  refine am_all.c (s_iconst (by decide +kernel) (by decide) rfl) ?_
  refine am_all.c (s_zret (by decide +kernel) rfl) ?_
  refine am_all.c (s_aload_n (kf := 1) (by decide +kernel) rfl rfl) ?_
  refine am_all.c (s_aload_n (kf := 0) (by decide +kernel) rfl rfl) ?_
  refine am_all.c (s_iload_n (kf := 3) (by decide +kernel) rfl rfl) ?_
  refine am_all.c (s_iconst (by decide +kernel) (by decide) rfl) ?_
  refine am_all.c (s_iadd (by decide +kernel) rfl) ?_
  refine am_all.c (s_sld hN hxs (show decode code 227 = .ok (.iaload, 1) by decide +kernel) rfl) ?_
  refine am_all.c (s_callV (q := (cn_V, ft_V, 6)) (by decide) (ce_V_close hN) rfl rfl tw_267 tw_268 tw_269 (by decide +kernel) rfl) ?_
  refine am_all.c (s_aload_n (kf := 2) (by decide +kernel) rfl rfl) ?_
  refine am_all.c (s_aload_n (kf := 0) (by decide +kernel) rfl rfl) ?_
  refine am_all.c (s_iload_n (kf := 3) (by decide +kernel) rfl rfl) ?_
  refine am_all.c (s_iconst (by decide +kernel) (by decide) rfl) ?_
  refine am_all.c (s_iadd (by decide +kernel) rfl) ?_
  refine am_all.c (s_sld hN hxs (show decode code 236 = .ok (.iaload, 1) by decide +kernel) rfl) ?_
  refine am_all.c (s_callV (q := (cn_M, ft_M, 21)) (by decide) (ce_M_close hN) rfl rfl tw_647 tw_648 tw_649 (by decide +kernel) rfl) ?_
  refine am_all.c (s_icmp_eq (off := 480) (by decide +kernel) (by decide) rfl) ?_
  refine am_all.c (s_iconst (by decide +kernel) (by decide) rfl) ?_
  refine am_all.c (s_zret (by decide +kernel) rfl) ?_
  refine am_all.c (s_aload_n (kf := 1) (by decide +kernel) rfl rfl) ?_
  refine am_all.c (s_aload_n (kf := 0) (by decide +kernel) rfl rfl) ?_
  refine am_all.c (s_iload_n (kf := 3) (by decide +kernel) rfl rfl) ?_
  refine am_all.c (s_iconst (by decide +kernel) (by decide) rfl) ?_
  refine am_all.c (s_iadd (by decide +kernel) rfl) ?_
  refine am_all.c (s_sld hN hxs (show decode code 250 = .ok (.iaload, 1) by decide +kernel) rfl) ?_
  refine am_all.c (s_callV (q := (cn_V, ft_V, 6)) (by decide) (ce_V_check hN) rfl rfl tw_306 tw_307 tw_308 (by decide +kernel) rfl) ?_
  refine am_all.c (s_aload_n (kf := 2) (by decide +kernel) rfl rfl) ?_
  refine am_all.c (s_aload_n (kf := 0) (by decide +kernel) rfl rfl) ?_
  refine am_all.c (s_iload_n (kf := 3) (by decide +kernel) rfl rfl) ?_
  refine am_all.c (s_iconst (by decide +kernel) (by decide) rfl) ?_
  refine am_all.c (s_iadd (by decide +kernel) rfl) ?_
  refine am_all.c (s_sld hN hxs (show decode code 259 = .ok (.iaload, 1) by decide +kernel) rfl) ?_
  refine am_all.c (s_callV (q := (cn_M, ft_M, 21)) (by decide) (ce_M_check hN) rfl rfl tw_659 tw_660 tw_661 (by decide +kernel) rfl) ?_
  refine am_all.c (s_icmp_eq (off := 457) (by decide +kernel) (by decide) rfl) ?_
  refine am_all.c (s_iconst (by decide +kernel) (by decide) rfl) ?_
  refine am_all.c (s_zret (by decide +kernel) rfl) ?_
  refine am_all.c (s_aload_n (kf := 1) (by decide +kernel) rfl rfl) ?_
  refine am_all.c (s_aload_n (kf := 0) (by decide +kernel) rfl rfl) ?_
  refine am_all.c (s_iload_n (kf := 3) (by decide +kernel) rfl rfl) ?_
  refine am_all.c (s_iconst (by decide +kernel) (by decide) rfl) ?_
  refine am_all.c (s_iadd (by decide +kernel) rfl) ?_
  refine am_all.c (s_sld hN hxs (show decode code 273 = .ok (.iaload, 1) by decide +kernel) rfl) ?_
  refine am_all.c (s_aload_n (kf := 0) (by decide +kernel) rfl rfl) ?_
  refine am_all.c (s_iload_n (kf := 3) (by decide +kernel) rfl rfl) ?_
  refine am_all.c (s_iconst (by decide +kernel) (by decide) rfl) ?_
  refine am_all.c (s_iadd (by decide +kernel) rfl) ?_
  refine am_all.c (s_sld hN hxs (show decode code 278 = .ok (.iaload, 1) by decide +kernel) rfl) ?_
  refine am_all.c (s_callV (q := (cn_V, ft_V, 6)) (by decide) (ce_V_fetch hN) rfl rfl tw_354 tw_355 tw_356 (by decide +kernel) rfl) ?_
  refine am_all.c (s_aload_n (kf := 2) (by decide +kernel) rfl rfl) ?_
  refine am_all.c (s_aload_n (kf := 0) (by decide +kernel) rfl rfl) ?_
  refine am_all.c (s_iload_n (kf := 3) (by decide +kernel) rfl rfl) ?_
  refine am_all.c (s_iconst (by decide +kernel) (by decide) rfl) ?_
  refine am_all.c (s_iadd (by decide +kernel) rfl) ?_
  refine am_all.c (s_sld hN hxs (show decode code 287 = .ok (.iaload, 1) by decide +kernel) rfl) ?_
  refine am_all.c (s_aload_n (kf := 0) (by decide +kernel) rfl rfl) ?_
  refine am_all.c (s_iload_n (kf := 3) (by decide +kernel) rfl rfl) ?_
  refine am_all.c (s_iconst (by decide +kernel) (by decide) rfl) ?_
  refine am_all.c (s_iadd (by decide +kernel) rfl) ?_
  refine am_all.c (s_sld hN hxs (show decode code 292 = .ok (.iaload, 1) by decide +kernel) rfl) ?_
  refine am_all.c (s_callV (q := (cn_M, ft_M, 21)) (by decide) (ce_M_fetch hN) rfl rfl tw_687 tw_688 tw_689 (by decide +kernel) rfl) ?_
  refine am_all.c (s_icmp_eq (off := 424) (by decide +kernel) (by decide) rfl) ?_
  refine am_all.c (s_iconst (by decide +kernel) (by decide) rfl) ?_
  refine am_all.c (s_zret (by decide +kernel) rfl) ?_
  refine am_all.c (s_aload_n (kf := 1) (by decide +kernel) rfl rfl) ?_
  refine am_all.c (s_aload_n (kf := 0) (by decide +kernel) rfl rfl) ?_
  refine am_all.c (s_iload_n (kf := 3) (by decide +kernel) rfl rfl) ?_
  refine am_all.c (s_iconst (by decide +kernel) (by decide) rfl) ?_
  refine am_all.c (s_iadd (by decide +kernel) rfl) ?_
  refine am_all.c (s_sld hN hxs (show decode code 306 = .ok (.iaload, 1) by decide +kernel) rfl) ?_
  refine am_all.c (s_aload_n (kf := 0) (by decide +kernel) rfl rfl) ?_
  refine am_all.c (s_iload_n (kf := 3) (by decide +kernel) rfl rfl) ?_
  refine am_all.c (s_iconst (by decide +kernel) (by decide) rfl) ?_
  refine am_all.c (s_iadd (by decide +kernel) rfl) ?_
  refine am_all.c (s_sld hN hxs (show decode code 311 = .ok (.iaload, 1) by decide +kernel) rfl) ?_
  refine am_all.c (s_aload_n (kf := 0) (by decide +kernel) rfl rfl) ?_
  refine am_all.c (s_iload_n (kf := 3) (by decide +kernel) rfl rfl) ?_
  refine am_all.c (s_iconst (by decide +kernel) (by decide) rfl) ?_
  refine am_all.c (s_iadd (by decide +kernel) rfl) ?_
  refine am_all.c (s_sld hN hxs (show decode code 316 = .ok (.iaload, 1) by decide +kernel) rfl) ?_
  refine am_all.c (s_aload_n (kf := 0) (by decide +kernel) rfl rfl) ?_
  refine am_all.c (s_iload_n (kf := 3) (by decide +kernel) rfl rfl) ?_
  refine am_all.c (s_iconst (by decide +kernel) (by decide) rfl) ?_
  refine am_all.c (s_iadd (by decide +kernel) rfl) ?_
  refine am_all.c (s_sld hN hxs (show decode code 321 = .ok (.iaload, 1) by decide +kernel) rfl) ?_
  refine am_all.c (s_callV (q := (cn_V, ft_V, 6)) (by decide) (ce_V_store hN) rfl rfl tw_365 tw_366 tw_367 (by decide +kernel) rfl) ?_
  refine am_all.c (s_aload_n (kf := 2) (by decide +kernel) rfl rfl) ?_
  refine am_all.c (s_aload_n (kf := 0) (by decide +kernel) rfl rfl) ?_
  refine am_all.c (s_iload_n (kf := 3) (by decide +kernel) rfl rfl) ?_
  refine am_all.c (s_iconst (by decide +kernel) (by decide) rfl) ?_
  refine am_all.c (s_iadd (by decide +kernel) rfl) ?_
  refine am_all.c (s_sld hN hxs (show decode code 330 = .ok (.iaload, 1) by decide +kernel) rfl) ?_
  refine am_all.c (s_aload_n (kf := 0) (by decide +kernel) rfl rfl) ?_
  refine am_all.c (s_iload_n (kf := 3) (by decide +kernel) rfl rfl) ?_
  refine am_all.c (s_iconst (by decide +kernel) (by decide) rfl) ?_
  refine am_all.c (s_iadd (by decide +kernel) rfl) ?_
  refine am_all.c (s_sld hN hxs (show decode code 335 = .ok (.iaload, 1) by decide +kernel) rfl) ?_
  refine am_all.c (s_aload_n (kf := 0) (by decide +kernel) rfl rfl) ?_
  refine am_all.c (s_iload_n (kf := 3) (by decide +kernel) rfl rfl) ?_
  refine am_all.c (s_iconst (by decide +kernel) (by decide) rfl) ?_
  refine am_all.c (s_iadd (by decide +kernel) rfl) ?_
  refine am_all.c (s_sld hN hxs (show decode code 340 = .ok (.iaload, 1) by decide +kernel) rfl) ?_
  refine am_all.c (s_aload_n (kf := 0) (by decide +kernel) rfl rfl) ?_
  refine am_all.c (s_iload_n (kf := 3) (by decide +kernel) rfl rfl) ?_
  refine am_all.c (s_iconst (by decide +kernel) (by decide) rfl) ?_
  refine am_all.c (s_iadd (by decide +kernel) rfl) ?_
  refine am_all.c (s_sld hN hxs (show decode code 345 = .ok (.iaload, 1) by decide +kernel) rfl) ?_
  refine am_all.c (s_callV (q := (cn_M, ft_M, 21)) (by decide) (ce_M_store hN) rfl rfl tw_695 tw_696 tw_697 (by decide +kernel) rfl) ?_
  refine am_all.c (s_icmp_eq (off := 371) (by decide +kernel) (by decide) rfl) ?_
  refine am_all.c (s_iconst (by decide +kernel) (by decide) rfl) ?_
  refine am_all.c (s_zret (by decide +kernel) rfl) ?_
  refine am_all.c (s_aload_n (kf := 1) (by decide +kernel) rfl rfl) ?_
  refine am_all.c (s_aload_n (kf := 0) (by decide +kernel) rfl rfl) ?_
  refine am_all.c (s_iload_n (kf := 3) (by decide +kernel) rfl rfl) ?_
  refine am_all.c (s_iconst (by decide +kernel) (by decide) rfl) ?_
  refine am_all.c (s_iadd (by decide +kernel) rfl) ?_
  refine am_all.c (s_sld hN hxs (show decode code 359 = .ok (.iaload, 1) by decide +kernel) rfl) ?_
  refine am_all.c (s_callV (q := (cn_V, ft_V, 6)) (by decide) (ce_V_expunge hN) rfl rfl tw_380 tw_381 tw_382 (by decide +kernel) rfl) ?_
  refine am_all.c (s_aload_n (kf := 2) (by decide +kernel) rfl rfl) ?_
  refine am_all.c (s_aload_n (kf := 0) (by decide +kernel) rfl rfl) ?_
  refine am_all.c (s_iload_n (kf := 3) (by decide +kernel) rfl rfl) ?_
  refine am_all.c (s_iconst (by decide +kernel) (by decide) rfl) ?_
  refine am_all.c (s_iadd (by decide +kernel) rfl) ?_
  refine am_all.c (s_sld hN hxs (show decode code 368 = .ok (.iaload, 1) by decide +kernel) rfl) ?_
  refine am_all.c (s_callV (q := (cn_M, ft_M, 21)) (by decide) (ce_M_expunge hN) rfl rfl tw_699 tw_700 tw_701 (by decide +kernel) rfl) ?_
  refine am_all.c (s_icmp_eq (off := 348) (by decide +kernel) (by decide) rfl) ?_
  refine am_all.c (s_iconst (by decide +kernel) (by decide) rfl) ?_
  refine am_all.c (s_zret (by decide +kernel) rfl) ?_
  refine am_all.c (s_aload_n (kf := 1) (by decide +kernel) rfl rfl) ?_
  refine am_all.c (s_aload_n (kf := 0) (by decide +kernel) rfl rfl) ?_
  refine am_all.c (s_iload_n (kf := 3) (by decide +kernel) rfl rfl) ?_
  refine am_all.c (s_iconst (by decide +kernel) (by decide) rfl) ?_
  refine am_all.c (s_iadd (by decide +kernel) rfl) ?_
  refine am_all.c (s_sld hN hxs (show decode code 382 = .ok (.iaload, 1) by decide +kernel) rfl) ?_
  refine am_all.c (s_aload_n (kf := 0) (by decide +kernel) rfl rfl) ?_
  refine am_all.c (s_iload_n (kf := 3) (by decide +kernel) rfl rfl) ?_
  refine am_all.c (s_iconst (by decide +kernel) (by decide) rfl) ?_
  refine am_all.c (s_iadd (by decide +kernel) rfl) ?_
  refine am_all.c (s_sld hN hxs (show decode code 387 = .ok (.iaload, 1) by decide +kernel) rfl) ?_
  refine am_all.c (s_aload_n (kf := 0) (by decide +kernel) rfl rfl) ?_
  refine am_all.c (s_iload_n (kf := 3) (by decide +kernel) rfl rfl) ?_
  refine am_all.c (s_iconst (by decide +kernel) (by decide) rfl) ?_
  refine am_all.c (s_iadd (by decide +kernel) rfl) ?_
  refine am_all.c (s_sld hN hxs (show decode code 392 = .ok (.iaload, 1) by decide +kernel) rfl) ?_
  refine am_all.c (s_callV (q := (cn_V, ft_V, 6)) (by decide) (ce_V_copy hN) rfl rfl tw_384 tw_385 tw_386 (by decide +kernel) rfl) ?_
  refine am_all.c (s_aload_n (kf := 2) (by decide +kernel) rfl rfl) ?_
  refine am_all.c (s_aload_n (kf := 0) (by decide +kernel) rfl rfl) ?_
  refine am_all.c (s_iload_n (kf := 3) (by decide +kernel) rfl rfl) ?_
  refine am_all.c (s_iconst (by decide +kernel) (by decide) rfl) ?_
  refine am_all.c (s_iadd (by decide +kernel) rfl) ?_
  refine am_all.c (s_sld hN hxs (show decode code 401 = .ok (.iaload, 1) by decide +kernel) rfl) ?_
  refine am_all.c (s_aload_n (kf := 0) (by decide +kernel) rfl rfl) ?_
  refine am_all.c (s_iload_n (kf := 3) (by decide +kernel) rfl rfl) ?_
  refine am_all.c (s_iconst (by decide +kernel) (by decide) rfl) ?_
  refine am_all.c (s_iadd (by decide +kernel) rfl) ?_
  refine am_all.c (s_sld hN hxs (show decode code 406 = .ok (.iaload, 1) by decide +kernel) rfl) ?_
  refine am_all.c (s_aload_n (kf := 0) (by decide +kernel) rfl rfl) ?_
  refine am_all.c (s_iload_n (kf := 3) (by decide +kernel) rfl rfl) ?_
  refine am_all.c (s_iconst (by decide +kernel) (by decide) rfl) ?_
  refine am_all.c (s_iadd (by decide +kernel) rfl) ?_
  refine am_all.c (s_sld hN hxs (show decode code 411 = .ok (.iaload, 1) by decide +kernel) rfl) ?_
  refine am_all.c (s_callV (q := (cn_M, ft_M, 21)) (by decide) (ce_M_copy hN) rfl rfl tw_703 tw_704 tw_705 (by decide +kernel) rfl) ?_
  refine am_all.c (s_icmp_eq (off := 305) (by decide +kernel) (by decide) rfl) ?_
  refine am_all.c (s_iconst (by decide +kernel) (by decide) rfl) ?_
  refine am_all.c (s_zret (by decide +kernel) rfl) ?_
  refine am_all.c (s_aload_n (kf := 1) (by decide +kernel) rfl rfl) ?_
  refine am_all.c (s_aload_n (kf := 0) (by decide +kernel) rfl rfl) ?_
  refine am_all.c (s_iload_n (kf := 3) (by decide +kernel) rfl rfl) ?_
  refine am_all.c (s_iconst (by decide +kernel) (by decide) rfl) ?_
  refine am_all.c (s_iadd (by decide +kernel) rfl) ?_
  refine am_all.c (s_sld hN hxs (show decode code 425 = .ok (.iaload, 1) by decide +kernel) rfl) ?_
  refine am_all.c (s_aload_n (kf := 0) (by decide +kernel) rfl rfl) ?_
  refine am_all.c (s_iload_n (kf := 3) (by decide +kernel) rfl rfl) ?_
  refine am_all.c (s_iconst (by decide +kernel) (by decide) rfl) ?_
  refine am_all.c (s_iadd (by decide +kernel) rfl) ?_
  refine am_all.c (s_sld hN hxs (show decode code 430 = .ok (.iaload, 1) by decide +kernel) rfl) ?_
  refine am_all.c (s_aload_n (kf := 0) (by decide +kernel) rfl rfl) ?_
  refine am_all.c (s_iload_n (kf := 3) (by decide +kernel) rfl rfl) ?_
  refine am_all.c (s_iconst (by decide +kernel) (by decide) rfl) ?_
  refine am_all.c (s_iadd (by decide +kernel) rfl) ?_
  refine am_all.c (s_sld hN hxs (show decode code 435 = .ok (.iaload, 1) by decide +kernel) rfl) ?_
  refine am_all.c (s_callV (q := (cn_V, ft_V, 6)) (by decide) (ce_V_criterion hN) rfl rfl tw_388 tw_389 tw_390 (by decide +kernel) rfl) ?_
  refine am_all.c (s_aload_n (kf := 2) (by decide +kernel) rfl rfl) ?_
  refine am_all.c (s_aload_n (kf := 0) (by decide +kernel) rfl rfl) ?_
  refine am_all.c (s_iload_n (kf := 3) (by decide +kernel) rfl rfl) ?_
  refine am_all.c (s_iconst (by decide +kernel) (by decide) rfl) ?_
  refine am_all.c (s_iadd (by decide +kernel) rfl) ?_
  refine am_all.c (s_sld hN hxs (show decode code 444 = .ok (.iaload, 1) by decide +kernel) rfl) ?_
  refine am_all.c (s_aload_n (kf := 0) (by decide +kernel) rfl rfl) ?_
  refine am_all.c (s_iload_n (kf := 3) (by decide +kernel) rfl rfl) ?_
  refine am_all.c (s_iconst (by decide +kernel) (by decide) rfl) ?_
  refine am_all.c (s_iadd (by decide +kernel) rfl) ?_
  refine am_all.c (s_sld hN hxs (show decode code 449 = .ok (.iaload, 1) by decide +kernel) rfl) ?_
  refine am_all.c (s_aload_n (kf := 0) (by decide +kernel) rfl rfl) ?_
  refine am_all.c (s_iload_n (kf := 3) (by decide +kernel) rfl rfl) ?_
  refine am_all.c (s_iconst (by decide +kernel) (by decide) rfl) ?_
  refine am_all.c (s_iadd (by decide +kernel) rfl) ?_
  refine am_all.c (s_sld hN hxs (show decode code 454 = .ok (.iaload, 1) by decide +kernel) rfl) ?_
  refine am_all.c (s_callV (q := (cn_M, ft_M, 21)) (by decide) (ce_M_criterion hN) rfl rfl tw_707 tw_708 tw_709 (by decide +kernel) rfl) ?_
  refine am_all.c (s_icmp_eq (off := 262) (by decide +kernel) (by decide) rfl) ?_
  refine am_all.c (s_iconst (by decide +kernel) (by decide) rfl) ?_
  refine am_all.c (s_zret (by decide +kernel) rfl) ?_
  refine am_all.c (s_aload_n (kf := 1) (by decide +kernel) rfl rfl) ?_
  refine am_all.c (s_aload_n (kf := 0) (by decide +kernel) rfl rfl) ?_
  refine am_all.c (s_iload_n (kf := 3) (by decide +kernel) rfl rfl) ?_
  refine am_all.c (s_iconst (by decide +kernel) (by decide) rfl) ?_
  refine am_all.c (s_iadd (by decide +kernel) rfl) ?_
  refine am_all.c (s_sld hN hxs (show decode code 468 = .ok (.iaload, 1) by decide +kernel) rfl) ?_
  refine am_all.c (s_callV (q := (cn_V, ft_V, 6)) (by decide) (ce_V_search hN) rfl rfl tw_407 tw_408 tw_409 (by decide +kernel) rfl) ?_
  refine am_all.c (s_aload_n (kf := 2) (by decide +kernel) rfl rfl) ?_
  refine am_all.c (s_aload_n (kf := 0) (by decide +kernel) rfl rfl) ?_
  refine am_all.c (s_iload_n (kf := 3) (by decide +kernel) rfl rfl) ?_
  refine am_all.c (s_iconst (by decide +kernel) (by decide) rfl) ?_
  refine am_all.c (s_iadd (by decide +kernel) rfl) ?_
  refine am_all.c (s_sld hN hxs (show decode code 477 = .ok (.iaload, 1) by decide +kernel) rfl) ?_
  refine am_all.c (s_callV (q := (cn_M, ft_M, 21)) (by decide) (ce_M_search hN) rfl rfl tw_711 tw_712 tw_713 (by decide +kernel) rfl) ?_
  refine am_all.c (s_icmp_eq (off := 239) (by decide +kernel) (by decide) rfl) ?_
  refine am_all.c (s_iconst (by decide +kernel) (by decide) rfl) ?_
  refine am_all.c (s_zret (by decide +kernel) rfl) ?_
  refine am_all.c (s_aload_n (kf := 1) (by decide +kernel) rfl rfl) ?_
  refine am_all.c (s_aload_n (kf := 0) (by decide +kernel) rfl rfl) ?_
  refine am_all.c (s_iload_n (kf := 3) (by decide +kernel) rfl rfl) ?_
  refine am_all.c (s_iconst (by decide +kernel) (by decide) rfl) ?_
  refine am_all.c (s_iadd (by decide +kernel) rfl) ?_
  refine am_all.c (s_sld hN hxs (show decode code 491 = .ok (.iaload, 1) by decide +kernel) rfl) ?_
  refine am_all.c (s_callV (q := (cn_V, ft_V, 6)) (by decide) (ce_V_found hN) rfl rfl tw_457 tw_458 tw_459 (by decide +kernel) rfl) ?_
  refine am_all.c (s_aload_n (kf := 2) (by decide +kernel) rfl rfl) ?_
  refine am_all.c (s_aload_n (kf := 0) (by decide +kernel) rfl rfl) ?_
  refine am_all.c (s_iload_n (kf := 3) (by decide +kernel) rfl rfl) ?_
  refine am_all.c (s_iconst (by decide +kernel) (by decide) rfl) ?_
  refine am_all.c (s_iadd (by decide +kernel) rfl) ?_
  refine am_all.c (s_sld hN hxs (show decode code 500 = .ok (.iaload, 1) by decide +kernel) rfl) ?_
  refine am_all.c (s_callV (q := (cn_M, ft_M, 21)) (by decide) (ce_M_found hN) rfl rfl tw_731 tw_732 tw_733 (by decide +kernel) rfl) ?_
  refine am_all.c (s_icmp_eq (off := 216) (by decide +kernel) (by decide) rfl) ?_
  refine am_all.c (s_iconst (by decide +kernel) (by decide) rfl) ?_
  refine am_all.c (s_zret (by decide +kernel) rfl) ?_
  refine am_all.c (s_aload_n (kf := 1) (by decide +kernel) rfl rfl) ?_
  refine am_all.c (s_callV (q := (cn_V, ft_V, 6)) (by decide) (ce_V_sync hN) rfl rfl tw_461 tw_462 tw_463 (by decide +kernel) rfl) ?_
  refine am_all.c (s_aload_n (kf := 2) (by decide +kernel) rfl rfl) ?_
  refine am_all.c (s_callV (q := (cn_M, ft_M, 21)) (by decide) (ce_M_sync hN) rfl rfl tw_735 tw_736 tw_737 (by decide +kernel) rfl) ?_
  refine am_all.c (s_icmp_eq (off := 203) (by decide +kernel) (by decide) rfl) ?_
  refine am_all.c (s_iconst (by decide +kernel) (by decide) rfl) ?_
  refine am_all.c (s_zret (by decide +kernel) rfl) ?_
  refine am_all.c (s_aload_n (kf := 1) (by decide +kernel) rfl rfl) ?_
  refine am_all.c (s_callV (q := (cn_V, ft_V, 6)) (by decide) (ce_V_crash hN) rfl rfl tw_470 tw_471 tw_472 (by decide +kernel) rfl) ?_
  refine am_all.c (s_aload_n (kf := 2) (by decide +kernel) rfl rfl) ?_
  refine am_all.c (s_callV (q := (cn_M, ft_M, 21)) (by decide) (ce_M_crash hN) rfl rfl tw_739 tw_740 tw_741 (by decide +kernel) rfl) ?_
  refine am_all.c (s_icmp_eq (off := 190) (by decide +kernel) (by decide) rfl) ?_
  refine am_all.c (s_iconst (by decide +kernel) (by decide) rfl) ?_
  refine am_all.c (s_zret (by decide +kernel) rfl) ?_
  refine am_all.c (s_aload_n (kf := 1) (by decide +kernel) rfl rfl) ?_
  refine am_all.c (s_aload_n (kf := 0) (by decide +kernel) rfl rfl) ?_
  refine am_all.c (s_iload_n (kf := 3) (by decide +kernel) rfl rfl) ?_
  refine am_all.c (s_iconst (by decide +kernel) (by decide) rfl) ?_
  refine am_all.c (s_iadd (by decide +kernel) rfl) ?_
  refine am_all.c (s_sld hN hxs (show decode code 540 = .ok (.iaload, 1) by decide +kernel) rfl) ?_
  refine am_all.c (s_aload_n (kf := 0) (by decide +kernel) rfl rfl) ?_
  refine am_all.c (s_iload_n (kf := 3) (by decide +kernel) rfl rfl) ?_
  refine am_all.c (s_iconst (by decide +kernel) (by decide) rfl) ?_
  refine am_all.c (s_iadd (by decide +kernel) rfl) ?_
  refine am_all.c (s_sld hN hxs (show decode code 545 = .ok (.iaload, 1) by decide +kernel) rfl) ?_
  refine am_all.c (s_aload_n (kf := 0) (by decide +kernel) rfl rfl) ?_
  refine am_all.c (s_iload_n (kf := 3) (by decide +kernel) rfl rfl) ?_
  refine am_all.c (s_iconst (by decide +kernel) (by decide) rfl) ?_
  refine am_all.c (s_iadd (by decide +kernel) rfl) ?_
  refine am_all.c (s_sld hN hxs (show decode code 550 = .ok (.iaload, 1) by decide +kernel) rfl) ?_
  refine am_all.c (s_callV (q := (cn_V, ft_V, 6)) (by decide) (ce_V_message hN) rfl rfl tw_501 tw_502 tw_503 (by decide +kernel) rfl) ?_
  refine am_all.c (s_aload_n (kf := 2) (by decide +kernel) rfl rfl) ?_
  refine am_all.c (s_aload_n (kf := 0) (by decide +kernel) rfl rfl) ?_
  refine am_all.c (s_iload_n (kf := 3) (by decide +kernel) rfl rfl) ?_
  refine am_all.c (s_iconst (by decide +kernel) (by decide) rfl) ?_
  refine am_all.c (s_iadd (by decide +kernel) rfl) ?_
  refine am_all.c (s_sld hN hxs (show decode code 559 = .ok (.iaload, 1) by decide +kernel) rfl) ?_
  refine am_all.c (s_aload_n (kf := 0) (by decide +kernel) rfl rfl) ?_
  refine am_all.c (s_iload_n (kf := 3) (by decide +kernel) rfl rfl) ?_
  refine am_all.c (s_iconst (by decide +kernel) (by decide) rfl) ?_
  refine am_all.c (s_iadd (by decide +kernel) rfl) ?_
  refine am_all.c (s_sld hN hxs (show decode code 564 = .ok (.iaload, 1) by decide +kernel) rfl) ?_
  refine am_all.c (s_aload_n (kf := 0) (by decide +kernel) rfl rfl) ?_
  refine am_all.c (s_iload_n (kf := 3) (by decide +kernel) rfl rfl) ?_
  refine am_all.c (s_iconst (by decide +kernel) (by decide) rfl) ?_
  refine am_all.c (s_iadd (by decide +kernel) rfl) ?_
  refine am_all.c (s_sld hN hxs (show decode code 569 = .ok (.iaload, 1) by decide +kernel) rfl) ?_
  refine am_all.c (s_callV (q := (cn_M, ft_M, 21)) (by decide) (ce_M_message hN) rfl rfl tw_743 tw_744 tw_745 (by decide +kernel) rfl) ?_
  refine am_all.c (s_icmp_eq (off := 147) (by decide +kernel) (by decide) rfl) ?_
  refine am_all.c (s_iconst (by decide +kernel) (by decide) rfl) ?_
  refine am_all.c (s_zret (by decide +kernel) rfl) ?_
  refine am_all.c (s_aload_n (kf := 1) (by decide +kernel) rfl rfl) ?_
  refine am_all.c (s_aload_n (kf := 0) (by decide +kernel) rfl rfl) ?_
  refine am_all.c (s_iload_n (kf := 3) (by decide +kernel) rfl rfl) ?_
  refine am_all.c (s_iconst (by decide +kernel) (by decide) rfl) ?_
  refine am_all.c (s_iadd (by decide +kernel) rfl) ?_
  refine am_all.c (s_sld hN hxs (show decode code 583 = .ok (.iaload, 1) by decide +kernel) rfl) ?_
  refine am_all.c (s_aload_n (kf := 0) (by decide +kernel) rfl rfl) ?_
  refine am_all.c (s_iload_n (kf := 3) (by decide +kernel) rfl rfl) ?_
  refine am_all.c (s_iconst (by decide +kernel) (by decide) rfl) ?_
  refine am_all.c (s_iadd (by decide +kernel) rfl) ?_
  refine am_all.c (s_sld hN hxs (show decode code 588 = .ok (.iaload, 1) by decide +kernel) rfl) ?_
  refine am_all.c (s_aload_n (kf := 0) (by decide +kernel) rfl rfl) ?_
  refine am_all.c (s_iload_n (kf := 3) (by decide +kernel) rfl rfl) ?_
  refine am_all.c (s_iconst (by decide +kernel) (by decide) rfl) ?_
  refine am_all.c (s_iadd (by decide +kernel) rfl) ?_
  refine am_all.c (s_sld hN hxs (show decode code 593 = .ok (.iaload, 1) by decide +kernel) rfl) ?_
  refine am_all.c (s_callV (q := (cn_V, ft_V, 6)) (by decide) (ce_V_seen hN) rfl rfl tw_505 tw_506 tw_507 (by decide +kernel) rfl) ?_
  refine am_all.c (s_aload_n (kf := 2) (by decide +kernel) rfl rfl) ?_
  refine am_all.c (s_aload_n (kf := 0) (by decide +kernel) rfl rfl) ?_
  refine am_all.c (s_iload_n (kf := 3) (by decide +kernel) rfl rfl) ?_
  refine am_all.c (s_iconst (by decide +kernel) (by decide) rfl) ?_
  refine am_all.c (s_iadd (by decide +kernel) rfl) ?_
  refine am_all.c (s_sld hN hxs (show decode code 602 = .ok (.iaload, 1) by decide +kernel) rfl) ?_
  refine am_all.c (s_aload_n (kf := 0) (by decide +kernel) rfl rfl) ?_
  refine am_all.c (s_iload_n (kf := 3) (by decide +kernel) rfl rfl) ?_
  refine am_all.c (s_iconst (by decide +kernel) (by decide) rfl) ?_
  refine am_all.c (s_iadd (by decide +kernel) rfl) ?_
  refine am_all.c (s_sld hN hxs (show decode code 607 = .ok (.iaload, 1) by decide +kernel) rfl) ?_
  refine am_all.c (s_aload_n (kf := 0) (by decide +kernel) rfl rfl) ?_
  refine am_all.c (s_iload_n (kf := 3) (by decide +kernel) rfl rfl) ?_
  refine am_all.c (s_iconst (by decide +kernel) (by decide) rfl) ?_
  refine am_all.c (s_iadd (by decide +kernel) rfl) ?_
  refine am_all.c (s_sld hN hxs (show decode code 612 = .ok (.iaload, 1) by decide +kernel) rfl) ?_
  refine am_all.c (s_callV (q := (cn_M, ft_M, 21)) (by decide) (ce_M_seen hN) rfl rfl tw_747 tw_748 tw_749 (by decide +kernel) rfl) ?_
  refine am_all.c (s_icmp_eq (off := 104) (by decide +kernel) (by decide) rfl) ?_
  refine am_all.c (s_iconst (by decide +kernel) (by decide) rfl) ?_
  refine am_all.c (s_zret (by decide +kernel) rfl) ?_
  refine am_all.c (s_aload_n (kf := 1) (by decide +kernel) rfl rfl) ?_
  refine am_all.c (s_aload_n (kf := 0) (by decide +kernel) rfl rfl) ?_
  refine am_all.c (s_iload_n (kf := 3) (by decide +kernel) rfl rfl) ?_
  refine am_all.c (s_iconst (by decide +kernel) (by decide) rfl) ?_
  refine am_all.c (s_iadd (by decide +kernel) rfl) ?_
  refine am_all.c (s_sld hN hxs (show decode code 626 = .ok (.iaload, 1) by decide +kernel) rfl) ?_
  refine am_all.c (s_aload_n (kf := 0) (by decide +kernel) rfl rfl) ?_
  refine am_all.c (s_iload_n (kf := 3) (by decide +kernel) rfl rfl) ?_
  refine am_all.c (s_iconst (by decide +kernel) (by decide) rfl) ?_
  refine am_all.c (s_iadd (by decide +kernel) rfl) ?_
  refine am_all.c (s_sld hN hxs (show decode code 631 = .ok (.iaload, 1) by decide +kernel) rfl) ?_
  refine am_all.c (s_aload_n (kf := 0) (by decide +kernel) rfl rfl) ?_
  refine am_all.c (s_iload_n (kf := 3) (by decide +kernel) rfl rfl) ?_
  refine am_all.c (s_iconst (by decide +kernel) (by decide) rfl) ?_
  refine am_all.c (s_iadd (by decide +kernel) rfl) ?_
  refine am_all.c (s_sld hN hxs (show decode code 636 = .ok (.iaload, 1) by decide +kernel) rfl) ?_
  refine am_all.c (s_callV (q := (cn_V, ft_V, 6)) (by decide) (ce_V_notice hN) rfl rfl tw_510 tw_511 tw_512 (by decide +kernel) rfl) ?_
  refine am_all.c (s_aload_n (kf := 2) (by decide +kernel) rfl rfl) ?_
  refine am_all.c (s_aload_n (kf := 0) (by decide +kernel) rfl rfl) ?_
  refine am_all.c (s_iload_n (kf := 3) (by decide +kernel) rfl rfl) ?_
  refine am_all.c (s_iconst (by decide +kernel) (by decide) rfl) ?_
  refine am_all.c (s_iadd (by decide +kernel) rfl) ?_
  refine am_all.c (s_sld hN hxs (show decode code 645 = .ok (.iaload, 1) by decide +kernel) rfl) ?_
  refine am_all.c (s_aload_n (kf := 0) (by decide +kernel) rfl rfl) ?_
  refine am_all.c (s_iload_n (kf := 3) (by decide +kernel) rfl rfl) ?_
  refine am_all.c (s_iconst (by decide +kernel) (by decide) rfl) ?_
  refine am_all.c (s_iadd (by decide +kernel) rfl) ?_
  refine am_all.c (s_sld hN hxs (show decode code 650 = .ok (.iaload, 1) by decide +kernel) rfl) ?_
  refine am_all.c (s_aload_n (kf := 0) (by decide +kernel) rfl rfl) ?_
  refine am_all.c (s_iload_n (kf := 3) (by decide +kernel) rfl rfl) ?_
  refine am_all.c (s_iconst (by decide +kernel) (by decide) rfl) ?_
  refine am_all.c (s_iadd (by decide +kernel) rfl) ?_
  refine am_all.c (s_sld hN hxs (show decode code 655 = .ok (.iaload, 1) by decide +kernel) rfl) ?_
  refine am_all.c (s_callV (q := (cn_M, ft_M, 21)) (by decide) (ce_M_notice hN) rfl rfl tw_751 tw_752 tw_753 (by decide +kernel) rfl) ?_
  refine am_all.c (s_icmp_eq (off := 61) (by decide +kernel) (by decide) rfl) ?_
  refine am_all.c (s_iconst (by decide +kernel) (by decide) rfl) ?_
  refine am_all.c (s_zret (by decide +kernel) rfl) ?_
  refine am_all.c (s_aload_n (kf := 1) (by decide +kernel) rfl rfl) ?_
  refine am_all.c (s_aload_n (kf := 0) (by decide +kernel) rfl rfl) ?_
  refine am_all.c (s_iload_n (kf := 3) (by decide +kernel) rfl rfl) ?_
  refine am_all.c (s_iconst (by decide +kernel) (by decide) rfl) ?_
  refine am_all.c (s_iadd (by decide +kernel) rfl) ?_
  refine am_all.c (s_sld hN hxs (show decode code 669 = .ok (.iaload, 1) by decide +kernel) rfl) ?_
  refine am_all.c (s_aload_n (kf := 0) (by decide +kernel) rfl rfl) ?_
  refine am_all.c (s_iload_n (kf := 3) (by decide +kernel) rfl rfl) ?_
  refine am_all.c (s_iconst (by decide +kernel) (by decide) rfl) ?_
  refine am_all.c (s_iadd (by decide +kernel) rfl) ?_
  refine am_all.c (s_sld hN hxs (show decode code 674 = .ok (.iaload, 1) by decide +kernel) rfl) ?_
  refine am_all.c (s_callV (q := (cn_V, ft_V, 6)) (by decide) (ce_V_mailbox hN) rfl rfl tw_522 tw_523 tw_524 (by decide +kernel) rfl) ?_
  refine am_all.c (s_aload_n (kf := 2) (by decide +kernel) rfl rfl) ?_
  refine am_all.c (s_aload_n (kf := 0) (by decide +kernel) rfl rfl) ?_
  refine am_all.c (s_iload_n (kf := 3) (by decide +kernel) rfl rfl) ?_
  refine am_all.c (s_iconst (by decide +kernel) (by decide) rfl) ?_
  refine am_all.c (s_iadd (by decide +kernel) rfl) ?_
  refine am_all.c (s_sld hN hxs (show decode code 683 = .ok (.iaload, 1) by decide +kernel) rfl) ?_
  refine am_all.c (s_aload_n (kf := 0) (by decide +kernel) rfl rfl) ?_
  refine am_all.c (s_iload_n (kf := 3) (by decide +kernel) rfl rfl) ?_
  refine am_all.c (s_iconst (by decide +kernel) (by decide) rfl) ?_
  refine am_all.c (s_iadd (by decide +kernel) rfl) ?_
  refine am_all.c (s_sld hN hxs (show decode code 688 = .ok (.iaload, 1) by decide +kernel) rfl) ?_
  refine am_all.c (s_callV (q := (cn_M, ft_M, 21)) (by decide) (ce_M_mailbox hN) rfl rfl tw_755 tw_756 tw_757 (by decide +kernel) rfl) ?_
  refine am_all.c (s_icmp_eq (off := 28) (by decide +kernel) (by decide) rfl) ?_
  refine am_all.c (s_iconst (by decide +kernel) (by decide) rfl) ?_
  refine am_all.c (s_zret (by decide +kernel) rfl) ?_
  refine am_all.c (s_aload_n (kf := 1) (by decide +kernel) rfl rfl) ?_
  refine am_all.c (s_aload_n (kf := 0) (by decide +kernel) rfl rfl) ?_
  refine am_all.c (s_iload_n (kf := 3) (by decide +kernel) rfl rfl) ?_
  refine am_all.c (s_iconst (by decide +kernel) (by decide) rfl) ?_
  refine am_all.c (s_iadd (by decide +kernel) rfl) ?_
  refine am_all.c (s_sld hN hxs (show decode code 702 = .ok (.iaload, 1) by decide +kernel) rfl) ?_
  refine am_all.c (s_callV (q := (cn_V, ft_V, 6)) (by decide) (ce_V_count hN) rfl rfl tw_538 tw_539 tw_540 (by decide +kernel) rfl) ?_
  refine am_all.c (s_aload_n (kf := 2) (by decide +kernel) rfl rfl) ?_
  refine am_all.c (s_aload_n (kf := 0) (by decide +kernel) rfl rfl) ?_
  refine am_all.c (s_iload_n (kf := 3) (by decide +kernel) rfl rfl) ?_
  refine am_all.c (s_iconst (by decide +kernel) (by decide) rfl) ?_
  refine am_all.c (s_iadd (by decide +kernel) rfl) ?_
  refine am_all.c (s_sld hN hxs (show decode code 711 = .ok (.iaload, 1) by decide +kernel) rfl) ?_
  refine am_all.c (s_callV (q := (cn_M, ft_M, 21)) (by decide) (ce_M_count hN) rfl rfl tw_759 tw_760 tw_761 (by decide +kernel) rfl) ?_
  refine am_all.c (s_icmp_eq (off := 5) (by decide +kernel) (by decide) rfl) ?_
  refine am_all.c (s_iconst (by decide +kernel) (by decide) rfl) ?_
  refine am_all.c (s_zret (by decide +kernel) rfl) ?_
  refine am_all.c (s_iinc (by decide +kernel) rfl) ?_
  refine am_all.c (s_goto (off := -705) (by decide +kernel) (by decide)) ?_
  refine am_all.c (s_iconst (by decide +kernel) (by decide) rfl) ?_
  refine am_all.c (s_zret (by decide +kernel) rfl) ?_
  exact trivial
theorem mv_each {D : va_G} {dA : Nat → ClassId} {h b L : Nat} {xs : Nat → Int32} (hN : am_nN (am_En D dA h b L xs)) : ∀ q ∈ mv_ms.drop 3, plainName q.1.1.cls = true ∧ Cond.code q.1.1 q.1.2.1 q.1.2.2.1 q.1.2.2.2 ∈ am_Tg ∧ am_all (am_En D dA h b L xs) mv_tb mv_P q.1 q.2 := by
  show ∀ q ∈ [(tV_init, kV_init), (tV_append, kV_append), (tV_select, kV_select), (tV_close, kV_close), (tV_check, kV_check), (tV_fetch, kV_fetch), (tV_store, kV_store), (tV_expunge, kV_expunge), (tV_copy, kV_copy), (tV_criterion, kV_criterion), (tV_search, kV_search), (tV_found, kV_found), (tV_sync, kV_sync), (tV_crash, kV_crash), (tV_message, kV_message), (tV_seen, kV_seen), (tV_notice, kV_notice), (tV_mailbox, kV_mailbox), (tV_count, kV_count), (tV_isMailbox, kV_isMailbox), (tV_isSession, kV_isSession), (tV_areFlags, kV_areFlags), (tV_hasMailbox, kV_hasMailbox), (tV_isInView, kV_isInView), (tV_mailboxOf, kV_mailboxOf), (tV_sessionsWith, kV_sessionsWith), (tV_update, kV_update), (tV_add, kV_add), (tV_removeDeleted, kV_removeDeleted), (tV_changedFlags, kV_changedFlags), (tV_findHits, kV_findHits), (tB_init, kB_init), (tB_messageCount, kB_messageCount), (tB_isFull, kB_isFull), (tB_nextUid, kB_nextUid), (tB_validity, kB_validity), (tB_growValidity, kB_growValidity), (tB_uidAt, kB_uidAt), (tB_flagsAt, kB_flagsAt), (tB_sizeAt, kB_sizeAt), (tB_setFlagsAt, kB_setFlagsAt), (tB_positionOf, kB_positionOf), (tB_addNew, kB_addNew), (tB_takeBackAdded, kB_takeBackAdded), (tB_insert, kB_insert), (tB_removeAt, kB_removeAt), (tB_restoreFlags, kB_restoreFlags), (tB_move, kB_move), (tJ_init, kJ_init), (tJ_changeCount, kJ_changeCount), (tJ_durableCount, kJ_durableCount), (tJ_noteAdded, kJ_noteAdded), (tJ_noteRemoved, kJ_noteRemoved), (tJ_noteFlagsSet, kJ_noteFlagsSet), (tJ_makeAllDurable, kJ_makeAllDurable), (tJ_hasOpenAdditionTo, kJ_hasOpenAdditionTo), (tJ_takeBackAll, kJ_takeBackAll), (tJ_takeBack, kJ_takeBack), (tJ_note, kJ_note), (tS_init, kS_init), (tS_open, kS_open), (tS_leave, kS_leave), (tS_mailboxNumber, kS_mailboxNumber), (tS_isReadOnly, kS_isReadOnly), (tS_viewLength, kS_viewLength), (tS_uidOf, kS_uidOf), (tS_knownFlagsOf, kS_knownFlagsOf), (tS_know, kS_know), (tS_noticeCount, kS_noticeCount), (tS_noticeKindAt, kS_noticeKindAt), (tS_noticeNumberAt, kS_noticeNumberAt), (tS_update, kS_update), (tS_dropGone, kS_dropGone), (tS_takeInNew, kS_takeInNew), (tS_learnFlags, kS_learnFlags), (tS_tell, kS_tell), (tC_init, kC_init), (tC_isOp, kC_isOp), (tC_tokenCount, kC_tokenCount), (tC_isFull, kC_isFull), (tC_wipe, kC_wipe), (tC_write, kC_write), (tC_isGood, kC_isGood), (tC_isFulfilledBy, kC_isFulfilledBy), (tC_measure, kC_measure), (tC_leafHolds, kC_leafHolds), (tC_joinHolds, kC_joinHolds), (tC_endFrom, kC_endFrom), (tC_depthFrom, kC_depthFrom), (tC_holdsFrom, kC_holdsFrom), (tM_init, kM_init), (tM_in, kM_in), (tM_place, kM_place), (tM_flagsOf, kM_flagsOf), (tM_apply, kM_apply), (tM_note, kM_note), (tM_add, kM_add), (tM_purge, kM_purge), (tM_append, kM_append), (tM_none, kM_none), (tM_bad, kM_bad), (tM_uidOf, kM_uidOf), (tM_gone, kM_gone), (tM_tell, kM_tell), (tM_leave, kM_leave), (tM_gather, kM_gather), (tM_update, kM_update), (tM_select, kM_select), (tM_close, kM_close), (tM_check, kM_check), (tM_fetch, kM_fetch), (tM_store, kM_store), (tM_expunge, kM_expunge), (tM_copy, kM_copy), (tM_criterion, kM_criterion), (tM_parts, kM_parts), (tM_good, kM_good), (tM_leaf, kM_leaf), (tM_fulfils, kM_fulfils), (tM_search, kM_search), (tM_found, kM_found), (tM_sync, kM_sync), (tM_crash, kM_crash), (tM_message, kM_message), (tM_seen, kM_seen), (tM_notice, kM_notice), (tM_mailbox, kM_mailbox), (tM_count, kM_count)], _
  refine List.forall_mem_cons.mpr ⟨⟨by decide +kernel, tw_51, ga_V_init hN⟩, ?_⟩
  refine List.forall_mem_cons.mpr ⟨⟨by decide +kernel, tw_196, ga_V_append hN⟩, ?_⟩
  refine List.forall_mem_cons.mpr ⟨⟨by decide +kernel, tw_239, ga_V_select hN⟩, ?_⟩
  refine List.forall_mem_cons.mpr ⟨⟨by decide +kernel, tw_270, ga_V_close hN⟩, ?_⟩
  refine List.forall_mem_cons.mpr ⟨⟨by decide +kernel, tw_309, ga_V_check hN⟩, ?_⟩
  refine List.forall_mem_cons.mpr ⟨⟨by decide +kernel, tw_357, ga_V_fetch hN⟩, ?_⟩
  refine List.forall_mem_cons.mpr ⟨⟨by decide +kernel, tw_368, ga_V_store hN⟩, ?_⟩
  refine List.forall_mem_cons.mpr ⟨⟨by decide +kernel, tw_383, ga_V_expunge hN⟩, ?_⟩
  refine List.forall_mem_cons.mpr ⟨⟨by decide +kernel, tw_387, ga_V_copy hN⟩, ?_⟩
  refine List.forall_mem_cons.mpr ⟨⟨by decide +kernel, tw_391, ga_V_criterion hN⟩, ?_⟩
  refine List.forall_mem_cons.mpr ⟨⟨by decide +kernel, tw_410, ga_V_search hN⟩, ?_⟩
  refine List.forall_mem_cons.mpr ⟨⟨by decide +kernel, tw_460, ga_V_found hN⟩, ?_⟩
  refine List.forall_mem_cons.mpr ⟨⟨by decide +kernel, tw_464, ga_V_sync hN⟩, ?_⟩
  refine List.forall_mem_cons.mpr ⟨⟨by decide +kernel, tw_473, ga_V_crash hN⟩, ?_⟩
  refine List.forall_mem_cons.mpr ⟨⟨by decide +kernel, tw_504, ga_V_message hN⟩, ?_⟩
  refine List.forall_mem_cons.mpr ⟨⟨by decide +kernel, tw_508, ga_V_seen hN⟩, ?_⟩
  refine List.forall_mem_cons.mpr ⟨⟨by decide +kernel, tw_513, ga_V_notice hN⟩, ?_⟩
  refine List.forall_mem_cons.mpr ⟨⟨by decide +kernel, tw_525, ga_V_mailbox hN⟩, ?_⟩
  refine List.forall_mem_cons.mpr ⟨⟨by decide +kernel, tw_541, ga_V_count hN⟩, ?_⟩
  refine List.forall_mem_cons.mpr ⟨⟨by decide +kernel, tw_199, ga_V_isMailbox hN⟩, ?_⟩
  refine List.forall_mem_cons.mpr ⟨⟨by decide +kernel, tw_242, ga_V_isSession hN⟩, ?_⟩
  refine List.forall_mem_cons.mpr ⟨⟨by decide +kernel, tw_202, ga_V_areFlags hN⟩, ?_⟩
  refine List.forall_mem_cons.mpr ⟨⟨by decide +kernel, tw_274, ga_V_hasMailbox hN⟩, ?_⟩
  refine List.forall_mem_cons.mpr ⟨⟨by decide +kernel, tw_361, ga_V_isInView hN⟩, ?_⟩
  refine List.forall_mem_cons.mpr ⟨⟨by decide +kernel, tw_317, ga_V_mailboxOf hN⟩, ?_⟩
  refine List.forall_mem_cons.mpr ⟨⟨by decide +kernel, tw_537, ga_V_sessionsWith hN⟩, ?_⟩
  refine List.forall_mem_cons.mpr ⟨⟨by decide +kernel, tw_313, ga_V_update hN⟩, ?_⟩
  refine List.forall_mem_cons.mpr ⟨⟨by decide +kernel, tw_206, ga_V_add hN⟩, ?_⟩
  refine List.forall_mem_cons.mpr ⟨⟨by decide +kernel, tw_286, ga_V_removeDeleted hN⟩, ?_⟩
  refine List.forall_mem_cons.mpr ⟨⟨by decide +kernel, tw_371, ga_V_changedFlags hN⟩, ?_⟩
  refine List.forall_mem_cons.mpr ⟨⟨by decide +kernel, tw_437, ga_V_findHits hN⟩, ?_⟩
  refine List.forall_mem_cons.mpr ⟨⟨by decide +kernel, tw_60, ga_B_init hN⟩, ?_⟩
  refine List.forall_mem_cons.mpr ⟨⟨by decide +kernel, tw_254, ga_B_messageCount hN⟩, ?_⟩
  refine List.forall_mem_cons.mpr ⟨⟨by decide +kernel, tw_210, ga_B_isFull hN⟩, ?_⟩
  refine List.forall_mem_cons.mpr ⟨⟨by decide +kernel, tw_529, ga_B_nextUid hN⟩, ?_⟩
  refine List.forall_mem_cons.mpr ⟨⟨by decide +kernel, tw_533, ga_B_validity hN⟩, ?_⟩
  refine List.forall_mem_cons.mpr ⟨⟨by decide +kernel, tw_481, ga_B_growValidity hN⟩, ?_⟩
  refine List.forall_mem_cons.mpr ⟨⟨by decide +kernel, tw_258, ga_B_uidAt hN⟩, ?_⟩
  refine List.forall_mem_cons.mpr ⟨⟨by decide +kernel, tw_262, ga_B_flagsAt hN⟩, ?_⟩
  refine List.forall_mem_cons.mpr ⟨⟨by decide +kernel, tw_293, ga_B_sizeAt hN⟩, ?_⟩
  refine List.forall_mem_cons.mpr ⟨⟨by decide +kernel, tw_375, ga_B_setFlagsAt hN⟩, ?_⟩
  refine List.forall_mem_cons.mpr ⟨⟨by decide +kernel, tw_329, ga_B_positionOf hN⟩, ?_⟩
  refine List.forall_mem_cons.mpr ⟨⟨by decide +kernel, tw_214, ga_B_addNew hN⟩, ?_⟩
  refine List.forall_mem_cons.mpr ⟨⟨by decide +kernel, tw_493, ga_B_takeBackAdded hN⟩, ?_⟩
  refine List.forall_mem_cons.mpr ⟨⟨by decide +kernel, tw_218, ga_B_insert hN⟩, ?_⟩
  refine List.forall_mem_cons.mpr ⟨⟨by decide +kernel, tw_301, ga_B_removeAt hN⟩, ?_⟩
  refine List.forall_mem_cons.mpr ⟨⟨by decide +kernel, tw_500, ga_B_restoreFlags hN⟩, ?_⟩
  refine List.forall_mem_cons.mpr ⟨⟨by decide +kernel, tw_223, ga_B_move hN⟩, ?_⟩
  refine List.forall_mem_cons.mpr ⟨⟨by decide +kernel, tw_121, ga_J_init hN⟩, ?_⟩
  refine List.forall_mem_cons.mpr ⟨⟨by decide +kernel, tw_469, ga_J_changeCount hN⟩, ?_⟩
  refine List.forall_mem_cons.mpr ⟨⟨by decide +kernel, tw_545, ga_J_durableCount hN⟩, ?_⟩
  refine List.forall_mem_cons.mpr ⟨⟨by decide +kernel, tw_227, ga_J_noteAdded hN⟩, ?_⟩
  refine List.forall_mem_cons.mpr ⟨⟨by decide +kernel, tw_297, ga_J_noteRemoved hN⟩, ?_⟩
  refine List.forall_mem_cons.mpr ⟨⟨by decide +kernel, tw_379, ga_J_noteFlagsSet hN⟩, ?_⟩
  refine List.forall_mem_cons.mpr ⟨⟨by decide +kernel, tw_235, ga_J_makeAllDurable hN⟩, ?_⟩
  refine List.forall_mem_cons.mpr ⟨⟨by decide +kernel, tw_477, ga_J_hasOpenAdditionTo hN⟩, ?_⟩
  refine List.forall_mem_cons.mpr ⟨⟨by decide +kernel, tw_485, ga_J_takeBackAll hN⟩, ?_⟩
  refine List.forall_mem_cons.mpr ⟨⟨by decide +kernel, tw_489, ga_J_takeBack hN⟩, ?_⟩
  refine List.forall_mem_cons.mpr ⟨⟨by decide +kernel, tw_231, ga_J_note hN⟩, ?_⟩
  refine List.forall_mem_cons.mpr ⟨⟨by decide +kernel, tw_87, ga_S_init hN⟩, ?_⟩
  refine List.forall_mem_cons.mpr ⟨⟨by decide +kernel, tw_246, ga_S_open hN⟩, ?_⟩
  refine List.forall_mem_cons.mpr ⟨⟨by decide +kernel, tw_305, ga_S_leave hN⟩, ?_⟩
  refine List.forall_mem_cons.mpr ⟨⟨by decide +kernel, tw_278, ga_S_mailboxNumber hN⟩, ?_⟩
  refine List.forall_mem_cons.mpr ⟨⟨by decide +kernel, tw_282, ga_S_isReadOnly hN⟩, ?_⟩
  refine List.forall_mem_cons.mpr ⟨⟨by decide +kernel, tw_266, ga_S_viewLength hN⟩, ?_⟩
  refine List.forall_mem_cons.mpr ⟨⟨by decide +kernel, tw_341, ga_S_uidOf hN⟩, ?_⟩
  refine List.forall_mem_cons.mpr ⟨⟨by decide +kernel, tw_345, ga_S_knownFlagsOf hN⟩, ?_⟩
  refine List.forall_mem_cons.mpr ⟨⟨by decide +kernel, tw_349, ga_S_know hN⟩, ?_⟩
  refine List.forall_mem_cons.mpr ⟨⟨by decide +kernel, tw_353, ga_S_noticeCount hN⟩, ?_⟩
  refine List.forall_mem_cons.mpr ⟨⟨by decide +kernel, tw_517, ga_S_noticeKindAt hN⟩, ?_⟩
  refine List.forall_mem_cons.mpr ⟨⟨by decide +kernel, tw_521, ga_S_noticeNumberAt hN⟩, ?_⟩
  refine List.forall_mem_cons.mpr ⟨⟨by decide +kernel, tw_321, ga_S_update hN⟩, ?_⟩
  refine List.forall_mem_cons.mpr ⟨⟨by decide +kernel, tw_325, ga_S_dropGone hN⟩, ?_⟩
  refine List.forall_mem_cons.mpr ⟨⟨by decide +kernel, tw_250, ga_S_takeInNew hN⟩, ?_⟩
  refine List.forall_mem_cons.mpr ⟨⟨by decide +kernel, tw_337, ga_S_learnFlags hN⟩, ?_⟩
  refine List.forall_mem_cons.mpr ⟨⟨by decide +kernel, tw_333, ga_S_tell hN⟩, ?_⟩
  refine List.forall_mem_cons.mpr ⟨⟨by decide +kernel, tw_149, ga_C_init hN⟩, ?_⟩
  refine List.forall_mem_cons.mpr ⟨⟨by decide +kernel, tw_394, ga_C_isOp hN⟩, ?_⟩
  refine List.forall_mem_cons.mpr ⟨⟨by decide +kernel, tw_406, ga_C_tokenCount hN⟩, ?_⟩
  refine List.forall_mem_cons.mpr ⟨⟨by decide +kernel, tw_398, ga_C_isFull hN⟩, ?_⟩
  refine List.forall_mem_cons.mpr ⟨⟨by decide +kernel, tw_433, ga_C_wipe hN⟩, ?_⟩
  refine List.forall_mem_cons.mpr ⟨⟨by decide +kernel, tw_402, ga_C_write hN⟩, ?_⟩
  refine List.forall_mem_cons.mpr ⟨⟨by decide +kernel, tw_414, ga_C_isGood hN⟩, ?_⟩
  refine List.forall_mem_cons.mpr ⟨⟨by decide +kernel, tw_441, ga_C_isFulfilledBy hN⟩, ?_⟩
  refine List.forall_mem_cons.mpr ⟨⟨by decide +kernel, tw_418, ga_C_measure hN⟩, ?_⟩
  refine List.forall_mem_cons.mpr ⟨⟨by decide +kernel, tw_445, ga_C_leafHolds hN⟩, ?_⟩
  refine List.forall_mem_cons.mpr ⟨⟨by decide +kernel, tw_452, ga_C_joinHolds hN⟩, ?_⟩
  refine List.forall_mem_cons.mpr ⟨⟨by decide +kernel, tw_422, ga_C_endFrom hN⟩, ?_⟩
  refine List.forall_mem_cons.mpr ⟨⟨by decide +kernel, tw_426, ga_C_depthFrom hN⟩, ?_⟩
  refine List.forall_mem_cons.mpr ⟨⟨by decide +kernel, tw_456, ga_C_holdsFrom hN⟩, ?_⟩
  refine List.forall_mem_cons.mpr ⟨⟨by decide +kernel, tw_550, ga_M_init hN⟩, ?_⟩
  refine List.forall_mem_cons.mpr ⟨⟨by decide +kernel, tw_622, ga_M_in hN⟩, ?_⟩
  refine List.forall_mem_cons.mpr ⟨⟨by decide +kernel, tw_638, ga_M_place hN⟩, ?_⟩
  refine List.forall_mem_cons.mpr ⟨⟨by decide +kernel, tw_686, ga_M_flagsOf hN⟩, ?_⟩
  refine List.forall_mem_cons.mpr ⟨⟨by decide +kernel, tw_634, ga_M_apply hN⟩, ?_⟩
  refine List.forall_mem_cons.mpr ⟨⟨by decide +kernel, tw_630, ga_M_note hN⟩, ?_⟩
  refine List.forall_mem_cons.mpr ⟨⟨by decide +kernel, tw_626, ga_M_add hN⟩, ?_⟩
  refine List.forall_mem_cons.mpr ⟨⟨by decide +kernel, tw_658, ga_M_purge hN⟩, ?_⟩
  refine List.forall_mem_cons.mpr ⟨⟨by decide +kernel, tw_619, ga_M_append hN⟩, ?_⟩
  refine List.forall_mem_cons.mpr ⟨⟨by decide +kernel, tw_654, ga_M_none hN⟩, ?_⟩
  refine List.forall_mem_cons.mpr ⟨⟨by decide +kernel, tw_694, ga_M_bad hN⟩, ?_⟩
  refine List.forall_mem_cons.mpr ⟨⟨by decide +kernel, tw_674, ga_M_uidOf hN⟩, ?_⟩
  refine List.forall_mem_cons.mpr ⟨⟨by decide +kernel, tw_670, ga_M_gone hN⟩, ?_⟩
  refine List.forall_mem_cons.mpr ⟨⟨by decide +kernel, tw_682, ga_M_tell hN⟩, ?_⟩
  refine List.forall_mem_cons.mpr ⟨⟨by decide +kernel, tw_678, ga_M_leave hN⟩, ?_⟩
  refine List.forall_mem_cons.mpr ⟨⟨by decide +kernel, tw_646, ga_M_gather hN⟩, ?_⟩
  refine List.forall_mem_cons.mpr ⟨⟨by decide +kernel, tw_666, ga_M_update hN⟩, ?_⟩
  refine List.forall_mem_cons.mpr ⟨⟨by decide +kernel, tw_642, ga_M_select hN⟩, ?_⟩
  refine List.forall_mem_cons.mpr ⟨⟨by decide +kernel, tw_650, ga_M_close hN⟩, ?_⟩
  refine List.forall_mem_cons.mpr ⟨⟨by decide +kernel, tw_662, ga_M_check hN⟩, ?_⟩
  refine List.forall_mem_cons.mpr ⟨⟨by decide +kernel, tw_690, ga_M_fetch hN⟩, ?_⟩
  refine List.forall_mem_cons.mpr ⟨⟨by decide +kernel, tw_698, ga_M_store hN⟩, ?_⟩
  refine List.forall_mem_cons.mpr ⟨⟨by decide +kernel, tw_702, ga_M_expunge hN⟩, ?_⟩
  refine List.forall_mem_cons.mpr ⟨⟨by decide +kernel, tw_706, ga_M_copy hN⟩, ?_⟩
  refine List.forall_mem_cons.mpr ⟨⟨by decide +kernel, tw_710, ga_M_criterion hN⟩, ?_⟩
  refine List.forall_mem_cons.mpr ⟨⟨by decide +kernel, tw_722, ga_M_parts hN⟩, ?_⟩
  refine List.forall_mem_cons.mpr ⟨⟨by decide +kernel, tw_718, ga_M_good hN⟩, ?_⟩
  refine List.forall_mem_cons.mpr ⟨⟨by decide +kernel, tw_730, ga_M_leaf hN⟩, ?_⟩
  refine List.forall_mem_cons.mpr ⟨⟨by decide +kernel, tw_726, ga_M_fulfils hN⟩, ?_⟩
  refine List.forall_mem_cons.mpr ⟨⟨by decide +kernel, tw_714, ga_M_search hN⟩, ?_⟩
  refine List.forall_mem_cons.mpr ⟨⟨by decide +kernel, tw_734, ga_M_found hN⟩, ?_⟩
  refine List.forall_mem_cons.mpr ⟨⟨by decide +kernel, tw_738, ga_M_sync hN⟩, ?_⟩
  refine List.forall_mem_cons.mpr ⟨⟨by decide +kernel, tw_742, ga_M_crash hN⟩, ?_⟩
  refine List.forall_mem_cons.mpr ⟨⟨by decide +kernel, tw_746, ga_M_message hN⟩, ?_⟩
  refine List.forall_mem_cons.mpr ⟨⟨by decide +kernel, tw_750, ga_M_seen hN⟩, ?_⟩
  refine List.forall_mem_cons.mpr ⟨⟨by decide +kernel, tw_754, ga_M_notice hN⟩, ?_⟩
  refine List.forall_mem_cons.mpr ⟨⟨by decide +kernel, tw_758, ga_M_mailbox hN⟩, ?_⟩
  refine List.forall_mem_cons.mpr ⟨⟨by decide +kernel, tw_762, ga_M_count hN⟩, ?_⟩
  exact fun _ h => absurd h List.not_mem_nil
theorem mv_prog {D : va_G} {dA : Nat → ClassId} {h b L : Nat} {xs : Nat → Int32} (hN : am_nN (am_En D dA h b L xs)) : am_Prog (am_En D dA h b L xs) mv_tb mv_P mv_J := by
  refine ⟨hN, am_Tg_ok, mv_P0, fun j h3 hj => ?_, fun j hj pc => ?_⟩
  · have hlen : mv_ms.length = mv_J := by decide +kernel
    have hlt : j < mv_ms.length := by rw [hlen]; exact hj
    have hq : mv_ms[j]? = some mv_ms[j] := List.getElem?_eq_getElem hlt
    generalize mv_ms[j] = q at hq
    have hm : q ∈ mv_ms.drop 3 := by
      refine List.mem_of_getElem? (i := j - 3) ?_
      rw [List.getElem?_drop, show 3 + (j - 3) = j by omega]
      exact hq
    obtain ⟨h1, h2, h3⟩ := mv_each hN q hm
    have e1 : mv_tb j = q.1 := by unfold mv_tb; rw [hq]
    have e2 : mv_P j = (q.1.2.2.1, am_at q.2) := by unfold mv_P; rw [hq]
    rw [e1, e2]
    exact ⟨rfl, h1, h2, am_all.get q.2 h3⟩
  · have hlen : mv_ms.length = mv_J := by decide +kernel
    have hq : mv_ms[j]? = none := List.getElem?_eq_none (by rw [hlen]; exact hj)
    have e2 : mv_P j = (0, fun _ => i_fail) := by unfold mv_P; rw [hq]
    rw [e2]
end
section
/-! THE CLAIM OUT OF ONE WALK OF THE LAW'S BODY. Your part is whole_start (and what it stands on); all else here is the same for every law, but numbers. -/
def R_law : String := "MailViewsLaw"
def lw_P (b : Addr) (xs : List Int32) (args : Array Value) (s : State) : Prop := args = #[.ref b] ∧ s.IntsAt b xs ∧ xs.length ≤ 2560 ∧ (Jvm.Cond.and given_1 narrow_1).before args s = true
def lw_Q (_ : Array Value) (s : State) (o : Outcome) (t : State) : Prop := o = .returned (some (.int 1)) ∧ Framed s o t [] 600000 7302250
def lw_Z (below : List Frame) (a : Array Value) (s : State) : State → Prop := fun t => ∃ o, t.status = .running ∧ Ended t below o ∧ lw_Q a s o t
/-- the law's own end, with 1 on the stack, nothing written that was there before, its room as the claim has it -/
theorem lw_ret {p : Program} {l : Launch} {e : Env} {s : State} {m : MethodId} {below : List Frame} {meth : Method} {c : Code} {b : Nat} (hx : p.tables.exec = Jvm.exec) (hb : c.code = code) (hr : meth.sig.returnType = ret) (hlocks : meth.locks = false) {pc : Nat} {H : Heap} {ls : Array Slot} (hdg : decode code pc = .ok (.ireturn, 1)) : W p l e room_1 s m #[Value.ref b] below meth c H [] 600000 7302250 (lw_Z below #[Value.ref b] s) (F0 m pc ls [.int 1]) := by
  intro T hT X
  obtain ⟨fs, hret, hrun, hended, hW, hframe⟩ := X.leave (v := some (.int 1)) (hlocks := hlocks) (fun h => by rw [hr] at h; cases h)
  have hmeth' : T.vm.method? m = some meth := X.method'
  refine ⟨T.setFrames fs, ?_, .returned (some (.int 1)), hrun, hended, rfl, ⟨_, rfl⟩, hW, hframe⟩
  jvm_step X.here [X.here.top, hx, hb, hdg, hmeth', hr, ret, narrow_b1]
  (try refine ⟨rfl, ?_⟩); (try refine ⟨rfl, ?_⟩)
  first | (intro acts; rw [hret _ acts rfl rfl rfl]) | rw [hret _ _ rfl rfl rfl]
  exact Steps.refl _
/-- what holds at the law's entry: the machine, the code, the tables' words (any of lw_tbl by 'hts w (by decide +kernel)'), the script of L ints xs at the cell b, what the Statement gives of the start (any of its parts by flat_of_before) -/
def lw_At (p : Program) (s : State) (m : MethodId) (meth : Method) (c : Code) (b L : Nat) (xs : Nat → Int32) : Prop :=
  p.tables.exec = Jvm.exec ∧ c.code = code ∧ meth.sig.returnType = ret ∧ c.maxLocals = 4 ∧ s.vm.findClass R_law = some m.cls ∧ (∀ w ∈ lw_tbl, w.before #[Value.ref b] s = true) ∧ va_X b L xs s s.heap ∧ b < s.heap.size ∧ meth.locks = false ∧ (Jvm.Cond.and given_1 narrow_1).before #[Value.ref b] s = true
end
section
/-! the claim out of a pure statement about the abstract machine -/
def mv_pure : Prop := ∀ (L : Nat) (xs : Nat → Int), L ≤ 2560 → (∀ j, am_ok (xs j)) → am_Ex mv_P 6 (am_at (kL_law L xs)) (0, [some (.inr (some 0)), none, none, none], [], 1, 0, fun _ => none) (fun r M => r = some (.inl 1) ∧ M.1 ≤ 600001 ∧ M.2.1 ≤ 7302250)
theorem mv_kinds {s : State} {args : Array Value} (hts : ∀ w ∈ lw_tbl, w.before args s = true) : ∃ dA : Nat → ClassId, ∀ (t : Nat) (ty : FieldType), am_kd[t]? = some ty → ArrOfT s (dA t) ty ∧ va_RA s (dA t) ty := by
  obtain ⟨c0, k0, p0, f0, g0, e0⟩ := Cond.arrayClass_spec (hts (.arrayClass .int) (List.mem_filter.mp ac_0).1)
  obtain ⟨c1, k1, p1, f1, g1, e1⟩ := Cond.arrayClass_spec (hts (.arrayClass .boolean) (List.mem_filter.mp ac_1).1)
  obtain ⟨p2, c2, k2, a2, -, g2, e2, f2⟩ := Cond.arrayOver_spec (hts (.arrayOver (.object "MailViews$Mailbox")) (am_nw_in _ ao_B))
  obtain ⟨p3, c3, k3, a3, -, g3, e3, f3⟩ := Cond.arrayOver_spec (hts (.arrayOver (.object "MailViews$Session")) (am_nw_in _ ao_S))
  refine ⟨fun t => if t = 0 then c0 else if t = 1 then c1 else if t = 2 then c2 else c3, fun t ty ht => ?_⟩
  match t, ht with
  | 0, ht => cases ht; exact ⟨fun n z => ⟨fun k h => (by cases h), k0, g0, p0, e0⟩, f0⟩
  | 1, ht => cases ht; exact ⟨fun n z => ⟨fun k h => (by cases h), k1, g1, p1, e1⟩, f1⟩
  | 2, ht => cases ht; exact ⟨fun n z => ⟨fun k h => (by cases h), k2, g2, p2, e2⟩, k2, p2, g2, e2, a2, f2⟩
  | 3, ht => cases ht; exact ⟨fun n z => ⟨fun k h => (by cases h), k3, g3, p3, e3⟩, k3, p3, g3, e3, a3, f3⟩
  | n + 4, ht => simp at ht
theorem mv_classes {s : State} {args : Array Value} (hts : ∀ w ∈ lw_tbl, w.before args s = true) (hin : ∀ q ∈ mv_cl, Cond.instantiable q.1 q.2.2 ∈ lw_tbl) : ∃ D : va_G, va_K D mv_cl [] s := by
  have hg : ∀ w ∈ am_Tg, w.before args s = true := fun w hw => hts w (List.mem_filter.mp hw).1
  have key : ∀ k : Nat, ∃ u : ClassId × (Nat → Nat), ∀ q : vw_C, mv_cl[k]? = some q → u_Kn s q.1 q.2.1 q.2.2 u.1 u.2 := by
    intro k
    cases hq : mv_cl[k]? with
    | none => exact ⟨(0, fun _ => 0), fun q h => (by cases h)⟩
    | some q =>
      have hm := List.mem_of_getElem? hq
      have hw : ∀ w ∈ u_ws q.1 q.2.1 q.2.2, w ∈ am_Tg := by
        match k, hq with
        | 0, hq => cases hq; exact fi_V
        | 1, hq => cases hq; exact fi_B
        | 2, hq => cases hq; exact fi_J
        | 3, hq => cases hq; exact fi_S
        | 4, hq => cases hq; exact fi_C
        | 5, hq => cases hq; exact fi_M
        | n + 6, hq => simp at hq
      obtain ⟨c, i, h⟩ := u_known hg hw (hts _ (hin q hm))
      exact ⟨(c, i), fun q' h' => by cases h'; exact h⟩
  exact ⟨(fun k => (Classical.choose (key k)).1, fun k => (Classical.choose (key k)).2), fun k q hq => Classical.choose_spec (key k) q hq, fun k q h => by simp at h⟩
theorem whole_of (hp : mv_pure) {p : Program} {e : Env} {s : State} {m : MethodId} {below : List Frame} {meth : Method} {c : Code} (l : Launch) {b L : Nat} {xs : Nat → Int32} (hL : L ≤ 2560) (C0 : lw_At p s m meth c b L xs) : W p l e room_1 s m #[Value.ref b] below meth c s.heap [] 0 0 (lw_Z below #[Value.ref b] s) (entryFrame m ([Value.ref b] : List Value).toArray 4) := by
  obtain ⟨hx, hb, hr, hml, hown, hts, hX, hbl, hlocks, -⟩ := C0
  obtain ⟨dA, hdA⟩ := mv_kinds hts
  obtain ⟨D, hD⟩ := mv_classes hts (by
    show ∀ q ∈ mv_cl, _
    refine List.forall_mem_cons.mpr ⟨?_, List.forall_mem_cons.mpr ⟨?_, List.forall_mem_cons.mpr ⟨?_, List.forall_mem_cons.mpr ⟨?_, List.forall_mem_cons.mpr ⟨?_, List.forall_mem_cons.mpr ⟨?_, fun _ h => absurd h List.not_mem_nil⟩⟩⟩⟩⟩⟩ <;> decide +kernel)
  obtain ⟨h, hh⟩ : ∃ h, s.heap.size = h + 1 := ⟨s.heap.size - 1, by omega⟩
  have hN : am_nN (am_En D dA h b L xs) := by
    refine ⟨show b ≤ h by omega, fun w hw => ?_⟩
    have hw2 : w ∈ am_nw := hw
    simp only [am_nw, List.mem_cons, List.not_mem_nil, or_false] at hw2
    rcases hw2 with rfl | rfl | rfl | rfl | rfl | rfl <;> first | exact Or.inl ⟨_, _, _, _, rfl⟩ | exact Or.inr ⟨_, rfl⟩
  have hK : am_KK (am_En D dA h b L xs) s := by
    refine ⟨hD, hdA, fun w hw => ?_, hX⟩
    have hb1 := hts w (am_nw_in w hw)
    have hw2 : w ∈ am_nw := hw
    simp only [am_nw, List.mem_cons, List.not_mem_nil, or_false] at hw2
    rcases hw2 with rfl | rfl | rfl | rfl | rfl | rfl <;> first | exact va_Nw.of rfl hb1 | exact va_AO.of hb1
  obtain ⟨k, y, hrun, hy1, hy2, hy3⟩ := hp L (fun j => (xs j).toInt) hL (fun j => am_okI _)
  have hpr := mv_prog hN
  have X : am_X (am_En D dA h b L xs) tL_law p s m #[Value.ref b] meth c := ⟨hx, hb, hml.trans (by decide +kernel), hown, fun w hw => hts w (List.mem_filter.mp hw).1, hK, fun hi => absurd hi (by decide +kernel), hr, hlocks⟩
  have hwS : am_wS ([.inr (some 0)] : List am_V) := fun v hv => by cases List.mem_singleton.mp hv; exact trivial
  have hent := am_ent_lr (E := am_En D dA h b L xs) (nL := 4) (as := [.inr (some 0)]) (Nat.le_of_ble_eq_true rfl) hwS
  have hent2 : am_Lr (am_En D dA h b L xs) tL_law.2.2.1 (am_ent 4 [.inr (some 0)]) _ := hent
  have hR : am_Re (am_En D dA h b L xs) s.heap 1 0 (1, 0, fun _ => none) s.heap [] 0 0 := ⟨⟨hh, Nat.le_refl 1, fun a c h => (by cases h)⟩, fun a c h => (by cases h), rfl, rfl, fun x h => (by cases h), fun q _ => rfl⟩
  have hB := am_body (Q := lw_Z below #[Value.ref b] s) (below := below) (e := e) (am_all.get _ (ga_L_law hN (by omega))) (am_sound hpr l k 6) (am_call_mo hpr.mo 6 k) X (R := room_1) (n0 := 1) (k0 := 0) (by decide) (by decide) y (by show y.2.1 ≤ 1 + 600000; omega) (by show y.2.2.1 ≤ 0 + 7302250; omega) (by
    intro pc st H locs cells slots lsC hrt hS hRe
    have c1 := hRe.2.2.1
    have c2 := hRe.2.2.2.1
    rcases hrt with ⟨hd, z, rfl, hz, -⟩ | ⟨hd, v, rfl, hz, -⟩ | ⟨hd, rfl, hz, -⟩
    · rw [hy1] at hz
      cases hz
      refine va_forget (fun q hq => ?_) ?_
      · have := hRe.2.2.2.2.1 q hq
        rw [hh]
        exact this
      · refine W.widen (k := 600000) (n := 7302250) (by omega) (by omega) ?_
        exact lw_ret hx hb hr hlocks hd
    · rw [hy1] at hz
      cases hz
    · rw [hy1] at hz
      cases hz) k _ hrun s.heap [] 0 0 _ (fun v hv => by cases hv) hR hent2
  have e0 : entryFrame m ([Value.ref b] : List Value).toArray 4 = F0 m 0 ((([Value.ref b] : List Value).map Slot.val ++ List.replicate (4 - ([Value.ref b] : List Value).length) Slot.unset).toArray) [] := entry_eq m [Value.ref b] (fun v hv => by cases List.mem_singleton.mp hv; rfl) 4
  rw [e0]
  exact hB
end
section
/-! more rows for walking: indices as Nat, memories as variables -/
section AmW
variable {P : am_P} {d pc n k t : Nat} {code : Nat → am_I} {ls : am_L} {st : List am_V} {Q : Option am_V → am_M → Prop} {nn ss a ci b : Nat} {μ : Nat → Option am_C}
theorem x_ialdN {i : Int} {N j : Nat} {f : Nat → Int} (hc : code pc = i_iald t n) (hm : μ a = some (.inr (.inl (t, N, f)))) (hj : i = (j : Int)) (h1 : j < N) (h : am_Ex P d code (n, ls, .inl (f j) :: st, nn, ss, μ) Q) : am_Ex P d code (pc, ls, .inl i :: .inr (some a) :: st, nn, ss, μ) Q := by
  subst hj
  exact x_iald hc hm (by omega) (by omega) (by rw [Int.toNat_natCast]; exact h)
theorem x_aaldN {i : Int} {N j : Nat} {f : Nat → Option Nat} (hc : code pc = i_aald t n) (hm : μ a = some (.inr (.inr (t, N, f)))) (hj : i = (j : Int)) (h1 : j < N) (h : am_Ex P d code (n, ls, .inr (f j) :: st, nn, ss, μ) Q) : am_Ex P d code (pc, ls, .inl i :: .inr (some a) :: st, nn, ss, μ) Q := by
  subst hj
  exact x_aald hc hm (by omega) (by omega) (by rw [Int.toNat_natCast]; exact h)
theorem x_putG {fs : List am_V} {v : am_V} (hc : code pc = i_put ci k b n) (hm : μ a = some (.inl (ci, fs))) (hk : k < fs.length) (hv : am_fit b v = true) (h : ∀ μ', μ' a = some (.inl (ci, fs.set k v)) → (∀ x, x ≠ a → μ' x = μ x) → am_Ex P d code (n, ls, st, nn, ss, μ') Q) : am_Ex P d code (pc, ls, v :: .inr (some a) :: st, nn, ss, μ) Q :=
  x_put hc hm hk hv (h _ am_up_s (fun _ hx => am_up_n hx))
theorem x_iastN {i z : Int} {N j : Nat} {f : Nat → Int} (hc : code pc = i_iast t b n) (hm : μ a = some (.inr (.inl (t, N, f)))) (hj : i = (j : Int)) (h1 : j < N) (hv : am_fit b (.inl z) = true) (h : ∀ μ', μ' a = some (.inr (.inl (t, N, am_fu f j z))) → (∀ x, x ≠ a → μ' x = μ x) → am_Ex P d code (n, ls, st, nn, ss, μ') Q) : am_Ex P d code (pc, ls, .inl z :: .inl i :: .inr (some a) :: st, nn, ss, μ) Q := by
  subst hj
  exact x_iast hc hm (by omega) (by omega) hv (by rw [Int.toNat_natCast]; exact h _ am_up_s (fun _ hx => am_up_n hx))
theorem x_aastN {i : Int} {N v j : Nat} {f : Nat → Option Nat} {fs : List am_V} (hc : code pc = i_aast t ci n) (hm : μ a = some (.inr (.inr (t, N, f)))) (hm2 : μ v = some (.inl (ci, fs))) (hj : i = (j : Int)) (h1 : j < N) (h : ∀ μ', μ' a = some (.inr (.inr (t, N, am_fu f j (some v)))) → (∀ x, x ≠ a → μ' x = μ x) → am_Ex P d code (n, ls, st, nn, ss, μ') Q) : am_Ex P d code (pc, ls, .inr (some v) :: .inl i :: .inr (some a) :: st, nn, ss, μ) Q := by
  subst hj
  exact x_aast hc hm hm2 (by omega) (by omega) (by rw [Int.toNat_natCast]; exact h _ am_up_s (fun _ hx => am_up_n hx))
end AmW
end
section
/-! a mailbox: its cells a .. a+3, its methods -/
abbrev mv_Q : Type := Int × Int × Int
def mg (l : List mv_Q) (k : Nat) : mv_Q := l.getD k (0, 0, 0)
/-- nothing outside lo .. hi-1 changed -/
def fr (μ μ' : Nat → Option am_C) (lo hi : Nat) : Prop := ∀ x, (x < lo ∨ hi ≤ x) → μ' x = μ x
theorem fr.rf {μ : Nat → Option am_C} {lo hi : Nat} : fr μ μ lo hi := fun _ _ => rfl
theorem fr.tr {μ μ' μ2 : Nat → Option am_C} {lo hi : Nat} (h1 : fr μ μ' lo hi) (h2 : fr μ' μ2 lo hi) : fr μ μ2 lo hi := fun x hx => (h2 x hx).trans (h1 x hx)
theorem fr.wd {μ μ' : Nat → Option am_C} {lo hi lo' hi' : Nat} (h1 : fr μ μ' lo hi) (h2 : lo' ≤ lo) (h3 : hi ≤ hi') : fr μ μ' lo' hi' := fun x hx => h1 x (by omega)
theorem fr.one {μ μ' : Nat → Option am_C} {lo hi a : Nat} (h : ∀ x, x ≠ a → μ' x = μ x) (h1 : lo ≤ a) (h2 : a < hi) : fr μ μ' lo hi := fun x hx => h x (by omega)
def bxA (μ : Nat → Option am_C) (a : Nat) (W : Nat → mv_Q) (n : Nat) (nx vl : Int) : Prop :=
  μ a = some (.inl (1, [.inr (some (a + 1)), .inr (some (a + 2)), .inr (some (a + 3)), .inl n, .inl nx, .inl vl])) ∧ μ (a + 1) = some (.inr (.inl (0, 12, fun k => (W k).1))) ∧ μ (a + 2) = some (.inr (.inl (0, 12, fun k => (W k).2.1))) ∧ μ (a + 3) = some (.inr (.inl (0, 12, fun k => (W k).2.2)))
theorem bxA.fr {μ μ' : Nat → Option am_C} {a lo hi : Nat} {W : Nat → mv_Q} {n : Nat} {nx vl : Int} (h : bxA μ a W n nx vl) (hf : fr μ μ' lo hi) (ho : a + 4 ≤ lo ∨ hi ≤ a) : bxA μ' a W n nx vl := by
  obtain ⟨h0, h1, h2, h3⟩ := h
  exact ⟨by rw [hf a (by omega)]; exact h0, by rw [hf (a + 1) (by omega)]; exact h1, by rw [hf (a + 2) (by omega)]; exact h2, by rw [hf (a + 3) (by omega)]; exact h3⟩
section Box
variable {d nn ss a n : Nat} {μ : Nat → Option am_C} {Q : Option am_V → am_M → Prop} {W : Nat → mv_Q} {nx vl : Int}
theorem c_B_messageCount (h : bxA μ a W n nx vl) (hQ : Q (some (.inl n)) (nn, ss, μ)) : am_Wp mv_P (d + 1) jB_messageCount [.inr (some a)] (nn, ss, μ) Q := by
  obtain ⟨h0, h1, h2, h3⟩ := h
  refine am_wp pB_messageCount (Nat.le_of_ble_eq_true rfl) ?_
  refine x_aload rfl rfl ?_
  refine x_get rfl (by assumption) rfl ?_
  refine x_iret rfl ?_
  exact hQ
theorem c_B_nextUid (h : bxA μ a W n nx vl) (hQ : Q (some (.inl nx)) (nn, ss, μ)) : am_Wp mv_P (d + 1) jB_nextUid [.inr (some a)] (nn, ss, μ) Q := by
  obtain ⟨h0, h1, h2, h3⟩ := h
  refine am_wp pB_nextUid (Nat.le_of_ble_eq_true rfl) ?_
  refine x_aload rfl rfl ?_
  refine x_get rfl (by assumption) rfl ?_
  refine x_iret rfl ?_
  exact hQ
theorem c_B_validity (h : bxA μ a W n nx vl) (hQ : Q (some (.inl vl)) (nn, ss, μ)) : am_Wp mv_P (d + 1) jB_validity [.inr (some a)] (nn, ss, μ) Q := by
  obtain ⟨h0, h1, h2, h3⟩ := h
  refine am_wp pB_validity (Nat.le_of_ble_eq_true rfl) ?_
  refine x_aload rfl rfl ?_
  refine x_get rfl (by assumption) rfl ?_
  refine x_iret rfl ?_
  exact hQ
theorem c_B_isFull (h : bxA μ a W n nx vl) (hQ : Q (some (.inl (if 12 ≤ n then 1 else 0))) (nn, ss, μ)) : am_Wp mv_P (d + 1) jB_isFull [.inr (some a)] (nn, ss, μ) Q := by
  obtain ⟨h0, h1, h2, h3⟩ := h
  refine am_wp pB_isFull (Nat.le_of_ble_eq_true rfl) ?_
  refine x_aload rfl rfl ?_
  refine x_get rfl (by assumption) rfl ?_
  refine x_const rfl ?_
  refine x_icmp_lt rfl (fun hc => ?_) (fun hc => ?_)
  · refine x_const rfl ?_
    refine x_zret rfl (by first | exact Or.inl rfl | exact Or.inr rfl | assumption | omega) ?_
    rw [if_neg (by omega)] at hQ
    exact hQ
  · refine x_const rfl ?_
    refine x_goto rfl ?_
    refine x_zret rfl (by first | exact Or.inl rfl | exact Or.inr rfl | assumption | omega) ?_
    rw [if_pos (by omega)] at hQ
    exact hQ
theorem c_B_uidAt {k : Nat} (h : bxA μ a W n nx vl) (hk : k < 12) (hQ : Q (some (.inl (W k).1)) (nn, ss, μ)) : am_Wp mv_P (d + 1) jB_uidAt [.inr (some a), .inl k] (nn, ss, μ) Q := by
  obtain ⟨h0, h1, h2, h3⟩ := h
  refine am_wp pB_uidAt (Nat.le_of_ble_eq_true rfl) ?_
  refine x_aload rfl rfl ?_
  refine x_get rfl (by assumption) rfl ?_
  refine x_iload rfl rfl ?_
  refine x_ialdN (j := k) rfl (by assumption) (by omega) (by omega) ?_
  refine x_iret rfl ?_
  exact hQ
theorem c_B_flagsAt {k : Nat} (h : bxA μ a W n nx vl) (hk : k < 12) (hQ : Q (some (.inl (W k).2.1)) (nn, ss, μ)) : am_Wp mv_P (d + 1) jB_flagsAt [.inr (some a), .inl k] (nn, ss, μ) Q := by
  obtain ⟨h0, h1, h2, h3⟩ := h
  refine am_wp pB_flagsAt (Nat.le_of_ble_eq_true rfl) ?_
  refine x_aload rfl rfl ?_
  refine x_get rfl (by assumption) rfl ?_
  refine x_iload rfl rfl ?_
  refine x_ialdN (j := k) rfl (by assumption) (by omega) (by omega) ?_
  refine x_iret rfl ?_
  exact hQ
theorem c_B_sizeAt {k : Nat} (h : bxA μ a W n nx vl) (hk : k < 12) (hQ : Q (some (.inl (W k).2.2)) (nn, ss, μ)) : am_Wp mv_P (d + 1) jB_sizeAt [.inr (some a), .inl k] (nn, ss, μ) Q := by
  obtain ⟨h0, h1, h2, h3⟩ := h
  refine am_wp pB_sizeAt (Nat.le_of_ble_eq_true rfl) ?_
  refine x_aload rfl rfl ?_
  refine x_get rfl (by assumption) rfl ?_
  refine x_iload rfl rfl ?_
  refine x_ialdN (j := k) rfl (by assumption) (by omega) (by omega) ?_
  refine x_iret rfl ?_
  exact hQ
theorem c_B_growValidity (h : bxA μ a W n nx vl) (hv : 0 ≤ vl ∧ vl < 100000) (hQ : ∀ μ', bxA μ' a W n nx (vl + 1) → fr μ μ' a (a + 4) → Q none (nn, ss, μ')) : am_Wp mv_P (d + 1) jB_growValidity [.inr (some a)] (nn, ss, μ) Q := by
  obtain ⟨h0, h1, h2, h3⟩ := h
  refine am_wp pB_growValidity (Nat.le_of_ble_eq_true rfl) ?_
  refine x_aload rfl rfl ?_
  refine x_dup rfl ?_
  refine x_get rfl (by assumption) rfl ?_
  refine x_const rfl ?_
  refine x_iadd rfl ⟨by omega, by omega⟩ ?_
  refine x_putG rfl (by assumption) (Nat.le_of_ble_eq_true rfl) rfl ?_
  intro μ' hn ho
  refine x_vret rfl ?_
  exact hQ μ' ⟨hn, by rw [ho _ (by omega)]; exact h1, by rw [ho _ (by omega)]; exact h2, by rw [ho _ (by omega)]; exact h3⟩ (fr.one ho (by omega) (by omega))
theorem mv_fu1 (W : Nat → mv_Q) (t : Nat) (q : mv_Q) : am_fu (fun k => (W k).1) t q.1 = fun k => (am_fu W t q k).1 := by
  funext k
  by_cases h : k = t <;> simp [am_fu, h]
theorem mv_fu2 (W : Nat → mv_Q) (t : Nat) (q : mv_Q) : am_fu (fun k => (W k).2.1) t q.2.1 = fun k => (am_fu W t q k).2.1 := by
  funext k
  by_cases h : k = t <;> simp [am_fu, h]
theorem mv_fu3 (W : Nat → mv_Q) (t : Nat) (q : mv_Q) : am_fu (fun k => (W k).2.2) t q.2.2 = fun k => (am_fu W t q k).2.2 := by
  funext k
  by_cases h : k = t <;> simp [am_fu, h]
theorem c_B_setFlagsAt {k : Nat} {z : Int} (h : bxA μ a W n nx vl) (hk : k < 12) (hQ : ∀ μ', bxA μ' a (am_fu W k ((W k).1, z, (W k).2.2)) n nx vl → fr μ μ' a (a + 4) → Q none (nn, ss, μ')) : am_Wp mv_P (d + 1) jB_setFlagsAt [.inr (some a), .inl k, .inl z] (nn, ss, μ) Q := by
  obtain ⟨h0, h1, h2, h3⟩ := h
  refine am_wp pB_setFlagsAt (Nat.le_of_ble_eq_true rfl) ?_
  refine x_aload rfl rfl ?_
  refine x_get rfl (by assumption) rfl ?_
  refine x_iload rfl rfl ?_
  refine x_iload rfl rfl ?_
  refine x_iastN (j := k) rfl (by assumption) (by omega) (by omega) rfl ?_
  intro μ' hn ho
  refine x_vret rfl ?_
  rw [mv_fu2 W k ((W k).1, z, (W k).2.2)] at hn
  refine hQ μ' ⟨by rw [ho _ (by omega)]; exact h0, ?_, hn, ?_⟩ (fr.one ho (by omega) (by omega))
  · rw [ho _ (by omega), h1, ← mv_fu1]
    congr 5
    funext j
    by_cases hj : j = k <;> simp [am_fu, hj]
  · rw [ho _ (by omega), h3, ← mv_fu3]
    congr 5
    funext j
    by_cases hj : j = k <;> simp [am_fu, hj]
theorem c_B_move {f t : Nat} (h : bxA μ a W n nx vl) (hf : f < 12) (ht : t < 12) (hQ : ∀ μ', bxA μ' a (am_fu W t (W f)) n nx vl → fr μ μ' a (a + 4) → Q none (nn, ss, μ')) : am_Wp mv_P (d + 1) jB_move [.inr (some a), .inl f, .inl t] (nn, ss, μ) Q := by
  obtain ⟨h0, h1, h2, h3⟩ := h
  refine am_wp pB_move (Nat.le_of_ble_eq_true rfl) ?_
  refine x_aload rfl rfl ?_
  refine x_get rfl (by assumption) rfl ?_
  refine x_iload rfl rfl ?_
  refine x_aload rfl rfl ?_
  refine x_get rfl (by assumption) rfl ?_
  refine x_iload rfl rfl ?_
  refine x_ialdN (j := f) rfl (by assumption) (by omega) (by omega) ?_
  refine x_iastN (j := t) rfl (by assumption) (by omega) (by omega) rfl ?_
  intro μ1 n1 o1
  have h0 := (o1 a (by omega)).trans h0
  have h2 := (o1 (a + 2) (by omega)).trans h2
  have h3 := (o1 (a + 3) (by omega)).trans h3
  refine x_aload rfl rfl ?_
  refine x_get rfl (by assumption) rfl ?_
  refine x_iload rfl rfl ?_
  refine x_aload rfl rfl ?_
  refine x_get rfl (by assumption) rfl ?_
  refine x_iload rfl rfl ?_
  refine x_ialdN (j := f) rfl (by assumption) (by omega) (by omega) ?_
  refine x_iastN (j := t) rfl (by assumption) (by omega) (by omega) rfl ?_
  intro μ2 n2 o2
  have h0 := (o2 a (by omega)).trans h0
  have n1 := (o2 (a + 1) (by omega)).trans n1
  have h3 := (o2 (a + 3) (by omega)).trans h3
  refine x_aload rfl rfl ?_
  refine x_get rfl (by assumption) rfl ?_
  refine x_iload rfl rfl ?_
  refine x_aload rfl rfl ?_
  refine x_get rfl (by assumption) rfl ?_
  refine x_iload rfl rfl ?_
  refine x_ialdN (j := f) rfl (by assumption) (by omega) (by omega) ?_
  refine x_iastN (j := t) rfl (by assumption) (by omega) (by omega) rfl ?_
  intro μ3 n3 o3
  have h0 := (o3 a (by omega)).trans h0
  have n1 := (o3 (a + 1) (by omega)).trans n1
  have n2 := (o3 (a + 2) (by omega)).trans n2
  refine x_vret rfl ?_
  rw [mv_fu1] at n1
  rw [mv_fu2] at n2
  rw [mv_fu3] at n3
  exact hQ μ3 ⟨h0, n1, n2, n3⟩ (((fr.one o1 (by omega) (by omega)).tr (fr.one o2 (by omega) (by omega))).tr (fr.one o3 (by omega) (by omega)))
end Box
-- the first place of a UID; the length if there is none
def fp : List mv_Q → Int → Nat
  | [], _ => 0
  | q :: l, u => if q.1 = u then 0 else fp l u + 1
theorem mg_0 (q : mv_Q) (l : List mv_Q) : mg (q :: l) 0 = q := rfl
theorem mg_s (q : mv_Q) (l : List mv_Q) (k : Nat) : mg (q :: l) (k + 1) = mg l k := rfl
theorem fp_le : ∀ (l : List mv_Q) (u : Int), fp l u ≤ l.length
  | [], _ => Nat.le_refl 0
  | q :: l, u => by
    unfold fp
    have := fp_le l u
    split
    · omega
    · simp only [List.length_cons]; omega
theorem fp_ne : ∀ (l : List mv_Q) (u : Int) (k : Nat), k < fp l u → (mg l k).1 ≠ u
  | [], _, k, h => by cases h
  | q :: l, u, k, h => by
    unfold fp at h
    split at h
    · cases h
    · next hq =>
      cases k with
      | zero => rw [mg_0]; exact hq
      | succ k => rw [mg_s]; exact fp_ne l u k (by omega)
theorem fp_at : ∀ (l : List mv_Q) (u : Int), fp l u < l.length → (mg l (fp l u)).1 = u
  | [], _, h => by cases h
  | q :: l, u, h => by
    unfold fp at h ⊢
    split
    · next hq => rw [mg_0]; exact hq
    · next hq =>
      rw [if_neg hq, List.length_cons] at h
      rw [mg_s]
      exact fp_at l u (by omega)
theorem fp_is {l : List mv_Q} {u : Int} {k : Nat} (hk : k < l.length) (h : (mg l k).1 = u) (hb : ∀ j, j < k → (mg l j).1 ≠ u) : fp l u = k := by
  have h1 := fp_le l u
  rcases Nat.lt_trichotomy (fp l u) k with hlt | he | hgt
  · exact absurd (fp_at l u (by omega)) (hb _ hlt)
  · exact he
  · exact absurd h (fp_ne l u k hgt)
theorem fp_no {l : List mv_Q} {u : Int} (hb : ∀ j, j < l.length → (mg l j).1 ≠ u) : fp l u = l.length := by
  have h1 := fp_le l u
  rcases Nat.lt_or_ge (fp l u) l.length with hlt | hge
  · exact absurd (fp_at l u hlt) (hb _ hlt)
  · omega
def pz (l : List mv_Q) (u : Int) : Int := if fp l u < l.length then (fp l u : Int) else -1
/-- the mailbox holds the messages l -/
def bxL (l : List mv_Q) (W : Nat → mv_Q) : Prop := l.length ≤ 12 ∧ ∀ k, k < l.length → W k = mg l k
section Box2
variable {d nn ss a : Nat} {μ : Nat → Option am_C} {Q : Option am_V → am_M → Prop} {W : Nat → mv_Q} {nx vl : Int} {l : List mv_Q}
theorem c_B_positionOf {u : Int} (h : bxA μ a W l.length nx vl) (hl : bxL l W) (hQ : Q (some (.inl (pz l u))) (nn, ss, μ)) : am_Wp mv_P (d + 1) jB_positionOf [.inr (some a), .inl u] (nn, ss, μ) Q := by
  obtain ⟨h0, h1, h2, h3⟩ := h
  obtain ⟨hl1, hl2⟩ := hl
  have loop : ∀ (m k : Nat), k + m = l.length → (∀ j, j < k → (mg l j).1 ≠ u) → am_Ex mv_P d (am_at kB_positionOf) (2, [some (.inr (some a)), some (.inl u), some (.inl (k : Int))], [], nn, ss, μ) Q := by
    intro m
    induction m with
    | zero =>
      intro k hk hb
      refine x_iload rfl rfl ?_
      refine x_aload rfl rfl ?_
      refine x_get rfl (by assumption) rfl ?_
      refine x_icmp_ge rfl (fun hc => ?_) (fun hc => ?_)
      · refine x_const rfl ?_
        refine x_iret rfl ?_
        have e : pz l u = -1 := by
          unfold pz
          rw [if_neg]
          rw [fp_no (fun j hj => hb j (by omega))]
          omega
        rw [e] at hQ
        exact hQ
      · exact absurd hc (by omega)
    | succ m ih =>
      intro k hk hb
      refine x_iload rfl rfl ?_
      refine x_aload rfl rfl ?_
      refine x_get rfl (by assumption) rfl ?_
      refine x_icmp_ge rfl (fun hc => ?_) (fun hc => ?_)
      · exact absurd hc (by omega)
      · refine x_aload rfl rfl ?_
        refine x_get rfl (by assumption) rfl ?_
        refine x_iload rfl rfl ?_
        refine x_ialdN (j := k) rfl (by assumption) (by omega) (by omega) ?_
        refine x_iload rfl rfl ?_
        refine x_icmp_ne rfl (fun hc => ?_) (fun hc => ?_)
        · refine x_iinc rfl rfl ⟨by omega, by omega⟩ ?_
          refine x_goto rfl ?_
          refine ih (k + 1) (by omega) (fun j hj => ?_)
          rcases Nat.lt_or_ge j k with hjk | hjk
          · exact hb j hjk
          · rw [show j = k by omega, ← hl2 k (by omega)]
            exact hc
        · refine x_iload rfl rfl ?_
          refine x_iret rfl ?_
          have e : pz l u = k := by
            unfold pz
            rw [fp_is (k := k) (by omega) (by rw [← hl2 k (by omega)]; exact Classical.not_not.mp hc) hb, if_pos (by omega)]
          rw [e] at hQ
          exact hQ
  refine am_wp pB_positionOf (Nat.le_of_ble_eq_true rfl) ?_
  refine x_const rfl ?_
  refine x_istore rfl (Nat.le_of_ble_eq_true rfl) ?_
  exact loop l.length 0 (by omega) (fun j hj => by omega)
def sh (W : Nat → mv_Q) (i j : Nat) : Nat → mv_Q := fun k => if i ≤ k ∧ k + 1 < j then W (k + 1) else W k
theorem sh_0 (W : Nat → mv_Q) (i : Nat) : sh W i (i + 1) = W := by
  funext k
  unfold sh
  rw [if_neg (by omega)]
theorem sh_s (W : Nat → mv_Q) {i j : Nat} (h : i < j) : am_fu (sh W i j) (j - 1) (sh W i j j) = sh W i (j + 1) := by
  funext k
  unfold am_fu sh
  by_cases hk : k = j - 1
  · subst hk
    rw [if_pos rfl, if_neg (by omega), if_pos (by omega), show j - 1 + 1 = j by omega]
  · rw [if_neg hk]
    by_cases h2 : i ≤ k ∧ k + 1 < j
    · rw [if_pos h2, if_pos (by omega)]
    · rw [if_neg h2, if_neg (by omega)]
theorem c_B_removeAt {n i : Nat} (h : bxA μ a W n nx vl) (hi : i < n) (hn12 : n ≤ 12) (hQ : ∀ μ', bxA μ' a (sh W i n) (n - 1) nx vl → fr μ μ' a (a + 4) → Q none (nn, ss, μ')) : am_Wp mv_P (d + 2) jB_removeAt [.inr (some a), .inl i] (nn, ss, μ) Q := by
  have loop : ∀ (m j : Nat) (μ' : Nat → Option am_C), j + m = n → i + 1 ≤ j → bxA μ' a (sh W i j) n nx vl → fr μ μ' a (a + 4) → am_Ex mv_P (d + 1) (am_at kB_removeAt) (17, [some (.inr (some a)), some (.inl (i : Int)), some (.inl (j : Int))], [], nn, ss, μ') Q := by
    intro m
    induction m with
    | zero =>
      intro j μ' hj hij hb hf
      obtain ⟨h0, h1, h2, h3⟩ := hb
      refine x_iload rfl rfl ?_
      refine x_aload rfl rfl ?_
      refine x_get rfl (by assumption) rfl ?_
      refine x_icmp_ge rfl (fun hc => ?_) (fun hc => ?_)
      · refine x_aload rfl rfl ?_
        refine x_dup rfl ?_
        refine x_get rfl (by assumption) rfl ?_
        refine x_const rfl ?_
        refine x_isub rfl ⟨by omega, by omega⟩ ?_
        refine x_putG rfl (by assumption) (Nat.le_of_ble_eq_true rfl) rfl ?_
        intro μ2 hn ho
        refine x_vret rfl ?_
        rw [show j = n by omega] at h1 h2 h3
        refine hQ μ2 ⟨?_, by rw [ho _ (by omega)]; exact h1, by rw [ho _ (by omega)]; exact h2, by rw [ho _ (by omega)]; exact h3⟩ (hf.tr (fr.one ho (by omega) (by omega)))
        rw [hn, show ((n - 1 : Nat) : Int) = (n : Int) - 1 by omega]
        rfl
      · exact absurd hc (by omega)
    | succ m ih =>
      intro j μ' hj hij hb hf
      have hb' := hb
      obtain ⟨h0, h1, h2, h3⟩ := hb
      refine x_iload rfl rfl ?_
      refine x_aload rfl rfl ?_
      refine x_get rfl (by assumption) rfl ?_
      refine x_icmp_ge rfl (fun hc => ?_) (fun hc => ?_)
      · exact absurd hc (by omega)
      · refine x_aload rfl rfl ?_
        refine x_iload rfl rfl ?_
        refine x_iload rfl rfl ?_
        refine x_const rfl ?_
        refine x_isub rfl ⟨by omega, by omega⟩ ?_
        refine x_callV2 rfl (by assumption) (Nat.le_of_ble_eq_true rfl) ?_
        rw [show ((j : Int) - 1) = ((j - 1 : Nat) : Int) by omega]
        refine c_B_move hb' (by omega) (by omega) (fun μ2 hb2 hf2 => ?_)
        rw [sh_s W (by omega)] at hb2
        refine x_iinc rfl rfl ⟨by omega, by omega⟩ ?_
        refine x_goto rfl ?_
        exact ih (j + 1) μ2 (by omega) (by omega) hb2 (hf.tr hf2)
  have h' := h
  obtain ⟨h0, h1, h2, h3⟩ := h
  refine am_wp pB_removeAt (Nat.le_of_ble_eq_true rfl) ?_
  refine x_iload rfl rfl ?_
  refine x_if_lt rfl (fun hc => ?_) (fun hc => ?_)
  · exact absurd hc (by omega)
  · refine x_iload rfl rfl ?_
    refine x_aload rfl rfl ?_
    refine x_get rfl (by assumption) rfl ?_
    refine x_icmp_lt rfl (fun hc => ?_) (fun hc => ?_)
    · refine x_iload rfl rfl ?_
      refine x_const rfl ?_
      refine x_iadd rfl ⟨by omega, by omega⟩ ?_
      refine x_istore rfl (Nat.le_of_ble_eq_true rfl) ?_
      exact loop (n - (i + 1)) (i + 1) μ (by omega) (by omega) (by rw [sh_0]; exact h') fr.rf
    · exact absurd hc (by omega)
def si (W : Nat → mv_Q) (n t : Nat) : Nat → mv_Q := fun k => if t < k ∧ k ≤ n then W (k - 1) else W k
theorem si_0 (W : Nat → mv_Q) (n : Nat) : si W n n = W := by
  funext k
  unfold si
  rw [if_neg (by omega)]
theorem si_s (W : Nat → mv_Q) {n t : Nat} (h : t + 1 ≤ n) : am_fu (si W n (t + 1)) (t + 1) (si W n (t + 1) t) = si W n t := by
  funext k
  unfold am_fu si
  by_cases hk : k = t + 1
  · subst hk
    rw [if_pos rfl, if_neg (by omega), if_pos (by omega), show t + 1 - 1 = t by omega]
  · rw [if_neg hk]
    by_cases h2 : t + 1 < k ∧ k ≤ n
    · rw [if_pos h2, if_pos (by omega)]
    · rw [if_neg h2, if_neg (by omega)]
theorem c_B_insert {n : Nat} {u f z : Int} (h : bxA μ a W n nx vl) (hn12 : n < 12) (hQ : ∀ (μ' : Nat → Option am_C) (p : Nat), p ≤ n → (∀ k, p ≤ k → k < n → u < (W k).1) → (p = 0 ∨ (W (p - 1)).1 ≤ u) → bxA μ' a (am_fu (si W n p) p (u, f, z)) (n + 1) nx vl → fr μ μ' a (a + 4) → Q none (nn, ss, μ')) : am_Wp mv_P (d + 2) jB_insert [.inr (some a), .inl u, .inl f, .inl z] (nn, ss, μ) Q := by
  have fin : ∀ (t : Nat) (μ' : Nat → Option am_C), t ≤ n → (∀ k, t ≤ k → k < n → u < (W k).1) → (t = 0 ∨ (W (t - 1)).1 ≤ u) → bxA μ' a (si W n t) n nx vl → fr μ μ' a (a + 4) → am_Ex mv_P (d + 1) (am_at kB_insert) (48, [some (.inr (some a)), some (.inl u), some (.inl f), some (.inl z), some (.inl (t : Int))], [], nn, ss, μ') Q := by
    intro t μ' ht hg hl hb hf
    obtain ⟨h0, h1, h2, h3⟩ := hb
    refine x_aload rfl rfl ?_
    refine x_get rfl (by assumption) rfl ?_
    refine x_iload rfl rfl ?_
    refine x_iload rfl rfl ?_
    refine x_iastN (j := t) rfl (by assumption) (by omega) (by omega) rfl ?_
    intro μ1 n1 o1
    have h0 := (o1 a (by omega)).trans h0
    have h2 := (o1 (a + 2) (by omega)).trans h2
    have h3 := (o1 (a + 3) (by omega)).trans h3
    refine x_aload rfl rfl ?_
    refine x_get rfl (by assumption) rfl ?_
    refine x_iload rfl rfl ?_
    refine x_iload rfl rfl ?_
    refine x_iastN (j := t) rfl (by assumption) (by omega) (by omega) rfl ?_
    intro μ2 n2 o2
    have h0 := (o2 a (by omega)).trans h0
    have n1 := (o2 (a + 1) (by omega)).trans n1
    have h3 := (o2 (a + 3) (by omega)).trans h3
    refine x_aload rfl rfl ?_
    refine x_get rfl (by assumption) rfl ?_
    refine x_iload rfl rfl ?_
    refine x_iload rfl rfl ?_
    refine x_iastN (j := t) rfl (by assumption) (by omega) (by omega) rfl ?_
    intro μ3 n3 o3
    have h0 := (o3 a (by omega)).trans h0
    have n1 := (o3 (a + 1) (by omega)).trans n1
    have n2 := (o3 (a + 2) (by omega)).trans n2
    refine x_aload rfl rfl ?_
    refine x_dup rfl ?_
    refine x_get rfl (by assumption) rfl ?_
    refine x_const rfl ?_
    refine x_iadd rfl ⟨by omega, by omega⟩ ?_
    refine x_putG rfl (by assumption) (Nat.le_of_ble_eq_true rfl) rfl ?_
    intro μ4 n4 o4
    have n1 := (o4 (a + 1) (by omega)).trans n1
    have n2 := (o4 (a + 2) (by omega)).trans n2
    have n3 := (o4 (a + 3) (by omega)).trans n3
    refine x_vret rfl ?_
    rw [mv_fu1 (si W n t) t (u, f, z)] at n1
    rw [mv_fu2 (si W n t) t (u, f, z)] at n2
    rw [mv_fu3 (si W n t) t (u, f, z)] at n3
    refine hQ μ4 t ht hg hl ⟨?_, n1, n2, n3⟩ (hf.tr ((((fr.one o1 (by omega) (by omega)).tr (fr.one o2 (by omega) (by omega))).tr (fr.one o3 (by omega) (by omega))).tr (fr.one o4 (by omega) (by omega))))
    rw [n4]
    rfl
  have loop : ∀ (t : Nat) (μ' : Nat → Option am_C), t ≤ n → (∀ k, t ≤ k → k < n → u < (W k).1) → bxA μ' a (si W n t) n nx vl → fr μ μ' a (a + 4) → am_Ex mv_P (d + 1) (am_at kB_insert) (14, [some (.inr (some a)), some (.inl u), some (.inl f), some (.inl z), some (.inl (t : Int))], [], nn, ss, μ') Q := by
    intro t
    induction t with
    | zero =>
      intro μ' ht hg hb hf
      refine x_iload rfl rfl ?_
      refine x_if_le rfl (fun hc => ?_) (fun hc => ?_)
      · exact fin 0 μ' ht hg (Or.inl rfl) hb hf
      · exact absurd hc (by omega)
    | succ t ih =>
      intro μ' ht hg hb hf
      have hb' := hb
      obtain ⟨h0, h1, h2, h3⟩ := hb
      have et : ((t + 1 : Nat) : Int) - 1 = (t : Int) := by omega
      refine x_iload rfl rfl ?_
      refine x_if_le rfl (fun hc => ?_) (fun hc => ?_)
      · exact absurd hc (by omega)
      · refine x_aload rfl rfl ?_
        refine x_get rfl (by assumption) rfl ?_
        refine x_iload rfl rfl ?_
        refine x_const rfl ?_
        refine x_isub rfl ⟨by omega, by omega⟩ ?_
        refine x_ialdN (j := t) rfl (by assumption) (by omega) (by omega) ?_
        refine x_iload rfl rfl ?_
        refine x_icmp_le rfl (fun hc => ?_) (fun hc => ?_)
        · have e1 : si W n (t + 1) t = W t := by
            unfold si
            rw [if_neg (by omega)]
          rw [e1] at hc
          exact fin (t + 1) μ' ht hg (Or.inr hc) hb' hf
        · have e1 : si W n (t + 1) t = W t := by
            unfold si
            rw [if_neg (by omega)]
          rw [e1] at hc
          refine x_aload rfl rfl ?_
          refine x_iload rfl rfl ?_
          refine x_const rfl ?_
          refine x_isub rfl ⟨by omega, by omega⟩ ?_
          refine x_iload rfl rfl ?_
          refine x_callV2 rfl (by assumption) (Nat.le_of_ble_eq_true rfl) ?_
          rw [et]
          refine c_B_move hb' (by omega) (by omega) (fun μ2 hb2 hf2 => ?_)
          rw [si_s W (by omega)] at hb2
          refine x_iinc rfl rfl ⟨by omega, by omega⟩ ?_
          refine x_goto rfl ?_
          rw [show ((t + 1 : Nat) : Int) + -1 = (t : Int) by omega]
          refine ih μ2 (by omega) (fun k hk hkn => ?_) hb2 (hf.tr hf2)
          rcases Nat.lt_or_ge t k with hlt | hge
          · exact hg k (by omega) hkn
          · rw [show k = t by omega]
            omega
  have h' := h
  obtain ⟨h0, h1, h2, h3⟩ := h
  refine am_wp pB_insert (Nat.le_of_ble_eq_true rfl) ?_
  refine x_aload rfl rfl ?_
  refine x_callV0 rfl (by assumption) (Nat.le_of_ble_eq_true rfl) ?_
  refine c_B_isFull h' ?_
  rw [if_neg (show ¬ 12 ≤ n by omega)]
  refine x_if_eq rfl (fun hc => ?_) (fun hc => ?_)
  · refine x_aload rfl rfl ?_
    refine x_get rfl (by assumption) rfl ?_
    refine x_istore rfl (Nat.le_of_ble_eq_true rfl) ?_
    exact loop n μ (Nat.le_refl n) (fun k h1 h2 => by omega) (by rw [si_0]; exact h') fr.rf
  · exact absurd rfl hc
theorem c_B_addNew {n : Nat} {f z : Int} (h : bxA μ a W n nx vl) (hn12 : n < 12) (hx : 0 ≤ nx ∧ nx < 100000) (hu : ∀ k, k < n → (W k).1 < nx) (hQ : ∀ μ', bxA μ' a (am_fu W n (nx, f, z)) (n + 1) (nx + 1) vl → fr μ μ' a (a + 4) → Q (some (.inl nx)) (nn, ss, μ')) : am_Wp mv_P (d + 3) jB_addNew [.inr (some a), .inl f, .inl z] (nn, ss, μ) Q := by
  obtain ⟨h0, h1, h2, h3⟩ := h
  refine am_wp pB_addNew (Nat.le_of_ble_eq_true rfl) ?_
  refine x_aload rfl rfl ?_
  refine x_get rfl (by assumption) rfl ?_
  refine x_istore rfl (Nat.le_of_ble_eq_true rfl) ?_
  refine x_aload rfl rfl ?_
  refine x_dup rfl ?_
  refine x_get rfl (by assumption) rfl ?_
  refine x_const rfl ?_
  refine x_iadd rfl ⟨by omega, by omega⟩ ?_
  refine x_putG rfl (by assumption) (Nat.le_of_ble_eq_true rfl) rfl ?_
  intro μ1 n1 o1
  have h1 := (o1 (a + 1) (by omega)).trans h1
  have h2 := (o1 (a + 2) (by omega)).trans h2
  have h3 := (o1 (a + 3) (by omega)).trans h3
  have hb : bxA μ1 a W n (nx + 1) vl := ⟨n1, h1, h2, h3⟩
  refine x_aload rfl rfl ?_
  refine x_iload rfl rfl ?_
  refine x_iload rfl rfl ?_
  refine x_iload rfl rfl ?_
  refine x_callV3 rfl (by assumption) (Nat.le_of_ble_eq_true rfl) ?_
  refine c_B_insert hb hn12 (fun μ2 p hp hg hl hb2 hf2 => ?_)
  have e : p = n := by
    rcases Nat.lt_or_ge p n with hlt | hge
    · have e1 := hg p (Nat.le_refl p) hlt
      have e2 := hu p hlt
      omega
    · omega
  rw [e, si_0] at hb2
  refine x_iload rfl rfl ?_
  refine x_iret rfl ?_
  exact hQ μ2 hb2 ((fr.one o1 (by omega) (by omega)).tr hf2)
theorem c_B_takeBackAdded {u : Int} (h : bxA μ a W l.length nx vl) (hl : bxL l W) (hu : fp l u < l.length) (hQ : ∀ μ', bxA μ' a (sh W (fp l u) l.length) (l.length - 1) u vl → fr μ μ' a (a + 4) → Q none (nn, ss, μ')) : am_Wp mv_P (d + 3) jB_takeBackAdded [.inr (some a), .inl u] (nn, ss, μ) Q := by
  have h' := h
  obtain ⟨h0, h1, h2, h3⟩ := h
  refine am_wp pB_takeBackAdded (Nat.le_of_ble_eq_true rfl) ?_
  refine x_aload rfl rfl ?_
  refine x_aload rfl rfl ?_
  refine x_iload rfl rfl ?_
  refine x_callV1 rfl (by assumption) (Nat.le_of_ble_eq_true rfl) ?_
  refine c_B_positionOf h' hl ?_
  have e : pz l u = (fp l u : Int) := by
    unfold pz
    rw [if_pos hu]
  rw [e]
  refine x_callV1 rfl (by assumption) (Nat.le_of_ble_eq_true rfl) ?_
  refine c_B_removeAt h' hu hl.1 (fun μ2 hb2 hf2 => ?_)
  obtain ⟨h0, h1, h2, h3⟩ := hb2
  refine x_aload rfl rfl ?_
  refine x_iload rfl rfl ?_
  refine x_putG rfl (by assumption) (Nat.le_of_ble_eq_true rfl) rfl ?_
  intro μ3 n3 o3
  have h1 := (o3 (a + 1) (by omega)).trans h1
  have h2 := (o3 (a + 2) (by omega)).trans h2
  have h3 := (o3 (a + 3) (by omega)).trans h3
  refine x_vret rfl ?_
  exact hQ μ3 ⟨n3, h1, h2, h3⟩ (hf2.tr (fr.one o3 (by omega) (by omega)))
theorem c_B_restoreFlags {u z : Int} (h : bxA μ a W l.length nx vl) (hl : bxL l W) (hu : fp l u < l.length) (hQ : ∀ μ', bxA μ' a (am_fu W (fp l u) ((W (fp l u)).1, z, (W (fp l u)).2.2)) l.length nx vl → fr μ μ' a (a + 4) → Q none (nn, ss, μ')) : am_Wp mv_P (d + 2) jB_restoreFlags [.inr (some a), .inl u, .inl z] (nn, ss, μ) Q := by
  have h' := h
  obtain ⟨h0, h1, h2, h3⟩ := h
  have hl1 := hl.1
  refine am_wp pB_restoreFlags (Nat.le_of_ble_eq_true rfl) ?_
  refine x_aload rfl rfl ?_
  refine x_iload rfl rfl ?_
  refine x_callV1 rfl (by assumption) (Nat.le_of_ble_eq_true rfl) ?_
  refine c_B_positionOf h' hl ?_
  have e : pz l u = (fp l u : Int) := by
    unfold pz
    rw [if_pos hu]
  rw [e]
  refine x_istore rfl (Nat.le_of_ble_eq_true rfl) ?_
  refine x_iload rfl rfl ?_
  refine x_const rfl ?_
  refine x_icmp_eq rfl (fun hc => ?_) (fun hc => ?_)
  · exact absurd hc (by omega)
  · refine x_aload rfl rfl ?_
    refine x_get rfl (by assumption) rfl ?_
    refine x_iload rfl rfl ?_
    refine x_iload rfl rfl ?_
    refine x_iastN (j := fp l u) rfl (by assumption) (by omega) (by omega) rfl ?_
    intro μ' hn ho
    refine x_vret rfl ?_
    rw [mv_fu2 W (fp l u) ((W (fp l u)).1, z, (W (fp l u)).2.2)] at hn
    refine hQ μ' ⟨by rw [ho _ (by omega)]; exact h0, ?_, hn, ?_⟩ (fr.one ho (by omega) (by omega))
    · rw [ho _ (by omega), h1, ← mv_fu1]
      congr 5
      funext j
      by_cases hj : j = fp l u <;> simp [am_fu, hj]
    · rw [ho _ (by omega), h3, ← mv_fu3]
      congr 5
      funext j
      by_cases hj : j = fp l u <;> simp [am_fu, hj]
end Box2
end
section
/-! the log of changes, and what a mailbox is behind it -/
abbrev mv_H : Type := Int × Int × Int × Int × Int
abbrev mv_B : Type := List mv_Q × Int
def ap (c : mv_H) (b : mv_B) : mv_B :=
  if c.1 = 1 then (b.1 ++ [(c.2.2.1, c.2.2.2.1, c.2.2.2.2)], c.2.2.1 + 1)
  else if c.1 = 2 then (b.1.eraseIdx (fp b.1 c.2.2.1), b.2)
  else (b.1.set (fp b.1 c.2.2.1) ((mg b.1 (fp b.1 c.2.2.1)).1, c.2.2.2.1, (mg b.1 (fp b.1 c.2.2.1)).2.2), b.2)
def apS (S : Nat → mv_B) (c : mv_H) : Nat → mv_B := am_fu S c.2.1.toNat (ap c (S c.2.1.toNat))
def rp (lg : List mv_H) : Nat → mv_B := lg.foldl apS (fun _ => ([], 1))
theorem rp_nil : rp [] = fun _ => ([], 1) := rfl
theorem rp_app (lg : List mv_H) (c : mv_H) : rp (lg ++ [c]) = apS (rp lg) c := by
  unfold rp
  rw [List.foldl_append]
  rfl
theorem mg_app (l : List mv_Q) (q : mv_Q) (k : Nat) : mg (l ++ [q]) k = if k < l.length then mg l k else if k = l.length then q else (0, 0, 0) := by
  unfold mg
  rw [List.getD_eq_getElem?_getD, List.getD_eq_getElem?_getD]
  by_cases h : k < l.length
  · rw [if_pos h, List.getElem?_append_left h]
  · rw [if_neg h, List.getElem?_append_right (by omega)]
    by_cases h2 : k = l.length
    · rw [if_pos h2, h2, Nat.sub_self]
      rfl
    · rw [if_neg h2, List.getElem?_eq_none (by simp; omega)]
      rfl
theorem mg_er (l : List mv_Q) (i k : Nat) : mg (l.eraseIdx i) k = if k < i then mg l k else mg l (k + 1) := by
  unfold mg
  rw [List.getD_eq_getElem?_getD, List.getElem?_eraseIdx]
  by_cases h : k < i
  · rw [if_pos h, if_pos h, List.getD_eq_getElem?_getD]
  · rw [if_neg h, if_neg h, List.getD_eq_getElem?_getD]
theorem mg_set (l : List mv_Q) (i k : Nat) (q : mv_Q) : mg (l.set i q) k = if k = i ∧ i < l.length then q else mg l k := by
  unfold mg
  rw [List.getD_eq_getElem?_getD, List.getD_eq_getElem?_getD]
  by_cases h : k = i
  · subst h
    by_cases h2 : k < l.length
    · rw [if_pos ⟨rfl, h2⟩, List.getElem?_set_self h2]
      rfl
    · rw [if_neg (fun q => h2 q.2), List.getElem?_eq_none (by rw [List.length_set]; omega), List.getElem?_eq_none (by omega)]
  · rw [if_neg (fun q => h q.1), List.getElem?_set_ne (fun q => h q.symm)]
theorem mg_ext {l l' : List mv_Q} (hl : l.length = l'.length) (h : ∀ k, k < l.length → mg l k = mg l' k) : l = l' := by
  apply List.ext_getElem? 
  intro k
  by_cases hk : k < l.length
  · have e := h k hk
    unfold mg at e
    rw [List.getD_eq_getElem?_getD, List.getD_eq_getElem?_getD] at e
    rw [List.getElem?_eq_getElem hk, List.getElem?_eq_getElem (by omega)] at e ⊢
    simpa using e
  · rw [List.getElem?_eq_none (by omega), List.getElem?_eq_none (by omega)]
/-- UIDs grow -/
def so (l : List mv_Q) : Prop := ∀ i j, i < j → j < l.length → (mg l i).1 < (mg l j).1
/-- a mailbox in order: UIDs grow, lie in 1 .. next-1; at most 12 -/
def wb (b : mv_B) : Prop := so b.1 ∧ b.1.length ≤ 12 ∧ 1 ≤ b.2 ∧ ∀ k, k < b.1.length → 1 ≤ (mg b.1 k).1 ∧ (mg b.1 k).1 < b.2
/-- a change that can be done -/
def vc (c : mv_H) (b : mv_B) : Prop := (c.1 = 1 ∧ c.2.2.1 = b.2 ∧ b.1.length < 12) ∨ ((c.1 = 2 ∨ c.1 = 3) ∧ fp b.1 c.2.2.1 < b.1.length)
theorem wb_0 : wb ([], 1) := ⟨fun i j h1 h2 => (by cases h2), by decide, by decide, fun k h => (by cases h)⟩
theorem er_len {l : List mv_Q} {i : Nat} (h : i < l.length) : (l.eraseIdx i).length = l.length - 1 := List.length_eraseIdx_of_lt h
theorem wb_ap {c : mv_H} {b : mv_B} (h : wb b) (hv : vc c b) : wb (ap c b) := by
  obtain ⟨h1, h2, h3, h4⟩ := h
  unfold ap
  rcases hv with ⟨k1, k2, k3⟩ | ⟨k1, k2⟩
  · rw [if_pos k1]
    refine ⟨fun i j hij hj => ?_, by simp; omega, by simp only; omega, fun k hk => ?_⟩
    · simp only [List.length_append, List.length_cons, List.length_nil] at hj
      simp only [mg_app]
      rw [if_pos (show i < b.1.length by omega)]
      by_cases hj2 : j < b.1.length
      · rw [if_pos hj2]
        exact h1 i j hij hj2
      · rw [if_neg hj2, if_pos (by omega), k2]
        exact (h4 i (by omega)).2
    · simp only [List.length_append, List.length_cons, List.length_nil] at hk
      simp only [mg_app]
      by_cases hk2 : k < b.1.length
      · rw [if_pos hk2]
        have := h4 k hk2
        omega
      · rw [if_neg hk2, if_pos (by omega)]
        simp only
        omega
  · have hn1 : ¬ c.1 = 1 := by omega
    rw [if_neg hn1]
    rcases k1 with k1 | k1
    · rw [if_pos k1]
      refine ⟨fun i j hij hj => ?_, by rw [er_len k2]; omega, h3, fun k hk => ?_⟩
      · rw [er_len k2] at hj
        simp only [mg_er]
        split <;> split <;> exact h1 _ _ (by omega) (by omega)
      · rw [er_len k2] at hk
        simp only [mg_er]
        split <;> exact h4 _ (by omega)
    · rw [if_neg (by omega)]
      have key : ∀ k, k < b.1.length → (mg (b.1.set (fp b.1 c.2.2.1) ((mg b.1 (fp b.1 c.2.2.1)).1, c.2.2.2.1, (mg b.1 (fp b.1 c.2.2.1)).2.2)) k).1 = (mg b.1 k).1 := by
        intro k hk
        rw [mg_set]
        split
        · next hq => rw [hq.1]
        · rfl
      refine ⟨fun i j hij hj => ?_, by rw [List.length_set]; exact h2, h3, fun k hk => ?_⟩
      · rw [List.length_set] at hj
        rw [key i (by omega), key j hj]
        exact h1 i j hij hj
      · rw [List.length_set] at hk
        rw [key k hk]
        exact h4 k hk
/-- the mailbox at a holds b -/
def bx (μ : Nat → Option am_C) (a : Nat) (b : mv_B) (vl : Int) : Prop := ∃ W, bxA μ a W b.1.length b.2 vl ∧ bxL b.1 W
theorem bx.fr {μ μ' : Nat → Option am_C} {a lo hi : Nat} {b : mv_B} {vl : Int} (h : bx μ a b vl) (hf : fr μ μ' lo hi) (ho : a + 4 ≤ lo ∨ hi ≤ a) : bx μ' a b vl := by
  obtain ⟨W, h1, h2⟩ := h
  exact ⟨W, h1.fr hf ho, h2⟩
section Box3
variable {d nn ss a : Nat} {μ : Nat → Option am_C} {Q : Option am_V → am_M → Prop} {vl : Int} {b : mv_B}
theorem d_B_addNew {f z : Int} (m : Int) (h : bx μ a b vl) (hw : wb b) (hn : b.1.length < 12) (hx : b.2 < 100000) (hQ : ∀ μ', bx μ' a (ap (1, m, b.2, f, z) b) vl → fr μ μ' a (a + 4) → Q (some (.inl b.2)) (nn, ss, μ')) : am_Wp mv_P (d + 3) jB_addNew [.inr (some a), .inl f, .inl z] (nn, ss, μ) Q := by
  obtain ⟨W, h1, h2, h3⟩ := h
  obtain ⟨w1, w2, w3, w4⟩ := hw
  refine c_B_addNew h1 hn ⟨by omega, hx⟩ (fun k hk => by rw [h3 k hk]; exact (w4 k hk).2) (fun μ' hb hf => hQ μ' ⟨am_fu W b.1.length (b.2, f, z), ?_, ?_⟩ hf)
  · have e : (ap (1, m, b.2, f, z) b) = (b.1 ++ [(b.2, f, z)], b.2 + 1) := rfl
    rw [e, List.length_append]
    exact hb
  · have e : (ap (1, m, b.2, f, z) b) = (b.1 ++ [(b.2, f, z)], b.2 + 1) := rfl
    rw [e]
    refine ⟨by simp; omega, fun k hk => ?_⟩
    simp only [List.length_append, List.length_cons, List.length_nil] at hk
    rw [mg_app]
    by_cases hk2 : k < b.1.length
    · rw [if_pos hk2, am_fu_n (by omega)]
      exact h3 k hk2
    · rw [if_neg hk2, if_pos (by omega), show k = b.1.length by omega, am_fu_s]
theorem d_B_removeAt {i : Nat} (h : bx μ a b vl) (hi : i < b.1.length) (hQ : ∀ μ', bx μ' a (b.1.eraseIdx i, b.2) vl → fr μ μ' a (a + 4) → Q none (nn, ss, μ')) : am_Wp mv_P (d + 2) jB_removeAt [.inr (some a), .inl i] (nn, ss, μ) Q := by
  obtain ⟨W, h1, h2, h3⟩ := h
  refine c_B_removeAt h1 hi h2 (fun μ' hb hf => hQ μ' ⟨sh W i b.1.length, ?_, ?_⟩ hf)
  · rw [er_len hi]
    exact hb
  · refine ⟨by rw [er_len hi]; omega, fun k hk => ?_⟩
    rw [er_len hi] at hk
    rw [mg_er]
    unfold sh
    by_cases hk2 : k < i
    · rw [if_pos hk2, if_neg (by omega)]
      exact h3 k (by omega)
    · rw [if_neg hk2, if_pos (by omega)]
      exact h3 (k + 1) (by omega)
theorem bxL_set {l : List mv_Q} {W : Nat → mv_Q} {i : Nat} {z : Int} (h : bxL l W) (hi : i < l.length) : bxL (l.set i ((mg l i).1, z, (mg l i).2.2)) (am_fu W i ((W i).1, z, (W i).2.2)) := by
  obtain ⟨h2, h3⟩ := h
  refine ⟨by rw [List.length_set]; exact h2, fun k hk => ?_⟩
  rw [List.length_set] at hk
  rw [mg_set]
  by_cases hk2 : k = i
  · rw [if_pos ⟨hk2, hi⟩, hk2, am_fu_s, h3 i hi]
  · rw [if_neg (fun q => hk2 q.1), am_fu_n hk2]
    exact h3 k hk
theorem d_B_setFlagsAt {i : Nat} {z : Int} (h : bx μ a b vl) (hi : i < b.1.length) (hQ : ∀ μ', bx μ' a (b.1.set i ((mg b.1 i).1, z, (mg b.1 i).2.2), b.2) vl → fr μ μ' a (a + 4) → Q none (nn, ss, μ')) : am_Wp mv_P (d + 1) jB_setFlagsAt [.inr (some a), .inl i, .inl z] (nn, ss, μ) Q := by
  obtain ⟨W, h1, h2⟩ := h
  have h12 := h2.1
  refine c_B_setFlagsAt h1 (by omega) (fun μ' hb hf => hQ μ' ⟨_, ?_, bxL_set h2 hi⟩ hf)
  rw [List.length_set]
  exact hb
theorem d_B_restoreFlags {u z : Int} (h : bx μ a b vl) (hu : fp b.1 u < b.1.length) (hQ : ∀ μ', bx μ' a (b.1.set (fp b.1 u) ((mg b.1 (fp b.1 u)).1, z, (mg b.1 (fp b.1 u)).2.2), b.2) vl → fr μ μ' a (a + 4) → Q none (nn, ss, μ')) : am_Wp mv_P (d + 2) jB_restoreFlags [.inr (some a), .inl u, .inl z] (nn, ss, μ) Q := by
  obtain ⟨W, h1, h2⟩ := h
  refine c_B_restoreFlags h1 h2 hu (fun μ' hb hf => hQ μ' ⟨_, ?_, bxL_set h2 hu⟩ hf)
  rw [List.length_set]
  exact hb
theorem d_B_takeBackAdded {u : Int} (h : bx μ a b vl) (hu : fp b.1 u < b.1.length) (hQ : ∀ μ', bx μ' a (b.1.eraseIdx (fp b.1 u), u) vl → fr μ μ' a (a + 4) → Q none (nn, ss, μ')) : am_Wp mv_P (d + 3) jB_takeBackAdded [.inr (some a), .inl u] (nn, ss, μ) Q := by
  obtain ⟨W, h1, h2, h3⟩ := h
  refine c_B_takeBackAdded h1 ⟨h2, h3⟩ hu (fun μ' hb hf => hQ μ' ⟨sh W (fp b.1 u) b.1.length, ?_, ?_⟩ hf)
  · rw [er_len hu]
    exact hb
  · refine ⟨by rw [er_len hu]; omega, fun k hk => ?_⟩
    rw [er_len hu] at hk
    rw [mg_er]
    unfold sh
    by_cases hk2 : k < fp b.1 u
    · rw [if_pos hk2, if_neg (by omega)]
      exact h3 k (by omega)
    · rw [if_neg hk2, if_pos (by omega)]
      exact h3 (k + 1) (by omega)
/-- a removed message comes back to its place -/
theorem d_B_insert {i : Nat} (hs : so b.1) (h12 : b.1.length ≤ 12) (hi : i < b.1.length) (h : bx μ a (b.1.eraseIdx i, b.2) vl) (hQ : ∀ μ', bx μ' a b vl → fr μ μ' a (a + 4) → Q none (nn, ss, μ')) : am_Wp mv_P (d + 2) jB_insert [.inr (some a), .inl (mg b.1 i).1, .inl (mg b.1 i).2.1, .inl (mg b.1 i).2.2] (nn, ss, μ) Q := by
  obtain ⟨W, h1, h2, h3⟩ := h
  have el : (b.1.eraseIdx i).length = b.1.length - 1 := er_len hi
  simp only at h1 h2 h3
  rw [el] at h1 h2 h3
  have hW : ∀ k, k < b.1.length - 1 → W k = if k < i then mg b.1 k else mg b.1 (k + 1) := fun k hk => by rw [h3 k hk, mg_er]
  refine c_B_insert h1 (by omega) (fun μ' p hp hg hl hb hf => ?_)
  have hpi : p = i := by
    rcases Nat.lt_trichotomy p i with hlt | he | hgt
    · have e1 := hg p (Nat.le_refl p) (by omega)
      rw [hW p (by omega), if_pos hlt] at e1
      have e2 := hs p i hlt hi
      omega
    · exact he
    · rcases hl with hl | hl
      · omega
      · rw [hW (p - 1) (by omega), if_neg (by omega), show p - 1 + 1 = p by omega] at hl
        have e2 := hs i p hgt (by omega)
        omega
  subst hpi
  refine hQ μ' ⟨am_fu (si W (b.1.length - 1) p) p ((mg b.1 p).1, (mg b.1 p).2.1, (mg b.1 p).2.2), ?_, h12, fun k hk => ?_⟩ hf
  · rw [show b.1.length - 1 + 1 = b.1.length by omega] at hb
    exact hb
  · by_cases hkp : k = p
    · rw [hkp, am_fu_s]
    · rw [am_fu_n hkp]
      unfold si
      by_cases hk2 : p < k ∧ k ≤ b.1.length - 1
      · rw [if_pos hk2, hW (k - 1) (by omega), if_neg (by omega), show k - 1 + 1 = k by omega]
      · rw [if_neg hk2, hW k (by omega), if_pos (by omega)]
theorem d_B_positionOf {u : Int} (h : bx μ a b vl) (hQ : Q (some (.inl (pz b.1 u))) (nn, ss, μ)) : am_Wp mv_P (d + 1) jB_positionOf [.inr (some a), .inl u] (nn, ss, μ) Q := by
  obtain ⟨W, h1, h2⟩ := h
  exact c_B_positionOf h1 h2 hQ
theorem d_B_uidAt {k : Nat} (h : bx μ a b vl) (hk : k < b.1.length) (hQ : Q (some (.inl (mg b.1 k).1)) (nn, ss, μ)) : am_Wp mv_P (d + 1) jB_uidAt [.inr (some a), .inl k] (nn, ss, μ) Q := by
  obtain ⟨W, h1, h2, h3⟩ := h
  exact c_B_uidAt h1 (by omega) (by rw [h3 k hk]; exact hQ)
theorem d_B_flagsAt {k : Nat} (h : bx μ a b vl) (hk : k < b.1.length) (hQ : Q (some (.inl (mg b.1 k).2.1)) (nn, ss, μ)) : am_Wp mv_P (d + 1) jB_flagsAt [.inr (some a), .inl k] (nn, ss, μ) Q := by
  obtain ⟨W, h1, h2, h3⟩ := h
  exact c_B_flagsAt h1 (by omega) (by rw [h3 k hk]; exact hQ)
theorem d_B_sizeAt {k : Nat} (h : bx μ a b vl) (hk : k < b.1.length) (hQ : Q (some (.inl (mg b.1 k).2.2)) (nn, ss, μ)) : am_Wp mv_P (d + 1) jB_sizeAt [.inr (some a), .inl k] (nn, ss, μ) Q := by
  obtain ⟨W, h1, h2, h3⟩ := h
  exact c_B_sizeAt h1 (by omega) (by rw [h3 k hk]; exact hQ)
theorem d_B_messageCount (h : bx μ a b vl) (hQ : Q (some (.inl b.1.length)) (nn, ss, μ)) : am_Wp mv_P (d + 1) jB_messageCount [.inr (some a)] (nn, ss, μ) Q := by
  obtain ⟨W, h1, h2⟩ := h
  exact c_B_messageCount h1 hQ
theorem d_B_isFull (h : bx μ a b vl) (hQ : Q (some (.inl (if 12 ≤ b.1.length then 1 else 0))) (nn, ss, μ)) : am_Wp mv_P (d + 1) jB_isFull [.inr (some a)] (nn, ss, μ) Q := by
  obtain ⟨W, h1, h2⟩ := h
  exact c_B_isFull h1 hQ
theorem d_B_nextUid (h : bx μ a b vl) (hQ : Q (some (.inl b.2)) (nn, ss, μ)) : am_Wp mv_P (d + 1) jB_nextUid [.inr (some a)] (nn, ss, μ) Q := by
  obtain ⟨W, h1, h2⟩ := h
  exact c_B_nextUid h1 hQ
theorem d_B_validity (h : bx μ a b vl) (hQ : Q (some (.inl vl)) (nn, ss, μ)) : am_Wp mv_P (d + 1) jB_validity [.inr (some a)] (nn, ss, μ) Q := by
  obtain ⟨W, h1, h2⟩ := h
  exact c_B_validity h1 hQ
theorem d_B_growValidity (h : bx μ a b vl) (hv : 0 ≤ vl ∧ vl < 100000) (hQ : ∀ μ', bx μ' a b (vl + 1) → fr μ μ' a (a + 4) → Q none (nn, ss, μ')) : am_Wp mv_P (d + 1) jB_growValidity [.inr (some a)] (nn, ss, μ) Q := by
  obtain ⟨W, h1, h2⟩ := h
  exact c_B_growValidity h1 hv (fun μ' hb hf => hQ μ' ⟨W, hb, h2⟩ hf)
theorem bx.ob (h : bx μ a b vl) : ∃ fs, μ a = some (.inl (1, fs)) := by
  obtain ⟨W, h1, -⟩ := h
  exact ⟨_, h1.1⟩
end Box3
end
section
/-! the log's own rows; the journal: cells a .. a+5 -/
def hg (lg : List mv_H) (i : Nat) : mv_H := lg.getD i (0, 0, 0, 0, 0)
def lgOk (lg : List mv_H) : Prop := ∀ i, i < lg.length → (0 ≤ (hg lg i).2.1 ∧ (hg lg i).2.1 < 3) ∧ vc (hg lg i) (rp (lg.take i) (hg lg i).2.1.toNat)
theorem tk_s {lg : List mv_H} {i : Nat} (h : i < lg.length) : lg.take (i + 1) = lg.take i ++ [hg lg i] := by
  rw [List.take_succ, List.getElem?_eq_getElem h]
  unfold hg
  rw [List.getD_eq_getElem?_getD, List.getElem?_eq_getElem h]
  rfl
theorem rp_s {lg : List mv_H} {i : Nat} (h : i < lg.length) : rp (lg.take (i + 1)) = apS (rp (lg.take i)) (hg lg i) := by
  rw [tk_s h, rp_app]
theorem lg_wb {lg : List mv_H} (h : lgOk lg) : ∀ i, i ≤ lg.length → ∀ m, wb (rp (lg.take i) m) := by
  intro i
  induction i with
  | zero => intro _ m; rw [List.take_zero, rp_nil]; exact wb_0
  | succ i ih =>
    intro hi m
    rw [rp_s (by omega)]
    unfold apS
    by_cases hm : m = (hg lg i).2.1.toNat
    · subst hm
      rw [am_fu_s]
      exact wb_ap (ih (by omega) _) (h i (by omega)).2
    · rw [am_fu_n hm]
      exact ih (by omega) m
theorem hg_app {lg : List mv_H} {c : mv_H} {i : Nat} : hg (lg ++ [c]) i = if i < lg.length then hg lg i else if i = lg.length then c else (0, 0, 0, 0, 0) := by
  unfold hg
  rw [List.getD_eq_getElem?_getD, List.getD_eq_getElem?_getD]
  by_cases h : i < lg.length
  · rw [if_pos h, List.getElem?_append_left h]
  · rw [if_neg h, List.getElem?_append_right (by omega)]
    by_cases h2 : i = lg.length
    · rw [if_pos h2, h2, Nat.sub_self]
      rfl
    · rw [if_neg h2, List.getElem?_eq_none (by simp; omega)]
      rfl
theorem lgOk_app {lg : List mv_H} {c : mv_H} (h : lgOk lg) (hm : 0 ≤ c.2.1 ∧ c.2.1 < 3) (hv : vc c (rp lg c.2.1.toNat)) : lgOk (lg ++ [c]) := by
  intro i hi
  rw [List.length_append] at hi
  simp only [List.length_cons, List.length_nil] at hi
  rw [hg_app]
  by_cases h2 : i < lg.length
  · rw [if_pos h2, List.take_append_of_le_length (by omega)]
    exact h i h2
  · rw [if_neg h2, if_pos (by omega), show i = lg.length by omega, List.take_left]
    exact ⟨hm, hv⟩
theorem lgOk_take {lg : List mv_H} {n : Nat} (h : lgOk lg) : lgOk (lg.take n) := by
  intro i hi
  rw [List.length_take] at hi
  have e : hg (lg.take n) i = hg lg i := by
    unfold hg
    rw [List.getD_eq_getElem?_getD, List.getD_eq_getElem?_getD, List.getElem?_take_of_lt (by omega)]
  rw [e, List.take_take, show min i n = i by omega]
  exact h i (by omega)
theorem fp_cg {l l' : List mv_Q} (hl : l.length = l'.length) (h : ∀ k, k < l.length → (mg l k).1 = (mg l' k).1) (u : Int) : fp l u = fp l' u := by
  have h1 := fp_le l u
  rcases Nat.lt_or_ge (fp l u) l.length with hlt | hge
  · refine (fp_is (l := l') (by omega) ?_ (fun j hj => ?_)).symm
    · rw [← h _ hlt]
      exact fp_at l u hlt
    · rw [← h j (by omega)]
      exact fp_ne l u j hj
  · rw [fp_no (l := l') (fun j hj => by rw [← h j (by omega)]; exact fp_ne l u j (by omega))]
    omega
def ui (c : mv_H) (b : mv_B) : mv_H :=
  if c.1 = 1 then (0, c.2.1, c.2.2.1, 0, 0)
  else if c.1 = 2 then (1, c.2.1, c.2.2.1, (mg b.1 (fp b.1 c.2.2.1)).2.1, (mg b.1 (fp b.1 c.2.2.1)).2.2)
  else (2, c.2.1, c.2.2.1, (mg b.1 (fp b.1 c.2.2.1)).2.1, 0)
def jr (μ : Nat → Option am_C) (a : Nat) (E : Nat → mv_H) (op du : Nat) : Prop :=
  μ a = some (.inl (2, [.inr (some (a + 1)), .inr (some (a + 2)), .inr (some (a + 3)), .inr (some (a + 4)), .inr (some (a + 5)), .inl op, .inl du])) ∧ μ (a + 1) = some (.inr (.inl (0, 8, fun k => (E k).1))) ∧ μ (a + 2) = some (.inr (.inl (0, 8, fun k => (E k).2.1))) ∧ μ (a + 3) = some (.inr (.inl (0, 8, fun k => (E k).2.2.1))) ∧ μ (a + 4) = some (.inr (.inl (0, 8, fun k => (E k).2.2.2.1))) ∧ μ (a + 5) = some (.inr (.inl (0, 8, fun k => (E k).2.2.2.2)))
theorem jr.fr {μ μ' : Nat → Option am_C} {a lo hi : Nat} {E : Nat → mv_H} {op du : Nat} (h : jr μ a E op du) (hf : fr μ μ' lo hi) (ho : a + 6 ≤ lo ∨ hi ≤ a) : jr μ' a E op du := by
  obtain ⟨h0, h1, h2, h3, h4, h5⟩ := h
  exact ⟨by rw [hf a (by omega)]; exact h0, by rw [hf (a + 1) (by omega)]; exact h1, by rw [hf (a + 2) (by omega)]; exact h2, by rw [hf (a + 3) (by omega)]; exact h3, by rw [hf (a + 4) (by omega)]; exact h4, by rw [hf (a + 5) (by omega)]; exact h5⟩
theorem am_fu_p {α : Type} (g : α → Int) (E : Nat → α) (t : Nat) (q : α) : am_fu (fun k => g (E k)) t (g q) = fun k => g (am_fu E t q k) := by
  funext k
  by_cases h : k = t <;> simp [am_fu, h]
section Jrn
variable {d nn ss a op du : Nat} {μ : Nat → Option am_C} {Q : Option am_V → am_M → Prop} {E : Nat → mv_H}
theorem c_J_changeCount (h : jr μ a E op du) (hb : op + du < 100000) (hQ : Q (some (.inl ((du : Int) + op))) (nn, ss, μ)) : am_Wp mv_P (d + 1) jJ_changeCount [.inr (some a)] (nn, ss, μ) Q := by
  obtain ⟨h0, h1, h2, h3, h4, h5⟩ := h
  refine am_wp pJ_changeCount (Nat.le_of_ble_eq_true rfl) ?_
  refine x_aload rfl rfl ?_
  refine x_get rfl (by assumption) rfl ?_
  refine x_aload rfl rfl ?_
  refine x_get rfl (by assumption) rfl ?_
  refine x_iadd rfl ⟨by omega, by omega⟩ ?_
  refine x_iret rfl ?_
  exact hQ
theorem c_J_durableCount (h : jr μ a E op du) (hQ : Q (some (.inl (du : Int))) (nn, ss, μ)) : am_Wp mv_P (d + 1) jJ_durableCount [.inr (some a)] (nn, ss, μ) Q := by
  obtain ⟨h0, h1, h2, h3, h4, h5⟩ := h
  refine am_wp pJ_durableCount (Nat.le_of_ble_eq_true rfl) ?_
  refine x_aload rfl rfl ?_
  refine x_get rfl (by assumption) rfl ?_
  refine x_iret rfl ?_
  exact hQ
theorem c_J_makeAllDurable (h : jr μ a E op du) (hb : op + du < 100000) (hQ : ∀ μ', jr μ' a E 0 (du + op) → fr μ μ' a (a + 6) → Q none (nn, ss, μ')) : am_Wp mv_P (d + 1) jJ_makeAllDurable [.inr (some a)] (nn, ss, μ) Q := by
  obtain ⟨h0, h1, h2, h3, h4, h5⟩ := h
  refine am_wp pJ_makeAllDurable (Nat.le_of_ble_eq_true rfl) ?_
  refine x_aload rfl rfl ?_
  refine x_dup rfl ?_
  refine x_get rfl (by assumption) rfl ?_
  refine x_aload rfl rfl ?_
  refine x_get rfl (by assumption) rfl ?_
  refine x_iadd rfl ⟨by omega, by omega⟩ ?_
  refine x_putG rfl (by assumption) (Nat.le_of_ble_eq_true rfl) rfl ?_
  intro μ1 n1 o1
  have h1 := (o1 (a + 1) (by omega)).trans h1
  have h2 := (o1 (a + 2) (by omega)).trans h2
  have h3 := (o1 (a + 3) (by omega)).trans h3
  have h4 := (o1 (a + 4) (by omega)).trans h4
  have h5 := (o1 (a + 5) (by omega)).trans h5
  refine x_aload rfl rfl ?_
  refine x_const rfl ?_
  refine x_putG rfl (by assumption) (Nat.le_of_ble_eq_true rfl) rfl ?_
  intro μ2 n2 o2
  have h1 := (o2 (a + 1) (by omega)).trans h1
  have h2 := (o2 (a + 2) (by omega)).trans h2
  have h3 := (o2 (a + 3) (by omega)).trans h3
  have h4 := (o2 (a + 4) (by omega)).trans h4
  have h5 := (o2 (a + 5) (by omega)).trans h5
  refine x_vret rfl ?_
  exact hQ μ2 ⟨n2, h1, h2, h3, h4, h5⟩ ((fr.one o1 (by omega) (by omega)).tr (fr.one o2 (by omega) (by omega)))
theorem c_J_note {kd m u f z : Int} (h : jr μ a E op du) (ho : op < 8) (hb : op + 1 + du < 100000) (hQ : ∀ μ', jr μ' a (am_fu E op (kd, m, u, f, z)) (if op + 1 < 8 then op + 1 else 0) (if op + 1 < 8 then du else du + (op + 1)) → fr μ μ' a (a + 6) → Q none (nn, ss, μ')) : am_Wp mv_P (d + 2) jJ_note [.inr (some a), .inl kd, .inl m, .inl u, .inl f, .inl z] (nn, ss, μ) Q := by
  obtain ⟨h0, h1, h2, h3, h4, h5⟩ := h
  refine am_wp pJ_note (Nat.le_of_ble_eq_true rfl) ?_
  refine x_aload rfl rfl ?_
  refine x_get rfl (by assumption) rfl ?_
  refine x_aload rfl rfl ?_
  refine x_get rfl (by assumption) rfl ?_
  refine x_iload rfl rfl ?_
  refine x_iastN (j := op) rfl (by assumption) (by omega) (by omega) rfl ?_
  intro μ1 n1 o1
  have h0 := (o1 a (by omega)).trans h0
  have h2 := (o1 (a + 2) (by omega)).trans h2
  have h3 := (o1 (a + 3) (by omega)).trans h3
  have h4 := (o1 (a + 4) (by omega)).trans h4
  have h5 := (o1 (a + 5) (by omega)).trans h5
  refine x_aload rfl rfl ?_
  refine x_get rfl (by assumption) rfl ?_
  refine x_aload rfl rfl ?_
  refine x_get rfl (by assumption) rfl ?_
  refine x_iload rfl rfl ?_
  refine x_iastN (j := op) rfl (by assumption) (by omega) (by omega) rfl ?_
  intro μ2 n2 o2
  have h0 := (o2 a (by omega)).trans h0
  have n1 := (o2 (a + 1) (by omega)).trans n1
  have h3 := (o2 (a + 3) (by omega)).trans h3
  have h4 := (o2 (a + 4) (by omega)).trans h4
  have h5 := (o2 (a + 5) (by omega)).trans h5
  refine x_aload rfl rfl ?_
  refine x_get rfl (by assumption) rfl ?_
  refine x_aload rfl rfl ?_
  refine x_get rfl (by assumption) rfl ?_
  refine x_iload rfl rfl ?_
  refine x_iastN (j := op) rfl (by assumption) (by omega) (by omega) rfl ?_
  intro μ3 n3 o3
  have h0 := (o3 a (by omega)).trans h0
  have n1 := (o3 (a + 1) (by omega)).trans n1
  have n2 := (o3 (a + 2) (by omega)).trans n2
  have h4 := (o3 (a + 4) (by omega)).trans h4
  have h5 := (o3 (a + 5) (by omega)).trans h5
  refine x_aload rfl rfl ?_
  refine x_get rfl (by assumption) rfl ?_
  refine x_aload rfl rfl ?_
  refine x_get rfl (by assumption) rfl ?_
  refine x_iload rfl rfl ?_
  refine x_iastN (j := op) rfl (by assumption) (by omega) (by omega) rfl ?_
  intro μ4 n4 o4
  have h0 := (o4 a (by omega)).trans h0
  have n1 := (o4 (a + 1) (by omega)).trans n1
  have n2 := (o4 (a + 2) (by omega)).trans n2
  have n3 := (o4 (a + 3) (by omega)).trans n3
  have h5 := (o4 (a + 5) (by omega)).trans h5
  refine x_aload rfl rfl ?_
  refine x_get rfl (by assumption) rfl ?_
  refine x_aload rfl rfl ?_
  refine x_get rfl (by assumption) rfl ?_
  refine x_iload rfl rfl ?_
  refine x_iastN (j := op) rfl (by assumption) (by omega) (by omega) rfl ?_
  intro μ5 n5 o5
  have h0 := (o5 a (by omega)).trans h0
  have n1 := (o5 (a + 1) (by omega)).trans n1
  have n2 := (o5 (a + 2) (by omega)).trans n2
  have n3 := (o5 (a + 3) (by omega)).trans n3
  have n4 := (o5 (a + 4) (by omega)).trans n4
  refine x_aload rfl rfl ?_
  refine x_dup rfl ?_
  refine x_get rfl (by assumption) rfl ?_
  refine x_const rfl ?_
  refine x_iadd rfl ⟨by omega, by omega⟩ ?_
  refine x_putG rfl (by assumption) (Nat.le_of_ble_eq_true rfl) rfl ?_
  intro μ6 n6 o6
  have n1 := (o6 (a + 1) (by omega)).trans n1
  have n2 := (o6 (a + 2) (by omega)).trans n2
  have n3 := (o6 (a + 3) (by omega)).trans n3
  have n4 := (o6 (a + 4) (by omega)).trans n4
  have n5 := (o6 (a + 5) (by omega)).trans n5
  rw [am_fu_p (fun q : mv_H => q.1) E op (kd, m, u, f, z)] at n1
  rw [am_fu_p (fun q : mv_H => q.2.1) E op (kd, m, u, f, z)] at n2
  rw [am_fu_p (fun q : mv_H => q.2.2.1) E op (kd, m, u, f, z)] at n3
  rw [am_fu_p (fun q : mv_H => q.2.2.2.1) E op (kd, m, u, f, z)] at n4
  rw [am_fu_p (fun q : mv_H => q.2.2.2.2) E op (kd, m, u, f, z)] at n5
  have hj : jr μ6 a (am_fu E op (kd, m, u, f, z)) (op + 1) du := ⟨n6, n1, n2, n3, n4, n5⟩
  have hf : fr μ μ6 a (a + 6) := (((((fr.one o1 (by omega) (by omega)).tr (fr.one o2 (by omega) (by omega))).tr (fr.one o3 (by omega) (by omega))).tr (fr.one o4 (by omega) (by omega))).tr (fr.one o5 (by omega) (by omega))).tr (fr.one o6 (by omega) (by omega))
  refine x_aload rfl rfl ?_
  refine x_get rfl (by assumption) rfl ?_
  refine x_const rfl ?_
  refine x_icmp_lt rfl (fun hc => ?_) (fun hc => ?_)
  · refine x_vret rfl ?_
    rw [if_pos (show op + 1 < 8 by omega), if_pos (show op + 1 < 8 by omega)] at hQ
    exact hQ μ6 hj hf
  · refine x_aload rfl rfl ?_
    refine x_callV0 rfl (by assumption) (Nat.le_of_ble_eq_true rfl) ?_
    refine c_J_makeAllDurable hj hb (fun μ7 hj7 hf7 => ?_)
    refine x_vret rfl ?_
    rw [if_neg (show ¬ op + 1 < 8 by omega), if_neg (show ¬ op + 1 < 8 by omega)] at hQ
    exact hQ μ7 hj7 (hf.tr hf7)
theorem c_J_noteAdded {m u : Int} (h : jr μ a E op du) (ho : op < 8) (hb : op + 1 + du < 100000) (hQ : ∀ μ', jr μ' a (am_fu E op (0, m, u, 0, 0)) (if op + 1 < 8 then op + 1 else 0) (if op + 1 < 8 then du else du + (op + 1)) → fr μ μ' a (a + 6) → Q none (nn, ss, μ')) : am_Wp mv_P (d + 3) jJ_noteAdded [.inr (some a), .inl m, .inl u] (nn, ss, μ) Q := by
  have h' := h
  obtain ⟨h0, -⟩ := h
  refine am_wp pJ_noteAdded (Nat.le_of_ble_eq_true rfl) ?_
  refine x_aload rfl rfl ?_
  refine x_const rfl ?_
  refine x_iload rfl rfl ?_
  refine x_iload rfl rfl ?_
  refine x_const rfl ?_
  refine x_const rfl ?_
  refine x_callV5 rfl (by assumption) (Nat.le_of_ble_eq_true rfl) ?_
  refine c_J_note h' ho hb (fun μ' hj hf => ?_)
  refine x_vret rfl ?_
  exact hQ μ' hj hf
theorem c_J_noteRemoved {m u f z : Int} (h : jr μ a E op du) (ho : op < 8) (hb : op + 1 + du < 100000) (hQ : ∀ μ', jr μ' a (am_fu E op (1, m, u, f, z)) (if op + 1 < 8 then op + 1 else 0) (if op + 1 < 8 then du else du + (op + 1)) → fr μ μ' a (a + 6) → Q none (nn, ss, μ')) : am_Wp mv_P (d + 3) jJ_noteRemoved [.inr (some a), .inl m, .inl u, .inl f, .inl z] (nn, ss, μ) Q := by
  have h' := h
  obtain ⟨h0, -⟩ := h
  refine am_wp pJ_noteRemoved (Nat.le_of_ble_eq_true rfl) ?_
  refine x_aload rfl rfl ?_
  refine x_const rfl ?_
  refine x_iload rfl rfl ?_
  refine x_iload rfl rfl ?_
  refine x_iload rfl rfl ?_
  refine x_iload rfl rfl ?_
  refine x_callV5 rfl (by assumption) (Nat.le_of_ble_eq_true rfl) ?_
  refine c_J_note h' ho hb (fun μ' hj hf => ?_)
  refine x_vret rfl ?_
  exact hQ μ' hj hf
theorem c_J_noteFlagsSet {m u f : Int} (h : jr μ a E op du) (ho : op < 8) (hb : op + 1 + du < 100000) (hQ : ∀ μ', jr μ' a (am_fu E op (2, m, u, f, 0)) (if op + 1 < 8 then op + 1 else 0) (if op + 1 < 8 then du else du + (op + 1)) → fr μ μ' a (a + 6) → Q none (nn, ss, μ')) : am_Wp mv_P (d + 3) jJ_noteFlagsSet [.inr (some a), .inl m, .inl u, .inl f] (nn, ss, μ) Q := by
  have h' := h
  obtain ⟨h0, -⟩ := h
  refine am_wp pJ_noteFlagsSet (Nat.le_of_ble_eq_true rfl) ?_
  refine x_aload rfl rfl ?_
  refine x_const rfl ?_
  refine x_iload rfl rfl ?_
  refine x_iload rfl rfl ?_
  refine x_iload rfl rfl ?_
  refine x_const rfl ?_
  refine x_callV5 rfl (by assumption) (Nat.le_of_ble_eq_true rfl) ?_
  refine c_J_note h' ho hb (fun μ' hj hf => ?_)
  refine x_vret rfl ?_
  exact hQ μ' hj hf
theorem c_J_hasOpenAdditionTo {m : Int} (h : jr μ a E op du) (ho : op ≤ 8) (h1 : (∃ k, k < op ∧ (E k).1 = 0 ∧ (E k).2.1 = m) → Q (some (.inl 1)) (nn, ss, μ)) (h0 : (¬ ∃ k, k < op ∧ (E k).1 = 0 ∧ (E k).2.1 = m) → Q (some (.inl 0)) (nn, ss, μ)) : am_Wp mv_P (d + 1) jJ_hasOpenAdditionTo [.inr (some a), .inl m] (nn, ss, μ) Q := by
  obtain ⟨g0, g1, g2, g3, g4, g5⟩ := h
  have loop : ∀ (r k : Nat), k + r = op → (∀ j, j < k → ¬ ((E j).1 = 0 ∧ (E j).2.1 = m)) → am_Ex mv_P d (am_at kJ_hasOpenAdditionTo) (2, [some (.inr (some a)), some (.inl m), some (.inl (k : Int))], [], nn, ss, μ) Q := by
    intro r
    induction r with
    | zero =>
      intro k hk hb
      refine x_iload rfl rfl ?_
      refine x_aload rfl rfl ?_
      refine x_get rfl (by assumption) rfl ?_
      refine x_icmp_ge rfl (fun hc => ?_) (fun hc => ?_)
      · refine x_const rfl ?_
        refine x_zret rfl (by first | exact Or.inl rfl | exact Or.inr rfl | assumption | omega) ?_
        exact h0 (fun ⟨j, hj, h2⟩ => hb j (by omega) h2)
      · exact absurd hc (by omega)
    | succ r ih =>
      intro k hk hb
      refine x_iload rfl rfl ?_
      refine x_aload rfl rfl ?_
      refine x_get rfl (by assumption) rfl ?_
      refine x_icmp_ge rfl (fun hc => ?_) (fun hc => ?_)
      · exact absurd hc (by omega)
      · refine x_aload rfl rfl ?_
        refine x_get rfl (by assumption) rfl ?_
        refine x_iload rfl rfl ?_
        refine x_ialdN (j := k) rfl (by assumption) (by omega) (by omega) ?_
        refine x_if_ne rfl (fun hc => ?_) (fun hc => ?_)
        · refine x_iinc rfl rfl ⟨by omega, by omega⟩ ?_
          refine x_goto rfl ?_
          refine ih (k + 1) (by omega) (fun j hj => ?_)
          rcases Nat.lt_or_ge j k with hjk | hjk
          · exact hb j hjk
          · rw [show j = k by omega]
            exact fun q => hc q.1
        · rename_i hc1
          refine x_aload rfl rfl ?_
          refine x_get rfl (by assumption) rfl ?_
          refine x_iload rfl rfl ?_
          refine x_ialdN (j := k) rfl (by assumption) (by omega) (by omega) ?_
          refine x_iload rfl rfl ?_
          refine x_icmp_ne rfl (fun hc => ?_) (fun hc => ?_)
          · refine x_iinc rfl rfl ⟨by omega, by omega⟩ ?_
            refine x_goto rfl ?_
            refine ih (k + 1) (by omega) (fun j hj => ?_)
            rcases Nat.lt_or_ge j k with hjk | hjk
            · exact hb j hjk
            · rw [show j = k by omega]
              exact fun q => hc q.2
          · refine x_const rfl ?_
            refine x_zret rfl (by first | exact Or.inl rfl | exact Or.inr rfl | assumption | omega) ?_
            exact h1 ⟨k, by omega, Classical.not_not.mp ‹¬ ¬ (E k).1 = 0›, Classical.not_not.mp hc⟩
  refine am_wp pJ_hasOpenAdditionTo (Nat.le_of_ble_eq_true rfl) ?_
  refine x_const rfl ?_
  refine x_istore rfl (Nat.le_of_ble_eq_true rfl) ?_
  exact loop op 0 (by omega) (fun j hj => by omega)
/-- one change is taken back -/
theorem c_J_takeBack {k ab : Nat} {c : mv_H} {b : mv_B} {vl : Int} (h : jr μ a E op du) (hk : k < 8) (he : E k = ui c b) (hw : wb b) (hv : vc c b) (hb : bx μ ab (ap c b) vl) (hQ : ∀ μ', bx μ' ab b vl → fr μ μ' ab (ab + 4) → Q none (nn, ss, μ')) : am_Wp mv_P (d + 4) jJ_takeBack [.inr (some a), .inl k, .inr (some ab)] (nn, ss, μ) Q := by
  obtain ⟨h0, h1, h2, h3, h4, h5⟩ := h
  obtain ⟨fs, hob⟩ := hb.ob
  obtain ⟨w1, w2, w3, w4⟩ := hw
  refine am_wp pJ_takeBack (Nat.le_of_ble_eq_true rfl) ?_
  refine x_aload rfl rfl ?_
  refine x_get rfl (by assumption) rfl ?_
  refine x_iload rfl rfl ?_
  refine x_ialdN (j := k) rfl (by assumption) (by omega) (by omega) ?_
  refine x_lsw rfl ?_
  rw [he]
  rcases hv with ⟨c1, c2, c3⟩ | ⟨c1, c2⟩
  · have eu : ui c b = (0, c.2.1, c.2.2.1, 0, 0) := by unfold ui; rw [if_pos c1]
    have ea : ap c b = (b.1 ++ [(c.2.2.1, c.2.2.2.1, c.2.2.2.2)], c.2.2.1 + 1) := by unfold ap; rw [if_pos c1]
    rw [eu]
    show am_Ex mv_P (d + 3) (am_at kJ_takeBack) (32, _, _, _) Q
    refine x_aload rfl rfl ?_
    refine x_aload rfl rfl ?_
    refine x_get rfl (by assumption) rfl ?_
    refine x_iload rfl rfl ?_
    refine x_ialdN (j := k) rfl (by assumption) (by omega) (by omega) ?_
    refine x_callV1 rfl (by assumption) (Nat.le_of_ble_eq_true rfl) ?_
    rw [he, eu]
    rw [ea] at hb
    have efp : fp (b.1 ++ [(c.2.2.1, c.2.2.2.1, c.2.2.2.2)]) c.2.2.1 = b.1.length := by
      refine fp_is (by simp) (by rw [mg_app, if_neg (by omega), if_pos rfl]) (fun j hj => ?_)
      rw [mg_app, if_pos hj, c2]
      have := w4 j hj
      omega
    refine d_B_takeBackAdded hb (by rw [efp]; simp) (fun μ' hb' hf => ?_)
    refine x_goto rfl ?_
    refine x_vret rfl ?_
    refine hQ μ' ?_ hf
    have e2 : ((b.1 ++ [(c.2.2.1, c.2.2.2.1, c.2.2.2.2)]).eraseIdx b.1.length) = b.1 := by
      refine mg_ext (by rw [er_len (by simp)]; simp) (fun j hj => ?_)
      rw [er_len (by simp)] at hj
      simp only [List.length_append, List.length_cons, List.length_nil] at hj
      rw [mg_er, if_pos (by omega), mg_app, if_pos (by omega)]
    simp only [efp] at hb'
    rw [e2, c2] at hb'
    exact hb'
  · have eu1 := fp_at b.1 c.2.2.1 c2
    rcases c1 with c1 | c1
    · have eu : ui c b = (1, c.2.1, c.2.2.1, (mg b.1 (fp b.1 c.2.2.1)).2.1, (mg b.1 (fp b.1 c.2.2.1)).2.2) := by unfold ui; rw [if_neg (by omega), if_pos c1]
      have ea : ap c b = (b.1.eraseIdx (fp b.1 c.2.2.1), b.2) := by unfold ap; rw [if_neg (by omega), if_pos c1]
      rw [eu]
      show am_Ex mv_P (d + 3) (am_at kJ_takeBack) (45, _, _, _) Q
      refine x_aload rfl rfl ?_
      refine x_aload rfl rfl ?_
      refine x_get rfl (by assumption) rfl ?_
      refine x_iload rfl rfl ?_
      refine x_ialdN (j := k) rfl (by assumption) (by omega) (by omega) ?_
      refine x_aload rfl rfl ?_
      refine x_get rfl (by assumption) rfl ?_
      refine x_iload rfl rfl ?_
      refine x_ialdN (j := k) rfl (by assumption) (by omega) (by omega) ?_
      refine x_aload rfl rfl ?_
      refine x_get rfl (by assumption) rfl ?_
      refine x_iload rfl rfl ?_
      refine x_ialdN (j := k) rfl (by assumption) (by omega) (by omega) ?_
      refine x_callV3 rfl (by assumption) (Nat.le_of_ble_eq_true rfl) ?_
      rw [he, eu]
      rw [ea] at hb
      have eu2 : c.2.2.1 = (mg b.1 (fp b.1 c.2.2.1)).1 := eu1.symm
      show am_Wp mv_P (d + 3) jB_insert [.inr (some ab), .inl c.2.2.1, .inl (mg b.1 (fp b.1 c.2.2.1)).2.1, .inl (mg b.1 (fp b.1 c.2.2.1)).2.2] _ _
      generalize fp b.1 c.2.2.1 = i at *
      rw [eu2]
      refine d_B_insert w1 w2 c2 hb (fun μ' hb' hf => ?_)
      refine x_goto rfl ?_
      refine x_vret rfl ?_
      exact hQ μ' hb' hf
    · have eu : ui c b = (2, c.2.1, c.2.2.1, (mg b.1 (fp b.1 c.2.2.1)).2.1, 0) := by unfold ui; rw [if_neg (by omega), if_neg (by omega)]
      have ea : ap c b = (b.1.set (fp b.1 c.2.2.1) ((mg b.1 (fp b.1 c.2.2.1)).1, c.2.2.2.1, (mg b.1 (fp b.1 c.2.2.1)).2.2), b.2) := by unfold ap; rw [if_neg (by omega), if_neg (by omega)]
      rw [eu]
      show am_Ex mv_P (d + 3) (am_at kJ_takeBack) (70, _, _, _) Q
      refine x_aload rfl rfl ?_
      refine x_aload rfl rfl ?_
      refine x_get rfl (by assumption) rfl ?_
      refine x_iload rfl rfl ?_
      refine x_ialdN (j := k) rfl (by assumption) (by omega) (by omega) ?_
      refine x_aload rfl rfl ?_
      refine x_get rfl (by assumption) rfl ?_
      refine x_iload rfl rfl ?_
      refine x_ialdN (j := k) rfl (by assumption) (by omega) (by omega) ?_
      refine x_callV2 rfl (by assumption) (Nat.le_of_ble_eq_true rfl) ?_
      rw [he, eu]
      rw [ea] at hb
      have key : ∀ j, j < b.1.length → (mg (b.1.set (fp b.1 c.2.2.1) ((mg b.1 (fp b.1 c.2.2.1)).1, c.2.2.2.1, (mg b.1 (fp b.1 c.2.2.1)).2.2)) j).1 = (mg b.1 j).1 := by
        intro j hj
        rw [mg_set]
        split
        · next hq => rw [hq.1]
        · rfl
      have efp : fp (b.1.set (fp b.1 c.2.2.1) ((mg b.1 (fp b.1 c.2.2.1)).1, c.2.2.2.1, (mg b.1 (fp b.1 c.2.2.1)).2.2)) c.2.2.1 = fp b.1 c.2.2.1 := fp_cg (by rw [List.length_set]) (fun j hj => key j (by rw [List.length_set] at hj; exact hj)) _
      refine d_B_restoreFlags hb (by rw [efp, List.length_set]; exact c2) (fun μ' hb' hf => ?_)
      refine x_vret rfl ?_
      refine hQ μ' ?_ hf
      simp only [efp] at hb'
      have e2 : (b.1.set (fp b.1 c.2.2.1) ((mg b.1 (fp b.1 c.2.2.1)).1, c.2.2.2.1, (mg b.1 (fp b.1 c.2.2.1)).2.2)).set (fp b.1 c.2.2.1) ((mg (b.1.set (fp b.1 c.2.2.1) ((mg b.1 (fp b.1 c.2.2.1)).1, c.2.2.2.1, (mg b.1 (fp b.1 c.2.2.1)).2.2)) (fp b.1 c.2.2.1)).1, (mg b.1 (fp b.1 c.2.2.1)).2.1, (mg (b.1.set (fp b.1 c.2.2.1) ((mg b.1 (fp b.1 c.2.2.1)).1, c.2.2.2.1, (mg b.1 (fp b.1 c.2.2.1)).2.2)) (fp b.1 c.2.2.1)).2.2) = b.1 := by
        refine mg_ext (by rw [List.length_set, List.length_set]) (fun j hj => ?_)
        rw [List.length_set, List.length_set] at hj
        rw [mg_set, mg_set, mg_set]
        by_cases hj2 : j = fp b.1 c.2.2.1
        · rw [if_pos ⟨hj2, by rw [List.length_set]; exact c2⟩, if_pos ⟨rfl, c2⟩, hj2]
        · rw [if_neg (fun q => hj2 q.1), if_neg (fun q => hj2 q.1)]
      rw [e2] at hb'
      exact hb'
end Jrn
end
section
/-! a session: cells a .. a+4 -/
abbrev mv_V : Type := Int × Int
def vg (l : List mv_V) (k : Nat) : mv_V := l.getD k (0, 0)
theorem vg_0 (q : mv_V) (l : List mv_V) : vg (q :: l) 0 = q := rfl
theorem vg_s (q : mv_V) (l : List mv_V) (k : Nat) : vg (q :: l) (k + 1) = vg l k := rfl
theorem vg_app (l l' : List mv_V) (k : Nat) : vg (l ++ l') k = if k < l.length then vg l k else vg l' (k - l.length) := by
  unfold vg
  rw [List.getD_eq_getElem?_getD, List.getD_eq_getElem?_getD, List.getD_eq_getElem?_getD]
  by_cases h : k < l.length
  · rw [if_pos h, List.getElem?_append_left h]
  · rw [if_neg h, List.getElem?_append_right (by omega)]
theorem vg_set (l : List mv_V) (i k : Nat) (q : mv_V) : vg (l.set i q) k = if k = i ∧ i < l.length then q else vg l k := by
  unfold vg
  rw [List.getD_eq_getElem?_getD, List.getD_eq_getElem?_getD]
  by_cases h : k = i
  · subst h
    by_cases h2 : k < l.length
    · rw [if_pos ⟨rfl, h2⟩, List.getElem?_set_self h2]
      rfl
    · rw [if_neg (fun q => h2 q.2), List.getElem?_eq_none (by rw [List.length_set]; omega), List.getElem?_eq_none (by omega)]
  · rw [if_neg (fun q => h q.1), List.getElem?_set_ne (fun q => h q.symm)]
def seA (μ : Nat → Option am_C) (a : Nat) (V T : Nat → mv_V) (n t : Nat) (mb ro hi : Int) : Prop :=
  μ a = some (.inl (3, [.inr (some (a + 1)), .inr (some (a + 2)), .inr (some (a + 3)), .inr (some (a + 4)), .inl mb, .inl ro, .inl n, .inl t, .inl hi])) ∧ μ (a + 1) = some (.inr (.inl (0, 24, fun k => (V k).1))) ∧ μ (a + 2) = some (.inr (.inl (0, 24, fun k => (V k).2))) ∧ μ (a + 3) = some (.inr (.inl (0, 49, fun k => (T k).1))) ∧ μ (a + 4) = some (.inr (.inl (0, 49, fun k => (T k).2)))
theorem seA.fr {μ μ' : Nat → Option am_C} {a lo hi : Nat} {V T : Nat → mv_V} {n t : Nat} {mb ro h : Int} (g : seA μ a V T n t mb ro h) (hf : fr μ μ' lo hi) (ho : a + 5 ≤ lo ∨ hi ≤ a) : seA μ' a V T n t mb ro h := by
  obtain ⟨h0, h1, h2, h3, h4⟩ := g
  exact ⟨by rw [hf a (by omega)]; exact h0, by rw [hf (a + 1) (by omega)]; exact h1, by rw [hf (a + 2) (by omega)]; exact h2, by rw [hf (a + 3) (by omega)]; exact h3, by rw [hf (a + 4) (by omega)]; exact h4⟩
section Ses
variable {d nn ss a n t : Nat} {μ : Nat → Option am_C} {Q : Option am_V → am_M → Prop} {V T : Nat → mv_V} {mb ro hi : Int}
theorem c_S_mailboxNumber (h : seA μ a V T n t mb ro hi) (hQ : Q (some (.inl mb)) (nn, ss, μ)) : am_Wp mv_P (d + 1) jS_mailboxNumber [.inr (some a)] (nn, ss, μ) Q := by
  obtain ⟨h0, h1, h2, h3, h4⟩ := h
  refine am_wp pS_mailboxNumber (Nat.le_of_ble_eq_true rfl) ?_
  refine x_aload rfl rfl ?_
  refine x_get rfl (by assumption) rfl ?_
  refine x_iret rfl ?_
  exact hQ
theorem c_S_isReadOnly (h : seA μ a V T n t mb ro hi) (hr : ro = 0 ∨ ro = 1) (hQ : Q (some (.inl ro)) (nn, ss, μ)) : am_Wp mv_P (d + 1) jS_isReadOnly [.inr (some a)] (nn, ss, μ) Q := by
  obtain ⟨h0, h1, h2, h3, h4⟩ := h
  refine am_wp pS_isReadOnly (Nat.le_of_ble_eq_true rfl) ?_
  refine x_aload rfl rfl ?_
  refine x_get rfl (by assumption) rfl ?_
  refine x_zret rfl (by first | exact Or.inl rfl | exact Or.inr rfl | assumption | omega) ?_
  exact hQ
theorem c_S_viewLength (h : seA μ a V T n t mb ro hi) (hQ : Q (some (.inl n)) (nn, ss, μ)) : am_Wp mv_P (d + 1) jS_viewLength [.inr (some a)] (nn, ss, μ) Q := by
  obtain ⟨h0, h1, h2, h3, h4⟩ := h
  refine am_wp pS_viewLength (Nat.le_of_ble_eq_true rfl) ?_
  refine x_aload rfl rfl ?_
  refine x_get rfl (by assumption) rfl ?_
  refine x_iret rfl ?_
  exact hQ
theorem c_S_noticeCount (h : seA μ a V T n t mb ro hi) (hQ : Q (some (.inl t)) (nn, ss, μ)) : am_Wp mv_P (d + 1) jS_noticeCount [.inr (some a)] (nn, ss, μ) Q := by
  obtain ⟨h0, h1, h2, h3, h4⟩ := h
  refine am_wp pS_noticeCount (Nat.le_of_ble_eq_true rfl) ?_
  refine x_aload rfl rfl ?_
  refine x_get rfl (by assumption) rfl ?_
  refine x_iret rfl ?_
  exact hQ
theorem c_S_uidOf {x : Int} {k : Nat} (h : seA μ a V T n t mb ro hi) (hx : x = (k : Int) + 1) (hk : k < 24) (hQ : Q (some (.inl (V k).1)) (nn, ss, μ)) : am_Wp mv_P (d + 1) jS_uidOf [.inr (some a), .inl x] (nn, ss, μ) Q := by
  obtain ⟨h0, h1, h2, h3, h4⟩ := h
  refine am_wp pS_uidOf (Nat.le_of_ble_eq_true rfl) ?_
  refine x_aload rfl rfl ?_
  refine x_get rfl (by assumption) rfl ?_
  refine x_iload rfl rfl ?_
  refine x_const rfl ?_
  refine x_isub rfl ⟨by omega, by omega⟩ ?_
  refine x_ialdN (j := k) rfl (by assumption) (by omega) (by omega) ?_
  refine x_iret rfl ?_
  exact hQ
theorem c_S_knownFlagsOf {x : Int} {k : Nat} (h : seA μ a V T n t mb ro hi) (hx : x = (k : Int) + 1) (hk : k < 24) (hQ : Q (some (.inl (V k).2)) (nn, ss, μ)) : am_Wp mv_P (d + 1) jS_knownFlagsOf [.inr (some a), .inl x] (nn, ss, μ) Q := by
  obtain ⟨h0, h1, h2, h3, h4⟩ := h
  refine am_wp pS_knownFlagsOf (Nat.le_of_ble_eq_true rfl) ?_
  refine x_aload rfl rfl ?_
  refine x_get rfl (by assumption) rfl ?_
  refine x_iload rfl rfl ?_
  refine x_const rfl ?_
  refine x_isub rfl ⟨by omega, by omega⟩ ?_
  refine x_ialdN (j := k) rfl (by assumption) (by omega) (by omega) ?_
  refine x_iret rfl ?_
  exact hQ
theorem c_S_noticeKindAt {k : Nat} (h : seA μ a V T n t mb ro hi) (hk : k < 49) (hQ : Q (some (.inl (T k).1)) (nn, ss, μ)) : am_Wp mv_P (d + 1) jS_noticeKindAt [.inr (some a), .inl k] (nn, ss, μ) Q := by
  obtain ⟨h0, h1, h2, h3, h4⟩ := h
  refine am_wp pS_noticeKindAt (Nat.le_of_ble_eq_true rfl) ?_
  refine x_aload rfl rfl ?_
  refine x_get rfl (by assumption) rfl ?_
  refine x_iload rfl rfl ?_
  refine x_ialdN (j := k) rfl (by assumption) (by omega) (by omega) ?_
  refine x_iret rfl ?_
  exact hQ
theorem c_S_noticeNumberAt {k : Nat} (h : seA μ a V T n t mb ro hi) (hk : k < 49) (hQ : Q (some (.inl (T k).2)) (nn, ss, μ)) : am_Wp mv_P (d + 1) jS_noticeNumberAt [.inr (some a), .inl k] (nn, ss, μ) Q := by
  obtain ⟨h0, h1, h2, h3, h4⟩ := h
  refine am_wp pS_noticeNumberAt (Nat.le_of_ble_eq_true rfl) ?_
  refine x_aload rfl rfl ?_
  refine x_get rfl (by assumption) rfl ?_
  refine x_iload rfl rfl ?_
  refine x_ialdN (j := k) rfl (by assumption) (by omega) (by omega) ?_
  refine x_iret rfl ?_
  exact hQ
theorem am_fu_k {f : Nat → Int} {k : Nat} : am_fu f k (f k) = f := by
  funext j
  by_cases h : j = k <;> simp [am_fu, h]
theorem c_S_know {x z : Int} {k : Nat} (h : seA μ a V T n t mb ro hi) (hx : x = (k : Int) + 1) (hk : k < 24) (hQ : ∀ μ', seA μ' a (am_fu V k ((V k).1, z)) T n t mb ro hi → fr μ μ' a (a + 5) → Q none (nn, ss, μ')) : am_Wp mv_P (d + 1) jS_know [.inr (some a), .inl x, .inl z] (nn, ss, μ) Q := by
  obtain ⟨h0, h1, h2, h3, h4⟩ := h
  refine am_wp pS_know (Nat.le_of_ble_eq_true rfl) ?_
  refine x_aload rfl rfl ?_
  refine x_get rfl (by assumption) rfl ?_
  refine x_iload rfl rfl ?_
  refine x_const rfl ?_
  refine x_isub rfl ⟨by omega, by omega⟩ ?_
  refine x_iload rfl rfl ?_
  refine x_iastN (j := k) rfl (by assumption) (by omega) (by omega) rfl ?_
  intro μ' hn ho
  refine x_vret rfl ?_
  rw [am_fu_p (fun q : mv_V => q.2) V k ((V k).1, z)] at hn
  refine hQ μ' ⟨(ho _ (by omega)).trans h0, ?_, hn, (ho _ (by omega)).trans h3, (ho _ (by omega)).trans h4⟩ (fr.one ho (by omega) (by omega))
  have e : (fun j => (am_fu V k ((V k).1, z) j).1) = fun j => (V j).1 := by
    funext j
    by_cases hj : j = k <;> simp [am_fu, hj]
  rw [e]
  exact (ho _ (by omega)).trans h1
theorem c_S_tell {kd x : Int} (h : seA μ a V T n t mb ro hi) (ht : t < 49) (hQ : ∀ μ', seA μ' a V (am_fu T t (kd, x)) n (t + 1) mb ro hi → fr μ μ' a (a + 5) → Q none (nn, ss, μ')) : am_Wp mv_P (d + 1) jS_tell [.inr (some a), .inl kd, .inl x] (nn, ss, μ) Q := by
  obtain ⟨h0, h1, h2, h3, h4⟩ := h
  refine am_wp pS_tell (Nat.le_of_ble_eq_true rfl) ?_
  refine x_aload rfl rfl ?_
  refine x_get rfl (by assumption) rfl ?_
  refine x_const rfl ?_
  refine x_icmp_ge rfl (fun hc => ?_) (fun hc => ?_)
  · exact absurd hc (by omega)
  · refine x_aload rfl rfl ?_
    refine x_get rfl (by assumption) rfl ?_
    refine x_aload rfl rfl ?_
    refine x_get rfl (by assumption) rfl ?_
    refine x_iload rfl rfl ?_
    refine x_iastN (j := t) rfl (by assumption) (by omega) (by omega) rfl ?_
    intro μ1 n1 o1
    have h0 := (o1 a (by omega)).trans h0
    have h1 := (o1 (a + 1) (by omega)).trans h1
    have h2 := (o1 (a + 2) (by omega)).trans h2
    have h4 := (o1 (a + 4) (by omega)).trans h4
    refine x_aload rfl rfl ?_
    refine x_get rfl (by assumption) rfl ?_
    refine x_aload rfl rfl ?_
    refine x_get rfl (by assumption) rfl ?_
    refine x_iload rfl rfl ?_
    refine x_iastN (j := t) rfl (by assumption) (by omega) (by omega) rfl ?_
    intro μ2 n2 o2
    have h0 := (o2 a (by omega)).trans h0
    have h1 := (o2 (a + 1) (by omega)).trans h1
    have h2 := (o2 (a + 2) (by omega)).trans h2
    have n1 := (o2 (a + 3) (by omega)).trans n1
    refine x_aload rfl rfl ?_
    refine x_dup rfl ?_
    refine x_get rfl (by assumption) rfl ?_
    refine x_const rfl ?_
    refine x_iadd rfl ⟨by omega, by omega⟩ ?_
    refine x_putG rfl (by assumption) (Nat.le_of_ble_eq_true rfl) rfl ?_
    intro μ3 n3 o3
    have h1 := (o3 (a + 1) (by omega)).trans h1
    have h2 := (o3 (a + 2) (by omega)).trans h2
    have n1 := (o3 (a + 3) (by omega)).trans n1
    have n2 := (o3 (a + 4) (by omega)).trans n2
    rw [am_fu_p (fun q : mv_V => q.1) T t (kd, x)] at n1
    rw [am_fu_p (fun q : mv_V => q.2) T t (kd, x)] at n2
    refine x_vret rfl ?_
    exact hQ μ3 ⟨n3, h1, h2, n1, n2⟩ (((fr.one o1 (by omega) (by omega)).tr (fr.one o2 (by omega) (by omega))).tr (fr.one o3 (by omega) (by omega)))
theorem c_S_leave (h : seA μ a V T n t mb ro hi) (hQ : ∀ μ', seA μ' a V T 0 0 (-1) 0 hi → fr μ μ' a (a + 5) → Q none (nn, ss, μ')) : am_Wp mv_P (d + 1) jS_leave [.inr (some a)] (nn, ss, μ) Q := by
  obtain ⟨h0, h1, h2, h3, h4⟩ := h
  refine am_wp pS_leave (Nat.le_of_ble_eq_true rfl) ?_
  refine x_aload rfl rfl ?_
  refine x_const rfl ?_
  refine x_putG rfl (by assumption) (Nat.le_of_ble_eq_true rfl) rfl ?_
  intro μ1 n1 o1
  refine x_aload rfl rfl ?_
  refine x_const rfl ?_
  refine x_putG rfl (by assumption) (Nat.le_of_ble_eq_true rfl) rfl ?_
  intro μ2 n2 o2
  refine x_aload rfl rfl ?_
  refine x_const rfl ?_
  refine x_putG rfl (by assumption) (Nat.le_of_ble_eq_true rfl) rfl ?_
  intro μ3 n3 o3
  refine x_aload rfl rfl ?_
  refine x_const rfl ?_
  refine x_putG rfl (by assumption) (Nat.le_of_ble_eq_true rfl) rfl ?_
  intro μ4 n4 o4
  refine x_vret rfl ?_
  have key : ∀ x, x ≠ a → μ4 x = μ x := fun x hx => by rw [o4 x hx, o3 x hx, o2 x hx, o1 x hx]
  exact hQ μ4 ⟨n4, (key _ (by omega)).trans h1, (key _ (by omega)).trans h2, (key _ (by omega)).trans h3, (key _ (by omega)).trans h4⟩ (fr.one key (by omega) (by omega))
end Ses
-- what a view becomes
def hasU (l : List mv_Q) (u : Int) : Prop := fp l u < l.length
def dk (l : List mv_Q) : List mv_V → List mv_V
  | [] => []
  | x :: v => if fp l x.1 < l.length then x :: dk l v else dk l v
def dn (l : List mv_Q) : List mv_V → Nat → List mv_V
  | [], _ => []
  | x :: v, k => if fp l x.1 < l.length then dn l v (k + 1) else (1, (k : Int) + 1) :: dn l v k
def ga : List mv_Q → List mv_V × Int → List mv_V × Int
  | [], s => s
  | q :: l, s => ga l (if s.1.length < 24 ∧ s.2 < q.1 then (s.1 ++ [(q.1, q.2.1)], q.1) else s)
def lv (l : List mv_Q) : List mv_V → List mv_V
  | [] => []
  | x :: v => (if fp l x.1 < l.length then (x.1, (mg l (fp l x.1)).2.1) else x) :: lv l v
def ln (l : List mv_Q) : List mv_V → Nat → List mv_V
  | [], _ => []
  | x :: v, k => if fp l x.1 < l.length ∧ ¬ (mg l (fp l x.1)).2.1 = x.2 then (3, (k : Int) + 1) :: ln l v (k + 1) else ln l v (k + 1)
theorem dk_len (l : List mv_Q) : ∀ (v : List mv_V) (k : Nat), (dk l v).length + (dn l v k).length = v.length
  | [], _ => rfl
  | x :: v, k => by
    unfold dk dn
    split
    · have := dk_len l v (k + 1)
      simp only [List.length_cons]; omega
    · have := dk_len l v k
      simp only [List.length_cons]; omega
theorem ga_c (q : mv_Q) (l : List mv_Q) (s : List mv_V × Int) : ga (q :: l) s = ga l (if s.1.length < 24 ∧ s.2 < q.1 then (s.1 ++ [(q.1, q.2.1)], q.1) else s) := rfl
theorem ga_full {l : List mv_Q} {s : List mv_V × Int} (h : ¬ s.1.length < 24) : ga l s = s := by
  induction l with
  | nil => rfl
  | cons q l ih =>
    unfold ga
    rw [if_neg (fun g => h g.1)]
    exact ih
theorem ga_len : ∀ (l : List mv_Q) (s : List mv_V × Int), s.1.length ≤ 24 → s.1.length ≤ (ga l s).1.length ∧ (ga l s).1.length ≤ 24
  | [], s, h => ⟨Nat.le_refl _, h⟩
  | q :: l, s, h => by
    unfold ga
    by_cases hg : s.1.length < 24 ∧ s.2 < q.1
    · rw [if_pos hg]
      have := ga_len l (s.1 ++ [(q.1, q.2.1)], q.1) (by simp; omega)
      simp only [List.length_append, List.length_cons, List.length_nil] at this
      omega
    · rw [if_neg hg]
      exact ga_len l s h
theorem lv_len (l : List mv_Q) : ∀ v, (lv l v).length = v.length
  | [] => rfl
  | x :: v => by
    unfold lv
    simp only [List.length_cons, lv_len l v]
theorem ln_len (l : List mv_Q) : ∀ (v : List mv_V) (k : Nat), (ln l v k).length ≤ v.length
  | [], _ => Nat.le_refl _
  | x :: v, k => by
    unfold ln
    have := ln_len l v (k + 1)
    split <;> simp only [List.length_cons] <;> omega
def lL (v : List mv_V) (V : Nat → mv_V) : Prop := ∀ k, k < v.length → V k = vg v k
theorem lL.app {v : List mv_V} {V : Nat → mv_V} (h : lL v V) (q : mv_V) : lL (v ++ [q]) (am_fu V v.length q) := by
  intro k hk
  simp only [List.length_append, List.length_cons, List.length_nil] at hk
  rw [vg_app]
  by_cases h2 : k < v.length
  · rw [if_pos h2, am_fu_n (by omega)]
    exact h k h2
  · rw [if_neg h2, show k = v.length by omega, am_fu_s, Nat.sub_self]
    rfl
/-- a session holds a view and its notices -/
def se (μ : Nat → Option am_C) (a : Nat) (v nt : List mv_V) (mb ro hi : Int) : Prop := ∃ V T, seA μ a V T v.length nt.length mb ro hi ∧ lL v V ∧ lL nt T ∧ v.length ≤ 24 ∧ nt.length ≤ 49 ∧ (ro = 0 ∨ ro = 1)
theorem se.fr {μ μ' : Nat → Option am_C} {a lo hi : Nat} {v nt : List mv_V} {mb ro h : Int} (g : se μ a v nt mb ro h) (hf : fr μ μ' lo hi) (ho : a + 5 ≤ lo ∨ hi ≤ a) : se μ' a v nt mb ro h := by
  obtain ⟨V, T, h1, h2⟩ := g
  exact ⟨V, T, h1.fr hf ho, h2⟩
theorem se.ob {μ : Nat → Option am_C} {a : Nat} {v nt : List mv_V} {mb ro h : Int} (g : se μ a v nt mb ro h) : ∃ fs, μ a = some (.inl (3, fs)) := by
  obtain ⟨V, T, h1, -⟩ := g
  exact ⟨_, h1.1⟩
theorem mg_drop (l : List mv_Q) {k : Nat} (h : k < l.length) : l.drop k = mg l k :: l.drop (k + 1) := by
  rw [List.drop_eq_getElem_cons h]
  congr 1
  unfold mg
  rw [List.getD_eq_getElem?_getD, List.getElem?_eq_getElem h]
  rfl
section Ses2
variable {d nn ss a ab : Nat} {μ : Nat → Option am_C} {Q : Option am_V → am_M → Prop} {v nt : List mv_V} {mb ro hi vl : Int} {b : mv_B}
theorem d_S_tell {kd x : Int} (h : se μ a v nt mb ro hi) (ht : nt.length < 49) (hQ : ∀ μ', se μ' a v (nt ++ [(kd, x)]) mb ro hi → fr μ μ' a (a + 5) → Q none (nn, ss, μ')) : am_Wp mv_P (d + 1) jS_tell [.inr (some a), .inl kd, .inl x] (nn, ss, μ) Q := by
  obtain ⟨V, T, h1, h2, h3, h4, h5, h6⟩ := h
  refine c_S_tell h1 ht (fun μ' hs hf => hQ μ' ⟨V, am_fu T nt.length (kd, x), ?_, h2, h3.app _, h4, by simp; omega, h6⟩ hf)
  rw [List.length_append]
  exact hs
theorem c_S_takeInNew (h : se μ a v nt mb ro hi) (hb : bx μ ab b vl) (hd : ab + 4 ≤ a ∨ a + 5 ≤ ab) (hQ : ∀ μ', se μ' a (ga b.1 (v, hi)).1 nt mb ro (ga b.1 (v, hi)).2 → fr μ μ' a (a + 5) → Q none (nn, ss, μ')) : am_Wp mv_P (d + 2) jS_takeInNew [.inr (some a), .inr (some ab)] (nn, ss, μ) Q := by
  obtain ⟨fsb, hob⟩ := hb.ob
  have h12 : b.1.length ≤ 12 := by obtain ⟨W, -, h2, -⟩ := hb; exact h2
  have loop : ∀ (m k : Nat) (μ' : Nat → Option am_C) (v' : List mv_V) (hi' : Int), k + m = b.1.length → se μ' a v' nt mb ro hi' → ga (b.1.drop k) (v', hi') = ga b.1 (v, hi) → fr μ μ' a (a + 5) → am_Ex mv_P (d + 1) (am_at kS_takeInNew) (2, [some (.inr (some a)), some (.inr (some ab)), some (.inl (k : Int))], [], nn, ss, μ') Q := by
    intro m
    induction m with
    | zero =>
      intro k μ' v' hi' hk hs hg hf
      have hb' := hb.fr hf (by omega)
      obtain ⟨fs2, hob2⟩ := hb'.ob
      refine x_iload rfl rfl ?_
      refine x_aload rfl rfl ?_
      refine x_callV0 rfl (by assumption) (Nat.le_of_ble_eq_true rfl) ?_
      refine d_B_messageCount hb' ?_
      refine x_icmp_ge rfl (fun hc => ?_) (fun hc => ?_)
      · refine x_vret rfl ?_
        rw [List.drop_eq_nil_of_le (by omega)] at hg
        rw [← hg] at hQ
        exact hQ μ' hs hf
      · exact absurd hc (by omega)
    | succ m ih =>
      intro k μ' v' hi' hk hs hg hf
      have hb' := hb.fr hf (by omega)
      obtain ⟨fs2, hob2⟩ := hb'.ob
      obtain ⟨V, T, ⟨g0, g1, g2, g3, g4⟩, h2, h3, h4, h5, h6⟩ := id hs
      rw [mg_drop b.1 (show k < b.1.length by omega), ga_c] at hg
      refine x_iload rfl rfl ?_
      refine x_aload rfl rfl ?_
      refine x_callV0 rfl (by assumption) (Nat.le_of_ble_eq_true rfl) ?_
      refine d_B_messageCount hb' ?_
      refine x_icmp_ge rfl (fun hc => ?_) (fun hc => ?_)
      · exact absurd hc (by omega)
      · refine x_aload rfl rfl ?_
        refine x_get rfl (by assumption) rfl ?_
        refine x_const rfl ?_
        refine x_icmp_ge rfl (fun hc => ?_) (fun hc => ?_)
        · refine x_vret rfl ?_
          have hfull : ¬ v'.length < 24 := by omega
          rw [if_neg (fun g => hfull g.1), ga_full hfull] at hg
          rw [← hg] at hQ
          exact hQ μ' hs hf
        · have hlt : v'.length < 24 := by omega
          refine x_aload rfl rfl ?_
          refine x_iload rfl rfl ?_
          refine x_callV1 rfl (by assumption) (Nat.le_of_ble_eq_true rfl) ?_
          refine d_B_uidAt hb' (by omega) ?_
          refine x_aload rfl rfl ?_
          refine x_get rfl (by assumption) rfl ?_
          refine x_icmp_le rfl (fun hc => ?_) (fun hc => ?_)
          · refine x_iinc rfl rfl ⟨by omega, by omega⟩ ?_
            refine x_goto rfl ?_
            rw [if_neg (fun g => by have := g.2; omega)] at hg
            exact ih (k + 1) μ' v' hi' (by omega) hs hg hf
          · rw [if_pos ⟨hlt, by omega⟩] at hg
            refine x_aload rfl rfl ?_
            refine x_aload rfl rfl ?_
            refine x_iload rfl rfl ?_
            refine x_callV1 rfl (by assumption) (Nat.le_of_ble_eq_true rfl) ?_
            refine d_B_uidAt hb' (by omega) ?_
            refine x_putG rfl (by assumption) (Nat.le_of_ble_eq_true rfl) rfl ?_
            intro μ1 n1 o1
            have g1 := (o1 (a + 1) (by omega)).trans g1
            have g2 := (o1 (a + 2) (by omega)).trans g2
            have g3 := (o1 (a + 3) (by omega)).trans g3
            have g4 := (o1 (a + 4) (by omega)).trans g4
            have b1 := hb'.fr (fr.one (lo := a) (hi := a + 5) o1 (by omega) (by omega)) (by omega)
            refine x_aload rfl rfl ?_
            refine x_get rfl (by assumption) rfl ?_
            refine x_aload rfl rfl ?_
            refine x_get rfl (by assumption) rfl ?_
            refine x_aload rfl rfl ?_
            refine x_get rfl (by assumption) rfl ?_
            refine x_iastN (j := v'.length) rfl (by assumption) (by omega) (by omega) rfl ?_
            intro μ2 n2 o2
            have n1 := (o2 a (by omega)).trans n1
            have g2 := (o2 (a + 2) (by omega)).trans g2
            have g3 := (o2 (a + 3) (by omega)).trans g3
            have g4 := (o2 (a + 4) (by omega)).trans g4
            have b2 := b1.fr (fr.one (lo := a) (hi := a + 5) o2 (by omega) (by omega)) (by omega)
            obtain ⟨fs3, hob3⟩ := b2.ob
            refine x_aload rfl rfl ?_
            refine x_get rfl (by assumption) rfl ?_
            refine x_aload rfl rfl ?_
            refine x_get rfl (by assumption) rfl ?_
            refine x_aload rfl rfl ?_
            refine x_iload rfl rfl ?_
            refine x_callV1 rfl (by assumption) (Nat.le_of_ble_eq_true rfl) ?_
            refine d_B_flagsAt b2 (by omega) ?_
            refine x_iastN (j := v'.length) rfl (by assumption) (by omega) (by omega) rfl ?_
            intro μ3 n3 o3
            have n1 := (o3 a (by omega)).trans n1
            have n2 := (o3 (a + 1) (by omega)).trans n2
            have g3 := (o3 (a + 3) (by omega)).trans g3
            have g4 := (o3 (a + 4) (by omega)).trans g4
            refine x_aload rfl rfl ?_
            refine x_dup rfl ?_
            refine x_get rfl (by assumption) rfl ?_
            refine x_const rfl ?_
            refine x_iadd rfl ⟨by omega, by omega⟩ ?_
            refine x_putG rfl (by assumption) (Nat.le_of_ble_eq_true rfl) rfl ?_
            intro μ4 n4 o4
            have n2 := (o4 (a + 1) (by omega)).trans n2
            have n3 := (o4 (a + 2) (by omega)).trans n3
            have g3 := (o4 (a + 3) (by omega)).trans g3
            have g4 := (o4 (a + 4) (by omega)).trans g4
            rw [am_fu_p (fun q : mv_V => q.1) V v'.length ((mg b.1 k).1, (mg b.1 k).2.1)] at n2
            rw [am_fu_p (fun q : mv_V => q.2) V v'.length ((mg b.1 k).1, (mg b.1 k).2.1)] at n3
            refine x_iinc rfl rfl ⟨by omega, by omega⟩ ?_
            refine x_goto rfl ?_
            refine ih (k + 1) μ4 (v' ++ [((mg b.1 k).1, (mg b.1 k).2.1)]) (mg b.1 k).1 (by omega) ⟨am_fu V v'.length ((mg b.1 k).1, (mg b.1 k).2.1), T, ⟨?_, n2, n3, g3, g4⟩, h2.app _, h3, by simp; omega, h5, h6⟩ hg (hf.tr ((((fr.one o1 (by omega) (by omega)).tr (fr.one o2 (by omega) (by omega))).tr (fr.one o3 (by omega) (by omega))).tr (fr.one o4 (by omega) (by omega))))
            rw [n4, List.length_append]
            rfl
  refine am_wp pS_takeInNew (Nat.le_of_ble_eq_true rfl) ?_
  refine x_const rfl ?_
  refine x_istore rfl (Nat.le_of_ble_eq_true rfl) ?_
  exact loop b.1.length 0 μ v hi (by omega) h rfl fr.rf
theorem c_S_dropGone (h : se μ a v nt mb ro hi) (hnt : nt.length + v.length ≤ 49) (hb : bx μ ab b vl) (hd : ab + 4 ≤ a ∨ a + 5 ≤ ab) (hQ : ∀ μ', se μ' a (dk b.1 v) (nt ++ dn b.1 v 0) mb ro hi → fr μ μ' a (a + 5) → Q none (nn, ss, μ')) : am_Wp mv_P (d + 2) jS_dropGone [.inr (some a), .inr (some ab)] (nn, ss, μ) Q := by
  obtain ⟨V0, T0, hs0, hV0, hT0, hv24, hn49, hro⟩ := h
  have loop : ∀ (r : List mv_V) (k : Nat) (kp nt' : List mv_V) (V T : Nat → mv_V) (μ' : Nat → Option am_C), k + r.length = v.length → (∀ i, i < r.length → V (k + i) = vg r i) → lL kp V → kp.length ≤ k → lL nt' T → nt'.length + r.length ≤ 49 → seA μ' a V T v.length nt'.length mb ro hi → kp ++ dk b.1 r = dk b.1 v → nt' ++ dn b.1 r kp.length = nt ++ dn b.1 v 0 → fr μ μ' a (a + 5) → am_Ex mv_P (d + 1) (am_at kS_dropGone) (4, [some (.inr (some a)), some (.inr (some ab)), some (.inl (kp.length : Int)), some (.inl (k : Int))], [], nn, ss, μ') Q := by
    intro r
    induction r with
    | nil =>
      intro k kp nt' V T μ' hk hr hkp hkk hnt' hn' hs e1 e2 hf
      obtain ⟨g0, g1, g2, g3, g4⟩ := hs
      simp only [List.length_nil] at hk
      refine x_iload rfl rfl ?_
      refine x_aload rfl rfl ?_
      refine x_get rfl (by assumption) rfl ?_
      refine x_icmp_ge rfl (fun hc => ?_) (fun hc => ?_)
      · refine x_aload rfl rfl ?_
        refine x_iload rfl rfl ?_
        refine x_putG rfl (by assumption) (Nat.le_of_ble_eq_true rfl) rfl ?_
        intro μ1 n1 o1
        refine x_vret rfl ?_
        have e1 : kp = dk b.1 v := (List.append_nil kp).symm.trans e1
        have e2 : nt' = nt ++ dn b.1 v 0 := (List.append_nil nt').symm.trans e2
        rw [← e1, ← e2] at hQ
        exact hQ μ1 ⟨V, T, ⟨n1, (o1 _ (by omega)).trans g1, (o1 _ (by omega)).trans g2, (o1 _ (by omega)).trans g3, (o1 _ (by omega)).trans g4⟩, hkp, hnt', by omega, by simpa using hn', hro⟩ (hf.tr (fr.one o1 (by omega) (by omega)))
      · exact absurd hc (by omega)
    | cons x r ih =>
      intro k kp nt' V T μ' hk hr hkp hkk hnt' hn' hs e1 e2 hf
      have hs' := hs
      obtain ⟨g0, g1, g2, g3, g4⟩ := hs
      have hb' := hb.fr hf (by omega)
      obtain ⟨fs2, hob2⟩ := hb'.ob
      simp only [List.length_cons] at hk hn'
      have hVk : V k = x := by
        have := hr 0 (by simp)
        rw [Nat.add_zero, vg_0] at this
        exact this
      have hr' : ∀ i, i < r.length → V (k + 1 + i) = vg r i := fun i hi => by
        have := hr (i + 1) (by simp; omega)
        rw [vg_s, show k + (i + 1) = k + 1 + i by omega] at this
        exact this
      refine x_iload rfl rfl ?_
      refine x_aload rfl rfl ?_
      refine x_get rfl (by assumption) rfl ?_
      refine x_icmp_ge rfl (fun hc => ?_) (fun hc => ?_)
      · exact absurd hc (by omega)
      · refine x_aload rfl rfl ?_
        refine x_aload rfl rfl ?_
        refine x_get rfl (by assumption) rfl ?_
        refine x_iload rfl rfl ?_
        refine x_ialdN (j := k) rfl (by assumption) (by omega) (by omega) ?_
        refine x_callV1 rfl (by assumption) (Nat.le_of_ble_eq_true rfl) ?_
        rw [hVk]
        refine d_B_positionOf hb' ?_
        refine x_const rfl ?_
        refine x_icmp_ne rfl (fun hc => ?_) (fun hc => ?_)
        · have hfd : fp b.1 x.1 < b.1.length := by
            unfold pz at hc
            split at hc
            · assumption
            · exact absurd rfl hc
          have d1 : dk b.1 (x :: r) = x :: dk b.1 r := by
            show (if _ then _ else _) = _
            rw [if_pos hfd]
          have d2 : dn b.1 (x :: r) kp.length = dn b.1 r (kp.length + 1) := by
            show (if _ then _ else _) = _
            rw [if_pos hfd]
          refine x_aload rfl rfl ?_
          refine x_get rfl (by assumption) rfl ?_
          refine x_iload rfl rfl ?_
          refine x_aload rfl rfl ?_
          refine x_get rfl (by assumption) rfl ?_
          refine x_iload rfl rfl ?_
          refine x_ialdN (j := k) rfl (by assumption) (by omega) (by omega) ?_
          refine x_iastN (j := kp.length) rfl (by assumption) (by omega) (by omega) rfl ?_
          intro μ1 n1 o1
          have g0 := (o1 a (by omega)).trans g0
          have g2 := (o1 (a + 2) (by omega)).trans g2
          have g3 := (o1 (a + 3) (by omega)).trans g3
          have g4 := (o1 (a + 4) (by omega)).trans g4
          refine x_aload rfl rfl ?_
          refine x_get rfl (by assumption) rfl ?_
          refine x_iload rfl rfl ?_
          refine x_aload rfl rfl ?_
          refine x_get rfl (by assumption) rfl ?_
          refine x_iload rfl rfl ?_
          refine x_ialdN (j := k) rfl (by assumption) (by omega) (by omega) ?_
          refine x_iastN (j := kp.length) rfl (by assumption) (by omega) (by omega) rfl ?_
          intro μ2 n2 o2
          have g0 := (o2 a (by omega)).trans g0
          have n1 := (o2 (a + 1) (by omega)).trans n1
          have g3 := (o2 (a + 3) (by omega)).trans g3
          have g4 := (o2 (a + 4) (by omega)).trans g4
          rw [am_fu_p (fun q : mv_V => q.1) V kp.length (V k)] at n1
          rw [am_fu_p (fun q : mv_V => q.2) V kp.length (V k)] at n2
          refine x_iinc rfl rfl ⟨by omega, by omega⟩ ?_
          refine x_iinc rfl rfl ⟨by omega, by omega⟩ ?_
          refine x_goto rfl ?_
          have hj := ih (k + 1) (kp ++ [x]) nt' (am_fu V kp.length (V k)) T μ2 (by omega) (fun i hi => by rw [am_fu_n (by omega)]; exact hr' i hi) (by rw [hVk]; exact hkp.app x) (by simp; omega) hnt' (by omega) ⟨g0, n1, n2, g3, g4⟩ (by rw [← e1, d1]; simp) (by rw [← e2, d2]; simp) (hf.tr ((fr.one o1 (by omega) (by omega)).tr (fr.one o2 (by omega) (by omega))))
          rw [List.length_append] at hj
          exact hj
        · have hfd : ¬ fp b.1 x.1 < b.1.length := by
            intro q
            unfold pz at hc
            rw [if_pos q] at hc
            exact hc (by omega)
          have d1 : dk b.1 (x :: r) = dk b.1 r := by
            show (if _ then _ else _) = _
            rw [if_neg hfd]
          have d2 : dn b.1 (x :: r) kp.length = (1, (kp.length : Int) + 1) :: dn b.1 r kp.length := by
            show (if _ then _ else _) = _
            rw [if_neg hfd]
          refine x_aload rfl rfl ?_
          refine x_const rfl ?_
          refine x_iload rfl rfl ?_
          refine x_const rfl ?_
          refine x_iadd rfl ⟨by omega, by omega⟩ ?_
          refine x_callV2 rfl (by assumption) (Nat.le_of_ble_eq_true rfl) ?_
          refine c_S_tell hs' (by omega) (fun μ1 hs1 hf1 => ?_)
          refine x_goto rfl ?_
          refine x_iinc rfl rfl ⟨by omega, by omega⟩ ?_
          refine x_goto rfl ?_
          exact ih (k + 1) kp (nt' ++ [(1, (kp.length : Int) + 1)]) V (am_fu T nt'.length (1, (kp.length : Int) + 1)) μ1 (by omega) hr' hkp (by omega) (hnt'.app _) (by simp; omega) (by rw [List.length_append]; exact hs1) (by rw [← e1, d1]) (by rw [← e2, d2]; simp) (hf.tr hf1)
  refine am_wp pS_dropGone (Nat.le_of_ble_eq_true rfl) ?_
  refine x_const rfl ?_
  refine x_istore rfl (Nat.le_of_ble_eq_true rfl) ?_
  refine x_const rfl ?_
  refine x_istore rfl (Nat.le_of_ble_eq_true rfl) ?_
  exact loop v 0 [] nt V0 T0 μ (by omega) (fun i hi => by rw [Nat.zero_add]; exact hV0 i hi) (fun i hi => by cases hi) (Nat.le_refl 0) hT0 hnt hs0 rfl rfl fr.rf
theorem c_S_learnFlags (h : se μ a v nt mb ro hi) (hnt : nt.length + v.length ≤ 49) (hb : bx μ ab b vl) (hd : ab + 4 ≤ a ∨ a + 5 ≤ ab) (hQ : ∀ μ', se μ' a (lv b.1 v) (nt ++ ln b.1 v 0) mb ro hi → fr μ μ' a (a + 5) → Q none (nn, ss, μ')) : am_Wp mv_P (d + 2) jS_learnFlags [.inr (some a), .inr (some ab)] (nn, ss, μ) Q := by
  obtain ⟨V0, T0, hs0, hV0, hT0, hv24, hn49, hro⟩ := h
  have h12 : b.1.length ≤ 12 := by obtain ⟨W, -, h2, -⟩ := hb; exact h2
  have loop : ∀ (r : List mv_V) (k : Nat) (kp nt' : List mv_V) (V T : Nat → mv_V) (μ' : Nat → Option am_C), k + r.length = v.length → (∀ i, i < r.length → V (k + i) = vg r i) → lL kp V → kp.length = k → lL nt' T → nt'.length + r.length ≤ 49 → seA μ' a V T v.length nt'.length mb ro hi → kp ++ lv b.1 r = lv b.1 v → nt' ++ ln b.1 r k = nt ++ ln b.1 v 0 → fr μ μ' a (a + 5) → ∀ l3, am_Ex mv_P (d + 1) (am_at kS_learnFlags) (2, [some (.inr (some a)), some (.inr (some ab)), some (.inl ((k : Int) + 1)), l3], [], nn, ss, μ') Q := by
    intro r
    induction r with
    | nil =>
      intro k kp nt' V T μ' hk hr hkp hkk hnt' hn' hs e1 e2 hf l3
      have hs' := hs
      obtain ⟨g0, g1, g2, g3, g4⟩ := hs
      simp only [List.length_nil] at hk
      refine x_iload rfl rfl ?_
      refine x_aload rfl rfl ?_
      refine x_get rfl (by assumption) rfl ?_
      refine x_icmp_gt rfl (fun hc => ?_) (fun hc => ?_)
      · refine x_vret rfl ?_
        have e1 : kp = lv b.1 v := (List.append_nil kp).symm.trans e1
        have e2 : nt' = nt ++ ln b.1 v 0 := (List.append_nil nt').symm.trans e2
        rw [← e1, ← e2] at hQ
        rw [show v.length = kp.length by omega] at hs'
        exact hQ μ' ⟨V, T, hs', hkp, hnt', by omega, by simpa using hn', hro⟩ hf
      · exact absurd hc (by omega)
    | cons x r ih =>
      intro k kp nt' V T μ' hk hr hkp hkk hnt' hn' hs e1 e2 hf l3
      have hs' := hs
      obtain ⟨g0, g1, g2, g3, g4⟩ := hs
      have hb' := hb.fr hf (by omega)
      obtain ⟨fs2, hob2⟩ := hb'.ob
      simp only [List.length_cons] at hk hn'
      have hVk : V k = x := by
        have := hr 0 (by simp)
        rw [Nat.add_zero, vg_0] at this
        exact this
      have hr' : ∀ i, i < r.length → V (k + 1 + i) = vg r i := fun i hi => by
        have := hr (i + 1) (by simp; omega)
        rw [vg_s, show k + (i + 1) = k + 1 + i by omega] at this
        exact this
      have hkpx : lL (kp ++ [x]) V := by
        have := hkp.app x
        rw [hkk, ← hVk] at this
        intro i hi
        have g := this i (by rw [hVk]; exact hi)
        rw [← hVk, ← g]
        by_cases hik : i = k
        · rw [hik, am_fu_s]
        · rw [am_fu_n hik]
      refine x_iload rfl rfl ?_
      refine x_aload rfl rfl ?_
      refine x_get rfl (by assumption) rfl ?_
      refine x_icmp_gt rfl (fun hc => ?_) (fun hc => ?_)
      · exact absurd hc (by omega)
      · refine x_aload rfl rfl ?_
        refine x_aload rfl rfl ?_
        refine x_iload rfl rfl ?_
        refine x_callV1 rfl (by assumption) (Nat.le_of_ble_eq_true rfl) ?_
        refine c_S_uidOf hs' rfl (by omega) ?_
        refine x_callV1 rfl (by assumption) (Nat.le_of_ble_eq_true rfl) ?_
        rw [hVk]
        refine d_B_positionOf hb' ?_
        refine x_istore rfl (Nat.le_of_ble_eq_true rfl) ?_
        refine x_iload rfl rfl ?_
        refine x_const rfl ?_
        refine x_icmp_eq rfl (fun hc => ?_) (fun hc => ?_)
        · have hfd : ¬ fp b.1 x.1 < b.1.length := by
            intro q
            unfold pz at hc
            rw [if_pos q] at hc
            omega
          have d1 : lv b.1 (x :: r) = x :: lv b.1 r := by
            show (if _ then _ else _) :: _ = _
            rw [if_neg hfd]
          have d2 : ln b.1 (x :: r) k = ln b.1 r (k + 1) := by
            show (if _ then _ else _) = _
            rw [if_neg (fun q => hfd q.1)]
          refine x_iinc rfl rfl ⟨by omega, by omega⟩ ?_
          refine x_goto rfl ?_
          exact ih (k + 1) (kp ++ [x]) nt' V T μ' (by omega) hr' hkpx (by simp; omega) hnt' (by omega) hs' (by rw [← e1, d1]; simp) (by rw [← e2, d2]) hf _
        · have hfd : fp b.1 x.1 < b.1.length := by
            unfold pz at hc
            split at hc
            · assumption
            · exact absurd rfl hc
          have epz : pz b.1 x.1 = (fp b.1 x.1 : Int) := by
            unfold pz
            rw [if_pos hfd]
          rw [epz]
          have d1 : lv b.1 (x :: r) = (x.1, (mg b.1 (fp b.1 x.1)).2.1) :: lv b.1 r := by
            show (if _ then _ else _) :: _ = _
            rw [if_pos hfd]
          refine x_aload rfl rfl ?_
          refine x_iload rfl rfl ?_
          refine x_callV1 rfl (by assumption) (Nat.le_of_ble_eq_true rfl) ?_
          refine d_B_flagsAt hb' hfd ?_
          refine x_aload rfl rfl ?_
          refine x_iload rfl rfl ?_
          refine x_callV1 rfl (by assumption) (Nat.le_of_ble_eq_true rfl) ?_
          refine c_S_knownFlagsOf hs' rfl (by omega) ?_
          rw [hVk]
          refine x_icmp_eq rfl (fun hc => ?_) (fun hc => ?_)
          · have d2 : ln b.1 (x :: r) k = ln b.1 r (k + 1) := by
              show (if _ then _ else _) = _
              rw [if_neg (fun q => q.2 hc)]
            have ex : (x.1, (mg b.1 (fp b.1 x.1)).2.1) = x := by rw [hc]
            rw [ex] at d1
            refine x_iinc rfl rfl ⟨by omega, by omega⟩ ?_
            refine x_goto rfl ?_
            exact ih (k + 1) (kp ++ [x]) nt' V T μ' (by omega) hr' hkpx (by simp; omega) hnt' (by omega) hs' (by rw [← e1, d1]; simp) (by rw [← e2, d2]) hf _
          · have d2 : ln b.1 (x :: r) k = (3, (k : Int) + 1) :: ln b.1 r (k + 1) := by
              show (if _ then _ else _) = _
              rw [if_pos ⟨hfd, hc⟩]
            refine x_aload rfl rfl ?_
            refine x_iload rfl rfl ?_
            refine x_aload rfl rfl ?_
            refine x_iload rfl rfl ?_
            refine x_callV1 rfl (by assumption) (Nat.le_of_ble_eq_true rfl) ?_
            refine d_B_flagsAt hb' hfd ?_
            refine x_callV2 rfl (by assumption) (Nat.le_of_ble_eq_true rfl) ?_
            refine c_S_know hs' rfl (by omega) (fun μ1 hs1 hf1 => ?_)
            have hs1' := hs1
            obtain ⟨g0, -⟩ := hs1
            refine x_aload rfl rfl ?_
            refine x_const rfl ?_
            refine x_iload rfl rfl ?_
            refine x_callV2 rfl (by assumption) (Nat.le_of_ble_eq_true rfl) ?_
            refine c_S_tell hs1' (by omega) (fun μ2 hs2 hf2 => ?_)
            refine x_iinc rfl rfl ⟨by omega, by omega⟩ ?_
            refine x_goto rfl ?_
            refine ih (k + 1) (kp ++ [(x.1, (mg b.1 (fp b.1 x.1)).2.1)]) (nt' ++ [(3, (k : Int) + 1)]) (am_fu V k ((V k).1, (mg b.1 (fp b.1 x.1)).2.1)) (am_fu T nt'.length (3, (k : Int) + 1)) μ2 (by omega) (fun i hi => by rw [am_fu_n (by omega)]; exact hr' i hi) ?_ (by simp; omega) (hnt'.app _) (by simp; omega) (by rw [List.length_append]; exact hs2) (by rw [← e1, d1]; simp) (by rw [← e2, d2]; simp) (hf.tr (hf1.tr hf2)) _
            have := hkp.app (x.1, (mg b.1 (fp b.1 x.1)).2.1)
            rw [hkk] at this
            rw [hVk]
            exact this
  refine am_wp pS_learnFlags (Nat.le_of_ble_eq_true rfl) ?_
  refine x_const rfl ?_
  refine x_istore rfl (Nat.le_of_ble_eq_true rfl) ?_
  exact loop v 0 [] nt V0 T0 μ (by omega) (fun i hi => by rw [Nat.zero_add]; exact hV0 i hi) (fun i hi => by cases hi) rfl hT0 hnt hs0 rfl rfl fr.rf none
/-- the three steps of an update -/
def upV (l : List mv_Q) (v : List mv_V) (hi : Int) (rm : Int) : List mv_V := lv l (ga l (if rm = 0 then v else dk l v, hi)).1
def upH (l : List mv_Q) (v : List mv_V) (hi : Int) (rm : Int) : Int := (ga l (if rm = 0 then v else dk l v, hi)).2
def upN (l : List mv_Q) (v : List mv_V) (hi : Int) (rm : Int) : List mv_V := (if rm = 0 then [] else dn l v 0) ++ ((if (if rm = 0 then v else dk l v).length < (ga l (if rm = 0 then v else dk l v, hi)).1.length then [(2, ((ga l (if rm = 0 then v else dk l v, hi)).1.length : Int))] else []) ++ ln l (ga l (if rm = 0 then v else dk l v, hi)).1 0)
theorem c_S_update {rm : Int} (h : se μ a v nt mb ro hi) (hb : bx μ ab b vl) (hd : ab + 4 ≤ a ∨ a + 5 ≤ ab) (hQ : ∀ μ', se μ' a (upV b.1 v hi rm) (upN b.1 v hi rm) mb ro (upH b.1 v hi rm) → fr μ μ' a (a + 5) → Q none (nn, ss, μ')) : am_Wp mv_P (d + 3) jS_update [.inr (some a), .inr (some ab), .inl rm] (nn, ss, μ) Q := by
  obtain ⟨V, T, ⟨g0, g1, g2, g3, g4⟩, h2, h3, h4, h5, h6⟩ := h
  have tail : ∀ (v1 n1 : List mv_V) (μ' : Nat → Option am_C), se μ' a v1 n1 mb ro hi → n1.length ≤ 24 → v1.length ≤ 24 → v1 = (if rm = 0 then v else dk b.1 v) → n1 = (if rm = 0 then [] else dn b.1 v 0) → fr μ μ' a (a + 5) → am_Ex mv_P (d + 2) (am_at kS_update) (14, [some (.inr (some a)), some (.inr (some ab)), some (.inl rm), none], [], nn, ss, μ') Q := by
    intro v1 n1 μ' hs hn1 hv1 e1 e2 hf
    have hb' := hb.fr hf (by omega)
    have hs' := hs
    obtain ⟨V1, T1, ⟨k0, k1, k2, k3, k4⟩, -⟩ := hs
    have hlen := ga_len b.1 (v1, hi) hv1
    simp only at hlen
    refine x_aload rfl rfl ?_
    refine x_get rfl (by assumption) rfl ?_
    refine x_istore rfl (Nat.le_of_ble_eq_true rfl) ?_
    refine x_aload rfl rfl ?_
    refine x_aload rfl rfl ?_
    refine x_callV1 rfl (by assumption) (Nat.le_of_ble_eq_true rfl) ?_
    refine c_S_takeInNew hs' hb' hd (fun μ2 hs2 hf2 => ?_)
    have hb2 := hb'.fr hf2 (by omega)
    have hs2' := hs2
    obtain ⟨V2, T2, ⟨l0, l1, l2, l3, l4⟩, -⟩ := hs2
    refine x_aload rfl rfl ?_
    refine x_get rfl (by assumption) rfl ?_
    refine x_iload rfl rfl ?_
    refine x_icmp_le rfl (fun hc => ?_) (fun hc => ?_)
    · refine x_aload rfl rfl ?_
      refine x_aload rfl rfl ?_
      refine x_callV1 rfl (by assumption) (Nat.le_of_ble_eq_true rfl) ?_
      refine c_S_learnFlags hs2' (by omega) hb2 hd (fun μ3 hs3 hf3 => ?_)
      refine x_vret rfl ?_
      refine hQ μ3 ?_ (hf.tr (hf2.tr hf3))
      unfold upV upN upH
      rw [← e1, ← e2, if_neg (show ¬ v1.length < (ga b.1 (v1, hi)).1.length by omega), List.nil_append]
      exact hs3
    · refine x_aload rfl rfl ?_
      refine x_const rfl ?_
      refine x_aload rfl rfl ?_
      refine x_get rfl (by assumption) rfl ?_
      refine x_callV2 rfl (by assumption) (Nat.le_of_ble_eq_true rfl) ?_
      refine d_S_tell hs2' (by omega) (fun μ3 hs3 hf3 => ?_)
      have hb3 := hb2.fr hf3 (by omega)
      have hs3' := hs3
      obtain ⟨V3, T3, ⟨m0, m1, m2, m3, m4⟩, -⟩ := hs3
      refine x_aload rfl rfl ?_
      refine x_aload rfl rfl ?_
      refine x_callV1 rfl (by assumption) (Nat.le_of_ble_eq_true rfl) ?_
      refine c_S_learnFlags hs3' (by simp; omega) hb3 hd (fun μ4 hs4 hf4 => ?_)
      refine x_vret rfl ?_
      refine hQ μ4 ?_ (hf.tr (hf2.tr (hf3.tr hf4)))
      unfold upV upN upH
      rw [← e1, ← e2, if_pos (show v1.length < (ga b.1 (v1, hi)).1.length by omega), ← List.append_assoc]
      exact hs4
  refine am_wp pS_update (Nat.le_of_ble_eq_true rfl) ?_
  refine x_aload rfl rfl ?_
  refine x_const rfl ?_
  refine x_putG rfl (by assumption) (Nat.le_of_ble_eq_true rfl) rfl ?_
  intro μ1 n1 o1
  have hf1 : fr μ μ1 a (a + 5) := fr.one o1 (by omega) (by omega)
  have hs1 : se μ1 a v [] mb ro hi := ⟨V, T, ⟨n1, (o1 _ (by omega)).trans g1, (o1 _ (by omega)).trans g2, (o1 _ (by omega)).trans g3, (o1 _ (by omega)).trans g4⟩, h2, fun k hk => (by cases hk), h4, Nat.zero_le _, h6⟩
  have hb1 := hb.fr hf1 (by omega)
  refine x_iload rfl rfl ?_
  refine x_if_eq rfl (fun hc => ?_) (fun hc => ?_)
  · exact tail v [] μ1 hs1 (Nat.zero_le _) h4 (by rw [if_pos hc]) (by rw [if_pos hc]) hf1
  · refine x_aload rfl rfl ?_
    refine x_aload rfl rfl ?_
    refine x_callV1 rfl (by assumption) (Nat.le_of_ble_eq_true rfl) ?_
    have hdl := dk_len b.1 v 0
    refine c_S_dropGone hs1 (by simp; omega) hb1 hd (fun μ2 hs2 hf2 => ?_)
    exact tail _ _ μ2 hs2 (by rw [List.nil_append]; omega) (by omega) (by rw [if_neg hc]) (by rw [if_neg hc, List.nil_append]) (hf1.tr hf2)
theorem c_S_open {m r : Int} (h : se μ a v nt mb ro hi) (hr : r = 0 ∨ r = 1) (hb : bx μ ab b vl) (hd : ab + 4 ≤ a ∨ a + 5 ≤ ab) (hQ : ∀ μ', se μ' a (ga b.1 ([], 0)).1 [] m r (ga b.1 ([], 0)).2 → fr μ μ' a (a + 5) → Q none (nn, ss, μ')) : am_Wp mv_P (d + 3) jS_open [.inr (some a), .inl m, .inl r, .inr (some ab)] (nn, ss, μ) Q := by
  obtain ⟨V, T, ⟨g0, g1, g2, g3, g4⟩, h2, h3, h4, h5, h6⟩ := h
  have hfit : am_fit 1 (.inl r) = true := by
    rcases hr with rfl | rfl <;> rfl
  refine am_wp pS_open (Nat.le_of_ble_eq_true rfl) ?_
  refine x_aload rfl rfl ?_
  refine x_iload rfl rfl ?_
  refine x_putG rfl (by assumption) (Nat.le_of_ble_eq_true rfl) rfl ?_
  intro μ1 n1 o1
  refine x_aload rfl rfl ?_
  refine x_iload rfl rfl ?_
  refine x_putG rfl n1 (Nat.le_of_ble_eq_true rfl) hfit ?_
  intro μ2 n2 o2
  refine x_aload rfl rfl ?_
  refine x_const rfl ?_
  refine x_putG rfl (by assumption) (Nat.le_of_ble_eq_true rfl) rfl ?_
  intro μ3 n3 o3
  refine x_aload rfl rfl ?_
  refine x_const rfl ?_
  refine x_putG rfl (by assumption) (Nat.le_of_ble_eq_true rfl) rfl ?_
  intro μ4 n4 o4
  have key : ∀ x, x ≠ a → μ4 x = μ x := fun x hx => by rw [o4 x hx, o3 x hx, o2 x hx, o1 x hx]
  have hf : fr μ μ4 a (a + 5) := fr.one key (by omega) (by omega)
  have hs4 : se μ4 a [] nt m r 0 := ⟨V, T, ⟨n4, (key _ (by omega)).trans g1, (key _ (by omega)).trans g2, (key _ (by omega)).trans g3, (key _ (by omega)).trans g4⟩, fun k hk => (by cases hk), h3, Nat.zero_le _, h5, hr⟩
  refine x_aload rfl rfl ?_
  refine x_aload rfl rfl ?_
  refine x_callV1 rfl (by assumption) (Nat.le_of_ble_eq_true rfl) ?_
  refine c_S_takeInNew hs4 (hb.fr hf (by omega)) hd (fun μ5 hs5 hf5 => ?_)
  obtain ⟨V5, T5, ⟨k0, k1, k2, k3, k4⟩, p2, p3, p4, p5, p6⟩ := hs5
  refine x_aload rfl rfl ?_
  refine x_const rfl ?_
  refine x_putG rfl (by assumption) (Nat.le_of_ble_eq_true rfl) rfl ?_
  intro μ6 n6 o6
  refine x_vret rfl ?_
  exact hQ μ6 ⟨V5, T5, ⟨n6, (o6 _ (by omega)).trans k1, (o6 _ (by omega)).trans k2, (o6 _ (by omega)).trans k3, (o6 _ (by omega)).trans k4⟩, p2, fun k hk => (by cases hk), p4, Nat.zero_le _, p6⟩ (hf.tr (hf5.tr (fr.one o6 (by omega) (by omega))))
end Ses2
end
section
/-! criteria: ends, depths and truths of tokens, from the right -/
def dr {α : Type} (d0 : α) (n : Nat) (step : Nat → (Nat → α) → α) : Nat → (Nat → α)
  | 0 => fun _ => d0
  | m + 1 => am_fu (dr d0 n step m) (n - 1 - m) (step (n - 1 - m) (dr d0 n step m))
theorem dr_ok {α : Type} {d0 : α} {n : Nat} {step : Nat → (Nat → α) → α} (hs : ∀ i f g, (∀ j, i < j → j < n → f j = g j) → step i f = step i g) : ∀ m, m ≤ n → ∀ i, n - m ≤ i → i < n → dr d0 n step m i = step i (dr d0 n step m) := by
  intro m
  induction m with
  | zero => intro _ i h1 h2; omega
  | succ m ih =>
    intro hm i h1 h2
    have key : ∀ j, n - m ≤ j → j < n → dr d0 n step (m + 1) j = dr d0 n step m j := fun j hj1 hj2 => by
      show am_fu _ _ _ j = _
      rw [am_fu_n (by omega)]
    by_cases hi : i = n - 1 - m
    · have e : dr d0 n step (m + 1) i = step i (dr d0 n step m) := by
        show am_fu _ _ _ i = _
        rw [hi, am_fu_s]
      rw [e]
      exact hs i _ _ (fun j hj1 hj2 => (key j (by omega) hj2).symm)
    · rw [key i (by omega) h2, ih (by omega) i (by omega) h2]
      exact hs i _ _ (fun j hj1 hj2 => (key j (by omega) hj2).symm)
/-- the end, and the depth, that begin at a place: behind the row 15 and 0 -/
def eX (F : Nat → mv_V) (n : Nat) (j : Int) : Int := if j < n then (F j.toNat).1 else 15
def dX (F : Nat → mv_V) (n : Nat) (j : Int) : Int := if j < n then (F j.toNat).2 else 0
def mM (op : Int) (F : Nat → mv_V) (n i : Nat) : mv_V :=
  if op < 6 then ((i : Int) + 1, 0)
  else if op = 6 then (eX F n (i + 1), 1 + dX F n (i + 1))
  else (eX F n (eX F n (i + 1)), 1 + (if dX F n (i + 1) < dX F n (eX F n (i + 1)) then dX F n (eX F n (i + 1)) else dX F n (i + 1)))
/-- as mM, where an end that does not lie behind its place is taken as 15: then it reads only what lies behind -/
def mM' (op : Int) (F : Nat → mv_V) (n i : Nat) : mv_V := mM op (fun j => if (F j).1 ≤ j then (15, (F j).2) else F j) n i
def ed (tk : List mv_Q) : Nat → mv_V := dr (0, 0) tk.length (fun i F => mM' (mg tk i).1 F tk.length i) tk.length
theorem mM_cg {op : Int} {F G : Nat → mv_V} {n i : Nat} (hn14 : n ≤ 14) (hF : ∀ j, i < j → j < n → (j : Int) < (F j).1) (h : ∀ j, i < j → j < n → F j = G j) : mM op F n i = mM op G n i := by
  have e1 : ∀ j : Int, (i : Int) < j → eX F n j = eX G n j := fun j hj => by
    unfold eX
    split
    · rw [h _ (by omega) (by omega)]
    · rfl
  have e2 : ∀ j : Int, (i : Int) < j → dX F n j = dX G n j := fun j hj => by
    unfold dX
    split
    · rw [h _ (by omega) (by omega)]
    · rfl
  have e3 : (i : Int) < eX G n (i + 1) ∨ n ≤ i := by
    rw [← e1 _ (by omega)]
    unfold eX
    split
    · have := hF (((i : Int) + 1).toNat) (by omega) (by omega)
      omega
    · by_cases hi : n ≤ i
      · exact Or.inr hi
      · exact Or.inl (by omega)
  unfold mM
  by_cases h6 : op < 6
  · rw [if_pos h6, if_pos h6]
  · rw [if_neg h6, if_neg h6, e1 _ (show (i : Int) < i + 1 by omega), e2 _ (show (i : Int) < i + 1 by omega)]
    rcases e3 with e3 | e3
    · rw [e1 _ e3, e2 _ e3]
    · have z1 : ∀ F : Nat → mv_V, eX F n (i + 1) = 15 := fun F => by unfold eX; rw [if_neg (by omega)]
      rw [z1 G]
      have hn : ¬ (15 : Int) < n := by omega
      have z2 : ∀ F : Nat → mv_V, eX F n 15 = 15 := fun F => by unfold eX; rw [if_neg hn]
      have z3 : ∀ F : Nat → mv_V, dX F n 15 = 0 := fun F => by unfold dX; rw [if_neg hn]
      rw [z2 F, z2 G, z3 F, z3 G]
theorem ed_rec' (tk : List mv_Q) (h14 : tk.length ≤ 14) (i : Nat) (hi : i < tk.length) : ed tk i = mM' (mg tk i).1 (ed tk) tk.length i := by
  refine dr_ok (fun i f g h => ?_) tk.length (Nat.le_refl _) i (by omega) hi
  unfold mM'
  refine mM_cg h14 (fun j h1 h2 => ?_) (fun j h1 h2 => by rw [h j h1 h2])
  split
  · show (j : Int) < 15
    omega
  · omega
/-- ends lie behind their places -/
theorem ed_lt (tk : List mv_Q) (h14 : tk.length ≤ 14) : ∀ (m i : Nat), tk.length ≤ i + m → i < tk.length → (i : Int) < (ed tk i).1 ∧ (ed tk i).1 ≤ 15 ∧ 0 ≤ (ed tk i).2 ∧ (ed tk i).2 + i ≤ 14 := by
  intro m
  induction m with
  | zero => intro i h1 h2; omega
  | succ m ih =>
    intro i h1 h2
    have hb : ∀ j, i < j → j < tk.length → (j : Int) < (ed tk j).1 ∧ (ed tk j).1 ≤ 15 ∧ 0 ≤ (ed tk j).2 ∧ (ed tk j).2 + j ≤ 14 := fun j h3 h4 => ih j (by omega) h4
    rw [ed_rec' tk h14 i h2]
    have e : mM' (mg tk i).1 (ed tk) tk.length i = mM (mg tk i).1 (ed tk) tk.length i := by
      unfold mM'
      refine (mM_cg h14 (fun j h3 h4 => (hb j h3 h4).1) (fun j h3 h4 => ?_)).symm
      rw [if_neg (by have := (hb j h3 h4).1; omega)]
    rw [e]
    have hE : ∀ j : Int, (i : Int) < j → (i : Int) < eX (ed tk) tk.length j ∧ eX (ed tk) tk.length j ≤ 15 := fun j hj => by
      unfold eX
      split
      · have := hb j.toNat (by omega) (by omega)
        omega
      · omega
    have hD : ∀ j : Int, (i : Int) < j → 0 ≤ dX (ed tk) tk.length j ∧ dX (ed tk) tk.length j + i + 1 ≤ 14 := fun j hj => by
      unfold dX
      split
      · have := hb j.toNat (by omega) (by omega)
        omega
      · omega
    unfold mM
    have a1 := hE (i + 1) (by omega)
    have a2 := hE (eX (ed tk) tk.length (i + 1)) a1.1
    have b1 := hD (i + 1) (by omega)
    have b2 := hD (eX (ed tk) tk.length (i + 1)) a1.1
    split
    · simp only; omega
    · split
      · simp only; omega
      · simp only
        split <;> omega
theorem ed_in (tk : List mv_Q) (h14 : tk.length ≤ 14) {i : Nat} (hi : i < tk.length) : (i : Int) < (ed tk i).1 ∧ (ed tk i).1 ≤ 15 ∧ 0 ≤ (ed tk i).2 ∧ (ed tk i).2 + i ≤ 14 := ed_lt tk h14 tk.length i (by omega) hi
theorem ed_rec (tk : List mv_Q) (h14 : tk.length ≤ 14) {i : Nat} (hi : i < tk.length) : ed tk i = mM (mg tk i).1 (ed tk) tk.length i := by
  rw [ed_rec' tk h14 i hi]
  unfold mM'
  refine (mM_cg h14 (fun j h3 h4 => (ed_in tk h14 h4).1) (fun j h3 h4 => ?_)).symm
  rw [if_neg (by have := (ed_in tk h14 h4).1; omega)]
def gd (tk : List mv_Q) : Prop := 0 < tk.length ∧ (ed tk 0).1 = tk.length ∧ (ed tk 0).2 ≤ 5
/-- a leaf's truth, of a message q with the number x -/
def lfv (q : mv_Q) (x : Int) (t : mv_Q) : Int :=
  if t.1 = 1 then (if am_and q.2.1 t.2.1 = 0 then 0 else 1)
  else if t.1 = 2 then (if q.2.2 ≤ t.2.1 then 0 else 1)
  else if t.1 = 3 then (if t.2.1 ≤ q.2.2 then 0 else 1)
  else if t.1 = 4 then (if t.2.1 ≤ q.1 ∧ q.1 ≤ t.2.2 then 1 else 0)
  else if t.1 = 5 then (if t.2.1 ≤ x ∧ x ≤ t.2.2 then 1 else 0)
  else 1
def hX (Z : Nat → Int) (n : Nat) (j : Int) : Int := if j < n ∧ ¬ Z j.toNat = 0 then 1 else 0
def mH (t : mv_Q) (lf : mv_Q → Int) (F : Nat → mv_V) (Z : Nat → Int) (n i : Nat) : Int :=
  if t.1 < 6 then lf t
  else if t.1 = 7 then (if hX Z n (i + 1) = 1 ∧ hX Z n (eX F n (i + 1)) = 1 then 1 else 0)
  else if t.1 = 8 then (if hX Z n (i + 1) = 1 ∨ hX Z n (eX F n (i + 1)) = 1 then 1 else 0)
  else (if hX Z n (i + 1) = 1 then 0 else 1)
def tv (tk : List mv_Q) (lf : mv_Q → Int) : Nat → Int := dr 0 tk.length (fun i Z => mH (mg tk i) lf (ed tk) Z tk.length i) tk.length
theorem mH_cg {t : mv_Q} {lf : mv_Q → Int} {F : Nat → mv_V} {Z Y : Nat → Int} {n i : Nat} (hF : ∀ j, i < j → j < n → (j : Int) < (F j).1) (hn : n ≤ 14) (h : ∀ j, i < j → j < n → Z j = Y j) : mH t lf F Z n i = mH t lf F Y n i := by
  have e1 : ∀ j : Int, (i : Int) < j → hX Z n j = hX Y n j := fun j hj => by
    unfold hX
    by_cases hjn : j < n
    · rw [h j.toNat (by omega) (by omega)]
    · rw [if_neg (fun g => hjn g.1), if_neg (fun g => hjn g.1)]
  have e3 : (i : Int) < eX F n (i + 1) ∨ n ≤ i := by
    unfold eX
    split
    · have := hF (((i : Int) + 1).toNat) (by omega) (by omega)
      omega
    · by_cases hi : n ≤ i
      · exact Or.inr hi
      · exact Or.inl (by omega)
  have e4 : hX Z n (eX F n (i + 1)) = hX Y n (eX F n (i + 1)) := by
    rcases e3 with e3 | e3
    · exact e1 _ e3
    · have z : eX F n (i + 1) = 15 := by unfold eX; rw [if_neg (by omega)]
      rw [z]
      unfold hX
      rw [if_neg (fun g => by have := g.1; omega), if_neg (fun g => by have := g.1; omega)]
  unfold mH
  rw [e1 _ (show (i : Int) < i + 1 by omega), e4]
theorem tv_rec (tk : List mv_Q) (lf : mv_Q → Int) (h14 : tk.length ≤ 14) {i : Nat} (hi : i < tk.length) : tv tk lf i = mH (mg tk i) lf (ed tk) (tv tk lf) tk.length i := by
  refine dr_ok (fun i f g h => ?_) tk.length (Nat.le_refl _) i (by omega) hi
  have hF : ∀ j, i < j → j < tk.length → (j : Int) < (ed tk j).1 := fun j _ h2 => (ed_in tk h14 h2).1
  exact mH_cg hF h14 h
theorem hX_01 (Z : Nat → Int) (n : Nat) (j : Int) : hX Z n j = 0 ∨ hX Z n j = 1 := by
  unfold hX
  split
  · exact Or.inr rfl
  · exact Or.inl rfl
theorem lfv_01 (q : mv_Q) (x : Int) (t : mv_Q) : lfv q x t = 0 ∨ lfv q x t = 1 := by
  unfold lfv
  repeat' split
  all_goals first | exact Or.inl rfl | exact Or.inr rfl
-- the cells
def ctA (μ : Nat → Option am_C) (a : Nat) (K : Nat → mv_Q) (F : Nat → mv_V) (Z : Nat → Int) (n : Nat) : Prop :=
  μ a = some (.inl (4, [.inr (some (a + 1)), .inr (some (a + 2)), .inr (some (a + 3)), .inr (some (a + 4)), .inr (some (a + 5)), .inr (some (a + 6)), .inl n])) ∧ μ (a + 1) = some (.inr (.inl (0, 14, fun k => (K k).1))) ∧ μ (a + 2) = some (.inr (.inl (0, 14, fun k => (K k).2.1))) ∧ μ (a + 3) = some (.inr (.inl (0, 14, fun k => (K k).2.2))) ∧ μ (a + 4) = some (.inr (.inl (0, 14, fun k => (F k).1))) ∧ μ (a + 5) = some (.inr (.inl (0, 14, fun k => (F k).2))) ∧ μ (a + 6) = some (.inr (.inl (1, 14, Z)))
theorem ctA.fr {μ μ' : Nat → Option am_C} {a lo hi : Nat} {K : Nat → mv_Q} {F : Nat → mv_V} {Z : Nat → Int} {n : Nat} (h : ctA μ a K F Z n) (hf : fr μ μ' lo hi) (ho : a + 7 ≤ lo ∨ hi ≤ a) : ctA μ' a K F Z n := by
  obtain ⟨h0, h1, h2, h3, h4, h5, h6⟩ := h
  exact ⟨by rw [hf a (by omega)]; exact h0, by rw [hf (a + 1) (by omega)]; exact h1, by rw [hf (a + 2) (by omega)]; exact h2, by rw [hf (a + 3) (by omega)]; exact h3, by rw [hf (a + 4) (by omega)]; exact h4, by rw [hf (a + 5) (by omega)]; exact h5, by rw [hf (a + 6) (by omega)]; exact h6⟩
section Crt
variable {d nn ss a n : Nat} {μ : Nat → Option am_C} {Q : Option am_V → am_M → Prop} {K : Nat → mv_Q} {F : Nat → mv_V} {Z : Nat → Int}
theorem c_C_isOp {M : am_M} {x : Int} (hQ : Q (some (.inl (if 0 ≤ x ∧ x ≤ 8 then 1 else 0))) M) : am_Wp mv_P (d + 1) jC_isOp [.inl x] M Q := by
  refine am_wp pC_isOp (Nat.le_of_ble_eq_true rfl) ?_
  refine x_iload rfl rfl ?_
  refine x_if_lt rfl (fun hc => ?_) (fun hc => ?_)
  · refine x_const rfl ?_
    refine x_zret rfl (by first | exact Or.inl rfl | exact Or.inr rfl | assumption | omega) ?_
    rw [if_neg (by omega)] at hQ
    exact hQ
  · refine x_iload rfl rfl ?_
    refine x_const rfl ?_
    refine x_icmp_gt rfl (fun hc => ?_) (fun hc => ?_)
    · refine x_const rfl ?_
      refine x_zret rfl (by first | exact Or.inl rfl | exact Or.inr rfl | assumption | omega) ?_
      rw [if_neg (by omega)] at hQ
      exact hQ
    · refine x_const rfl ?_
      refine x_goto rfl ?_
      refine x_zret rfl (by first | exact Or.inl rfl | exact Or.inr rfl | assumption | omega) ?_
      rw [if_pos (by omega)] at hQ
      exact hQ
theorem c_C_tokenCount (h : ctA μ a K F Z n) (hQ : Q (some (.inl n)) (nn, ss, μ)) : am_Wp mv_P (d + 1) jC_tokenCount [.inr (some a)] (nn, ss, μ) Q := by
  obtain ⟨h0, h1, h2, h3, h4, h5, h6⟩ := h
  refine am_wp pC_tokenCount (Nat.le_of_ble_eq_true rfl) ?_
  refine x_aload rfl rfl ?_
  refine x_get rfl (by assumption) rfl ?_
  refine x_iret rfl ?_
  exact hQ
theorem c_C_isFull (h : ctA μ a K F Z n) (hQ : Q (some (.inl (if 14 ≤ n then 1 else 0))) (nn, ss, μ)) : am_Wp mv_P (d + 1) jC_isFull [.inr (some a)] (nn, ss, μ) Q := by
  obtain ⟨h0, h1, h2, h3, h4, h5, h6⟩ := h
  refine am_wp pC_isFull (Nat.le_of_ble_eq_true rfl) ?_
  refine x_aload rfl rfl ?_
  refine x_get rfl (by assumption) rfl ?_
  refine x_const rfl ?_
  refine x_icmp_lt rfl (fun hc => ?_) (fun hc => ?_)
  · refine x_const rfl ?_
    refine x_zret rfl (by first | exact Or.inl rfl | exact Or.inr rfl | assumption | omega) ?_
    rw [if_neg (by omega)] at hQ
    exact hQ
  · refine x_const rfl ?_
    refine x_goto rfl ?_
    refine x_zret rfl (by first | exact Or.inl rfl | exact Or.inr rfl | assumption | omega) ?_
    rw [if_pos (by omega)] at hQ
    exact hQ
theorem c_C_wipe (h : ctA μ a K F Z n) (hQ : ∀ μ', ctA μ' a K F Z 0 → fr μ μ' a (a + 7) → Q none (nn, ss, μ')) : am_Wp mv_P (d + 1) jC_wipe [.inr (some a)] (nn, ss, μ) Q := by
  obtain ⟨h0, h1, h2, h3, h4, h5, h6⟩ := h
  refine am_wp pC_wipe (Nat.le_of_ble_eq_true rfl) ?_
  refine x_aload rfl rfl ?_
  refine x_const rfl ?_
  refine x_putG rfl (by assumption) (Nat.le_of_ble_eq_true rfl) rfl ?_
  intro μ1 n1 o1
  refine x_vret rfl ?_
  exact hQ μ1 ⟨n1, (o1 _ (by omega)).trans h1, (o1 _ (by omega)).trans h2, (o1 _ (by omega)).trans h3, (o1 _ (by omega)).trans h4, (o1 _ (by omega)).trans h5, (o1 _ (by omega)).trans h6⟩ (fr.one o1 (by omega) (by omega))
theorem c_C_write {x y z : Int} (h : ctA μ a K F Z n) (hn : n < 14) (hQ : ∀ μ', ctA μ' a (am_fu K n (x, y, z)) F Z (n + 1) → fr μ μ' a (a + 7) → Q none (nn, ss, μ')) : am_Wp mv_P (d + 1) jC_write [.inr (some a), .inl x, .inl y, .inl z] (nn, ss, μ) Q := by
  obtain ⟨h0, h1, h2, h3, h4, h5, h6⟩ := h
  refine am_wp pC_write (Nat.le_of_ble_eq_true rfl) ?_
  refine x_aload rfl rfl ?_
  refine x_get rfl (by assumption) rfl ?_
  refine x_aload rfl rfl ?_
  refine x_get rfl (by assumption) rfl ?_
  refine x_iload rfl rfl ?_
  refine x_iastN (j := n) rfl (by assumption) (by omega) (by omega) rfl ?_
  intro μ1 n1 o1
  have h0 := (o1 a (by omega)).trans h0
  have h2 := (o1 (a + 2) (by omega)).trans h2
  have h3 := (o1 (a + 3) (by omega)).trans h3
  refine x_aload rfl rfl ?_
  refine x_get rfl (by assumption) rfl ?_
  refine x_aload rfl rfl ?_
  refine x_get rfl (by assumption) rfl ?_
  refine x_iload rfl rfl ?_
  refine x_iastN (j := n) rfl (by assumption) (by omega) (by omega) rfl ?_
  intro μ2 n2 o2
  have h0 := (o2 a (by omega)).trans h0
  have n1 := (o2 (a + 1) (by omega)).trans n1
  have h3 := (o2 (a + 3) (by omega)).trans h3
  refine x_aload rfl rfl ?_
  refine x_get rfl (by assumption) rfl ?_
  refine x_aload rfl rfl ?_
  refine x_get rfl (by assumption) rfl ?_
  refine x_iload rfl rfl ?_
  refine x_iastN (j := n) rfl (by assumption) (by omega) (by omega) rfl ?_
  intro μ3 n3 o3
  have h0 := (o3 a (by omega)).trans h0
  have n1 := (o3 (a + 1) (by omega)).trans n1
  have n2 := (o3 (a + 2) (by omega)).trans n2
  refine x_aload rfl rfl ?_
  refine x_dup rfl ?_
  refine x_get rfl (by assumption) rfl ?_
  refine x_const rfl ?_
  refine x_iadd rfl ⟨by omega, by omega⟩ ?_
  refine x_putG rfl (by assumption) (Nat.le_of_ble_eq_true rfl) rfl ?_
  intro μ4 n4 o4
  have n1 := (o4 (a + 1) (by omega)).trans n1
  have n2 := (o4 (a + 2) (by omega)).trans n2
  have n3 := (o4 (a + 3) (by omega)).trans n3
  rw [mv_fu1 K n (x, y, z)] at n1
  rw [mv_fu2 K n (x, y, z)] at n2
  rw [mv_fu3 K n (x, y, z)] at n3
  refine x_vret rfl ?_
  have key : ∀ w, w ≠ a → w ≠ a + 1 → w ≠ a + 2 → w ≠ a + 3 → μ4 w = μ w := fun w q0 q1 q2 q3 => by rw [o4 w q0, o3 w q3, o2 w q2, o1 w q1]
  exact hQ μ4 ⟨n4, n1, n2, n3, (key _ (by omega) (by omega) (by omega) (by omega)).trans h4, (key _ (by omega) (by omega) (by omega) (by omega)).trans h5, (key _ (by omega) (by omega) (by omega) (by omega)).trans h6⟩ (fun w hw => key w (by omega) (by omega) (by omega) (by omega))
theorem c_C_endFrom {j : Int} (h : ctA μ a K F Z n) (hn : n ≤ 14) (hj : 0 ≤ j) (hQ : Q (some (.inl (eX F n j))) (nn, ss, μ)) : am_Wp mv_P (d + 1) jC_endFrom [.inr (some a), .inl j] (nn, ss, μ) Q := by
  obtain ⟨h0, h1, h2, h3, h4, h5, h6⟩ := h
  refine am_wp pC_endFrom (Nat.le_of_ble_eq_true rfl) ?_
  unfold eX at hQ
  refine x_iload rfl rfl ?_
  refine x_aload rfl rfl ?_
  refine x_get rfl (by assumption) rfl ?_
  refine x_icmp_ge rfl (fun hc => ?_) (fun hc => ?_)
  · refine x_const rfl ?_
    refine x_iret rfl ?_
    rw [if_neg (by omega)] at hQ
    exact hQ
  · refine x_aload rfl rfl ?_
    refine x_get rfl (by assumption) rfl ?_
    refine x_iload rfl rfl ?_
    refine x_ialdN (j := j.toNat) rfl (by assumption) (by omega) (by omega) ?_
    refine x_goto rfl ?_
    refine x_iret rfl ?_
    rw [if_pos (by omega)] at hQ
    exact hQ
theorem c_C_depthFrom {j : Int} (h : ctA μ a K F Z n) (hn : n ≤ 14) (hj : 0 ≤ j) (hQ : Q (some (.inl (dX F n j))) (nn, ss, μ)) : am_Wp mv_P (d + 1) jC_depthFrom [.inr (some a), .inl j] (nn, ss, μ) Q := by
  obtain ⟨h0, h1, h2, h3, h4, h5, h6⟩ := h
  refine am_wp pC_depthFrom (Nat.le_of_ble_eq_true rfl) ?_
  unfold dX at hQ
  refine x_iload rfl rfl ?_
  refine x_aload rfl rfl ?_
  refine x_get rfl (by assumption) rfl ?_
  refine x_icmp_ge rfl (fun hc => ?_) (fun hc => ?_)
  · refine x_const rfl ?_
    refine x_iret rfl ?_
    rw [if_neg (by omega)] at hQ
    exact hQ
  · refine x_aload rfl rfl ?_
    refine x_get rfl (by assumption) rfl ?_
    refine x_iload rfl rfl ?_
    refine x_ialdN (j := j.toNat) rfl (by assumption) (by omega) (by omega) ?_
    refine x_goto rfl ?_
    refine x_iret rfl ?_
    rw [if_pos (by omega)] at hQ
    exact hQ
theorem c_C_holdsFrom {j : Int} (h : ctA μ a K F Z n) (hn : n ≤ 14) (hj : 0 ≤ j) (hQ : Q (some (.inl (hX Z n j))) (nn, ss, μ)) : am_Wp mv_P (d + 1) jC_holdsFrom [.inr (some a), .inl j] (nn, ss, μ) Q := by
  obtain ⟨h0, h1, h2, h3, h4, h5, h6⟩ := h
  refine am_wp pC_holdsFrom (Nat.le_of_ble_eq_true rfl) ?_
  unfold hX at hQ
  refine x_iload rfl rfl ?_
  refine x_aload rfl rfl ?_
  refine x_get rfl (by assumption) rfl ?_
  refine x_icmp_ge rfl (fun hc => ?_) (fun hc => ?_)
  · refine x_const rfl ?_
    refine x_zret rfl (by first | exact Or.inl rfl | exact Or.inr rfl | assumption | omega) ?_
    rw [if_neg (by omega)] at hQ
    exact hQ
  · refine x_aload rfl rfl ?_
    refine x_get rfl (by assumption) rfl ?_
    refine x_iload rfl rfl ?_
    refine x_ialdN (j := j.toNat) rfl (by assumption) (by omega) (by omega) ?_
    refine x_if_eq rfl (fun hc => ?_) (fun hc => ?_)
    · refine x_const rfl ?_
      refine x_zret rfl (by first | exact Or.inl rfl | exact Or.inr rfl | assumption | omega) ?_
      rw [if_neg (fun g => g.2 hc)] at hQ
      exact hQ
    · refine x_const rfl ?_
      refine x_goto rfl ?_
      refine x_zret rfl (by first | exact Or.inl rfl | exact Or.inr rfl | assumption | omega) ?_
      rw [if_pos ⟨by omega, hc⟩] at hQ
      exact hQ
theorem c_C_joinHolds {i : Nat} (lf : mv_Q → Int) (h : ctA μ a K F Z n) (hn : n ≤ 14) (hi : i < n) (h6 : 6 ≤ (K i).1) (hF : ∀ j, i < j → j < n → 0 ≤ (F j).1) (hQ : Q (some (.inl (mH (K i) lf F Z n i))) (nn, ss, μ)) : am_Wp mv_P (d + 2) jC_joinHolds [.inr (some a), .inl i] (nn, ss, μ) Q := by
  have h' := h
  obtain ⟨h0, h1, -⟩ := h
  have he : 0 ≤ eX F n ((i : Int) + 1) := by
    unfold eX
    split
    · exact hF _ (by omega) (by omega)
    · omega
  refine am_wp pC_joinHolds (Nat.le_of_ble_eq_true rfl) ?_
  refine x_aload rfl rfl ?_
  refine x_iload rfl rfl ?_
  refine x_const rfl ?_
  refine x_iadd rfl ⟨by omega, by omega⟩ ?_
  refine x_callV1 rfl (by assumption) (Nat.le_of_ble_eq_true rfl) ?_
  refine c_C_holdsFrom h' hn (by omega) ?_
  refine x_istore rfl (Nat.le_of_ble_eq_true rfl) ?_
  refine x_aload rfl rfl ?_
  refine x_aload rfl rfl ?_
  refine x_iload rfl rfl ?_
  refine x_const rfl ?_
  refine x_iadd rfl ⟨by omega, by omega⟩ ?_
  refine x_callV1 rfl (by assumption) (Nat.le_of_ble_eq_true rfl) ?_
  refine c_C_endFrom h' hn (by omega) ?_
  refine x_callV1 rfl (by assumption) (Nat.le_of_ble_eq_true rfl) ?_
  refine c_C_holdsFrom h' hn he ?_
  refine x_istore rfl (Nat.le_of_ble_eq_true rfl) ?_
  refine x_aload rfl rfl ?_
  refine x_get rfl (by assumption) rfl ?_
  refine x_iload rfl rfl ?_
  refine x_ialdN (j := i) rfl (by assumption) (by omega) (by omega) ?_
  refine x_lsw rfl ?_
  unfold mH at hQ
  rw [if_neg (show ¬ (K i).1 < 6 by omega)] at hQ
  have q1 := hX_01 Z n ((i : Int) + 1)
  have q2 := hX_01 Z n (eX F n ((i : Int) + 1))
  generalize hX Z n ((i : Int) + 1) = p at *
  generalize hX Z n (eX F n ((i : Int) + 1)) = q at *
  by_cases h7 : (K i).1 = 7
  · rw [h7]
    rw [if_pos h7] at hQ
    show am_Ex mv_P (d + 1) (am_at kC_joinHolds) (52, _, _, _) Q
    refine x_iload rfl rfl ?_
    refine x_if_eq rfl (fun hc => ?_) (fun hc => ?_)
    · refine x_const rfl ?_
      refine x_zret rfl (by first | exact Or.inl rfl | exact Or.inr rfl | assumption | omega) ?_
      rw [if_neg (by omega)] at hQ
      exact hQ
    · refine x_iload rfl rfl ?_
      refine x_if_eq rfl (fun hc => ?_) (fun hc => ?_)
      · refine x_const rfl ?_
        refine x_zret rfl (by first | exact Or.inl rfl | exact Or.inr rfl | assumption | omega) ?_
        rw [if_neg (by omega)] at hQ
        exact hQ
      · refine x_const rfl ?_
        refine x_goto rfl ?_
        refine x_zret rfl (by first | exact Or.inl rfl | exact Or.inr rfl | assumption | omega) ?_
        rw [if_pos (by omega)] at hQ
        exact hQ
  · rw [if_neg h7] at hQ
    by_cases h8 : (K i).1 = 8
    · rw [h8]
      rw [if_pos h8] at hQ
      show am_Ex mv_P (d + 1) (am_at kC_joinHolds) (66, _, _, _) Q
      refine x_iload rfl rfl ?_
      refine x_if_ne rfl (fun hc => ?_) (fun hc => ?_)
      · refine x_const rfl ?_
        refine x_goto rfl ?_
        refine x_zret rfl (by first | exact Or.inl rfl | exact Or.inr rfl | assumption | omega) ?_
        rw [if_pos (by omega)] at hQ
        exact hQ
      · refine x_iload rfl rfl ?_
        refine x_if_eq rfl (fun hc => ?_) (fun hc => ?_)
        · refine x_const rfl ?_
          refine x_zret rfl (by first | exact Or.inl rfl | exact Or.inr rfl | assumption | omega) ?_
          rw [if_neg (by omega)] at hQ
          exact hQ
        · refine x_const rfl ?_
          refine x_goto rfl ?_
          refine x_zret rfl (by first | exact Or.inl rfl | exact Or.inr rfl | assumption | omega) ?_
          rw [if_pos (by omega)] at hQ
          exact hQ
    · rw [if_neg h8] at hQ
      have e : am_lk [(7, 52), (8, 66)] 80 (K i).1 = 80 := by
        unfold am_lk
        rw [if_neg h7]
        unfold am_lk
        rw [if_neg h8]
        rfl
      rw [e]
      refine x_iload rfl rfl ?_
      refine x_if_ne rfl (fun hc => ?_) (fun hc => ?_)
      · refine x_const rfl ?_
        refine x_zret rfl (by first | exact Or.inl rfl | exact Or.inr rfl | assumption | omega) ?_
        rw [if_pos (by omega)] at hQ
        exact hQ
      · refine x_const rfl ?_
        refine x_goto rfl ?_
        refine x_zret rfl (by first | exact Or.inl rfl | exact Or.inr rfl | assumption | omega) ?_
        rw [if_neg (by omega)] at hQ
        exact hQ
theorem ctA.setE {μ' : Nat → Option am_C} {i : Nat} {e : Int} (h : ctA μ a K F Z n) (hn : μ' (a + 4) = some (.inr (.inl (0, 14, am_fu (fun k => (F k).1) i e)))) (ho : ∀ x, x ≠ a + 4 → μ' x = μ x) : ctA μ' a K (am_fu F i (e, (F i).2)) Z n := by
  obtain ⟨h0, h1, h2, h3, h4, h5, h6⟩ := h
  rw [am_fu_p (fun q : mv_V => q.1) F i (e, (F i).2)] at hn
  have e2 : (fun j => (am_fu F i (e, (F i).2) j).2) = fun j => (F j).2 := by
    funext j
    by_cases hj : j = i <;> simp [am_fu, hj]
  exact ⟨(ho _ (by omega)).trans h0, (ho _ (by omega)).trans h1, (ho _ (by omega)).trans h2, (ho _ (by omega)).trans h3, hn, by rw [e2]; exact (ho _ (by omega)).trans h5, (ho _ (by omega)).trans h6⟩
theorem ctA.setD {μ' : Nat → Option am_C} {i : Nat} {e x : Int} (h : ctA μ a K (am_fu F i (e, (F i).2)) Z n) (hn : μ' (a + 5) = some (.inr (.inl (0, 14, am_fu (fun k => (am_fu F i (e, (F i).2) k).2) i x)))) (ho : ∀ x, x ≠ a + 5 → μ' x = μ x) : ctA μ' a K (am_fu F i (e, x)) Z n := by
  obtain ⟨h0, h1, h2, h3, h4, h5, h6⟩ := h
  have e1 : (fun j => (am_fu F i (e, (F i).2) j).1) = fun j => (am_fu F i (e, x) j).1 := by
    funext j
    by_cases hj : j = i <;> simp [am_fu, hj]
  have e2 : am_fu (fun k => (am_fu F i (e, (F i).2) k).2) i x = fun j => (am_fu F i (e, x) j).2 := by
    funext j
    by_cases hj : j = i <;> simp [am_fu, hj]
  rw [e1] at h4
  rw [e2] at hn
  exact ⟨(ho _ (by omega)).trans h0, (ho _ (by omega)).trans h1, (ho _ (by omega)).trans h2, (ho _ (by omega)).trans h3, (ho _ (by omega)).trans h4, hn, (ho _ (by omega)).trans h6⟩
theorem dX_fu {i : Nat} {q : mv_V} {j : Int} (h : (i : Int) < j) : dX (am_fu F i q) n j = dX F n j := by
  unfold dX
  split
  · rw [am_fu_n (by omega)]
  · rfl
theorem c_C_measure {i : Nat} (h : ctA μ a K F Z n) (hn : n ≤ 14) (hi : i < n) (hF : ∀ j, i < j → j < n → (j : Int) < (F j).1 ∧ 0 ≤ (F j).2 ∧ (F j).2 ≤ 100) (hQ : ∀ μ', ctA μ' a K (am_fu F i (mM (K i).1 F n i)) Z n → fr μ μ' a (a + 7) → Q none (nn, ss, μ')) : am_Wp mv_P (d + 2) jC_measure [.inr (some a), .inl i] (nn, ss, μ) Q := by
  have h' := h
  obtain ⟨h0, h1, h2, h3, h4, h5, h6⟩ := h
  have he : (i : Int) < eX F n ((i : Int) + 1) := by
    unfold eX
    split
    · have := (hF (((i : Int) + 1).toNat) (by omega) (by omega)).1
      omega
    · omega
  have hdb : ∀ j : Int, (i : Int) < j → 0 ≤ dX F n j ∧ dX F n j ≤ 100 := fun j hj => by
    unfold dX
    split
    · exact (hF _ (by omega) (by omega)).2
    · omega
  refine am_wp pC_measure (Nat.le_of_ble_eq_true rfl) ?_
  refine x_iload rfl rfl ?_
  refine x_const rfl ?_
  refine x_iadd rfl ⟨by omega, by omega⟩ ?_
  refine x_istore rfl (Nat.le_of_ble_eq_true rfl) ?_
  refine x_aload rfl rfl ?_
  refine x_iload rfl rfl ?_
  refine x_callV1 rfl (by assumption) (Nat.le_of_ble_eq_true rfl) ?_
  refine c_C_endFrom h' hn (by omega) ?_
  refine x_istore rfl (Nat.le_of_ble_eq_true rfl) ?_
  refine x_aload rfl rfl ?_
  refine x_get rfl (by assumption) rfl ?_
  refine x_iload rfl rfl ?_
  refine x_ialdN (j := i) rfl (by assumption) (by omega) (by omega) ?_
  refine x_const rfl ?_
  refine x_icmp_ge rfl (fun hc => ?_) (fun hc => ?_)
  · have hn6 : ¬ (K i).1 < 6 := by omega
    refine x_aload rfl rfl ?_
    refine x_get rfl (by assumption) rfl ?_
    refine x_iload rfl rfl ?_
    refine x_ialdN (j := i) rfl (by assumption) (by omega) (by omega) ?_
    refine x_const rfl ?_
    refine x_icmp_ne rfl (fun hc => ?_) (fun hc => ?_)
    · have hc' : ¬ (K i).1 = 6 := hc
      have em : mM (K i).1 F n i = (eX F n (eX F n (i + 1)), 1 + (if dX F n (i + 1) < dX F n (eX F n (i + 1)) then dX F n (eX F n (i + 1)) else dX F n (i + 1))) := by
        unfold mM
        rw [if_neg hn6, if_neg hc']
      refine x_aload rfl rfl ?_
      refine x_get rfl (by assumption) rfl ?_
      refine x_iload rfl rfl ?_
      refine x_aload rfl rfl ?_
      refine x_iload rfl rfl ?_
      refine x_callV1 rfl (by assumption) (Nat.le_of_ble_eq_true rfl) ?_
      refine c_C_endFrom h' hn (by omega) ?_
      refine x_iastN (j := i) rfl (by assumption) (by omega) (by omega) rfl ?_
      intro μ1 n1 o1
      have g1 := h'.setE n1 o1
      have g1' := g1
      obtain ⟨k0, k1, k2, k3, k4, k5, k6⟩ := g1
      refine x_aload rfl rfl ?_
      refine x_get rfl (by assumption) rfl ?_
      refine x_iload rfl rfl ?_
      refine x_const rfl ?_
      refine x_aload rfl rfl ?_
      refine x_iload rfl rfl ?_
      refine x_callV1 rfl (by assumption) (Nat.le_of_ble_eq_true rfl) ?_
      refine c_C_depthFrom g1' hn (by omega) ?_
      rw [dX_fu (by omega)]
      refine x_aload rfl rfl ?_
      refine x_iload rfl rfl ?_
      refine x_callV1 rfl (by assumption) (Nat.le_of_ble_eq_true rfl) ?_
      refine c_C_depthFrom g1' hn (by omega) ?_
      rw [dX_fu he]
      have b1 := hdb (i + 1) (by omega)
      have b2 := hdb _ he
      refine x_call2 rfl (Nat.le_of_ble_eq_true rfl) ?_
      refine am_wmax mv_P0 d ?_
      have b3 : 0 ≤ (if dX F n (i + 1) < dX F n (eX F n (i + 1)) then dX F n (eX F n (i + 1)) else dX F n (i + 1)) ∧ (if dX F n (i + 1) < dX F n (eX F n (i + 1)) then dX F n (eX F n (i + 1)) else dX F n (i + 1)) ≤ 100 := by
        split <;> assumption
      refine x_iadd rfl ⟨by omega, by omega⟩ ?_
      refine x_iastN (j := i) rfl (by assumption) (by omega) (by omega) rfl ?_
      intro μ2 n2 o2
      refine x_vret rfl ?_
      refine hQ μ2 ?_ ((fr.one o1 (by omega) (by omega)).tr (fr.one o2 (by omega) (by omega)))
      rw [em]
      exact g1'.setD n2 o2
    · have hc' : (K i).1 = 6 := Classical.not_not.mp hc
      have em : mM (K i).1 F n i = (eX F n (i + 1), 1 + dX F n (i + 1)) := by
        unfold mM
        rw [if_neg hn6, if_pos hc']
      refine x_aload rfl rfl ?_
      refine x_get rfl (by assumption) rfl ?_
      refine x_iload rfl rfl ?_
      refine x_iload rfl rfl ?_
      refine x_iastN (j := i) rfl (by assumption) (by omega) (by omega) rfl ?_
      intro μ1 n1 o1
      have g1 := h'.setE n1 o1
      have g1' := g1
      obtain ⟨k0, k1, k2, k3, k4, k5, k6⟩ := g1
      refine x_aload rfl rfl ?_
      refine x_get rfl (by assumption) rfl ?_
      refine x_iload rfl rfl ?_
      refine x_const rfl ?_
      refine x_aload rfl rfl ?_
      refine x_iload rfl rfl ?_
      refine x_callV1 rfl (by assumption) (Nat.le_of_ble_eq_true rfl) ?_
      refine c_C_depthFrom g1' hn (by omega) ?_
      rw [dX_fu (by omega)]
      have b1 := hdb (i + 1) (by omega)
      refine x_iadd rfl ⟨by omega, by omega⟩ ?_
      refine x_iastN (j := i) rfl (by assumption) (by omega) (by omega) rfl ?_
      intro μ2 n2 o2
      refine x_goto rfl ?_
      refine x_vret rfl ?_
      refine hQ μ2 ?_ ((fr.one o1 (by omega) (by omega)).tr (fr.one o2 (by omega) (by omega)))
      rw [em]
      exact g1'.setD n2 o2
  · have em : mM (K i).1 F n i = ((i : Int) + 1, 0) := by
      unfold mM
      rw [if_pos (by omega)]
    refine x_aload rfl rfl ?_
    refine x_get rfl (by assumption) rfl ?_
    refine x_iload rfl rfl ?_
    refine x_iload rfl rfl ?_
    refine x_iastN (j := i) rfl (by assumption) (by omega) (by omega) rfl ?_
    intro μ1 n1 o1
    have g1 := h'.setE n1 o1
    have g1' := g1
    obtain ⟨k0, k1, k2, k3, k4, k5, k6⟩ := g1
    refine x_aload rfl rfl ?_
    refine x_get rfl (by assumption) rfl ?_
    refine x_iload rfl rfl ?_
    refine x_const rfl ?_
    refine x_iastN (j := i) rfl (by assumption) (by omega) (by omega) rfl ?_
    intro μ2 n2 o2
    refine x_goto rfl ?_
    refine x_vret rfl ?_
    refine hQ μ2 ?_ ((fr.one o1 (by omega) (by omega)).tr (fr.one o2 (by omega) (by omega)))
    rw [em]
    exact g1'.setD n2 o2
end Crt
section Crt2
variable {d nn ss a : Nat} {μ : Nat → Option am_C} {Q : Option am_V → am_M → Prop} {K : Nat → mv_Q} {F : Nat → mv_V} {Z : Nat → Int} {tk : List mv_Q}
theorem c_C_isGood (h : ctA μ a K F Z tk.length) (h14 : tk.length ≤ 14) (hK : ∀ k, k < tk.length → K k = mg tk k) (h1 : ∀ μ' F', ctA μ' a K F' Z tk.length → (∀ k, k < tk.length → F' k = ed tk k) → gd tk → fr μ μ' a (a + 7) → Q (some (.inl 1)) (nn, ss, μ')) (h0 : ∀ μ' F', ctA μ' a K F' Z tk.length → ¬ gd tk → fr μ μ' a (a + 7) → Q (some (.inl 0)) (nn, ss, μ')) : am_Wp mv_P (d + 3) jC_isGood [.inr (some a)] (nn, ss, μ) Q := by
  have loop : ∀ (m : Nat) (μ' : Nat → Option am_C) (F' : Nat → mv_V), m ≤ tk.length → ctA μ' a K F' Z tk.length → (∀ k, m ≤ k → k < tk.length → F' k = ed tk k) → fr μ μ' a (a + 7) → am_Ex mv_P (d + 2) (am_at kC_isGood) (7, [some (.inr (some a)), some (.inl ((m : Int) - 1))], [], nn, ss, μ') Q := by
    intro m
    induction m with
    | zero =>
      intro μ' F' hm hc0 hF hf
      have hc0' := hc0
      obtain ⟨g0, g1, g2, g3, g4, g5, g6⟩ := hc0
      refine x_iload rfl rfl ?_
      refine x_if_lt rfl (fun hc => ?_) (fun hc => ?_)
      · refine x_aload rfl rfl ?_
        refine x_get rfl (by assumption) rfl ?_
        refine x_if_le rfl (fun hc => ?_) (fun hc => ?_)
        · refine x_const rfl ?_
          refine x_zret rfl (by first | exact Or.inl rfl | exact Or.inr rfl | assumption | omega) ?_
          exact h0 μ' F' hc0' (fun g => by have := g.1; omega) hf
        · have hpos : 0 < tk.length := by omega
          refine x_aload rfl rfl ?_
          refine x_get rfl (by assumption) rfl ?_
          refine x_const rfl ?_
          refine x_ialdN (j := 0) rfl (by assumption) (by omega) (by omega) ?_
          refine x_aload rfl rfl ?_
          refine x_get rfl (by assumption) rfl ?_
          refine x_icmp_ne rfl (fun hc => ?_) (fun hc => ?_)
          · refine x_const rfl ?_
            refine x_zret rfl (by first | exact Or.inl rfl | exact Or.inr rfl | assumption | omega) ?_
            exact h0 μ' F' hc0' (fun g => hc (by rw [hF 0 (by omega) hpos]; exact g.2.1)) hf
          · have q1 : (F' 0).1 = tk.length := Classical.not_not.mp hc
            refine x_aload rfl rfl ?_
            refine x_get rfl (by assumption) rfl ?_
            refine x_const rfl ?_
            refine x_ialdN (j := 0) rfl (by assumption) (by omega) (by omega) ?_
            refine x_const rfl ?_
            refine x_icmp_gt rfl (fun hc => ?_) (fun hc => ?_)
            · refine x_const rfl ?_
              refine x_zret rfl (by first | exact Or.inl rfl | exact Or.inr rfl | assumption | omega) ?_
              exact h0 μ' F' hc0' (fun g => by have := g.2.2; rw [hF 0 (by omega) hpos] at hc; omega) hf
            · refine x_const rfl ?_
              refine x_goto rfl ?_
              refine x_zret rfl (by first | exact Or.inl rfl | exact Or.inr rfl | assumption | omega) ?_
              rw [hF 0 (by omega) hpos] at q1 hc
              exact h1 μ' F' hc0' (fun k hk => hF k (by omega) hk) ⟨hpos, q1, by omega⟩ hf
      · exact absurd hc (by omega)
    | succ m ih =>
      intro μ' F' hm hc0 hF hf
      have hc0' := hc0
      obtain ⟨g0, g1, g2, g3, g4, g5, g6⟩ := hc0
      refine x_iload rfl rfl ?_
      refine x_if_lt rfl (fun hc => ?_) (fun hc => ?_)
      · exact absurd hc (by omega)
      · refine x_aload rfl rfl ?_
        refine x_iload rfl rfl ?_
        refine x_callV1 rfl (by assumption) (Nat.le_of_ble_eq_true rfl) ?_
        rw [show ((m + 1 : Nat) : Int) - 1 = (m : Int) by omega]
        have hb : ∀ j, m < j → j < tk.length → (j : Int) < (F' j).1 ∧ 0 ≤ (F' j).2 ∧ (F' j).2 ≤ 100 := fun j hj1 hj2 => by
          rw [hF j (by omega) hj2]
          have := ed_in tk h14 hj2
          omega
        refine c_C_measure hc0' h14 (by omega) hb (fun μ2 hc2 hf2 => ?_)
        refine x_iinc rfl rfl ⟨by omega, by omega⟩ ?_
        refine x_goto rfl ?_
        refine ih μ2 _ (by omega) hc2 (fun k hk1 hk2 => ?_) (hf.tr hf2)
        by_cases hkm : k = m
        · rw [hkm, am_fu_s, hK m (by omega), ed_rec tk h14 (show m < tk.length by omega)]
          exact mM_cg h14 (fun j q1 q2 => (hb j q1 q2).1) (fun j q1 q2 => hF j (by omega) q2)
        · rw [am_fu_n hkm]
          exact hF k (by omega) hk2
  have h' := h
  obtain ⟨g0, -⟩ := h
  refine am_wp pC_isGood (Nat.le_of_ble_eq_true rfl) ?_
  refine x_aload rfl rfl ?_
  refine x_get rfl (by assumption) rfl ?_
  refine x_const rfl ?_
  refine x_isub rfl ⟨by omega, by omega⟩ ?_
  refine x_istore rfl (Nat.le_of_ble_eq_true rfl) ?_
  exact loop tk.length μ F (Nat.le_refl _) h' (fun k q1 q2 => by omega) fr.rf
theorem c_C_leafHolds {i ab p : Nat} {x vl : Int} {b : mv_B} (h : ctA μ a K F Z tk.length) (h14 : tk.length ≤ 14) (hi : i < tk.length) (h6 : 0 ≤ (K i).1 ∧ (K i).1 < 6) (hb : bx μ ab b vl) (hp : p < b.1.length) (hQ : Q (some (.inl (lfv (mg b.1 p) x (K i)))) (nn, ss, μ)) : am_Wp mv_P (d + 2) jC_leafHolds [.inr (some a), .inl i, .inr (some ab), .inl p, .inl x] (nn, ss, μ) Q := by
  obtain ⟨h0, h1, h2, h3, h4, h5, hz⟩ := h
  obtain ⟨fs, hob⟩ := hb.ob
  refine am_wp pC_leafHolds (Nat.le_of_ble_eq_true rfl) ?_
  refine x_aload rfl rfl ?_
  refine x_get rfl (by assumption) rfl ?_
  refine x_iload rfl rfl ?_
  refine x_ialdN (j := i) rfl (by assumption) (by omega) (by omega) ?_
  refine x_tsw rfl ?_
  unfold lfv at hQ
  rcases (show (K i).1 = 1 ∨ (K i).1 = 2 ∨ (K i).1 = 3 ∨ (K i).1 = 4 ∨ (K i).1 = 5 ∨ (K i).1 = 0 by omega) with e | e | e | e | e | e
  · rw [e]
    rw [if_pos e] at hQ
    show am_Ex mv_P (d + 1) (am_at kC_leafHolds) (40, _, _, _) Q
    refine x_aload rfl rfl ?_
    refine x_iload rfl rfl ?_
    refine x_callV1 rfl (by assumption) (Nat.le_of_ble_eq_true rfl) ?_
    refine d_B_flagsAt hb hp ?_
    refine x_aload rfl rfl ?_
    refine x_get rfl (by assumption) rfl ?_
    refine x_iload rfl rfl ?_
    refine x_ialdN (j := i) rfl (by assumption) (by omega) (by omega) ?_
    refine x_iand rfl ?_
    refine x_if_eq rfl (fun hc => ?_) (fun hc => ?_)
    · refine x_const rfl ?_
      refine x_zret rfl (by first | exact Or.inl rfl | exact Or.inr rfl | assumption | omega) ?_
      rw [if_pos hc] at hQ
      exact hQ
    · refine x_const rfl ?_
      refine x_goto rfl ?_
      refine x_zret rfl (by first | exact Or.inl rfl | exact Or.inr rfl | assumption | omega) ?_
      rw [if_neg hc] at hQ
      exact hQ
  · rw [e]
    rw [if_neg (by omega), if_pos e] at hQ
    show am_Ex mv_P (d + 1) (am_at kC_leafHolds) (61, _, _, _) Q
    refine x_aload rfl rfl ?_
    refine x_iload rfl rfl ?_
    refine x_callV1 rfl (by assumption) (Nat.le_of_ble_eq_true rfl) ?_
    refine d_B_sizeAt hb hp ?_
    refine x_aload rfl rfl ?_
    refine x_get rfl (by assumption) rfl ?_
    refine x_iload rfl rfl ?_
    refine x_ialdN (j := i) rfl (by assumption) (by omega) (by omega) ?_
    refine x_icmp_le rfl (fun hc => ?_) (fun hc => ?_)
    · refine x_const rfl ?_
      refine x_zret rfl (by first | exact Or.inl rfl | exact Or.inr rfl | assumption | omega) ?_
      rw [if_pos hc] at hQ
      exact hQ
    · refine x_const rfl ?_
      refine x_goto rfl ?_
      refine x_zret rfl (by first | exact Or.inl rfl | exact Or.inr rfl | assumption | omega) ?_
      rw [if_neg hc] at hQ
      exact hQ
  · rw [e]
    rw [if_neg (by omega), if_neg (by omega), if_pos e] at hQ
    show am_Ex mv_P (d + 1) (am_at kC_leafHolds) (81, _, _, _) Q
    refine x_aload rfl rfl ?_
    refine x_iload rfl rfl ?_
    refine x_callV1 rfl (by assumption) (Nat.le_of_ble_eq_true rfl) ?_
    refine d_B_sizeAt hb hp ?_
    refine x_aload rfl rfl ?_
    refine x_get rfl (by assumption) rfl ?_
    refine x_iload rfl rfl ?_
    refine x_ialdN (j := i) rfl (by assumption) (by omega) (by omega) ?_
    refine x_icmp_ge rfl (fun hc => ?_) (fun hc => ?_)
    · refine x_const rfl ?_
      refine x_zret rfl (by first | exact Or.inl rfl | exact Or.inr rfl | assumption | omega) ?_
      rw [if_pos hc] at hQ
      exact hQ
    · refine x_const rfl ?_
      refine x_goto rfl ?_
      refine x_zret rfl (by first | exact Or.inl rfl | exact Or.inr rfl | assumption | omega) ?_
      rw [if_neg hc] at hQ
      exact hQ
  · rw [e]
    rw [if_neg (by omega), if_neg (by omega), if_neg (by omega), if_pos e] at hQ
    show am_Ex mv_P (d + 1) (am_at kC_leafHolds) (101, _, _, _) Q
    refine x_aload rfl rfl ?_
    refine x_get rfl (by assumption) rfl ?_
    refine x_iload rfl rfl ?_
    refine x_ialdN (j := i) rfl (by assumption) (by omega) (by omega) ?_
    refine x_aload rfl rfl ?_
    refine x_iload rfl rfl ?_
    refine x_callV1 rfl (by assumption) (Nat.le_of_ble_eq_true rfl) ?_
    refine d_B_uidAt hb hp ?_
    refine x_icmp_gt rfl (fun hc => ?_) (fun hc => ?_)
    · refine x_const rfl ?_
      refine x_zret rfl (by first | exact Or.inl rfl | exact Or.inr rfl | assumption | omega) ?_
      rw [if_neg (by omega)] at hQ
      exact hQ
    · refine x_aload rfl rfl ?_
      refine x_iload rfl rfl ?_
      refine x_callV1 rfl (by assumption) (Nat.le_of_ble_eq_true rfl) ?_
      refine d_B_uidAt hb hp ?_
      refine x_aload rfl rfl ?_
      refine x_get rfl (by assumption) rfl ?_
      refine x_iload rfl rfl ?_
      refine x_ialdN (j := i) rfl (by assumption) (by omega) (by omega) ?_
      refine x_icmp_gt rfl (fun hc => ?_) (fun hc => ?_)
      · refine x_const rfl ?_
        refine x_zret rfl (by first | exact Or.inl rfl | exact Or.inr rfl | assumption | omega) ?_
        rw [if_neg (by omega)] at hQ
        exact hQ
      · refine x_const rfl ?_
        refine x_goto rfl ?_
        refine x_zret rfl (by first | exact Or.inl rfl | exact Or.inr rfl | assumption | omega) ?_
        rw [if_pos (by omega)] at hQ
        exact hQ
  · rw [e]
    rw [if_neg (by omega), if_neg (by omega), if_neg (by omega), if_neg (by omega), if_pos e] at hQ
    show am_Ex mv_P (d + 1) (am_at kC_leafHolds) (135, _, _, _) Q
    refine x_aload rfl rfl ?_
    refine x_get rfl (by assumption) rfl ?_
    refine x_iload rfl rfl ?_
    refine x_ialdN (j := i) rfl (by assumption) (by omega) (by omega) ?_
    refine x_iload rfl rfl ?_
    refine x_icmp_gt rfl (fun hc => ?_) (fun hc => ?_)
    · refine x_const rfl ?_
      refine x_zret rfl (by first | exact Or.inl rfl | exact Or.inr rfl | assumption | omega) ?_
      rw [if_neg (by omega)] at hQ
      exact hQ
    · refine x_iload rfl rfl ?_
      refine x_aload rfl rfl ?_
      refine x_get rfl (by assumption) rfl ?_
      refine x_iload rfl rfl ?_
      refine x_ialdN (j := i) rfl (by assumption) (by omega) (by omega) ?_
      refine x_icmp_gt rfl (fun hc => ?_) (fun hc => ?_)
      · refine x_const rfl ?_
        refine x_zret rfl (by first | exact Or.inl rfl | exact Or.inr rfl | assumption | omega) ?_
        rw [if_neg (by omega)] at hQ
        exact hQ
      · refine x_const rfl ?_
        refine x_goto rfl ?_
        refine x_zret rfl (by first | exact Or.inl rfl | exact Or.inr rfl | assumption | omega) ?_
        rw [if_pos (by omega)] at hQ
        exact hQ
  · rw [e]
    rw [if_neg (by omega), if_neg (by omega), if_neg (by omega), if_neg (by omega), if_neg (by omega)] at hQ
    show am_Ex mv_P (d + 1) (am_at kC_leafHolds) (163, _, _, _) Q
    refine x_const rfl ?_
    refine x_zret rfl (by first | exact Or.inl rfl | exact Or.inr rfl | assumption | omega) ?_
    exact hQ
theorem c_C_isFulfilledBy {ab p : Nat} {x vl : Int} {b : mv_B} (h : ctA μ a K F Z tk.length) (h14 : tk.length ≤ 14) (hpos : 0 < tk.length) (hK : ∀ k, k < tk.length → K k = mg tk k) (hop : ∀ k, k < tk.length → 0 ≤ (mg tk k).1) (hF : ∀ k, k < tk.length → F k = ed tk k) (hb : bx μ ab b vl) (hp : p < b.1.length) (hd : ab + 4 ≤ a ∨ a + 7 ≤ ab) (hQ : ∀ μ' Z', ctA μ' a K F Z' tk.length → fr μ μ' a (a + 7) → Q (some (.inl (if tv tk (lfv (mg b.1 p) x) 0 = 0 then 0 else 1))) (nn, ss, μ')) : am_Wp mv_P (d + 3) jC_isFulfilledBy [.inr (some a), .inr (some ab), .inl p, .inl x] (nn, ss, μ) Q := by
  have loop : ∀ (m : Nat) (μ' : Nat → Option am_C) (Z' : Nat → Int), m ≤ tk.length → ctA μ' a K F Z' tk.length → (∀ k, m ≤ k → k < tk.length → Z' k = tv tk (lfv (mg b.1 p) x) k) → fr μ μ' a (a + 7) → am_Ex mv_P (d + 2) (am_at kC_isFulfilledBy) (8, [some (.inr (some a)), some (.inr (some ab)), some (.inl (p : Int)), some (.inl x), some (.inl ((m : Int) - 1))], [], nn, ss, μ') Q := by
    intro m
    induction m with
    | zero =>
      intro μ' Z' hm hc0 hZ hf
      have hc0' := hc0
      obtain ⟨g0, g1, g2, g3, g4, g5, g6⟩ := hc0
      have hq := hQ μ' Z' hc0' hf
      rw [← hZ 0 (by omega) hpos] at hq
      refine x_iload rfl rfl ?_
      refine x_if_lt rfl (fun hc => ?_) (fun hc => ?_)
      · refine x_aload rfl rfl ?_
        refine x_get rfl (by assumption) rfl ?_
        refine x_if_le rfl (fun hc => ?_) (fun hc => ?_)
        · exact absurd hc (by omega)
        · refine x_aload rfl rfl ?_
          refine x_get rfl (by assumption) rfl ?_
          refine x_const rfl ?_
          refine x_ialdN (j := 0) rfl (by assumption) (by omega) (by omega) ?_
          refine x_if_eq rfl (fun hc => ?_) (fun hc => ?_)
          · refine x_const rfl ?_
            refine x_zret rfl (by first | exact Or.inl rfl | exact Or.inr rfl | assumption | omega) ?_
            rw [if_pos hc] at hq
            exact hq
          · refine x_const rfl ?_
            refine x_goto rfl ?_
            refine x_zret rfl (by first | exact Or.inl rfl | exact Or.inr rfl | assumption | omega) ?_
            rw [if_neg hc] at hq
            exact hq
      · exact absurd hc (by omega)
    | succ m ih =>
      intro μ' Z' hm hc0 hZ hf
      have hc0' := hc0
      obtain ⟨g0, g1, g2, g3, g4, g5, g6⟩ := hc0
      have hb' := hb.fr hf (by omega)
      have em : ((m + 1 : Nat) : Int) - 1 = (m : Int) := by omega
      have fin : ∀ z : Int, z = tv tk (lfv (mg b.1 p) x) m → (z = 0 ∨ z = 1) → am_Ex mv_P (d + 2) (am_at kC_isFulfilledBy) (49, [some (.inr (some a)), some (.inr (some ab)), some (.inl (p : Int)), some (.inl x), some (.inl (m : Int))], [.inl z, .inl (m : Int), .inr (some (a + 6))], nn, ss, μ') Q := by
        intro z hz hz01
        have hfit : am_fit 1 (.inl z) = true := by
          rcases hz01 with rfl | rfl <;> rfl
        refine x_iastN (j := m) rfl (by assumption) (by omega) (by omega) (by assumption) ?_
        intro μ2 n2 o2
        refine x_iinc rfl rfl ⟨by omega, by omega⟩ ?_
        refine x_goto rfl ?_
        refine ih μ2 (am_fu Z' m z) (by omega) ⟨(o2 _ (by omega)).trans g0, (o2 _ (by omega)).trans g1, (o2 _ (by omega)).trans g2, (o2 _ (by omega)).trans g3, (o2 _ (by omega)).trans g4, (o2 _ (by omega)).trans g5, n2⟩ (fun k hk1 hk2 => ?_) (hf.tr (fr.one o2 (by omega) (by omega)))
        by_cases hkm : k = m
        · rw [hkm, am_fu_s]
          exact hz
        · rw [am_fu_n hkm]
          exact hZ k (by omega) hk2
      have erec := tv_rec tk (lfv (mg b.1 p) x) h14 (show m < tk.length by omega)
      have ecg : mH (mg tk m) (lfv (mg b.1 p) x) (ed tk) (tv tk (lfv (mg b.1 p) x)) tk.length m = mH (mg tk m) (lfv (mg b.1 p) x) F Z' tk.length m := by
        have e1 : mH (mg tk m) (lfv (mg b.1 p) x) (ed tk) (tv tk (lfv (mg b.1 p) x)) tk.length m = mH (mg tk m) (lfv (mg b.1 p) x) (ed tk) Z' tk.length m := mH_cg (fun j q1 q2 => (ed_in tk h14 q2).1) h14 (fun j q1 q2 => (hZ j (by omega) q2).symm)
        have e2 : eX (ed tk) tk.length ((m : Int) + 1) = eX F tk.length ((m : Int) + 1) := by
          unfold eX
          split
          · rw [hF _ (by omega)]
          · rfl
        rw [e1]
        unfold mH
        rw [e2]
      have hop := hop m (by omega)
      rw [← hK m (by omega)] at erec ecg hop
      refine x_iload rfl rfl ?_
      refine x_if_lt rfl (fun hc => ?_) (fun hc => ?_)
      · exact absurd hc (by omega)
      · refine x_aload rfl rfl ?_
        refine x_get rfl (by assumption) rfl ?_
        refine x_iload rfl rfl ?_
        refine x_aload rfl rfl ?_
        refine x_get rfl (by assumption) rfl ?_
        refine x_iload rfl rfl ?_
        refine x_ialdN (j := m) rfl (by assumption) (by omega) (by omega) ?_
        refine x_const rfl ?_
        refine x_icmp_ge rfl (fun hc => ?_) (fun hc => ?_)
        · refine x_aload rfl rfl ?_
          refine x_iload rfl rfl ?_
          refine x_callV1 rfl (by assumption) (Nat.le_of_ble_eq_true rfl) ?_
          rw [em]
          refine c_C_joinHolds (lfv (mg b.1 p) x) hc0' h14 (by omega) (by omega) (fun j q1 q2 => by rw [hF j q2]; have := ed_in tk h14 q2; omega) ?_
          refine fin _ (by rw [erec, ecg]) ?_
          unfold mH
          repeat' split
          all_goals first | exact Or.inl rfl | exact Or.inr rfl | exact lfv_01 _ _ _
        · refine x_aload rfl rfl ?_
          refine x_iload rfl rfl ?_
          refine x_aload rfl rfl ?_
          refine x_iload rfl rfl ?_
          refine x_iload rfl rfl ?_
          refine x_callV4 rfl (by assumption) (Nat.le_of_ble_eq_true rfl) ?_
          rw [em]
          refine c_C_leafHolds hc0' h14 (by omega) ⟨hop, by omega⟩ hb' hp ?_
          refine x_goto rfl ?_
          refine fin _ ?_ (lfv_01 _ _ _)
          rw [erec]
          unfold mH
          rw [if_pos (by omega)]
  have h' := h
  obtain ⟨g0, -⟩ := h
  refine am_wp pC_isFulfilledBy (Nat.le_of_ble_eq_true rfl) ?_
  refine x_aload rfl rfl ?_
  refine x_get rfl (by assumption) rfl ?_
  refine x_const rfl ?_
  refine x_isub rfl ⟨by omega, by omega⟩ ?_
  refine x_istore rfl (Nat.le_of_ble_eq_true rfl) ?_
  exact loop tk.length μ Z (Nat.le_refl _) h' (fun k q1 q2 => by omega) fr.rf
end Crt2
end
