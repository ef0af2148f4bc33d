section
-- ===== PART A: goes FIRST, ahead of the names: the tables' words, and 'selects' of the private methods out of them =====
/-- a private method of a class that the tables say can be made, by its rows of tables_1 -/
def lw_okq (q : MethodName × Nat) : Prop := (q.1.cls ≠ "java/lang/invoke/MethodHandle" ∧ q.1.cls ≠ "java/lang/invoke/VarHandle") ∧ Cond.instantiable q.1.cls q.2 ∈ tables_1 ∧ Cond.privateMethod q.1 ∈ tables_1 ∧ Cond.instanceMethod q.1 ∈ tables_1
theorem lw_p0 : lw_okq (⟨"MailViews", "add", "(III)I"⟩, 6) := ⟨⟨by decide +kernel, by decide +kernel⟩, List.mem_of_getElem? (i := 9) (by decide +kernel), List.mem_of_getElem? (i := 165) (by decide +kernel), List.mem_of_getElem? (i := 166) (by decide +kernel)⟩
theorem lw_p1 : lw_okq (⟨"MailViews$Mailbox", "move", "(II)V"⟩, 6) := ⟨⟨by decide +kernel, by decide +kernel⟩, List.mem_of_getElem? (i := 18) (by decide +kernel), List.mem_of_getElem? (i := 182) (by decide +kernel), List.mem_of_getElem? (i := 183) (by decide +kernel)⟩
theorem lw_p2 : lw_okq (⟨"MailViews$Journal", "note", "(IIIII)V"⟩, 7) := ⟨⟨by decide +kernel, by decide +kernel⟩, List.mem_of_getElem? (i := 79) (by decide +kernel), List.mem_of_getElem? (i := 190) (by decide +kernel), List.mem_of_getElem? (i := 191) (by decide +kernel)⟩
theorem lw_p3 : lw_okq (⟨"MailViews$Session", "takeInNew", "(LMailViews$Mailbox;)V"⟩, 9) := ⟨⟨by decide +kernel, by decide +kernel⟩, List.mem_of_getElem? (i := 45) (by decide +kernel), List.mem_of_getElem? (i := 209) (by decide +kernel), List.mem_of_getElem? (i := 210) (by decide +kernel)⟩
theorem lw_p4 : lw_okq (⟨"MailViews", "hasMailbox", "(I)Z"⟩, 6) := ⟨⟨by decide +kernel, by decide +kernel⟩, List.mem_of_getElem? (i := 9) (by decide +kernel), List.mem_of_getElem? (i := 233) (by decide +kernel), List.mem_of_getElem? (i := 234) (by decide +kernel)⟩
theorem lw_p5 : lw_okq (⟨"MailViews", "removeDeleted", "(I)I"⟩, 6) := ⟨⟨by decide +kernel, by decide +kernel⟩, List.mem_of_getElem? (i := 9) (by decide +kernel), List.mem_of_getElem? (i := 245) (by decide +kernel), List.mem_of_getElem? (i := 246) (by decide +kernel)⟩
theorem lw_p6 : lw_okq (⟨"MailViews", "update", "(IZ)V"⟩, 6) := ⟨⟨by decide +kernel, by decide +kernel⟩, List.mem_of_getElem? (i := 9) (by decide +kernel), List.mem_of_getElem? (i := 272) (by decide +kernel), List.mem_of_getElem? (i := 273) (by decide +kernel)⟩
theorem lw_p7 : lw_okq (⟨"MailViews", "mailboxOf", "(I)LMailViews$Mailbox;"⟩, 6) := ⟨⟨by decide +kernel, by decide +kernel⟩, List.mem_of_getElem? (i := 9) (by decide +kernel), List.mem_of_getElem? (i := 276) (by decide +kernel), List.mem_of_getElem? (i := 277) (by decide +kernel)⟩
theorem lw_p8 : lw_okq (⟨"MailViews$Session", "dropGone", "(LMailViews$Mailbox;)V"⟩, 9) := ⟨⟨by decide +kernel, by decide +kernel⟩, List.mem_of_getElem? (i := 45) (by decide +kernel), List.mem_of_getElem? (i := 284) (by decide +kernel), List.mem_of_getElem? (i := 285) (by decide +kernel)⟩
theorem lw_p9 : lw_okq (⟨"MailViews$Session", "tell", "(II)V"⟩, 9) := ⟨⟨by decide +kernel, by decide +kernel⟩, List.mem_of_getElem? (i := 45) (by decide +kernel), List.mem_of_getElem? (i := 292) (by decide +kernel), List.mem_of_getElem? (i := 293) (by decide +kernel)⟩
theorem lw_p10 : lw_okq (⟨"MailViews$Session", "learnFlags", "(LMailViews$Mailbox;)V"⟩, 9) := ⟨⟨by decide +kernel, by decide +kernel⟩, List.mem_of_getElem? (i := 45) (by decide +kernel), List.mem_of_getElem? (i := 296) (by decide +kernel), List.mem_of_getElem? (i := 297) (by decide +kernel)⟩
theorem lw_p11 : lw_okq (⟨"MailViews", "isInView", "(II)Z"⟩, 6) := ⟨⟨by decide +kernel, by decide +kernel⟩, List.mem_of_getElem? (i := 9) (by decide +kernel), List.mem_of_getElem? (i := 320) (by decide +kernel), List.mem_of_getElem? (i := 321) (by decide +kernel)⟩
theorem lw_p12 : lw_okq (⟨"MailViews$Criterion", "measure", "(I)V"⟩, 7) := ⟨⟨by decide +kernel, by decide +kernel⟩, List.mem_of_getElem? (i := 107) (by decide +kernel), List.mem_of_getElem? (i := 377) (by decide +kernel), List.mem_of_getElem? (i := 378) (by decide +kernel)⟩
theorem lw_p13 : lw_okq (⟨"MailViews$Criterion", "endFrom", "(I)I"⟩, 7) := ⟨⟨by decide +kernel, by decide +kernel⟩, List.mem_of_getElem? (i := 107) (by decide +kernel), List.mem_of_getElem? (i := 381) (by decide +kernel), List.mem_of_getElem? (i := 382) (by decide +kernel)⟩
theorem lw_p14 : lw_okq (⟨"MailViews$Criterion", "depthFrom", "(I)I"⟩, 7) := ⟨⟨by decide +kernel, by decide +kernel⟩, List.mem_of_getElem? (i := 107) (by decide +kernel), List.mem_of_getElem? (i := 385) (by decide +kernel), List.mem_of_getElem? (i := 386) (by decide +kernel)⟩
theorem lw_p15 : lw_okq (⟨"MailViews", "findHits", "(LMailViews$Session;LMailViews$Mailbox;)V"⟩, 6) := ⟨⟨by decide +kernel, by decide +kernel⟩, List.mem_of_getElem? (i := 9) (by decide +kernel), List.mem_of_getElem? (i := 396) (by decide +kernel), List.mem_of_getElem? (i := 397) (by decide +kernel)⟩
def lw_privs_1 : List (MethodName × Nat) := [(⟨"MailViews", "add", "(III)I"⟩, 6), (⟨"MailViews$Mailbox", "move", "(II)V"⟩, 6), (⟨"MailViews$Journal", "note", "(IIIII)V"⟩, 7), (⟨"MailViews$Session", "takeInNew", "(LMailViews$Mailbox;)V"⟩, 9), (⟨"MailViews", "hasMailbox", "(I)Z"⟩, 6), (⟨"MailViews", "removeDeleted", "(I)I"⟩, 6), (⟨"MailViews", "update", "(IZ)V"⟩, 6), (⟨"MailViews", "mailboxOf", "(I)LMailViews$Mailbox;"⟩, 6), (⟨"MailViews$Session", "dropGone", "(LMailViews$Mailbox;)V"⟩, 9), (⟨"MailViews$Session", "tell", "(II)V"⟩, 9), (⟨"MailViews$Session", "learnFlags", "(LMailViews$Mailbox;)V"⟩, 9), (⟨"MailViews", "isInView", "(II)Z"⟩, 6), (⟨"MailViews$Criterion", "measure", "(I)V"⟩, 7), (⟨"MailViews$Criterion", "endFrom", "(I)I"⟩, 7), (⟨"MailViews$Criterion", "depthFrom", "(I)I"⟩, 7), (⟨"MailViews", "findHits", "(LMailViews$Session;LMailViews$Mailbox;)V"⟩, 6)]
theorem lw_r1 : ∀ q ∈ lw_privs_1, lw_okq q := List.forall_mem_cons.mpr ⟨lw_p0, List.forall_mem_cons.mpr ⟨lw_p1, List.forall_mem_cons.mpr ⟨lw_p2, List.forall_mem_cons.mpr ⟨lw_p3, List.forall_mem_cons.mpr ⟨lw_p4, List.forall_mem_cons.mpr ⟨lw_p5, List.forall_mem_cons.mpr ⟨lw_p6, List.forall_mem_cons.mpr ⟨lw_p7, List.forall_mem_cons.mpr ⟨lw_p8, List.forall_mem_cons.mpr ⟨lw_p9, List.forall_mem_cons.mpr ⟨lw_p10, List.forall_mem_cons.mpr ⟨lw_p11, List.forall_mem_cons.mpr ⟨lw_p12, List.forall_mem_cons.mpr ⟨lw_p13, List.forall_mem_cons.mpr ⟨lw_p14, List.forall_mem_cons.mpr ⟨lw_p15, fun _ h => absurd h List.not_mem_nil⟩⟩⟩⟩⟩⟩⟩⟩⟩⟩⟩⟩⟩⟩⟩⟩
theorem lw_p16 : lw_okq (⟨"MailViews$Criterion", "leafHolds", "(ILMailViews$Mailbox;II)Z"⟩, 7) := ⟨⟨by decide +kernel, by decide +kernel⟩, List.mem_of_getElem? (i := 107) (by decide +kernel), List.mem_of_getElem? (i := 404) (by decide +kernel), List.mem_of_getElem? (i := 405) (by decide +kernel)⟩
theorem lw_p17 : lw_okq (⟨"MailViews$Criterion", "joinHolds", "(I)Z"⟩, 7) := ⟨⟨by decide +kernel, by decide +kernel⟩, List.mem_of_getElem? (i := 107) (by decide +kernel), List.mem_of_getElem? (i := 411) (by decide +kernel), List.mem_of_getElem? (i := 412) (by decide +kernel)⟩
theorem lw_p18 : lw_okq (⟨"MailViews$Criterion", "holdsFrom", "(I)Z"⟩, 7) := ⟨⟨by decide +kernel, by decide +kernel⟩, List.mem_of_getElem? (i := 107) (by decide +kernel), List.mem_of_getElem? (i := 415) (by decide +kernel), List.mem_of_getElem? (i := 416) (by decide +kernel)⟩
theorem lw_p19 : lw_okq (⟨"MailViews$Journal", "takeBack", "(ILMailViews$Mailbox;)V"⟩, 7) := ⟨⟨by decide +kernel, by decide +kernel⟩, List.mem_of_getElem? (i := 79) (by decide +kernel), List.mem_of_getElem? (i := 448) (by decide +kernel), List.mem_of_getElem? (i := 449) (by decide +kernel)⟩
theorem lw_p20 : lw_okq (⟨"MailViews", "sessionsWith", "(I)I"⟩, 6) := ⟨⟨by decide +kernel, by decide +kernel⟩, List.mem_of_getElem? (i := 9) (by decide +kernel), List.mem_of_getElem? (i := 496) (by decide +kernel), List.mem_of_getElem? (i := 497) (by decide +kernel)⟩
theorem lw_p21 : lw_okq (⟨"MailViewsModel", "add", "(III)I"⟩, 21) := ⟨⟨by decide +kernel, by decide +kernel⟩, List.mem_of_getElem? (i := 508) (by decide +kernel), List.mem_of_getElem? (i := 585) (by decide +kernel), List.mem_of_getElem? (i := 586) (by decide +kernel)⟩
theorem lw_p22 : lw_okq (⟨"MailViewsModel", "note", "(IIIII)V"⟩, 21) := ⟨⟨by decide +kernel, by decide +kernel⟩, List.mem_of_getElem? (i := 508) (by decide +kernel), List.mem_of_getElem? (i := 589) (by decide +kernel), List.mem_of_getElem? (i := 590) (by decide +kernel)⟩
theorem lw_p23 : lw_okq (⟨"MailViewsModel", "apply", "(I)V"⟩, 21) := ⟨⟨by decide +kernel, by decide +kernel⟩, List.mem_of_getElem? (i := 508) (by decide +kernel), List.mem_of_getElem? (i := 593) (by decide +kernel), List.mem_of_getElem? (i := 594) (by decide +kernel)⟩
theorem lw_p24 : lw_okq (⟨"MailViewsModel", "place", "(II)I"⟩, 21) := ⟨⟨by decide +kernel, by decide +kernel⟩, List.mem_of_getElem? (i := 508) (by decide +kernel), List.mem_of_getElem? (i := 597) (by decide +kernel), List.mem_of_getElem? (i := 598) (by decide +kernel)⟩
theorem lw_p25 : lw_okq (⟨"MailViewsModel", "gather", "(I)I"⟩, 21) := ⟨⟨by decide +kernel, by decide +kernel⟩, List.mem_of_getElem? (i := 508) (by decide +kernel), List.mem_of_getElem? (i := 605) (by decide +kernel), List.mem_of_getElem? (i := 606) (by decide +kernel)⟩
theorem lw_p26 : lw_okq (⟨"MailViewsModel", "none", "(I)Z"⟩, 21) := ⟨⟨by decide +kernel, by decide +kernel⟩, List.mem_of_getElem? (i := 508) (by decide +kernel), List.mem_of_getElem? (i := 613) (by decide +kernel), List.mem_of_getElem? (i := 614) (by decide +kernel)⟩
theorem lw_p27 : lw_okq (⟨"MailViewsModel", "purge", "(I)I"⟩, 21) := ⟨⟨by decide +kernel, by decide +kernel⟩, List.mem_of_getElem? (i := 508) (by decide +kernel), List.mem_of_getElem? (i := 617) (by decide +kernel), List.mem_of_getElem? (i := 618) (by decide +kernel)⟩
theorem lw_p28 : lw_okq (⟨"MailViewsModel", "update", "(IZ)V"⟩, 21) := ⟨⟨by decide +kernel, by decide +kernel⟩, List.mem_of_getElem? (i := 508) (by decide +kernel), List.mem_of_getElem? (i := 625) (by decide +kernel), List.mem_of_getElem? (i := 626) (by decide +kernel)⟩
theorem lw_p29 : lw_okq (⟨"MailViewsModel", "gone", "(II)Z"⟩, 21) := ⟨⟨by decide +kernel, by decide +kernel⟩, List.mem_of_getElem? (i := 508) (by decide +kernel), List.mem_of_getElem? (i := 629) (by decide +kernel), List.mem_of_getElem? (i := 630) (by decide +kernel)⟩
theorem lw_p30 : lw_okq (⟨"MailViewsModel", "uidOf", "(II)I"⟩, 21) := ⟨⟨by decide +kernel, by decide +kernel⟩, List.mem_of_getElem? (i := 508) (by decide +kernel), List.mem_of_getElem? (i := 633) (by decide +kernel), List.mem_of_getElem? (i := 634) (by decide +kernel)⟩
theorem lw_p31 : lw_okq (⟨"MailViewsModel", "leave", "(II)V"⟩, 21) := ⟨⟨by decide +kernel, by decide +kernel⟩, List.mem_of_getElem? (i := 508) (by decide +kernel), List.mem_of_getElem? (i := 637) (by decide +kernel), List.mem_of_getElem? (i := 638) (by decide +kernel)⟩
def lw_privs_2 : List (MethodName × Nat) := [(⟨"MailViews$Criterion", "leafHolds", "(ILMailViews$Mailbox;II)Z"⟩, 7), (⟨"MailViews$Criterion", "joinHolds", "(I)Z"⟩, 7), (⟨"MailViews$Criterion", "holdsFrom", "(I)Z"⟩, 7), (⟨"MailViews$Journal", "takeBack", "(ILMailViews$Mailbox;)V"⟩, 7), (⟨"MailViews", "sessionsWith", "(I)I"⟩, 6), (⟨"MailViewsModel", "add", "(III)I"⟩, 21), (⟨"MailViewsModel", "note", "(IIIII)V"⟩, 21), (⟨"MailViewsModel", "apply", "(I)V"⟩, 21), (⟨"MailViewsModel", "place", "(II)I"⟩, 21), (⟨"MailViewsModel", "gather", "(I)I"⟩, 21), (⟨"MailViewsModel", "none", "(I)Z"⟩, 21), (⟨"MailViewsModel", "purge", "(I)I"⟩, 21), (⟨"MailViewsModel", "update", "(IZ)V"⟩, 21), (⟨"MailViewsModel", "gone", "(II)Z"⟩, 21), (⟨"MailViewsModel", "uidOf", "(II)I"⟩, 21), (⟨"MailViewsModel", "leave", "(II)V"⟩, 21)]
theorem lw_r2 : ∀ q ∈ lw_privs_2, lw_okq q := List.forall_mem_cons.mpr ⟨lw_p16, List.forall_mem_cons.mpr ⟨lw_p17, List.forall_mem_cons.mpr ⟨lw_p18, List.forall_mem_cons.mpr ⟨lw_p19, List.forall_mem_cons.mpr ⟨lw_p20, List.forall_mem_cons.mpr ⟨lw_p21, List.forall_mem_cons.mpr ⟨lw_p22, List.forall_mem_cons.mpr ⟨lw_p23, List.forall_mem_cons.mpr ⟨lw_p24, List.forall_mem_cons.mpr ⟨lw_p25, List.forall_mem_cons.mpr ⟨lw_p26, List.forall_mem_cons.mpr ⟨lw_p27, List.forall_mem_cons.mpr ⟨lw_p28, List.forall_mem_cons.mpr ⟨lw_p29, List.forall_mem_cons.mpr ⟨lw_p30, List.forall_mem_cons.mpr ⟨lw_p31, fun _ h => absurd h List.not_mem_nil⟩⟩⟩⟩⟩⟩⟩⟩⟩⟩⟩⟩⟩⟩⟩⟩
theorem lw_p32 : lw_okq (⟨"MailViewsModel", "tell", "(III)V"⟩, 21) := ⟨⟨by decide +kernel, by decide +kernel⟩, List.mem_of_getElem? (i := 508) (by decide +kernel), List.mem_of_getElem? (i := 641) (by decide +kernel), List.mem_of_getElem? (i := 642) (by decide +kernel)⟩
theorem lw_p33 : lw_okq (⟨"MailViewsModel", "flagsOf", "(II)I"⟩, 21) := ⟨⟨by decide +kernel, by decide +kernel⟩, List.mem_of_getElem? (i := 508) (by decide +kernel), List.mem_of_getElem? (i := 645) (by decide +kernel), List.mem_of_getElem? (i := 646) (by decide +kernel)⟩
theorem lw_p34 : lw_okq (⟨"MailViewsModel", "bad", "(II)Z"⟩, 21) := ⟨⟨by decide +kernel, by decide +kernel⟩, List.mem_of_getElem? (i := 508) (by decide +kernel), List.mem_of_getElem? (i := 653) (by decide +kernel), List.mem_of_getElem? (i := 654) (by decide +kernel)⟩
theorem lw_p35 : lw_okq (⟨"MailViewsModel", "good", "()Z"⟩, 21) := ⟨⟨by decide +kernel, by decide +kernel⟩, List.mem_of_getElem? (i := 508) (by decide +kernel), List.mem_of_getElem? (i := 677) (by decide +kernel), List.mem_of_getElem? (i := 678) (by decide +kernel)⟩
theorem lw_p36 : lw_okq (⟨"MailViewsModel", "parts", "(I)I"⟩, 21) := ⟨⟨by decide +kernel, by decide +kernel⟩, List.mem_of_getElem? (i := 508) (by decide +kernel), List.mem_of_getElem? (i := 681) (by decide +kernel), List.mem_of_getElem? (i := 682) (by decide +kernel)⟩
theorem lw_p37 : lw_okq (⟨"MailViewsModel", "fulfils", "(II)Z"⟩, 21) := ⟨⟨by decide +kernel, by decide +kernel⟩, List.mem_of_getElem? (i := 508) (by decide +kernel), List.mem_of_getElem? (i := 685) (by decide +kernel), List.mem_of_getElem? (i := 686) (by decide +kernel)⟩
theorem lw_p38 : lw_okq (⟨"MailViewsModel", "leaf", "(III)Z"⟩, 21) := ⟨⟨by decide +kernel, by decide +kernel⟩, List.mem_of_getElem? (i := 508) (by decide +kernel), List.mem_of_getElem? (i := 689) (by decide +kernel), List.mem_of_getElem? (i := 690) (by decide +kernel)⟩
def lw_privs_3 : List (MethodName × Nat) := [(⟨"MailViewsModel", "tell", "(III)V"⟩, 21), (⟨"MailViewsModel", "flagsOf", "(II)I"⟩, 21), (⟨"MailViewsModel", "bad", "(II)Z"⟩, 21), (⟨"MailViewsModel", "good", "()Z"⟩, 21), (⟨"MailViewsModel", "parts", "(I)I"⟩, 21), (⟨"MailViewsModel", "fulfils", "(II)Z"⟩, 21), (⟨"MailViewsModel", "leaf", "(III)Z"⟩, 21)]
theorem lw_r3 : ∀ q ∈ lw_privs_3, lw_okq q := List.forall_mem_cons.mpr ⟨lw_p32, List.forall_mem_cons.mpr ⟨lw_p33, List.forall_mem_cons.mpr ⟨lw_p34, List.forall_mem_cons.mpr ⟨lw_p35, List.forall_mem_cons.mpr ⟨lw_p36, List.forall_mem_cons.mpr ⟨lw_p37, List.forall_mem_cons.mpr ⟨lw_p38, fun _ h => absurd h List.not_mem_nil⟩⟩⟩⟩⟩⟩⟩
def lw_privs : List (MethodName × Nat) := lw_privs_1 ++ (lw_privs_2 ++ (lw_privs_3))
def lw_tbl : List Cond := k2_sels lw_privs ++ tables_1
theorem lw_privs_ok : ∀ q ∈ lw_privs, lw_okq q := by
  show ∀ q ∈ lw_privs_1 ++ (lw_privs_2 ++ (lw_privs_3)), lw_okq q
  exact List.forall_mem_append.mpr ⟨lw_r1, List.forall_mem_append.mpr ⟨lw_r2, lw_r3⟩⟩
end
section
/-! THE ABSTRACT MACHINE: a small interpreter; cells have numbers for addresses, ints are Int. -/
abbrev am_V : Type := Int ⊕ Option Nat
abbrev am_C : Type := (Nat × List am_V) ⊕ ((Nat × Nat × (Nat → Int)) ⊕ (Nat × Nat × (Nat → Option Nat)))
abbrev am_M : Type := Nat × Nat × (Nat → Option am_C)
abbrev am_L : Type := List (Option am_V)
abbrev am_F : Type := Nat × am_L × List am_V × am_M
abbrev am_Y : Type := Option am_V × am_M
abbrev am_R : Type := Option (am_F ⊕ (am_Y ⊕ (Nat × List am_V × am_F)))
abbrev am_I : Type := am_F → am_R
abbrev am_P : Type := Nat → (Nat × (Nat → am_I))
abbrev am_ok (z : Int) : Prop := -2147483648 ≤ z ∧ z < 2147483648
def am_up (μ : Nat → Option am_C) (a : Nat) (c : am_C) : Nat → Option am_C := fun x => if x = a then some c else μ x
theorem am_up_s {μ : Nat → Option am_C} {a : Nat} {c : am_C} : am_up μ a c a = some c := by simp [am_up]
theorem am_up_n {μ : Nat → Option am_C} {a x : Nat} {c : am_C} (h : x ≠ a) : am_up μ a c x = μ x := by simp [am_up, h]
def am_fu {α : Type} (f : Nat → α) (k : Nat) (z : α) : Nat → α := fun j => if j = k then z else f j
theorem am_fu_s {α : Type} {f : Nat → α} {k : Nat} {z : α} : am_fu f k z k = z := by simp [am_fu]
theorem am_fu_n {α : Type} {f : Nat → α} {k j : Nat} {z : α} (h : j ≠ k) : am_fu f k z j = f j := by simp [am_fu, h]
def am_and (x y : Int) : Int := (Int32.ofInt x &&& Int32.ofInt y).toInt
def am_or (x y : Int) : Int := (Int32.ofInt x ||| Int32.ofInt y).toInt
def am_xor (x y : Int) : Int := (Int32.ofInt x ^^^ Int32.ofInt y).toInt
def am_fit (k : Nat) (v : am_V) : Bool := match k, v with
  | 0, .inl _ => true
  | 1, .inl z => decide (z = 0 ∨ z = 1)
  | 2, .inr _ => true
  | _, _ => false
def am_ts (lo : Int) (ts : List Nat) (d : Nat) (x : Int) : Nat := if lo ≤ x ∧ x < lo + ts.length then ts.getD (x - lo).toNat d else d
def am_lk : List (Int × Nat) → Nat → Int → Nat
  | [], d, _ => d
  | q :: l, d, x => if x = q.1 then q.2 else am_lk l d x
-- what an instruction does; n: the next place
def i_fail : am_I := fun _ => none
def i_const (z : Int) (n : Nat) : am_I := fun q => some (.inl (n, q.2.1, .inl z :: q.2.2.1, q.2.2.2))
def i_null (n : Nat) : am_I := fun q => some (.inl (n, q.2.1, .inr none :: q.2.2.1, q.2.2.2))
def i_iload (k n : Nat) : am_I := fun q => match q.2.1[k]? with
  | some (some (.inl z)) => some (.inl (n, q.2.1, .inl z :: q.2.2.1, q.2.2.2))
  | _ => none
def i_aload (k n : Nat) : am_I := fun q => match q.2.1[k]? with
  | some (some (.inr r)) => some (.inl (n, q.2.1, .inr r :: q.2.2.1, q.2.2.2))
  | _ => none
def i_istore (k n : Nat) : am_I := fun q => match q.2.2.1 with
  | .inl z :: st => if k < q.2.1.length then some (.inl (n, q.2.1.set k (some (.inl z)), st, q.2.2.2)) else none
  | _ => none
def i_astore (k n : Nat) : am_I := fun q => match q.2.2.1 with
  | .inr r :: st => if k < q.2.1.length then some (.inl (n, q.2.1.set k (some (.inr r)), st, q.2.2.2)) else none
  | _ => none
def i_iinc (k : Nat) (z : Int) (n : Nat) : am_I := fun q => match q.2.1[k]? with
  | some (some (.inl x)) => if am_ok (x + z) then some (.inl (n, q.2.1.set k (some (.inl (x + z))), q.2.2.1, q.2.2.2)) else none
  | _ => none
def i_pop (n : Nat) : am_I := fun q => match q.2.2.1 with
  | _ :: st => some (.inl (n, q.2.1, st, q.2.2.2))
  | _ => none
def i_dup (n : Nat) : am_I := fun q => match q.2.2.1 with
  | v :: st => some (.inl (n, q.2.1, v :: v :: st, q.2.2.2))
  | _ => none
def i_dup_x1 (n : Nat) : am_I := fun q => match q.2.2.1 with
  | v :: u :: st => some (.inl (n, q.2.1, v :: u :: v :: st, q.2.2.2))
  | _ => none
def i_dup_x2 (n : Nat) : am_I := fun q => match q.2.2.1 with
  | v :: u :: t :: st => some (.inl (n, q.2.1, v :: u :: t :: v :: st, q.2.2.2))
  | _ => none
def i_dup2 (n : Nat) : am_I := fun q => match q.2.2.1 with
  | v :: u :: st => some (.inl (n, q.2.1, v :: u :: v :: u :: st, q.2.2.2))
  | _ => none
def i_goto (n : Nat) : am_I := fun q => some (.inl (n, q.2.1, q.2.2.1, q.2.2.2))

def i_iadd (n : Nat) : am_I := fun q => match q.2.2.1 with
  | .inl y :: .inl x :: st => if am_ok (x + y) then some (.inl (n, q.2.1, .inl (x + y) :: st, q.2.2.2)) else none
  | _ => none
def i_isub (n : Nat) : am_I := fun q => match q.2.2.1 with
  | .inl y :: .inl x :: st => if am_ok (x - y) then some (.inl (n, q.2.1, .inl (x - y) :: st, q.2.2.2)) else none
  | _ => none
def i_imul (n : Nat) : am_I := fun q => match q.2.2.1 with
  | .inl y :: .inl x :: st => if am_ok (x * y) then some (.inl (n, q.2.1, .inl (x * y) :: st, q.2.2.2)) else none
  | _ => none
def i_iand (n : Nat) : am_I := fun q => match q.2.2.1 with
  | .inl y :: .inl x :: st => some (.inl (n, q.2.1, .inl (am_and x y) :: st, q.2.2.2))
  | _ => none
def i_ior (n : Nat) : am_I := fun q => match q.2.2.1 with
  | .inl y :: .inl x :: st => some (.inl (n, q.2.1, .inl (am_or x y) :: st, q.2.2.2))
  | _ => none
def i_ixor (n : Nat) : am_I := fun q => match q.2.2.1 with
  | .inl y :: .inl x :: st => some (.inl (n, q.2.1, .inl (am_xor x y) :: st, q.2.2.2))
  | _ => none
def i_icmp_eq (t n : Nat) : am_I := fun q => match q.2.2.1 with
  | .inl y :: .inl x :: st => if x = y then some (.inl (t, q.2.1, st, q.2.2.2)) else some (.inl (n, q.2.1, st, q.2.2.2))
  | _ => none
def i_if_eq (t n : Nat) : am_I := fun q => match q.2.2.1 with
  | .inl x :: st => if x = 0 then some (.inl (t, q.2.1, st, q.2.2.2)) else some (.inl (n, q.2.1, st, q.2.2.2))
  | _ => none
def i_icmp_ne (t n : Nat) : am_I := fun q => match q.2.2.1 with
  | .inl y :: .inl x :: st => if ¬ x = y then some (.inl (t, q.2.1, st, q.2.2.2)) else some (.inl (n, q.2.1, st, q.2.2.2))
  | _ => none
def i_if_ne (t n : Nat) : am_I := fun q => match q.2.2.1 with
  | .inl x :: st => if ¬ x = 0 then some (.inl (t, q.2.1, st, q.2.2.2)) else some (.inl (n, q.2.1, st, q.2.2.2))
  | _ => none
def i_icmp_lt (t n : Nat) : am_I := fun q => match q.2.2.1 with
  | .inl y :: .inl x :: st => if x < y then some (.inl (t, q.2.1, st, q.2.2.2)) else some (.inl (n, q.2.1, st, q.2.2.2))
  | _ => none
def i_if_lt (t n : Nat) : am_I := fun q => match q.2.2.1 with
  | .inl x :: st => if x < 0 then some (.inl (t, q.2.1, st, q.2.2.2)) else some (.inl (n, q.2.1, st, q.2.2.2))
  | _ => none
def i_icmp_ge (t n : Nat) : am_I := fun q => match q.2.2.1 with
  | .inl y :: .inl x :: st => if y ≤ x then some (.inl (t, q.2.1, st, q.2.2.2)) else some (.inl (n, q.2.1, st, q.2.2.2))
  | _ => none
def i_if_ge (t n : Nat) : am_I := fun q => match q.2.2.1 with
  | .inl x :: st => if 0 ≤ x then some (.inl (t, q.2.1, st, q.2.2.2)) else some (.inl (n, q.2.1, st, q.2.2.2))
  | _ => none
def i_icmp_gt (t n : Nat) : am_I := fun q => match q.2.2.1 with
  | .inl y :: .inl x :: st => if y < x then some (.inl (t, q.2.1, st, q.2.2.2)) else some (.inl (n, q.2.1, st, q.2.2.2))
  | _ => none
def i_if_gt (t n : Nat) : am_I := fun q => match q.2.2.1 with
  | .inl x :: st => if 0 < x then some (.inl (t, q.2.1, st, q.2.2.2)) else some (.inl (n, q.2.1, st, q.2.2.2))
  | _ => none
def i_icmp_le (t n : Nat) : am_I := fun q => match q.2.2.1 with
  | .inl y :: .inl x :: st => if x ≤ y then some (.inl (t, q.2.1, st, q.2.2.2)) else some (.inl (n, q.2.1, st, q.2.2.2))
  | _ => none
def i_if_le (t n : Nat) : am_I := fun q => match q.2.2.1 with
  | .inl x :: st => if x ≤ 0 then some (.inl (t, q.2.1, st, q.2.2.2)) else some (.inl (n, q.2.1, st, q.2.2.2))
  | _ => none
def i_ifnull (t n : Nat) : am_I := fun q => match q.2.2.1 with
  | .inr none :: st => some (.inl (t, q.2.1, st, q.2.2.2))
  | .inr (some _) :: st => some (.inl (n, q.2.1, st, q.2.2.2))
  | _ => none
def i_ifnonnull (t n : Nat) : am_I := fun q => match q.2.2.1 with
  | .inr none :: st => some (.inl (n, q.2.1, st, q.2.2.2))
  | .inr (some _) :: st => some (.inl (t, q.2.1, st, q.2.2.2))
  | _ => none
def i_tsw (lo : Int) (ts : List Nat) (d : Nat) : am_I := fun q => match q.2.2.1 with
  | .inl x :: st => some (.inl (am_ts lo ts d x, q.2.1, st, q.2.2.2))
  | _ => none
def i_lsw (ps : List (Int × Nat)) (d : Nat) : am_I := fun q => match q.2.2.1 with
  | .inl x :: st => some (.inl (am_lk ps d x, q.2.1, st, q.2.2.2))
  | _ => none
def i_get (ci k n : Nat) : am_I := fun q => match q.2.2.1 with
  | .inr (some a) :: st => match q.2.2.2.2.2 a with
    | some (.inl o) => if o.1 = ci then (match o.2[k]? with
      | some v => some (.inl (n, q.2.1, v :: st, q.2.2.2))
      | none => none) else none
    | _ => none
  | _ => none
def i_put (ci k b n : Nat) : am_I := fun q => match q.2.2.1 with
  | v :: .inr (some a) :: st => match q.2.2.2.2.2 a with
    | some (.inl o) => if o.1 = ci ∧ k < o.2.length ∧ am_fit b v = true then some (.inl (n, q.2.1, st, q.2.2.2.1, q.2.2.2.2.1, am_up q.2.2.2.2.2 a (.inl (ci, o.2.set k v)))) else none
    | _ => none
  | _ => none
def i_iald (t n : Nat) : am_I := fun q => match q.2.2.1 with
  | .inl i :: .inr (some a) :: st => match q.2.2.2.2.2 a with
    | some (.inr (.inl o)) => if o.1 = t ∧ 0 ≤ i ∧ i < o.2.1 then some (.inl (n, q.2.1, .inl (o.2.2 i.toNat) :: st, q.2.2.2)) else none
    | _ => none
  | _ => none
def i_iast (t b n : Nat) : am_I := fun q => match q.2.2.1 with
  | .inl z :: .inl i :: .inr (some a) :: st => match q.2.2.2.2.2 a with
    | some (.inr (.inl o)) => if o.1 = t ∧ (0 ≤ i ∧ i < o.2.1) ∧ am_fit b (.inl z) = true then some (.inl (n, q.2.1, st, q.2.2.2.1, q.2.2.2.2.1, am_up q.2.2.2.2.2 a (.inr (.inl (t, o.2.1, am_fu o.2.2 i.toNat z))))) else none
    | _ => none
  | _ => none
def i_aald (t n : Nat) : am_I := fun q => match q.2.2.1 with
  | .inl i :: .inr (some a) :: st => match q.2.2.2.2.2 a with
    | some (.inr (.inr o)) => if o.1 = t ∧ 0 ≤ i ∧ i < o.2.1 then some (.inl (n, q.2.1, .inr (o.2.2 i.toNat) :: st, q.2.2.2)) else none
    | _ => none
  | _ => none
def i_aast (t ci n : Nat) : am_I := fun q => match q.2.2.1 with
  | .inr (some v) :: .inl i :: .inr (some a) :: st => match q.2.2.2.2.2 a, q.2.2.2.2.2 v with
    | some (.inr (.inr o)), some (.inl u) => if o.1 = t ∧ (0 ≤ i ∧ i < o.2.1) ∧ u.1 = ci then some (.inl (n, q.2.1, st, q.2.2.2.1, q.2.2.2.2.1, am_up q.2.2.2.2.2 a (.inr (.inr (t, o.2.1, am_fu o.2.2 i.toNat (some v)))))) else none
    | _, _ => none
  | _ => none
def i_alen (t n : Nat) : am_I := fun q => match q.2.2.1 with
  | .inr (some a) :: st => match q.2.2.2.2.2 a with
    | some (.inr (.inl o)) => if o.1 = t ∧ o.2.1 < 2147483648 then some (.inl (n, q.2.1, .inl o.2.1 :: st, q.2.2.2)) else none
    | some (.inr (.inr o)) => if o.1 = t ∧ o.2.1 < 2147483648 then some (.inl (n, q.2.1, .inl o.2.1 :: st, q.2.2.2)) else none
    | _ => none
  | _ => none
def i_new (ci : Nat) (fs : List am_V) (n : Nat) : am_I := fun q => some (.inl (n, q.2.1, .inr (some q.2.2.2.1) :: q.2.2.1, q.2.2.2.1 + 1, q.2.2.2.2.1 + fs.length, am_up q.2.2.2.2.2 q.2.2.2.1 (.inl (ci, fs))))
def i_newa (t n : Nat) : am_I := fun q => match q.2.2.1 with
  | .inl i :: st => if 0 ≤ i ∧ i ≤ 100000 then some (.inl (n, q.2.1, .inr (some q.2.2.2.1) :: st, q.2.2.2.1 + 1, q.2.2.2.2.1 + i.toNat, am_up q.2.2.2.2.2 q.2.2.2.1 (.inr (.inl (t, i.toNat, fun _ => 0))))) else none
  | _ => none
def i_anewa (t n : Nat) : am_I := fun q => match q.2.2.1 with
  | .inl i :: st => if 0 ≤ i ∧ i ≤ 100000 then some (.inl (n, q.2.1, .inr (some q.2.2.2.1) :: st, q.2.2.2.1 + 1, q.2.2.2.2.1 + i.toNat, am_up q.2.2.2.2.2 q.2.2.2.1 (.inr (.inr (t, i.toNat, fun _ => none))))) else none
  | _ => none
def i_callS (j na n : Nat) : am_I := fun q => if na ≤ q.2.2.1.length ∧ q.2.2.1.length ≤ na + 8 then some (.inr (.inr (j, (q.2.2.1.take na).reverse, n, q.2.1, q.2.2.1.drop na, q.2.2.2))) else none
def i_callI (j na n : Nat) : am_I := fun q => if na + 1 ≤ q.2.2.1.length ∧ q.2.2.1.length ≤ na + 9 then (match q.2.2.1[na]? with
  | some (.inr (some _)) => some (.inr (.inr (j, (q.2.2.1.take (na + 1)).reverse, n, q.2.1, q.2.2.1.drop (na + 1), q.2.2.2)))
  | _ => none) else none
def i_callV (ci j na n : Nat) : am_I := fun q => if na + 1 ≤ q.2.2.1.length ∧ q.2.2.1.length ≤ na + 9 then (match q.2.2.1[na]? with
  | some (.inr (some a)) => match q.2.2.2.2.2 a with
    | some (.inl o) => if o.1 = ci then some (.inr (.inr (j, (q.2.2.1.take (na + 1)).reverse, n, q.2.1, q.2.2.1.drop (na + 1), q.2.2.2))) else none
    | _ => none
  | _ => none) else none
def i_iret : am_I := fun q => match q.2.2.1 with
  | [.inl z] => some (.inr (.inl (some (.inl z), q.2.2.2)))
  | _ => none
def i_zret : am_I := fun q => match q.2.2.1 with
  | [.inl z] => if z = 0 ∨ z = 1 then some (.inr (.inl (some (.inl z), q.2.2.2))) else none
  | _ => none
def i_aret : am_I := fun q => match q.2.2.1 with
  | [.inr r] => some (.inr (.inl (some (.inr r), q.2.2.2)))
  | _ => none
def i_vret : am_I := fun q => match q.2.2.1 with
  | [] => some (.inr (.inl (none, q.2.2.2)))
  | _ => none
/-- Math.max and Math.min as methods of one step -/
def i_max : am_I := fun q => match q.2.1 with
  | [some (.inl x), some (.inl y)] => some (.inr (.inl (some (.inl (if x < y then y else x)), q.2.2.2)))
  | _ => none
def i_min : am_I := fun q => match q.2.1 with
  | [some (.inl x), some (.inl y)] => some (.inr (.inl (some (.inl (if y < x then y else x)), q.2.2.2)))
  | _ => none
/-- the script: cell 0, of L ints xs, only read -/
def i_sld (L : Nat) (xs : Nat → Int) (n : Nat) : am_I := fun q => match q.2.2.1 with
  | .inl i :: .inr (some 0) :: st => if 0 ≤ i ∧ i < L then some (.inl (n, q.2.1, .inl (xs i.toNat) :: st, q.2.2.2)) else none
  | _ => none
def i_slen (L n : Nat) : am_I := fun q => match q.2.2.1 with
  | .inr (some 0) :: st => some (.inl (n, q.2.1, .inl L :: st, q.2.2.2))
  | _ => none
-- runs
abbrev am_K : Type := Nat → List am_V → am_M → Option am_Y
def am_nx (c : am_K) (g : am_F → Option am_Y) (x : am_R) : Option am_Y := match x with
  | none => none
  | some (.inl q) => g q
  | some (.inr (.inl y)) => some y
  | some (.inr (.inr w)) => match c w.1 w.2.1 w.2.2.2.2.2 with
    | none => none
    | some y => g (w.2.2.1, w.2.2.2.1, y.1.toList ++ w.2.2.2.2.1, y.2)
def am_run (c : am_K) (code : Nat → am_I) : Nat → am_F → Option am_Y
  | 0, _ => none
  | k + 1, q => am_nx c (am_run c code k) (code q.1 q)
def am_ent (nL : Nat) (as : List am_V) : am_L := as.map some ++ List.replicate (nL - as.length) none
def am_call (P : am_P) (k : Nat) : Nat → am_K
  | 0, _, _, _ => none
  | d + 1, j, as, M => if as.length ≤ (P j).1 then am_run (am_call P k d) (P j).2 k (0, am_ent (P j).1 as, [], M) else none
def am_Ex (P : am_P) (d : Nat) (code : Nat → am_I) (q : am_F) (Q : Option am_V → am_M → Prop) : Prop := ∃ (k : Nat) (y : am_Y), am_run (am_call P k d) code k q = some y ∧ Q y.1 y.2
def am_Wp (P : am_P) (d j : Nat) (as : List am_V) (M : am_M) (Q : Option am_V → am_M → Prop) : Prop := ∃ (k : Nat) (y : am_Y), am_call P k d j as M = some y ∧ Q y.1 y.2
theorem am_run_s (c : am_K) (code : Nat → am_I) (k : Nat) (q : am_F) : am_run c code (k + 1) q = am_nx c (am_run c code k) (code q.1 q) := rfl
theorem am_call_s (P : am_P) (k d j : Nat) (as : List am_V) (M : am_M) : am_call P k (d + 1) j as M = if as.length ≤ (P j).1 then am_run (am_call P k d) (P j).2 k (0, am_ent (P j).1 as, [], M) else none := rfl
theorem am_nx_c (c : am_K) (g : am_F → Option am_Y) (w : Nat × List am_V × am_F) {y : am_Y} (h : c w.1 w.2.1 w.2.2.2.2.2 = some y) : am_nx c g (some (.inr (.inr w))) = g (w.2.2.1, w.2.2.2.1, y.1.toList ++ w.2.2.2.2.1, y.2) := by
  simp only [am_nx, h]
theorem am_nx_m {c c' : am_K} {g g' : am_F → Option am_Y} (hc : ∀ j as M y, c j as M = some y → c' j as M = some y) (hg : ∀ q y, g q = some y → g' q = some y) (x : am_R) (y : am_Y) (h : am_nx c g x = some y) : am_nx c' g' x = some y := by
  rcases x with _ | q | r | w
  · exact h
  · exact hg q y h
  · exact h
  · cases hr : c w.1 w.2.1 w.2.2.2.2.2 with
    | none => simp only [am_nx, hr] at h; cases h
    | some z =>
      rw [am_nx_c c g w hr] at h
      rw [am_nx_c c' g' w (hc _ _ _ _ hr)]
      exact hg _ _ h
theorem am_run_m {c c' : am_K} {code : Nat → am_I} (hc : ∀ j as M y, c j as M = some y → c' j as M = some y) : ∀ (k k' : Nat), k ≤ k' → ∀ (q : am_F) (y : am_Y), am_run c code k q = some y → am_run c' code k' q = some y := by
  intro k
  induction k with
  | zero => intro k' _ q y h; cases h
  | succ k ih =>
    intro k' hk q y h
    obtain ⟨k2, rfl⟩ : ∃ n, k' = n + 1 := ⟨k' - 1, by omega⟩
    rw [am_run_s] at h ⊢
    exact am_nx_m hc (ih k2 (by omega)) _ y h
theorem am_call_m {P : am_P} : ∀ (d k k' : Nat), k ≤ k' → ∀ (j : Nat) (as : List am_V) (M : am_M) (y : am_Y), am_call P k d j as M = some y → am_call P k' d j as M = some y := by
  intro d
  induction d with
  | zero => intro k k' _ j as M y h; cases h
  | succ d ih =>
    intro k k' hk j as M y h
    rw [am_call_s] at h ⊢
    by_cases hn : as.length ≤ (P j).1
    · rw [if_pos hn] at h ⊢
      exact am_run_m (ih k k' hk) k k' hk _ y h
    · rw [if_neg hn] at h
      cases h
section AmRows
variable {P : am_P} {d pc n k t : Nat} {code : Nat → am_I} {ls : am_L} {st : List am_V} {M : am_M} {Q : Option am_V → am_M → Prop}
theorem x_step {q q' : am_F} (hc : code q.1 q = some (.inl q')) (h : am_Ex P d code q' Q) : am_Ex P d code q Q := by
  obtain ⟨k, y, h1, h2⟩ := h
  refine ⟨k + 1, y, ?_, h2⟩
  rw [am_run_s, hc]
  exact am_run_m (am_call_m d k (k + 1) (Nat.le_succ k)) k k (Nat.le_refl k) q' y h1
theorem x_done {q : am_F} {y : am_Y} (hc : code q.1 q = some (.inr (.inl y))) (h : Q y.1 y.2) : am_Ex P d code q Q := by
  refine ⟨1, y, ?_, h⟩
  rw [am_run_s, hc]
  rfl
theorem x_callw {q : am_F} {w : Nat × List am_V × am_F} (hc : code q.1 q = some (.inr (.inr w))) (h : am_Wp P d w.1 w.2.1 w.2.2.2.2.2 (fun r M' => am_Ex P d code (w.2.2.1, w.2.2.2.1, r.toList ++ w.2.2.2.2.1, M') Q)) : am_Ex P d code q Q := by
  obtain ⟨k1, y1, h1, k2, y, h2, h3⟩ := h
  refine ⟨k1 + k2 + 1, y, ?_, h3⟩
  rw [am_run_s, hc, am_nx_c _ _ w (am_call_m d k1 (k1 + k2 + 1) (by omega) _ _ _ _ h1)]
  exact am_run_m (am_call_m d k2 (k1 + k2 + 1) (by omega)) k2 (k1 + k2) (by omega) _ y h2
theorem am_wp {j nL : Nat} {as : List am_V} (hP : P j = (nL, code)) (hn : as.length ≤ nL) (h : am_Ex P d code (0, am_ent nL as, [], M) Q) : am_Wp P (d + 1) j as M Q := by
  obtain ⟨k, y, h1, h2⟩ := h
  refine ⟨k, y, ?_, h2⟩
  rw [am_call_s, hP, if_pos hn]
  exact h1
theorem am_wi {j : Nat} {as : List am_V} {Q' : Option am_V → am_M → Prop} (h : am_Wp P d j as M Q) (hQ : ∀ r M', Q r M' → Q' r M') : am_Wp P d j as M Q' := by
  obtain ⟨k, y, h1, h2⟩ := h
  exact ⟨k, y, h1, hQ _ _ h2⟩
theorem am_xi {q : am_F} {Q' : Option am_V → am_M → Prop} (h : am_Ex P d code q Q) (hQ : ∀ r M', Q r M' → Q' r M') : am_Ex P d code q Q' := by
  obtain ⟨k, y, h1, h2⟩ := h
  exact ⟨k, y, h1, hQ _ _ h2⟩

theorem x_const {z : Int} (hc : code pc = i_const z n)  (h : am_Ex P d code (n, ls, .inl z :: st, M) Q) : am_Ex P d code (pc, ls, st, M) Q :=
  x_step (by show code pc _ = _; rw [hc]; simp [i_const]) h
theorem x_null  (hc : code pc = i_null n)  (h : am_Ex P d code (n, ls, .inr none :: st, M) Q) : am_Ex P d code (pc, ls, st, M) Q :=
  x_step (by show code pc _ = _; rw [hc]; simp [i_null]) h
theorem x_iload {z : Int} (hc : code pc = i_iload k n) (hl : ls[k]? = some (some (.inl z))) (h : am_Ex P d code (n, ls, .inl z :: st, M) Q) : am_Ex P d code (pc, ls, st, M) Q :=
  x_step (by show code pc _ = _; rw [hc]; simp [i_iload, hl]) h
theorem x_aload {r : Option Nat} (hc : code pc = i_aload k n) (hl : ls[k]? = some (some (.inr r))) (h : am_Ex P d code (n, ls, .inr r :: st, M) Q) : am_Ex P d code (pc, ls, st, M) Q :=
  x_step (by show code pc _ = _; rw [hc]; simp [i_aload, hl]) h
theorem x_istore {z : Int} (hc : code pc = i_istore k n) (hl : k < ls.length) (h : am_Ex P d code (n, ls.set k (some (.inl z)), st, M) Q) : am_Ex P d code (pc, ls, .inl z :: st, M) Q :=
  x_step (by show code pc _ = _; rw [hc]; simp [i_istore, hl]) h
theorem x_astore {r : Option Nat} (hc : code pc = i_astore k n) (hl : k < ls.length) (h : am_Ex P d code (n, ls.set k (some (.inr r)), st, M) Q) : am_Ex P d code (pc, ls, .inr r :: st, M) Q :=
  x_step (by show code pc _ = _; rw [hc]; simp [i_astore, hl]) h
theorem x_iinc {z x : Int} (hc : code pc = i_iinc k z n) (hl : ls[k]? = some (some (.inl x))) (hz : am_ok (x + z)) (h : am_Ex P d code (n, ls.set k (some (.inl (x + z))), st, M) Q) : am_Ex P d code (pc, ls, st, M) Q :=
  x_step (by show code pc _ = _; rw [hc]; simp [i_iinc, hl, hz]) h
theorem x_pop {v : am_V} (hc : code pc = i_pop n)  (h : am_Ex P d code (n, ls, st, M) Q) : am_Ex P d code (pc, ls, v :: st, M) Q :=
  x_step (by show code pc _ = _; rw [hc]; simp [i_pop]) h
theorem x_dup {v : am_V} (hc : code pc = i_dup n)  (h : am_Ex P d code (n, ls, v :: v :: st, M) Q) : am_Ex P d code (pc, ls, v :: st, M) Q :=
  x_step (by show code pc _ = _; rw [hc]; simp [i_dup]) h
theorem x_dup_x1 {v u : am_V} (hc : code pc = i_dup_x1 n)  (h : am_Ex P d code (n, ls, v :: u :: v :: st, M) Q) : am_Ex P d code (pc, ls, v :: u :: st, M) Q :=
  x_step (by show code pc _ = _; rw [hc]; simp [i_dup_x1]) h
theorem x_dup_x2 {v u s : am_V} (hc : code pc = i_dup_x2 n)  (h : am_Ex P d code (n, ls, v :: u :: s :: v :: st, M) Q) : am_Ex P d code (pc, ls, v :: u :: s :: st, M) Q :=
  x_step (by show code pc _ = _; rw [hc]; simp [i_dup_x2]) h
theorem x_dup2 {v u : am_V} (hc : code pc = i_dup2 n)  (h : am_Ex P d code (n, ls, v :: u :: v :: u :: st, M) Q) : am_Ex P d code (pc, ls, v :: u :: st, M) Q :=
  x_step (by show code pc _ = _; rw [hc]; simp [i_dup2]) h
theorem x_goto  (hc : code pc = i_goto n)  (h : am_Ex P d code (n, ls, st, M) Q) : am_Ex P d code (pc, ls, st, M) Q :=
  x_step (by show code pc _ = _; rw [hc]; simp [i_goto]) h
theorem x_iadd {x y : Int} (hc : code pc = i_iadd n) (hz : am_ok (x + y)) (h : am_Ex P d code (n, ls, .inl (x + y) :: st, M) Q) : am_Ex P d code (pc, ls, .inl y :: .inl x :: st, M) Q :=
  x_step (by show code pc _ = _; rw [hc]; simp [i_iadd, hz]) h
theorem x_isub {x y : Int} (hc : code pc = i_isub n) (hz : am_ok (x - y)) (h : am_Ex P d code (n, ls, .inl (x - y) :: st, M) Q) : am_Ex P d code (pc, ls, .inl y :: .inl x :: st, M) Q :=
  x_step (by show code pc _ = _; rw [hc]; simp [i_isub, hz]) h
theorem x_imul {x y : Int} (hc : code pc = i_imul n) (hz : am_ok (x * y)) (h : am_Ex P d code (n, ls, .inl (x * y) :: st, M) Q) : am_Ex P d code (pc, ls, .inl y :: .inl x :: st, M) Q :=
  x_step (by show code pc _ = _; rw [hc]; simp [i_imul, hz]) h
theorem x_iand {x y : Int} (hc : code pc = i_iand n)  (h : am_Ex P d code (n, ls, .inl (am_and x y) :: st, M) Q) : am_Ex P d code (pc, ls, .inl y :: .inl x :: st, M) Q :=
  x_step (by show code pc _ = _; rw [hc]; simp [i_iand]) h
theorem x_ior {x y : Int} (hc : code pc = i_ior n)  (h : am_Ex P d code (n, ls, .inl (am_or x y) :: st, M) Q) : am_Ex P d code (pc, ls, .inl y :: .inl x :: st, M) Q :=
  x_step (by show code pc _ = _; rw [hc]; simp [i_ior]) h
theorem x_ixor {x y : Int} (hc : code pc = i_ixor n)  (h : am_Ex P d code (n, ls, .inl (am_xor x y) :: st, M) Q) : am_Ex P d code (pc, ls, .inl y :: .inl x :: st, M) Q :=
  x_step (by show code pc _ = _; rw [hc]; simp [i_ixor]) h
theorem x_icmp_eq {x y : Int} (hc : code pc = i_icmp_eq t n) (h1 : x = y → am_Ex P d code (t, ls, st, M) Q) (h2 : ¬ (x = y) → am_Ex P d code (n, ls, st, M) Q) : am_Ex P d code (pc, ls, .inl y :: .inl x :: st, M) Q := by
  by_cases hx : x = y
  · refine x_step (q' := (t, ls, st, M)) ?_ (h1 hx)
    show code pc _ = _
    rw [hc]
    simp only [i_icmp_eq]
    rw [if_pos hx]
  · refine x_step (q' := (n, ls, st, M)) ?_ (h2 hx)
    show code pc _ = _
    rw [hc]
    simp only [i_icmp_eq]
    rw [if_neg hx]
theorem x_if_eq {x : Int} (hc : code pc = i_if_eq t n) (h1 : x = 0 → am_Ex P d code (t, ls, st, M) Q) (h2 : ¬ (x = 0) → am_Ex P d code (n, ls, st, M) Q) : am_Ex P d code (pc, ls, .inl x :: st, M) Q := by
  by_cases hx : x = 0
  · refine x_step (q' := (t, ls, st, M)) ?_ (h1 hx)
    show code pc _ = _
    rw [hc]
    simp only [i_if_eq]
    rw [if_pos hx]
  · refine x_step (q' := (n, ls, st, M)) ?_ (h2 hx)
    show code pc _ = _
    rw [hc]
    simp only [i_if_eq]
    rw [if_neg hx]
theorem x_icmp_ne {x y : Int} (hc : code pc = i_icmp_ne t n) (h1 : ¬ x = y → am_Ex P d code (t, ls, st, M) Q) (h2 : ¬ (¬ x = y) → am_Ex P d code (n, ls, st, M) Q) : am_Ex P d code (pc, ls, .inl y :: .inl x :: st, M) Q := by
  by_cases hx : ¬ x = y
  · refine x_step (q' := (t, ls, st, M)) ?_ (h1 hx)
    show code pc _ = _
    rw [hc]
    simp only [i_icmp_ne]
    rw [if_pos hx]
  · refine x_step (q' := (n, ls, st, M)) ?_ (h2 hx)
    show code pc _ = _
    rw [hc]
    simp only [i_icmp_ne]
    rw [if_neg hx]
theorem x_if_ne {x : Int} (hc : code pc = i_if_ne t n) (h1 : ¬ x = 0 → am_Ex P d code (t, ls, st, M) Q) (h2 : ¬ (¬ x = 0) → am_Ex P d code (n, ls, st, M) Q) : am_Ex P d code (pc, ls, .inl x :: st, M) Q := by
  by_cases hx : ¬ x = 0
  · refine x_step (q' := (t, ls, st, M)) ?_ (h1 hx)
    show code pc _ = _
    rw [hc]
    simp only [i_if_ne]
    rw [if_pos hx]
  · refine x_step (q' := (n, ls, st, M)) ?_ (h2 hx)
    show code pc _ = _
    rw [hc]
    simp only [i_if_ne]
    rw [if_neg hx]
theorem x_icmp_lt {x y : Int} (hc : code pc = i_icmp_lt t n) (h1 : x < y → am_Ex P d code (t, ls, st, M) Q) (h2 : ¬ (x < y) → am_Ex P d code (n, ls, st, M) Q) : am_Ex P d code (pc, ls, .inl y :: .inl x :: st, M) Q := by
  by_cases hx : x < y
  · refine x_step (q' := (t, ls, st, M)) ?_ (h1 hx)
    show code pc _ = _
    rw [hc]
    simp only [i_icmp_lt]
    rw [if_pos hx]
  · refine x_step (q' := (n, ls, st, M)) ?_ (h2 hx)
    show code pc _ = _
    rw [hc]
    simp only [i_icmp_lt]
    rw [if_neg hx]
theorem x_if_lt {x : Int} (hc : code pc = i_if_lt t n) (h1 : x < 0 → am_Ex P d code (t, ls, st, M) Q) (h2 : ¬ (x < 0) → am_Ex P d code (n, ls, st, M) Q) : am_Ex P d code (pc, ls, .inl x :: st, M) Q := by
  by_cases hx : x < 0
  · refine x_step (q' := (t, ls, st, M)) ?_ (h1 hx)
    show code pc _ = _
    rw [hc]
    simp only [i_if_lt]
    rw [if_pos hx]
  · refine x_step (q' := (n, ls, st, M)) ?_ (h2 hx)
    show code pc _ = _
    rw [hc]
    simp only [i_if_lt]
    rw [if_neg hx]
theorem x_icmp_ge {x y : Int} (hc : code pc = i_icmp_ge t n) (h1 : y ≤ x → am_Ex P d code (t, ls, st, M) Q) (h2 : ¬ (y ≤ x) → am_Ex P d code (n, ls, st, M) Q) : am_Ex P d code (pc, ls, .inl y :: .inl x :: st, M) Q := by
  by_cases hx : y ≤ x
  · refine x_step (q' := (t, ls, st, M)) ?_ (h1 hx)
    show code pc _ = _
    rw [hc]
    simp only [i_icmp_ge]
    rw [if_pos hx]
  · refine x_step (q' := (n, ls, st, M)) ?_ (h2 hx)
    show code pc _ = _
    rw [hc]
    simp only [i_icmp_ge]
    rw [if_neg hx]
theorem x_if_ge {x : Int} (hc : code pc = i_if_ge t n) (h1 : 0 ≤ x → am_Ex P d code (t, ls, st, M) Q) (h2 : ¬ (0 ≤ x) → am_Ex P d code (n, ls, st, M) Q) : am_Ex P d code (pc, ls, .inl x :: st, M) Q := by
  by_cases hx : 0 ≤ x
  · refine x_step (q' := (t, ls, st, M)) ?_ (h1 hx)
    show code pc _ = _
    rw [hc]
    simp only [i_if_ge]
    rw [if_pos hx]
  · refine x_step (q' := (n, ls, st, M)) ?_ (h2 hx)
    show code pc _ = _
    rw [hc]
    simp only [i_if_ge]
    rw [if_neg hx]
theorem x_icmp_gt {x y : Int} (hc : code pc = i_icmp_gt t n) (h1 : y < x → am_Ex P d code (t, ls, st, M) Q) (h2 : ¬ (y < x) → am_Ex P d code (n, ls, st, M) Q) : am_Ex P d code (pc, ls, .inl y :: .inl x :: st, M) Q := by
  by_cases hx : y < x
  · refine x_step (q' := (t, ls, st, M)) ?_ (h1 hx)
    show code pc _ = _
    rw [hc]
    simp only [i_icmp_gt]
    rw [if_pos hx]
  · refine x_step (q' := (n, ls, st, M)) ?_ (h2 hx)
    show code pc _ = _
    rw [hc]
    simp only [i_icmp_gt]
    rw [if_neg hx]
theorem x_if_gt {x : Int} (hc : code pc = i_if_gt t n) (h1 : 0 < x → am_Ex P d code (t, ls, st, M) Q) (h2 : ¬ (0 < x) → am_Ex P d code (n, ls, st, M) Q) : am_Ex P d code (pc, ls, .inl x :: st, M) Q := by
  by_cases hx : 0 < x
  · refine x_step (q' := (t, ls, st, M)) ?_ (h1 hx)
    show code pc _ = _
    rw [hc]
    simp only [i_if_gt]
    rw [if_pos hx]
  · refine x_step (q' := (n, ls, st, M)) ?_ (h2 hx)
    show code pc _ = _
    rw [hc]
    simp only [i_if_gt]
    rw [if_neg hx]
theorem x_icmp_le {x y : Int} (hc : code pc = i_icmp_le t n) (h1 : x ≤ y → am_Ex P d code (t, ls, st, M) Q) (h2 : ¬ (x ≤ y) → am_Ex P d code (n, ls, st, M) Q) : am_Ex P d code (pc, ls, .inl y :: .inl x :: st, M) Q := by
  by_cases hx : x ≤ y
  · refine x_step (q' := (t, ls, st, M)) ?_ (h1 hx)
    show code pc _ = _
    rw [hc]
    simp only [i_icmp_le]
    rw [if_pos hx]
  · refine x_step (q' := (n, ls, st, M)) ?_ (h2 hx)
    show code pc _ = _
    rw [hc]
    simp only [i_icmp_le]
    rw [if_neg hx]
theorem x_if_le {x : Int} (hc : code pc = i_if_le t n) (h1 : x ≤ 0 → am_Ex P d code (t, ls, st, M) Q) (h2 : ¬ (x ≤ 0) → am_Ex P d code (n, ls, st, M) Q) : am_Ex P d code (pc, ls, .inl x :: st, M) Q := by
  by_cases hx : x ≤ 0
  · refine x_step (q' := (t, ls, st, M)) ?_ (h1 hx)
    show code pc _ = _
    rw [hc]
    simp only [i_if_le]
    rw [if_pos hx]
  · refine x_step (q' := (n, ls, st, M)) ?_ (h2 hx)
    show code pc _ = _
    rw [hc]
    simp only [i_if_le]
    rw [if_neg hx]
theorem x_ifnull {r : Option Nat} (hc : code pc = i_ifnull t n) (h1 : r = none → am_Ex P d code (t, ls, st, M) Q) (h2 : ∀ a, r = some a → am_Ex P d code (n, ls, st, M) Q) : am_Ex P d code (pc, ls, .inr r :: st, M) Q := by
  cases r with
  | none => exact x_step (q' := (t, ls, st, M)) (by show code pc _ = _; rw [hc]; rfl) (h1 rfl)
  | some a => exact x_step (q' := (n, ls, st, M)) (by show code pc _ = _; rw [hc]; rfl) (h2 a rfl)
theorem x_ifnonnull {r : Option Nat} (hc : code pc = i_ifnonnull t n) (h1 : ∀ a, r = some a → am_Ex P d code (t, ls, st, M) Q) (h2 : r = none → am_Ex P d code (n, ls, st, M) Q) : am_Ex P d code (pc, ls, .inr r :: st, M) Q := by
  cases r with
  | none => exact x_step (q' := (n, ls, st, M)) (by show code pc _ = _; rw [hc]; rfl) (h2 rfl)
  | some a => exact x_step (q' := (t, ls, st, M)) (by show code pc _ = _; rw [hc]; rfl) (h1 a rfl)
theorem x_tsw {lo x : Int} {ts : List Nat} {t0 : Nat} (hc : code pc = i_tsw lo ts t0) (h : am_Ex P d code (am_ts lo ts t0 x, ls, st, M) Q) : am_Ex P d code (pc, ls, .inl x :: st, M) Q :=
  x_step (by show code pc _ = _; rw [hc]; rfl) h
theorem x_lsw {x : Int} {ps : List (Int × Nat)} {t0 : Nat} (hc : code pc = i_lsw ps t0) (h : am_Ex P d code (am_lk ps t0 x, ls, st, M) Q) : am_Ex P d code (pc, ls, .inl x :: st, M) Q :=
  x_step (by show code pc _ = _; rw [hc]; rfl) h
variable {nn ss a ci b : Nat} {μ : Nat → Option am_C}
theorem x_get {fs : List am_V} {v : am_V} (hc : code pc = i_get ci k n) (hm : μ a = some (.inl (ci, fs))) (hv : fs[k]? = some v) (h : am_Ex P d code (n, ls, v :: st, nn, ss, μ) Q) : am_Ex P d code (pc, ls, .inr (some a) :: st, nn, ss, μ) Q :=
  x_step (by show code pc _ = _; rw [hc]; simp [i_get, hm, hv]) h
theorem x_put {fs : List am_V} {v : am_V} (hc : code pc = i_put ci k b n) (hm : μ a = some (.inl (ci, fs))) (hk : k < fs.length) (hv : am_fit b v = true) (h : am_Ex P d code (n, ls, st, nn, ss, am_up μ a (.inl (ci, fs.set k v))) Q) : am_Ex P d code (pc, ls, v :: .inr (some a) :: st, nn, ss, μ) Q :=
  x_step (by show code pc _ = _; rw [hc]; simp [i_put, hm, hk, hv]) h
theorem x_iald {i : Int} {N : Nat} {f : Nat → Int} (hc : code pc = i_iald t n) (hm : μ a = some (.inr (.inl (t, N, f)))) (h0 : 0 ≤ i) (h1 : i < N) (h : am_Ex P d code (n, ls, .inl (f i.toNat) :: st, nn, ss, μ) Q) : am_Ex P d code (pc, ls, .inl i :: .inr (some a) :: st, nn, ss, μ) Q :=
  x_step (by show code pc _ = _; rw [hc]; simp [i_iald, hm, h0, h1]) h
theorem x_iast {i z : Int} {N : Nat} {f : Nat → Int} (hc : code pc = i_iast t b n) (hm : μ a = some (.inr (.inl (t, N, f)))) (h0 : 0 ≤ i) (h1 : i < N) (hv : am_fit b (.inl z) = true) (h : am_Ex P d code (n, ls, st, nn, ss, am_up μ a (.inr (.inl (t, N, am_fu f i.toNat z)))) Q) : am_Ex P d code (pc, ls, .inl z :: .inl i :: .inr (some a) :: st, nn, ss, μ) Q :=
  x_step (by show code pc _ = _; rw [hc]; simp [i_iast, hm, h0, h1, hv]) h
theorem x_aald {i : Int} {N : Nat} {f : Nat → Option Nat} (hc : code pc = i_aald t n) (hm : μ a = some (.inr (.inr (t, N, f)))) (h0 : 0 ≤ i) (h1 : i < N) (h : am_Ex P d code (n, ls, .inr (f i.toNat) :: st, nn, ss, μ) Q) : am_Ex P d code (pc, ls, .inl i :: .inr (some a) :: st, nn, ss, μ) Q :=
  x_step (by show code pc _ = _; rw [hc]; simp [i_aald, hm, h0, h1]) h
theorem x_aast {i : Int} {N v : Nat} {f : Nat → Option Nat} {fs : List am_V} (hc : code pc = i_aast t ci n) (hm : μ a = some (.inr (.inr (t, N, f)))) (hm2 : μ v = some (.inl (ci, fs))) (h0 : 0 ≤ i) (h1 : i < N) (h : am_Ex P d code (n, ls, st, nn, ss, am_up μ a (.inr (.inr (t, N, am_fu f i.toNat (some v))))) Q) : am_Ex P d code (pc, ls, .inr (some v) :: .inl i :: .inr (some a) :: st, nn, ss, μ) Q :=
  x_step (by show code pc _ = _; rw [hc]; simp [i_aast, hm, hm2, h0, h1]) h
theorem x_alen {N : Nat} {f : Nat → Int} (hc : code pc = i_alen t n) (hm : μ a = some (.inr (.inl (t, N, f)))) (h0 : N < 2147483648) (h : am_Ex P d code (n, ls, .inl N :: st, nn, ss, μ) Q) : am_Ex P d code (pc, ls, .inr (some a) :: st, nn, ss, μ) Q :=
  x_step (by show code pc _ = _; rw [hc]; simp [i_alen, hm, h0]) h
theorem x_alenR {N : Nat} {f : Nat → Option Nat} (hc : code pc = i_alen t n) (hm : μ a = some (.inr (.inr (t, N, f)))) (h0 : N < 2147483648) (h : am_Ex P d code (n, ls, .inl N :: st, nn, ss, μ) Q) : am_Ex P d code (pc, ls, .inr (some a) :: st, nn, ss, μ) Q :=
  x_step (by show code pc _ = _; rw [hc]; simp [i_alen, hm, h0]) h
theorem x_new {fs : List am_V} (hc : code pc = i_new ci fs n) (h : am_Ex P d code (n, ls, .inr (some nn) :: st, nn + 1, ss + fs.length, am_up μ nn (.inl (ci, fs))) Q) : am_Ex P d code (pc, ls, st, nn, ss, μ) Q :=
  x_step (by show code pc _ = _; rw [hc]; rfl) h
theorem x_newa {i : Int} (hc : code pc = i_newa t n) (h0 : 0 ≤ i) (h1 : i ≤ 100000) (h : am_Ex P d code (n, ls, .inr (some nn) :: st, nn + 1, ss + i.toNat, am_up μ nn (.inr (.inl (t, i.toNat, fun _ => 0)))) Q) : am_Ex P d code (pc, ls, .inl i :: st, nn, ss, μ) Q :=
  x_step (by show code pc _ = _; rw [hc]; simp [i_newa, h0, h1]) h
theorem x_anewa {i : Int} (hc : code pc = i_anewa t n) (h0 : 0 ≤ i) (h1 : i ≤ 100000) (h : am_Ex P d code (n, ls, .inr (some nn) :: st, nn + 1, ss + i.toNat, am_up μ nn (.inr (.inr (t, i.toNat, fun _ => none)))) Q) : am_Ex P d code (pc, ls, .inl i :: st, nn, ss, μ) Q :=
  x_step (by show code pc _ = _; rw [hc]; simp [i_anewa, h0, h1]) h
theorem x_iret {z : Int} (hc : code pc = i_iret) (h : Q (some (.inl z)) M) : am_Ex P d code (pc, ls, [.inl z], M) Q :=
  x_done (y := (some (.inl z), M)) (by show code pc _ = _; rw [hc]; rfl) h
theorem x_zret {z : Int} (hc : code pc = i_zret) (hz : z = 0 ∨ z = 1) (h : Q (some (.inl z)) M) : am_Ex P d code (pc, ls, [.inl z], M) Q :=
  x_done (y := (some (.inl z), M)) (by show code pc _ = _; rw [hc]; simp only [i_zret]; rw [if_pos hz]) h
theorem x_aret {r : Option Nat} (hc : code pc = i_aret) (h : Q (some (.inr r)) M) : am_Ex P d code (pc, ls, [.inr r], M) Q :=
  x_done (y := (some (.inr r), M)) (by show code pc _ = _; rw [hc]; rfl) h
theorem x_vret (hc : code pc = i_vret) (h : Q none M) : am_Ex P d code (pc, ls, [], M) Q :=
  x_done (y := (none, M)) (by show code pc _ = _; rw [hc]; rfl) h
theorem x_max {x y : Int} (hc : code pc = i_max) (h : Q (some (.inl (if x < y then y else x))) M) : am_Ex P d code (pc, [some (.inl x), some (.inl y)], st, M) Q :=
  x_done (y := (some (.inl (if x < y then y else x)), M)) (by show code pc _ = _; rw [hc]; rfl) h
theorem x_min {x y : Int} (hc : code pc = i_min) (h : Q (some (.inl (if y < x then y else x))) M) : am_Ex P d code (pc, [some (.inl x), some (.inl y)], st, M) Q :=
  x_done (y := (some (.inl (if y < x then y else x)), M)) (by show code pc _ = _; rw [hc]; rfl) h
theorem x_sld {i : Int} {L : Nat} {xs : Nat → Int} (hc : code pc = i_sld L xs n) (h0 : 0 ≤ i) (h1 : i < L) (h : am_Ex P d code (n, ls, .inl (xs i.toNat) :: st, M) Q) : am_Ex P d code (pc, ls, .inl i :: .inr (some 0) :: st, M) Q :=
  x_step (by show code pc _ = _; rw [hc]; simp [i_sld, h0, h1]) h
theorem x_slen {L : Nat} (hc : code pc = i_slen L n) (h : am_Ex P d code (n, ls, .inl L :: st, M) Q) : am_Ex P d code (pc, ls, .inr (some 0) :: st, M) Q :=
  x_step (by show code pc _ = _; rw [hc]; rfl) h
variable {j : Nat}
theorem x_callS0 (hc : code pc = i_callS j 0 n) (h8 : st.length ≤ 8) (h : am_Wp P d j [] M (fun r M' => am_Ex P d code (n, ls, r.toList ++ st, M') Q)) : am_Ex P d code (pc, ls, st, M) Q :=
  x_callw (w := (j, [], n, ls, st, M)) (by show code pc _ = _; rw [hc]; unfold i_callS; rw [if_pos ⟨by first | (simp; done) | (simp; omega), by first | (simp; done) | (simp; omega)⟩]; simp) h
theorem x_callS1 {v1 : am_V} (hc : code pc = i_callS j 1 n) (h8 : st.length ≤ 8) (h : am_Wp P d j [v1] M (fun r M' => am_Ex P d code (n, ls, r.toList ++ st, M') Q)) : am_Ex P d code (pc, ls, v1 :: st, M) Q :=
  x_callw (w := (j, [v1], n, ls, st, M)) (by show code pc _ = _; rw [hc]; unfold i_callS; rw [if_pos ⟨by first | (simp; done) | (simp; omega), by first | (simp; done) | (simp; omega)⟩]; simp) h
theorem x_callS2 {v1 v2 : am_V} (hc : code pc = i_callS j 2 n) (h8 : st.length ≤ 8) (h : am_Wp P d j [v1, v2] M (fun r M' => am_Ex P d code (n, ls, r.toList ++ st, M') Q)) : am_Ex P d code (pc, ls, v2 :: v1 :: st, M) Q :=
  x_callw (w := (j, [v1, v2], n, ls, st, M)) (by show code pc _ = _; rw [hc]; unfold i_callS; rw [if_pos ⟨by first | (simp; done) | (simp; omega), by first | (simp; done) | (simp; omega)⟩]; simp) h
theorem x_callS3 {v1 v2 v3 : am_V} (hc : code pc = i_callS j 3 n) (h8 : st.length ≤ 8) (h : am_Wp P d j [v1, v2, v3] M (fun r M' => am_Ex P d code (n, ls, r.toList ++ st, M') Q)) : am_Ex P d code (pc, ls, v3 :: v2 :: v1 :: st, M) Q :=
  x_callw (w := (j, [v1, v2, v3], n, ls, st, M)) (by show code pc _ = _; rw [hc]; unfold i_callS; rw [if_pos ⟨by first | (simp; done) | (simp; omega), by first | (simp; done) | (simp; omega)⟩]; simp) h
theorem x_callS4 {v1 v2 v3 v4 : am_V} (hc : code pc = i_callS j 4 n) (h8 : st.length ≤ 8) (h : am_Wp P d j [v1, v2, v3, v4] M (fun r M' => am_Ex P d code (n, ls, r.toList ++ st, M') Q)) : am_Ex P d code (pc, ls, v4 :: v3 :: v2 :: v1 :: st, M) Q :=
  x_callw (w := (j, [v1, v2, v3, v4], n, ls, st, M)) (by show code pc _ = _; rw [hc]; unfold i_callS; rw [if_pos ⟨by first | (simp; done) | (simp; omega), by first | (simp; done) | (simp; omega)⟩]; simp) h
theorem x_callS5 {v1 v2 v3 v4 v5 : am_V} (hc : code pc = i_callS j 5 n) (h8 : st.length ≤ 8) (h : am_Wp P d j [v1, v2, v3, v4, v5] M (fun r M' => am_Ex P d code (n, ls, r.toList ++ st, M') Q)) : am_Ex P d code (pc, ls, v5 :: v4 :: v3 :: v2 :: v1 :: st, M) Q :=
  x_callw (w := (j, [v1, v2, v3, v4, v5], n, ls, st, M)) (by show code pc _ = _; rw [hc]; unfold i_callS; rw [if_pos ⟨by first | (simp; done) | (simp; omega), by first | (simp; done) | (simp; omega)⟩]; simp) h
theorem x_callS6 {v1 v2 v3 v4 v5 v6 : am_V} (hc : code pc = i_callS j 6 n) (h8 : st.length ≤ 8) (h : am_Wp P d j [v1, v2, v3, v4, v5, v6] M (fun r M' => am_Ex P d code (n, ls, r.toList ++ st, M') Q)) : am_Ex P d code (pc, ls, v6 :: v5 :: v4 :: v3 :: v2 :: v1 :: st, M) Q :=
  x_callw (w := (j, [v1, v2, v3, v4, v5, v6], n, ls, st, M)) (by show code pc _ = _; rw [hc]; unfold i_callS; rw [if_pos ⟨by first | (simp; done) | (simp; omega), by first | (simp; done) | (simp; omega)⟩]; simp) h
theorem x_callS7 {v1 v2 v3 v4 v5 v6 v7 : am_V} (hc : code pc = i_callS j 7 n) (h8 : st.length ≤ 8) (h : am_Wp P d j [v1, v2, v3, v4, v5, v6, v7] M (fun r M' => am_Ex P d code (n, ls, r.toList ++ st, M') Q)) : am_Ex P d code (pc, ls, v7 :: v6 :: v5 :: v4 :: v3 :: v2 :: v1 :: st, M) Q :=
  x_callw (w := (j, [v1, v2, v3, v4, v5, v6, v7], n, ls, st, M)) (by show code pc _ = _; rw [hc]; unfold i_callS; rw [if_pos ⟨by first | (simp; done) | (simp; omega), by first | (simp; done) | (simp; omega)⟩]; simp) h
theorem x_callI0 (hc : code pc = i_callI j 0 n) (h8 : st.length ≤ 8) (h : am_Wp P d j [.inr (some a)] M (fun r M' => am_Ex P d code (n, ls, r.toList ++ st, M') Q)) : am_Ex P d code (pc, ls, .inr (some a) :: st, M) Q :=
  x_callw (w := (j, [.inr (some a)], n, ls, st, M)) (by show code pc _ = _; rw [hc]; unfold i_callI; rw [if_pos ⟨by first | (simp; done) | (simp; omega), by first | (simp; done) | (simp; omega)⟩]; simp) h
theorem x_callV0 {fs : List am_V} (hc : code pc = i_callV ci j 0 n) (hm : μ a = some (.inl (ci, fs))) (h8 : st.length ≤ 8) (h : am_Wp P d j [.inr (some a)] (nn, ss, μ) (fun r M' => am_Ex P d code (n, ls, r.toList ++ st, M') Q)) : am_Ex P d code (pc, ls, .inr (some a) :: st, nn, ss, μ) Q :=
  x_callw (w := (j, [.inr (some a)], n, ls, st, nn, ss, μ)) (by show code pc _ = _; rw [hc]; unfold i_callV; rw [if_pos ⟨by first | (simp; done) | (simp; omega), by first | (simp; done) | (simp; omega)⟩]; simp [hm]) h
theorem x_callI1 {v1 : am_V} (hc : code pc = i_callI j 1 n) (h8 : st.length ≤ 8) (h : am_Wp P d j [.inr (some a), v1] M (fun r M' => am_Ex P d code (n, ls, r.toList ++ st, M') Q)) : am_Ex P d code (pc, ls, v1 :: .inr (some a) :: st, M) Q :=
  x_callw (w := (j, [.inr (some a), v1], n, ls, st, M)) (by show code pc _ = _; rw [hc]; unfold i_callI; rw [if_pos ⟨by first | (simp; done) | (simp; omega), by first | (simp; done) | (simp; omega)⟩]; simp) h
theorem x_callV1 {v1 : am_V} {fs : List am_V} (hc : code pc = i_callV ci j 1 n) (hm : μ a = some (.inl (ci, fs))) (h8 : st.length ≤ 8) (h : am_Wp P d j [.inr (some a), v1] (nn, ss, μ) (fun r M' => am_Ex P d code (n, ls, r.toList ++ st, M') Q)) : am_Ex P d code (pc, ls, v1 :: .inr (some a) :: st, nn, ss, μ) Q :=
  x_callw (w := (j, [.inr (some a), v1], n, ls, st, nn, ss, μ)) (by show code pc _ = _; rw [hc]; unfold i_callV; rw [if_pos ⟨by first | (simp; done) | (simp; omega), by first | (simp; done) | (simp; omega)⟩]; simp [hm]) h
theorem x_callI2 {v1 v2 : am_V} (hc : code pc = i_callI j 2 n) (h8 : st.length ≤ 8) (h : am_Wp P d j [.inr (some a), v1, v2] M (fun r M' => am_Ex P d code (n, ls, r.toList ++ st, M') Q)) : am_Ex P d code (pc, ls, v2 :: v1 :: .inr (some a) :: st, M) Q :=
  x_callw (w := (j, [.inr (some a), v1, v2], n, ls, st, M)) (by show code pc _ = _; rw [hc]; unfold i_callI; rw [if_pos ⟨by first | (simp; done) | (simp; omega), by first | (simp; done) | (simp; omega)⟩]; simp) h
theorem x_callV2 {v1 v2 : am_V} {fs : List am_V} (hc : code pc = i_callV ci j 2 n) (hm : μ a = some (.inl (ci, fs))) (h8 : st.length ≤ 8) (h : am_Wp P d j [.inr (some a), v1, v2] (nn, ss, μ) (fun r M' => am_Ex P d code (n, ls, r.toList ++ st, M') Q)) : am_Ex P d code (pc, ls, v2 :: v1 :: .inr (some a) :: st, nn, ss, μ) Q :=
  x_callw (w := (j, [.inr (some a), v1, v2], n, ls, st, nn, ss, μ)) (by show code pc _ = _; rw [hc]; unfold i_callV; rw [if_pos ⟨by first | (simp; done) | (simp; omega), by first | (simp; done) | (simp; omega)⟩]; simp [hm]) h
theorem x_callI3 {v1 v2 v3 : am_V} (hc : code pc = i_callI j 3 n) (h8 : st.length ≤ 8) (h : am_Wp P d j [.inr (some a), v1, v2, v3] M (fun r M' => am_Ex P d code (n, ls, r.toList ++ st, M') Q)) : am_Ex P d code (pc, ls, v3 :: v2 :: v1 :: .inr (some a) :: st, M) Q :=
  x_callw (w := (j, [.inr (some a), v1, v2, v3], n, ls, st, M)) (by show code pc _ = _; rw [hc]; unfold i_callI; rw [if_pos ⟨by first | (simp; done) | (simp; omega), by first | (simp; done) | (simp; omega)⟩]; simp) h
theorem x_callV3 {v1 v2 v3 : am_V} {fs : List am_V} (hc : code pc = i_callV ci j 3 n) (hm : μ a = some (.inl (ci, fs))) (h8 : st.length ≤ 8) (h : am_Wp P d j [.inr (some a), v1, v2, v3] (nn, ss, μ) (fun r M' => am_Ex P d code (n, ls, r.toList ++ st, M') Q)) : am_Ex P d code (pc, ls, v3 :: v2 :: v1 :: .inr (some a) :: st, nn, ss, μ) Q :=
  x_callw (w := (j, [.inr (some a), v1, v2, v3], n, ls, st, nn, ss, μ)) (by show code pc _ = _; rw [hc]; unfold i_callV; rw [if_pos ⟨by first | (simp; done) | (simp; omega), by first | (simp; done) | (simp; omega)⟩]; simp [hm]) h
theorem x_callI4 {v1 v2 v3 v4 : am_V} (hc : code pc = i_callI j 4 n) (h8 : st.length ≤ 8) (h : am_Wp P d j [.inr (some a), v1, v2, v3, v4] M (fun r M' => am_Ex P d code (n, ls, r.toList ++ st, M') Q)) : am_Ex P d code (pc, ls, v4 :: v3 :: v2 :: v1 :: .inr (some a) :: st, M) Q :=
  x_callw (w := (j, [.inr (some a), v1, v2, v3, v4], n, ls, st, M)) (by show code pc _ = _; rw [hc]; unfold i_callI; rw [if_pos ⟨by first | (simp; done) | (simp; omega), by first | (simp; done) | (simp; omega)⟩]; simp) h
theorem x_callV4 {v1 v2 v3 v4 : am_V} {fs : List am_V} (hc : code pc = i_callV ci j 4 n) (hm : μ a = some (.inl (ci, fs))) (h8 : st.length ≤ 8) (h : am_Wp P d j [.inr (some a), v1, v2, v3, v4] (nn, ss, μ) (fun r M' => am_Ex P d code (n, ls, r.toList ++ st, M') Q)) : am_Ex P d code (pc, ls, v4 :: v3 :: v2 :: v1 :: .inr (some a) :: st, nn, ss, μ) Q :=
  x_callw (w := (j, [.inr (some a), v1, v2, v3, v4], n, ls, st, nn, ss, μ)) (by show code pc _ = _; rw [hc]; unfold i_callV; rw [if_pos ⟨by first | (simp; done) | (simp; omega), by first | (simp; done) | (simp; omega)⟩]; simp [hm]) h
theorem x_callI5 {v1 v2 v3 v4 v5 : am_V} (hc : code pc = i_callI j 5 n) (h8 : st.length ≤ 8) (h : am_Wp P d j [.inr (some a), v1, v2, v3, v4, v5] M (fun r M' => am_Ex P d code (n, ls, r.toList ++ st, M') Q)) : am_Ex P d code (pc, ls, v5 :: v4 :: v3 :: v2 :: v1 :: .inr (some a) :: st, M) Q :=
  x_callw (w := (j, [.inr (some a), v1, v2, v3, v4, v5], n, ls, st, M)) (by show code pc _ = _; rw [hc]; unfold i_callI; rw [if_pos ⟨by first | (simp; done) | (simp; omega), by first | (simp; done) | (simp; omega)⟩]; simp) h
theorem x_callV5 {v1 v2 v3 v4 v5 : am_V} {fs : List am_V} (hc : code pc = i_callV ci j 5 n) (hm : μ a = some (.inl (ci, fs))) (h8 : st.length ≤ 8) (h : am_Wp P d j [.inr (some a), v1, v2, v3, v4, v5] (nn, ss, μ) (fun r M' => am_Ex P d code (n, ls, r.toList ++ st, M') Q)) : am_Ex P d code (pc, ls, v5 :: v4 :: v3 :: v2 :: v1 :: .inr (some a) :: st, nn, ss, μ) Q :=
  x_callw (w := (j, [.inr (some a), v1, v2, v3, v4, v5], n, ls, st, nn, ss, μ)) (by show code pc _ = _; rw [hc]; unfold i_callV; rw [if_pos ⟨by first | (simp; done) | (simp; omega), by first | (simp; done) | (simp; omega)⟩]; simp [hm]) h
theorem x_callI6 {v1 v2 v3 v4 v5 v6 : am_V} (hc : code pc = i_callI j 6 n) (h8 : st.length ≤ 8) (h : am_Wp P d j [.inr (some a), v1, v2, v3, v4, v5, v6] M (fun r M' => am_Ex P d code (n, ls, r.toList ++ st, M') Q)) : am_Ex P d code (pc, ls, v6 :: v5 :: v4 :: v3 :: v2 :: v1 :: .inr (some a) :: st, M) Q :=
  x_callw (w := (j, [.inr (some a), v1, v2, v3, v4, v5, v6], n, ls, st, M)) (by show code pc _ = _; rw [hc]; unfold i_callI; rw [if_pos ⟨by first | (simp; done) | (simp; omega), by first | (simp; done) | (simp; omega)⟩]; simp) h
theorem x_callV6 {v1 v2 v3 v4 v5 v6 : am_V} {fs : List am_V} (hc : code pc = i_callV ci j 6 n) (hm : μ a = some (.inl (ci, fs))) (h8 : st.length ≤ 8) (h : am_Wp P d j [.inr (some a), v1, v2, v3, v4, v5, v6] (nn, ss, μ) (fun r M' => am_Ex P d code (n, ls, r.toList ++ st, M') Q)) : am_Ex P d code (pc, ls, v6 :: v5 :: v4 :: v3 :: v2 :: v1 :: .inr (some a) :: st, nn, ss, μ) Q :=
  x_callw (w := (j, [.inr (some a), v1, v2, v3, v4, v5, v6], n, ls, st, nn, ss, μ)) (by show code pc _ = _; rw [hc]; unfold i_callV; rw [if_pos ⟨by first | (simp; done) | (simp; omega), by first | (simp; done) | (simp; omega)⟩]; simp [hm]) h
end AmRows
/-- a list of places and what stands there -/
def am_at : List (Nat × am_I) → Nat → am_I
  | [], _ => i_fail
  | q :: l, pc => if pc = q.1 then q.2 else am_at l pc
end
