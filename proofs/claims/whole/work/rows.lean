section
-- ===== PART A: goes FIRST, ahead of the names: the tables' words, and 'selects' of the private methods out of them =====
/-- a private method of a class that the tables say can be made, by its rows of tables_1 -/
def lw_okq (q : MethodName × Nat) : Prop := (q.1.cls ≠ "java/lang/invoke/MethodHandle" ∧ q.1.cls ≠ "java/lang/invoke/VarHandle") ∧ Cond.instantiable q.1.cls q.2 ∈ tables_1 ∧ Cond.privateMethod q.1 ∈ tables_1 ∧ Cond.instanceMethod q.1 ∈ tables_1
theorem lw_p0 : lw_okq (⟨"MailViews", "add", "(III)I"⟩, 6) := ⟨⟨by decide +kernel, by decide +kernel⟩, List.mem_of_getElem? (i := 9) (by decide +kernel), List.mem_of_getElem? (i := 165) (by decide +kernel), List.mem_of_getElem? (i := 166) (by decide +kernel)⟩
theorem lw_p1 : lw_okq (⟨"MailViews$Mailbox", "move", "(II)V"⟩, 6) := ⟨⟨by decide +kernel, by decide +kernel⟩, List.mem_of_getElem? (i := 18) (by decide +kernel), List.mem_of_getElem? (i := 182) (by decide +kernel), List.mem_of_getElem? (i := 183) (by decide +kernel)⟩
theorem lw_p2 : lw_okq (⟨"MailViews$Journal", "note", "(IIIII)V"⟩, 7) := ⟨⟨by decide +kernel, by decide +kernel⟩, List.mem_of_getElem? (i := 79) (by decide +kernel), List.mem_of_getElem? (i := 190) (by decide +kernel), List.mem_of_getElem? (i := 191) (by decide +kernel)⟩
theorem lw_p3 : lw_okq (⟨"MailViews$Session", "takeInNew", "(LMailViews$Mailbox;)V"⟩, 9) := ⟨⟨by decide +kernel, by decide +kernel⟩, List.mem_of_getElem? (i := 45) (by decide +kernel), List.mem_of_getElem? (i := 209) (by decide +kernel), List.mem_of_getElem? (i := 210) (by decide +kernel)⟩
theorem lw_p4 : lw_okq (⟨"MailViews", "hasMailbox", "(I)Z"⟩, 6) := ⟨⟨by decide +kernel, by decide +kernel⟩, List.mem_of_getElem? (i := 9) (by decide +kernel), List.mem_of_getElem? (i := 233) (by decide +kernel), List.mem_of_getElem? (i := 234) (by decide +kernel)⟩
theorem lw_p5 : lw_okq (⟨"MailViews", "removeDeleted", "(I)I"⟩, 6) := ⟨⟨by decide +kernel, by decide +kernel⟩, List.mem_of_getElem? (i := 9) (by decide +kernel), List.mem_of_getElem? (i := 245) (by decide +kernel), List.mem_of_getElem? (i := 246) (by decide +kernel)⟩
theorem lw_p6 : lw_okq (⟨"MailViews", "update", "(IZ)V"⟩, 6) := ⟨⟨by decide +kernel, by decide +kernel⟩, List.mem_of_getElem? (i := 9) (by decide +kernel), List.mem_of_getElem? (i := 272) (by decide +kernel), List.mem_of_getElem? (i := 273) (by decide +kernel)⟩
theorem lw_p7 : lw_okq (⟨"MailViews", "mailboxOf", "(I)LMailViews$Mailbox;"⟩, 6) := ⟨⟨by decide +kernel, by decide +kernel⟩, List.mem_of_getElem? (i := 9) (by decide +kernel), List.mem_of_getElem? (i := 276) (by decide +kernel), List.mem_of_getElem? (i := 277) (by decide +kernel)⟩
theorem lw_p8 : lw_okq (⟨"MailViews$Session", "dropGone", "(LMailViews$Mailbox;)V"⟩, 9) := ⟨⟨by decide +kernel, by decide +kernel⟩, List.mem_of_getElem? (i := 45) (by decide +kernel), List.mem_of_getElem? (i := 284) (by decide +kernel), List.mem_of_getElem? (i := 285) (by decide +kernel)⟩
theorem lw_p9 : lw_okq (⟨"MailViews$Session", "tell", "(II)V"⟩, 9) := ⟨⟨by decide +kernel, by decide +kernel⟩, List.mem_of_getElem? (i := 45) (by decide +kernel), List.mem_of_getElem? (i := 292) (by decide +kernel), List.mem_of_getElem? (i := 293) (by decide +kernel)⟩
theorem lw_p10 : lw_okq (⟨"MailViews$Session", "learnFlags", "(LMailViews$Mailbox;)V"⟩, 9) := ⟨⟨by decide +kernel, by decide +kernel⟩, List.mem_of_getElem? (i := 45) (by decide +kernel), List.mem_of_getElem? (i := 296) (by decide +kernel), List.mem_of_getElem? (i := 297) (by decide +kernel)⟩
theorem lw_p11 : lw_okq (⟨"MailViews", "isInView", "(II)Z"⟩, 6) := ⟨⟨by decide +kernel, by decide +kernel⟩, List.mem_of_getElem? (i := 9) (by decide +kernel), List.mem_of_getElem? (i := 320) (by decide +kernel), List.mem_of_getElem? (i := 321) (by decide +kernel)⟩
theorem lw_p12 : lw_okq (⟨"MailViews$Criterion", "measure", "(I)V"⟩, 7) := ⟨⟨by decide +kernel, by decide +kernel⟩, List.mem_of_getElem? (i := 107) (by decide +kernel), List.mem_of_getElem? (i := 377) (by decide +kernel), List.mem_of_getElem? (i := 378) (by decide +kernel)⟩
theorem lw_p13 : lw_okq (⟨"MailViews$Criterion", "endFrom", "(I)I"⟩, 7) := ⟨⟨by decide +kernel, by decide +kernel⟩, List.mem_of_getElem? (i := 107) (by decide +kernel), List.mem_of_getElem? (i := 381) (by decide +kernel), List.mem_of_getElem? (i := 382) (by decide +kernel)⟩
theorem lw_p14 : lw_okq (⟨"MailViews$Criterion", "depthFrom", "(I)I"⟩, 7) := ⟨⟨by decide +kernel, by decide +kernel⟩, List.mem_of_getElem? (i := 107) (by decide +kernel), List.mem_of_getElem? (i := 385) (by decide +kernel), List.mem_of_getElem? (i := 386) (by decide +kernel)⟩
theorem lw_p15 : lw_okq (⟨"MailViews", "findHits", "(LMailViews$Session;LMailViews$Mailbox;)V"⟩, 6) := ⟨⟨by decide +kernel, by decide +kernel⟩, List.mem_of_getElem? (i := 9) (by decide +kernel), List.mem_of_getElem? (i := 396) (by decide +kernel), List.mem_of_getElem? (i := 397) (by decide +kernel)⟩
def lw_privs_1 : List (MethodName × Nat) := [(⟨"MailViews", "add", "(III)I"⟩, 6), (⟨"MailViews$Mailbox", "move", "(II)V"⟩, 6), (⟨"MailViews$Journal", "note", "(IIIII)V"⟩, 7), (⟨"MailViews$Session", "takeInNew", "(LMailViews$Mailbox;)V"⟩, 9), (⟨"MailViews", "hasMailbox", "(I)Z"⟩, 6), (⟨"MailViews", "removeDeleted", "(I)I"⟩, 6), (⟨"MailViews", "update", "(IZ)V"⟩, 6), (⟨"MailViews", "mailboxOf", "(I)LMailViews$Mailbox;"⟩, 6), (⟨"MailViews$Session", "dropGone", "(LMailViews$Mailbox;)V"⟩, 9), (⟨"MailViews$Session", "tell", "(II)V"⟩, 9), (⟨"MailViews$Session", "learnFlags", "(LMailViews$Mailbox;)V"⟩, 9), (⟨"MailViews", "isInView", "(II)Z"⟩, 6), (⟨"MailViews$Criterion", "measure", "(I)V"⟩, 7), (⟨"MailViews$Criterion", "endFrom", "(I)I"⟩, 7), (⟨"MailViews$Criterion", "depthFrom", "(I)I"⟩, 7), (⟨"MailViews", "findHits", "(LMailViews$Session;LMailViews$Mailbox;)V"⟩, 6)]
theorem lw_r1 : ∀ q ∈ lw_privs_1, lw_okq q := List.forall_mem_cons.mpr ⟨lw_p0, List.forall_mem_cons.mpr ⟨lw_p1, List.forall_mem_cons.mpr ⟨lw_p2, List.forall_mem_cons.mpr ⟨lw_p3, List.forall_mem_cons.mpr ⟨lw_p4, List.forall_mem_cons.mpr ⟨lw_p5, List.forall_mem_cons.mpr ⟨lw_p6, List.forall_mem_cons.mpr ⟨lw_p7, List.forall_mem_cons.mpr ⟨lw_p8, List.forall_mem_cons.mpr ⟨lw_p9, List.forall_mem_cons.mpr ⟨lw_p10, List.forall_mem_cons.mpr ⟨lw_p11, List.forall_mem_cons.mpr ⟨lw_p12, List.forall_mem_cons.mpr ⟨lw_p13, List.forall_mem_cons.mpr ⟨lw_p14, List.forall_mem_cons.mpr ⟨lw_p15, fun _ h => absurd h List.not_mem_nil⟩⟩⟩⟩⟩⟩⟩⟩⟩⟩⟩⟩⟩⟩⟩⟩
theorem lw_p16 : lw_okq (⟨"MailViews$Criterion", "leafHolds", "(ILMailViews$Mailbox;II)Z"⟩, 7) := ⟨⟨by decide +kernel, by decide +kernel⟩, List.mem_of_getElem? (i := 107) (by decide +kernel), List.mem_of_getElem? (i := 404) (by decide +kernel), List.mem_of_getElem? (i := 405) (by decide +kernel)⟩
theorem lw_p17 : lw_okq (⟨"MailViews$Criterion", "joinHolds", "(I)Z"⟩, 7) := ⟨⟨by decide +kernel, by decide +kernel⟩, List.mem_of_getElem? (i := 107) (by decide +kernel), List.mem_of_getElem? (i := 411) (by decide +kernel), List.mem_of_getElem? (i := 412) (by decide +kernel)⟩
theorem lw_p18 : lw_okq (⟨"MailViews$Criterion", "holdsFrom", "(I)Z"⟩, 7) := ⟨⟨by decide +kernel, by decide +kernel⟩, List.mem_of_getElem? (i := 107) (by decide +kernel), List.mem_of_getElem? (i := 415) (by decide +kernel), List.mem_of_getElem? (i := 416) (by decide +kernel)⟩
theorem lw_p19 : lw_okq (⟨"MailViews$Journal", "takeBack", "(ILMailViews$Mailbox;)V"⟩, 7) := ⟨⟨by decide +kernel, by decide +kernel⟩, List.mem_of_getElem? (i := 79) (by decide +kernel), List.mem_of_getElem? (i := 448) (by decide +kernel), List.mem_of_getElem? (i := 449) (by decide +kernel)⟩
theorem lw_p20 : lw_okq (⟨"MailViews", "sessionsWith", "(I)I"⟩, 6) := ⟨⟨by decide +kernel, by decide +kernel⟩, List.mem_of_getElem? (i := 9) (by decide +kernel), List.mem_of_getElem? (i := 496) (by decide +kernel), List.mem_of_getElem? (i := 497) (by decide +kernel)⟩
theorem lw_p21 : lw_okq (⟨"MailViewsModel", "add", "(III)I"⟩, 21) := ⟨⟨by decide +kernel, by decide +kernel⟩, List.mem_of_getElem? (i := 508) (by decide +kernel), List.mem_of_getElem? (i := 585) (by decide +kernel), List.mem_of_getElem? (i := 586) (by decide +kernel)⟩
theorem lw_p22 : lw_okq (⟨"MailViewsModel", "note", "(IIIII)V"⟩, 21) := ⟨⟨by decide +kernel, by decide +kernel⟩, List.mem_of_getElem? (i := 508) (by decide +kernel), List.mem_of_getElem? (i := 589) (by decide +kernel), List.mem_of_getElem? (i := 590) (by decide +kernel)⟩
theorem lw_p23 : lw_okq (⟨"MailViewsModel", "apply", "(I)V"⟩, 21) := ⟨⟨by decide +kernel, by decide +kernel⟩, List.mem_of_getElem? (i := 508) (by decide +kernel), List.mem_of_getElem? (i := 593) (by decide +kernel), List.mem_of_getElem? (i := 594) (by decide +kernel)⟩
theorem lw_p24 : lw_okq (⟨"MailViewsModel", "place", "(II)I"⟩, 21) := ⟨⟨by decide +kernel, by decide +kernel⟩, List.mem_of_getElem? (i := 508) (by decide +kernel), List.mem_of_getElem? (i := 597) (by decide +kernel), List.mem_of_getElem? (i := 598) (by decide +kernel)⟩
theorem lw_p25 : lw_okq (⟨"MailViewsModel", "gather", "(I)I"⟩, 21) := ⟨⟨by decide +kernel, by decide +kernel⟩, List.mem_of_getElem? (i := 508) (by decide +kernel), List.mem_of_getElem? (i := 605) (by decide +kernel), List.mem_of_getElem? (i := 606) (by decide +kernel)⟩
theorem lw_p26 : lw_okq (⟨"MailViewsModel", "none", "(I)Z"⟩, 21) := ⟨⟨by decide +kernel, by decide +kernel⟩, List.mem_of_getElem? (i := 508) (by decide +kernel), List.mem_of_getElem? (i := 613) (by decide +kernel), List.mem_of_getElem? (i := 614) (by decide +kernel)⟩
theorem lw_p27 : lw_okq (⟨"MailViewsModel", "purge", "(I)I"⟩, 21) := ⟨⟨by decide +kernel, by decide +kernel⟩, List.mem_of_getElem? (i := 508) (by decide +kernel), List.mem_of_getElem? (i := 617) (by decide +kernel), List.mem_of_getElem? (i := 618) (by decide +kernel)⟩
theorem lw_p28 : lw_okq (⟨"MailViewsModel", "update", "(IZ)V"⟩, 21) := ⟨⟨by decide +kernel, by decide +kernel⟩, List.mem_of_getElem? (i := 508) (by decide +kernel), List.mem_of_getElem? (i := 625) (by decide +kernel), List.mem_of_getElem? (i := 626) (by decide +kernel)⟩
theorem lw_p29 : lw_okq (⟨"MailViewsModel", "gone", "(II)Z"⟩, 21) := ⟨⟨by decide +kernel, by decide +kernel⟩, List.mem_of_getElem? (i := 508) (by decide +kernel), List.mem_of_getElem? (i := 629) (by decide +kernel), List.mem_of_getElem? (i := 630) (by decide +kernel)⟩
theorem lw_p30 : lw_okq (⟨"MailViewsModel", "uidOf", "(II)I"⟩, 21) := ⟨⟨by decide +kernel, by decide +kernel⟩, List.mem_of_getElem? (i := 508) (by decide +kernel), List.mem_of_getElem? (i := 633) (by decide +kernel), List.mem_of_getElem? (i := 634) (by decide +kernel)⟩
theorem lw_p31 : lw_okq (⟨"MailViewsModel", "leave", "(II)V"⟩, 21) := ⟨⟨by decide +kernel, by decide +kernel⟩, List.mem_of_getElem? (i := 508) (by decide +kernel), List.mem_of_getElem? (i := 637) (by decide +kernel), List.mem_of_getElem? (i := 638) (by decide +kernel)⟩
def lw_privs_2 : List (MethodName × Nat) := [(⟨"MailViews$Criterion", "leafHolds", "(ILMailViews$Mailbox;II)Z"⟩, 7), (⟨"MailViews$Criterion", "joinHolds", "(I)Z"⟩, 7), (⟨"MailViews$Criterion", "holdsFrom", "(I)Z"⟩, 7), (⟨"MailViews$Journal", "takeBack", "(ILMailViews$Mailbox;)V"⟩, 7), (⟨"MailViews", "sessionsWith", "(I)I"⟩, 6), (⟨"MailViewsModel", "add", "(III)I"⟩, 21), (⟨"MailViewsModel", "note", "(IIIII)V"⟩, 21), (⟨"MailViewsModel", "apply", "(I)V"⟩, 21), (⟨"MailViewsModel", "place", "(II)I"⟩, 21), (⟨"MailViewsModel", "gather", "(I)I"⟩, 21), (⟨"MailViewsModel", "none", "(I)Z"⟩, 21), (⟨"MailViewsModel", "purge", "(I)I"⟩, 21), (⟨"MailViewsModel", "update", "(IZ)V"⟩, 21), (⟨"MailViewsModel", "gone", "(II)Z"⟩, 21), (⟨"MailViewsModel", "uidOf", "(II)I"⟩, 21), (⟨"MailViewsModel", "leave", "(II)V"⟩, 21)]
theorem lw_r2 : ∀ q ∈ lw_privs_2, lw_okq q := List.forall_mem_cons.mpr ⟨lw_p16, List.forall_mem_cons.mpr ⟨lw_p17, List.forall_mem_cons.mpr ⟨lw_p18, List.forall_mem_cons.mpr ⟨lw_p19, List.forall_mem_cons.mpr ⟨lw_p20, List.forall_mem_cons.mpr ⟨lw_p21, List.forall_mem_cons.mpr ⟨lw_p22, List.forall_mem_cons.mpr ⟨lw_p23, List.forall_mem_cons.mpr ⟨lw_p24, List.forall_mem_cons.mpr ⟨lw_p25, List.forall_mem_cons.mpr ⟨lw_p26, List.forall_mem_cons.mpr ⟨lw_p27, List.forall_mem_cons.mpr ⟨lw_p28, List.forall_mem_cons.mpr ⟨lw_p29, List.forall_mem_cons.mpr ⟨lw_p30, List.forall_mem_cons.mpr ⟨lw_p31, fun _ h => absurd h List.not_mem_nil⟩⟩⟩⟩⟩⟩⟩⟩⟩⟩⟩⟩⟩⟩⟩⟩
theorem lw_p32 : lw_okq (⟨"MailViewsModel", "tell", "(III)V"⟩, 21) := ⟨⟨by decide +kernel, by decide +kernel⟩, List.mem_of_getElem? (i := 508) (by decide +kernel), List.mem_of_getElem? (i := 641) (by decide +kernel), List.mem_of_getElem? (i := 642) (by decide +kernel)⟩
theorem lw_p33 : lw_okq (⟨"MailViewsModel", "flagsOf", "(II)I"⟩, 21) := ⟨⟨by decide +kernel, by decide +kernel⟩, List.mem_of_getElem? (i := 508) (by decide +kernel), List.mem_of_getElem? (i := 645) (by decide +kernel), List.mem_of_getElem? (i := 646) (by decide +kernel)⟩
theorem lw_p34 : lw_okq (⟨"MailViewsModel", "bad", "(II)Z"⟩, 21) := ⟨⟨by decide +kernel, by decide +kernel⟩, List.mem_of_getElem? (i := 508) (by decide +kernel), List.mem_of_getElem? (i := 653) (by decide +kernel), List.mem_of_getElem? (i := 654) (by decide +kernel)⟩
theorem lw_p35 : lw_okq (⟨"MailViewsModel", "good", "()Z"⟩, 21) := ⟨⟨by decide +kernel, by decide +kernel⟩, List.mem_of_getElem? (i := 508) (by decide +kernel), List.mem_of_getElem? (i := 677) (by decide +kernel), List.mem_of_getElem? (i := 678) (by decide +kernel)⟩
theorem lw_p36 : lw_okq (⟨"MailViewsModel", "parts", "(I)I"⟩, 21) := ⟨⟨by decide +kernel, by decide +kernel⟩, List.mem_of_getElem? (i := 508) (by decide +kernel), List.mem_of_getElem? (i := 681) (by decide +kernel), List.mem_of_getElem? (i := 682) (by decide +kernel)⟩
theorem lw_p37 : lw_okq (⟨"MailViewsModel", "fulfils", "(II)Z"⟩, 21) := ⟨⟨by decide +kernel, by decide +kernel⟩, List.mem_of_getElem? (i := 508) (by decide +kernel), List.mem_of_getElem? (i := 685) (by decide +kernel), List.mem_of_getElem? (i := 686) (by decide +kernel)⟩
theorem lw_p38 : lw_okq (⟨"MailViewsModel", "leaf", "(III)Z"⟩, 21) := ⟨⟨by decide +kernel, by decide +kernel⟩, List.mem_of_getElem? (i := 508) (by decide +kernel), List.mem_of_getElem? (i := 689) (by decide +kernel), List.mem_of_getElem? (i := 690) (by decide +kernel)⟩
def lw_privs_3 : List (MethodName × Nat) := [(⟨"MailViewsModel", "tell", "(III)V"⟩, 21), (⟨"MailViewsModel", "flagsOf", "(II)I"⟩, 21), (⟨"MailViewsModel", "bad", "(II)Z"⟩, 21), (⟨"MailViewsModel", "good", "()Z"⟩, 21), (⟨"MailViewsModel", "parts", "(I)I"⟩, 21), (⟨"MailViewsModel", "fulfils", "(II)Z"⟩, 21), (⟨"MailViewsModel", "leaf", "(III)Z"⟩, 21)]
theorem lw_r3 : ∀ q ∈ lw_privs_3, lw_okq q := List.forall_mem_cons.mpr ⟨lw_p32, List.forall_mem_cons.mpr ⟨lw_p33, List.forall_mem_cons.mpr ⟨lw_p34, List.forall_mem_cons.mpr ⟨lw_p35, List.forall_mem_cons.mpr ⟨lw_p36, List.forall_mem_cons.mpr ⟨lw_p37, List.forall_mem_cons.mpr ⟨lw_p38, fun _ h => absurd h List.not_mem_nil⟩⟩⟩⟩⟩⟩⟩
def lw_privs : List (MethodName × Nat) := lw_privs_1 ++ (lw_privs_2 ++ (lw_privs_3))
def lw_tbl : List Cond := k2_sels lw_privs ++ tables_1
theorem lw_privs_ok : ∀ q ∈ lw_privs, lw_okq q := by
  show ∀ q ∈ lw_privs_1 ++ (lw_privs_2 ++ (lw_privs_3)), lw_okq q
  exact List.forall_mem_append.mpr ⟨lw_r1, List.forall_mem_append.mpr ⟨lw_r2, lw_r3⟩⟩
end
section
/-! THE ABSTRACT MACHINE: a small interpreter; cells have numbers for addresses, ints are Int. -/
abbrev am_V : Type := Int ⊕ Option Nat
abbrev am_C : Type := (Nat × List am_V) ⊕ ((Nat × Nat × (Nat → Int)) ⊕ (Nat × Nat × (Nat → Option Nat)))
abbrev am_M : Type := Nat × Nat × (Nat → Option am_C)
abbrev am_L : Type := List (Option am_V)
abbrev am_F : Type := Nat × am_L × List am_V × am_M
abbrev am_Y : Type := Option am_V × am_M
abbrev am_R : Type := Option (am_F ⊕ (am_Y ⊕ (Nat × List am_V × am_F)))
abbrev am_I : Type := am_F → am_R
abbrev am_P : Type := Nat → (Nat × (Nat → am_I))
abbrev am_ok (z : Int) : Prop := -2147483648 ≤ z ∧ z < 2147483648
def am_up (μ : Nat → Option am_C) (a : Nat) (c : am_C) : Nat → Option am_C := fun x => if x = a then some c else μ x
theorem am_up_s {μ : Nat → Option am_C} {a : Nat} {c : am_C} : am_up μ a c a = some c := by simp [am_up]
theorem am_up_n {μ : Nat → Option am_C} {a x : Nat} {c : am_C} (h : x ≠ a) : am_up μ a c x = μ x := by simp [am_up, h]
def am_fu {α : Type} (f : Nat → α) (k : Nat) (z : α) : Nat → α := fun j => if j = k then z else f j
theorem am_fu_s {α : Type} {f : Nat → α} {k : Nat} {z : α} : am_fu f k z k = z := by simp [am_fu]
theorem am_fu_n {α : Type} {f : Nat → α} {k j : Nat} {z : α} (h : j ≠ k) : am_fu f k z j = f j := by simp [am_fu, h]
def am_and (x y : Int) : Int := (Int32.ofInt x &&& Int32.ofInt y).toInt
def am_or (x y : Int) : Int := (Int32.ofInt x ||| Int32.ofInt y).toInt
def am_xor (x y : Int) : Int := (Int32.ofInt x ^^^ Int32.ofInt y).toInt
def am_fit (k : Nat) (v : am_V) : Bool := match k, v with
  | 0, .inl _ => true
  | 1, .inl z => decide (z = 0 ∨ z = 1)
  | 2, .inr _ => true
  | _, _ => false
def am_ts (lo : Int) (ts : List Nat) (d : Nat) (x : Int) : Nat := if lo ≤ x ∧ x < lo + ts.length then ts.getD (x - lo).toNat d else d
def am_lk : List (Int × Nat) → Nat → Int → Nat
  | [], d, _ => d
  | q :: l, d, x => if x = q.1 then q.2 else am_lk l d x
-- what an instruction does; n: the next place
def i_fail : am_I := fun _ => none
def i_const (z : Int) (n : Nat) : am_I := fun q => some (.inl (n, q.2.1, .inl z :: q.2.2.1, q.2.2.2))
def i_null (n : Nat) : am_I := fun q => some (.inl (n, q.2.1, .inr none :: q.2.2.1, q.2.2.2))
def i_iload (k n : Nat) : am_I := fun q => match q.2.1[k]? with
  | some (some (.inl z)) => some (.inl (n, q.2.1, .inl z :: q.2.2.1, q.2.2.2))
  | _ => none
def i_aload (k n : Nat) : am_I := fun q => match q.2.1[k]? with
  | some (some (.inr r)) => some (.inl (n, q.2.1, .inr r :: q.2.2.1, q.2.2.2))
  | _ => none
def i_istore (k n : Nat) : am_I := fun q => match q.2.2.1 with
  | .inl z :: st => if k < q.2.1.length then some (.inl (n, q.2.1.set k (some (.inl z)), st, q.2.2.2)) else none
  | _ => none
def i_astore (k n : Nat) : am_I := fun q => match q.2.2.1 with
  | .inr r :: st => if k < q.2.1.length then some (.inl (n, q.2.1.set k (some (.inr r)), st, q.2.2.2)) else none
  | _ => none
def i_iinc (k : Nat) (z : Int) (n : Nat) : am_I := fun q => match q.2.1[k]? with
  | some (some (.inl x)) => if am_ok (x + z) then some (.inl (n, q.2.1.set k (some (.inl (x + z))), q.2.2.1, q.2.2.2)) else none
  | _ => none
def i_pop (n : Nat) : am_I := fun q => match q.2.2.1 with
  | _ :: st => some (.inl (n, q.2.1, st, q.2.2.2))
  | _ => none
def i_dup (n : Nat) : am_I := fun q => match q.2.2.1 with
  | v :: st => some (.inl (n, q.2.1, v :: v :: st, q.2.2.2))
  | _ => none
def i_dup_x1 (n : Nat) : am_I := fun q => match q.2.2.1 with
  | v :: u :: st => some (.inl (n, q.2.1, v :: u :: v :: st, q.2.2.2))
  | _ => none
def i_dup_x2 (n : Nat) : am_I := fun q => match q.2.2.1 with
  | v :: u :: t :: st => some (.inl (n, q.2.1, v :: u :: t :: v :: st, q.2.2.2))
  | _ => none
def i_dup2 (n : Nat) : am_I := fun q => match q.2.2.1 with
  | v :: u :: st => some (.inl (n, q.2.1, v :: u :: v :: u :: st, q.2.2.2))
  | _ => none
def i_goto (n : Nat) : am_I := fun q => some (.inl (n, q.2.1, q.2.2.1, q.2.2.2))

def i_iadd (n : Nat) : am_I := fun q => match q.2.2.1 with
  | .inl y :: .inl x :: st => if am_ok (x + y) then some (.inl (n, q.2.1, .inl (x + y) :: st, q.2.2.2)) else none
  | _ => none
def i_isub (n : Nat) : am_I := fun q => match q.2.2.1 with
  | .inl y :: .inl x :: st => if am_ok (x - y) then some (.inl (n, q.2.1, .inl (x - y) :: st, q.2.2.2)) else none
  | _ => none
def i_imul (n : Nat) : am_I := fun q => match q.2.2.1 with
  | .inl y :: .inl x :: st => if am_ok (x * y) then some (.inl (n, q.2.1, .inl (x * y) :: st, q.2.2.2)) else none
  | _ => none
def i_iand (n : Nat) : am_I := fun q => match q.2.2.1 with
  | .inl y :: .inl x :: st => some (.inl (n, q.2.1, .inl (am_and x y) :: st, q.2.2.2))
  | _ => none
def i_ior (n : Nat) : am_I := fun q => match q.2.2.1 with
  | .inl y :: .inl x :: st => some (.inl (n, q.2.1, .inl (am_or x y) :: st, q.2.2.2))
  | _ => none
def i_ixor (n : Nat) : am_I := fun q => match q.2.2.1 with
  | .inl y :: .inl x :: st => some (.inl (n, q.2.1, .inl (am_xor x y) :: st, q.2.2.2))
  | _ => none
def i_icmp_eq (t n : Nat) : am_I := fun q => match q.2.2.1 with
  | .inl y :: .inl x :: st => if x = y then some (.inl (t, q.2.1, st, q.2.2.2)) else some (.inl (n, q.2.1, st, q.2.2.2))
  | _ => none
def i_if_eq (t n : Nat) : am_I := fun q => match q.2.2.1 with
  | .inl x :: st => if x = 0 then some (.inl (t, q.2.1, st, q.2.2.2)) else some (.inl (n, q.2.1, st, q.2.2.2))
  | _ => none
def i_icmp_ne (t n : Nat) : am_I := fun q => match q.2.2.1 with
  | .inl y :: .inl x :: st => if ¬ x = y then some (.inl (t, q.2.1, st, q.2.2.2)) else some (.inl (n, q.2.1, st, q.2.2.2))
  | _ => none
def i_if_ne (t n : Nat) : am_I := fun q => match q.2.2.1 with
  | .inl x :: st => if ¬ x = 0 then some (.inl (t, q.2.1, st, q.2.2.2)) else some (.inl (n, q.2.1, st, q.2.2.2))
  | _ => none
def i_icmp_lt (t n : Nat) : am_I := fun q => match q.2.2.1 with
  | .inl y :: .inl x :: st => if x < y then some (.inl (t, q.2.1, st, q.2.2.2)) else some (.inl (n, q.2.1, st, q.2.2.2))
  | _ => none
def i_if_lt (t n : Nat) : am_I := fun q => match q.2.2.1 with
  | .inl x :: st => if x < 0 then some (.inl (t, q.2.1, st, q.2.2.2)) else some (.inl (n, q.2.1, st, q.2.2.2))
  | _ => none
def i_icmp_ge (t n : Nat) : am_I := fun q => match q.2.2.1 with
  | .inl y :: .inl x :: st => if y ≤ x then some (.inl (t, q.2.1, st, q.2.2.2)) else some (.inl (n, q.2.1, st, q.2.2.2))
  | _ => none
def i_if_ge (t n : Nat) : am_I := fun q => match q.2.2.1 with
  | .inl x :: st => if 0 ≤ x then some (.inl (t, q.2.1, st, q.2.2.2)) else some (.inl (n, q.2.1, st, q.2.2.2))
  | _ => none
def i_icmp_gt (t n : Nat) : am_I := fun q => match q.2.2.1 with
  | .inl y :: .inl x :: st => if y < x then some (.inl (t, q.2.1, st, q.2.2.2)) else some (.inl (n, q.2.1, st, q.2.2.2))
  | _ => none
def i_if_gt (t n : Nat) : am_I := fun q => match q.2.2.1 with
  | .inl x :: st => if 0 < x then some (.inl (t, q.2.1, st, q.2.2.2)) else some (.inl (n, q.2.1, st, q.2.2.2))
  | _ => none
def i_icmp_le (t n : Nat) : am_I := fun q => match q.2.2.1 with
  | .inl y :: .inl x :: st => if x ≤ y then some (.inl (t, q.2.1, st, q.2.2.2)) else some (.inl (n, q.2.1, st, q.2.2.2))
  | _ => none
def i_if_le (t n : Nat) : am_I := fun q => match q.2.2.1 with
  | .inl x :: st => if x ≤ 0 then some (.inl (t, q.2.1, st, q.2.2.2)) else some (.inl (n, q.2.1, st, q.2.2.2))
  | _ => none
def i_ifnull (t n : Nat) : am_I := fun q => match q.2.2.1 with
  | .inr none :: st => some (.inl (t, q.2.1, st, q.2.2.2))
  | .inr (some _) :: st => some (.inl (n, q.2.1, st, q.2.2.2))
  | _ => none
def i_ifnonnull (t n : Nat) : am_I := fun q => match q.2.2.1 with
  | .inr none :: st => some (.inl (n, q.2.1, st, q.2.2.2))
  | .inr (some _) :: st => some (.inl (t, q.2.1, st, q.2.2.2))
  | _ => none
def i_tsw (lo : Int) (ts : List Nat) (d : Nat) : am_I := fun q => match q.2.2.1 with
  | .inl x :: st => some (.inl (am_ts lo ts d x, q.2.1, st, q.2.2.2))
  | _ => none
def i_lsw (ps : List (Int × Nat)) (d : Nat) : am_I := fun q => match q.2.2.1 with
  | .inl x :: st => some (.inl (am_lk ps d x, q.2.1, st, q.2.2.2))
  | _ => none
def i_get (ci k n : Nat) : am_I := fun q => match q.2.2.1 with
  | .inr (some a) :: st => match q.2.2.2.2.2 a with
    | some (.inl o) => if o.1 = ci then (match o.2[k]? with
      | some v => some (.inl (n, q.2.1, v :: st, q.2.2.2))
      | none => none) else none
    | _ => none
  | _ => none
def i_put (ci k b n : Nat) : am_I := fun q => match q.2.2.1 with
  | v :: .inr (some a) :: st => match q.2.2.2.2.2 a with
    | some (.inl o) => if o.1 = ci ∧ k < o.2.length ∧ am_fit b v = true then some (.inl (n, q.2.1, st, q.2.2.2.1, q.2.2.2.2.1, am_up q.2.2.2.2.2 a (.inl (ci, o.2.set k v)))) else none
    | _ => none
  | _ => none
def i_iald (t n : Nat) : am_I := fun q => match q.2.2.1 with
  | .inl i :: .inr (some a) :: st => match q.2.2.2.2.2 a with
    | some (.inr (.inl o)) => if o.1 = t ∧ 0 ≤ i ∧ i < o.2.1 then some (.inl (n, q.2.1, .inl (o.2.2 i.toNat) :: st, q.2.2.2)) else none
    | _ => none
  | _ => none
def i_iast (t b n : Nat) : am_I := fun q => match q.2.2.1 with
  | .inl z :: .inl i :: .inr (some a) :: st => match q.2.2.2.2.2 a with
    | some (.inr (.inl o)) => if o.1 = t ∧ (0 ≤ i ∧ i < o.2.1) ∧ am_fit b (.inl z) = true then some (.inl (n, q.2.1, st, q.2.2.2.1, q.2.2.2.2.1, am_up q.2.2.2.2.2 a (.inr (.inl (t, o.2.1, am_fu o.2.2 i.toNat z))))) else none
    | _ => none
  | _ => none
def i_aald (t n : Nat) : am_I := fun q => match q.2.2.1 with
  | .inl i :: .inr (some a) :: st => match q.2.2.2.2.2 a with
    | some (.inr (.inr o)) => if o.1 = t ∧ 0 ≤ i ∧ i < o.2.1 then some (.inl (n, q.2.1, .inr (o.2.2 i.toNat) :: st, q.2.2.2)) else none
    | _ => none
  | _ => none
def i_aast (t ci n : Nat) : am_I := fun q => match q.2.2.1 with
  | .inr (some v) :: .inl i :: .inr (some a) :: st => match q.2.2.2.2.2 a, q.2.2.2.2.2 v with
    | some (.inr (.inr o)), some (.inl u) => if o.1 = t ∧ (0 ≤ i ∧ i < o.2.1) ∧ u.1 = ci then some (.inl (n, q.2.1, st, q.2.2.2.1, q.2.2.2.2.1, am_up q.2.2.2.2.2 a (.inr (.inr (t, o.2.1, am_fu o.2.2 i.toNat (some v)))))) else none
    | _, _ => none
  | _ => none
def i_alen (t n : Nat) : am_I := fun q => match q.2.2.1 with
  | .inr (some a) :: st => match q.2.2.2.2.2 a with
    | some (.inr (.inl o)) => if o.1 = t ∧ o.2.1 < 2147483648 then some (.inl (n, q.2.1, .inl o.2.1 :: st, q.2.2.2)) else none
    | some (.inr (.inr o)) => if o.1 = t ∧ o.2.1 < 2147483648 then some (.inl (n, q.2.1, .inl o.2.1 :: st, q.2.2.2)) else none
    | _ => none
  | _ => none
def i_new (ci : Nat) (fs : List am_V) (n : Nat) : am_I := fun q => some (.inl (n, q.2.1, .inr (some q.2.2.2.1) :: q.2.2.1, q.2.2.2.1 + 1, q.2.2.2.2.1 + fs.length, am_up q.2.2.2.2.2 q.2.2.2.1 (.inl (ci, fs))))
def i_newa (t n : Nat) : am_I := fun q => match q.2.2.1 with
  | .inl i :: st => if 0 ≤ i ∧ i ≤ 100000 then some (.inl (n, q.2.1, .inr (some q.2.2.2.1) :: st, q.2.2.2.1 + 1, q.2.2.2.2.1 + i.toNat, am_up q.2.2.2.2.2 q.2.2.2.1 (.inr (.inl (t, i.toNat, fun _ => 0))))) else none
  | _ => none
def i_anewa (t n : Nat) : am_I := fun q => match q.2.2.1 with
  | .inl i :: st => if 0 ≤ i ∧ i ≤ 100000 then some (.inl (n, q.2.1, .inr (some q.2.2.2.1) :: st, q.2.2.2.1 + 1, q.2.2.2.2.1 + i.toNat, am_up q.2.2.2.2.2 q.2.2.2.1 (.inr (.inr (t, i.toNat, fun _ => none))))) else none
  | _ => none
def i_callS (j na n : Nat) : am_I := fun q => if na ≤ q.2.2.1.length ∧ q.2.2.1.length ≤ na + 8 then some (.inr (.inr (j, (q.2.2.1.take na).reverse, n, q.2.1, q.2.2.1.drop na, q.2.2.2))) else none
def i_callI (j na n : Nat) : am_I := fun q => if na + 1 ≤ q.2.2.1.length ∧ q.2.2.1.length ≤ na + 9 then (match q.2.2.1[na]? with
  | some (.inr (some _)) => some (.inr (.inr (j, (q.2.2.1.take (na + 1)).reverse, n, q.2.1, q.2.2.1.drop (na + 1), q.2.2.2)))
  | _ => none) else none
def i_callV (ci j na n : Nat) : am_I := fun q => if na + 1 ≤ q.2.2.1.length ∧ q.2.2.1.length ≤ na + 9 then (match q.2.2.1[na]? with
  | some (.inr (some a)) => match q.2.2.2.2.2 a with
    | some (.inl o) => if o.1 = ci then some (.inr (.inr (j, (q.2.2.1.take (na + 1)).reverse, n, q.2.1, q.2.2.1.drop (na + 1), q.2.2.2))) else none
    | _ => none
  | _ => none) else none
def i_iret : am_I := fun q => match q.2.2.1 with
  | [.inl z] => some (.inr (.inl (some (.inl z), q.2.2.2)))
  | _ => none
def i_zret : am_I := fun q => match q.2.2.1 with
  | [.inl z] => if z = 0 ∨ z = 1 then some (.inr (.inl (some (.inl z), q.2.2.2))) else none
  | _ => none
def i_aret : am_I := fun q => match q.2.2.1 with
  | [.inr r] => some (.inr (.inl (some (.inr r), q.2.2.2)))
  | _ => none
def i_vret : am_I := fun q => match q.2.2.1 with
  | [] => some (.inr (.inl (none, q.2.2.2)))
  | _ => none
/-- Math.max and Math.min as methods of one step -/
def i_max : am_I := fun q => match q.2.1 with
  | [some (.inl x), some (.inl y)] => some (.inr (.inl (some (.inl (if x < y then y else x)), q.2.2.2)))
  | _ => none
def i_min : am_I := fun q => match q.2.1 with
  | [some (.inl x), some (.inl y)] => some (.inr (.inl (some (.inl (if y < x then y else x)), q.2.2.2)))
  | _ => none
/-- the script: cell 0, of L ints xs, only read -/
def i_sld (L : Nat) (xs : Nat → Int) (n : Nat) : am_I := fun q => match q.2.2.1 with
  | .inl i :: .inr (some 0) :: st => if 0 ≤ i ∧ i < L then some (.inl (n, q.2.1, .inl (xs i.toNat) :: st, q.2.2.2)) else none
  | _ => none
def i_slen (L n : Nat) : am_I := fun q => match q.2.2.1 with
  | .inr (some 0) :: st => some (.inl (n, q.2.1, .inl L :: st, q.2.2.2))
  | _ => none
-- runs
abbrev am_K : Type := Nat → List am_V → am_M → Option am_Y
def am_nx (c : am_K) (g : am_F → Option am_Y) (x : am_R) : Option am_Y := match x with
  | none => none
  | some (.inl q) => g q
  | some (.inr (.inl y)) => some y
  | some (.inr (.inr w)) => match c w.1 w.2.1 w.2.2.2.2.2 with
    | none => none
    | some y => g (w.2.2.1, w.2.2.2.1, y.1.toList ++ w.2.2.2.2.1, y.2)
def am_run (c : am_K) (code : Nat → am_I) : Nat → am_F → Option am_Y
  | 0, _ => none
  | k + 1, q => am_nx c (am_run c code k) (code q.1 q)
def am_ent (nL : Nat) (as : List am_V) : am_L := as.map some ++ List.replicate (nL - as.length) none
def am_call (P : am_P) (k : Nat) : Nat → am_K
  | 0, _, _, _ => none
  | d + 1, j, as, M => if as.length ≤ (P j).1 then am_run (am_call P k d) (P j).2 k (0, am_ent (P j).1 as, [], M) else none
def am_Ex (P : am_P) (d : Nat) (code : Nat → am_I) (q : am_F) (Q : Option am_V → am_M → Prop) : Prop := ∃ (k : Nat) (y : am_Y), am_run (am_call P k d) code k q = some y ∧ Q y.1 y.2
def am_Wp (P : am_P) (d j : Nat) (as : List am_V) (M : am_M) (Q : Option am_V → am_M → Prop) : Prop := ∃ (k : Nat) (y : am_Y), am_call P k d j as M = some y ∧ Q y.1 y.2
theorem am_run_s (c : am_K) (code : Nat → am_I) (k : Nat) (q : am_F) : am_run c code (k + 1) q = am_nx c (am_run c code k) (code q.1 q) := rfl
theorem am_call_s (P : am_P) (k d j : Nat) (as : List am_V) (M : am_M) : am_call P k (d + 1) j as M = if as.length ≤ (P j).1 then am_run (am_call P k d) (P j).2 k (0, am_ent (P j).1 as, [], M) else none := rfl
theorem am_nx_c (c : am_K) (g : am_F → Option am_Y) (w : Nat × List am_V × am_F) {y : am_Y} (h : c w.1 w.2.1 w.2.2.2.2.2 = some y) : am_nx c g (some (.inr (.inr w))) = g (w.2.2.1, w.2.2.2.1, y.1.toList ++ w.2.2.2.2.1, y.2) := by
  simp only [am_nx, h]
theorem am_nx_m {c c' : am_K} {g g' : am_F → Option am_Y} (hc : ∀ j as M y, c j as M = some y → c' j as M = some y) (hg : ∀ q y, g q = some y → g' q = some y) (x : am_R) (y : am_Y) (h : am_nx c g x = some y) : am_nx c' g' x = some y := by
  rcases x with _ | q | r | w
  · exact h
  · exact hg q y h
  · exact h
  · cases hr : c w.1 w.2.1 w.2.2.2.2.2 with
    | none => simp only [am_nx, hr] at h; cases h
    | some z =>
      rw [am_nx_c c g w hr] at h
      rw [am_nx_c c' g' w (hc _ _ _ _ hr)]
      exact hg _ _ h
theorem am_run_m {c c' : am_K} {code : Nat → am_I} (hc : ∀ j as M y, c j as M = some y → c' j as M = some y) : ∀ (k k' : Nat), k ≤ k' → ∀ (q : am_F) (y : am_Y), am_run c code k q = some y → am_run c' code k' q = some y := by
  intro k
  induction k with
  | zero => intro k' _ q y h; cases h
  | succ k ih =>
    intro k' hk q y h
    obtain ⟨k2, rfl⟩ : ∃ n, k' = n + 1 := ⟨k' - 1, by omega⟩
    rw [am_run_s] at h ⊢
    exact am_nx_m hc (ih k2 (by omega)) _ y h
theorem am_call_m {P : am_P} : ∀ (d k k' : Nat), k ≤ k' → ∀ (j : Nat) (as : List am_V) (M : am_M) (y : am_Y), am_call P k d j as M = some y → am_call P k' d j as M = some y := by
  intro d
  induction d with
  | zero => intro k k' _ j as M y h; cases h
  | succ d ih =>
    intro k k' hk j as M y h
    rw [am_call_s] at h ⊢
    by_cases hn : as.length ≤ (P j).1
    · rw [if_pos hn] at h ⊢
      exact am_run_m (ih k k' hk) k k' hk _ y h
    · rw [if_neg hn] at h
      cases h
section AmRows
variable {P : am_P} {d pc n k t : Nat} {code : Nat → am_I} {ls : am_L} {st : List am_V} {M : am_M} {Q : Option am_V → am_M → Prop}
theorem x_step {q q' : am_F} (hc : code q.1 q = some (.inl q')) (h : am_Ex P d code q' Q) : am_Ex P d code q Q := by
  obtain ⟨k, y, h1, h2⟩ := h
  refine ⟨k + 1, y, ?_, h2⟩
  rw [am_run_s, hc]
  exact am_run_m (am_call_m d k (k + 1) (Nat.le_succ k)) k k (Nat.le_refl k) q' y h1
theorem x_done {q : am_F} {y : am_Y} (hc : code q.1 q = some (.inr (.inl y))) (h : Q y.1 y.2) : am_Ex P d code q Q := by
  refine ⟨1, y, ?_, h⟩
  rw [am_run_s, hc]
  rfl
theorem x_callw {q : am_F} {w : Nat × List am_V × am_F} (hc : code q.1 q = some (.inr (.inr w))) (h : am_Wp P d w.1 w.2.1 w.2.2.2.2.2 (fun r M' => am_Ex P d code (w.2.2.1, w.2.2.2.1, r.toList ++ w.2.2.2.2.1, M') Q)) : am_Ex P d code q Q := by
  obtain ⟨k1, y1, h1, k2, y, h2, h3⟩ := h
  refine ⟨k1 + k2 + 1, y, ?_, h3⟩
  rw [am_run_s, hc, am_nx_c _ _ w (am_call_m d k1 (k1 + k2 + 1) (by omega) _ _ _ _ h1)]
  exact am_run_m (am_call_m d k2 (k1 + k2 + 1) (by omega)) k2 (k1 + k2) (by omega) _ y h2
theorem am_wp {j nL : Nat} {as : List am_V} (hP : P j = (nL, code)) (hn : as.length ≤ nL) (h : am_Ex P d code (0, am_ent nL as, [], M) Q) : am_Wp P (d + 1) j as M Q := by
  obtain ⟨k, y, h1, h2⟩ := h
  refine ⟨k, y, ?_, h2⟩
  rw [am_call_s, hP, if_pos hn]
  exact h1
theorem am_wi {j : Nat} {as : List am_V} {Q' : Option am_V → am_M → Prop} (h : am_Wp P d j as M Q) (hQ : ∀ r M', Q r M' → Q' r M') : am_Wp P d j as M Q' := by
  obtain ⟨k, y, h1, h2⟩ := h
  exact ⟨k, y, h1, hQ _ _ h2⟩
theorem am_xi {q : am_F} {Q' : Option am_V → am_M → Prop} (h : am_Ex P d code q Q) (hQ : ∀ r M', Q r M' → Q' r M') : am_Ex P d code q Q' := by
  obtain ⟨k, y, h1, h2⟩ := h
  exact ⟨k, y, h1, hQ _ _ h2⟩

theorem x_const {z : Int} (hc : code pc = i_const z n)  (h : am_Ex P d code (n, ls, .inl z :: st, M) Q) : am_Ex P d code (pc, ls, st, M) Q :=
  x_step (by show code pc _ = _; rw [hc]; simp [i_const]) h
theorem x_null  (hc : code pc = i_null n)  (h : am_Ex P d code (n, ls, .inr none :: st, M) Q) : am_Ex P d code (pc, ls, st, M) Q :=
  x_step (by show code pc _ = _; rw [hc]; simp [i_null]) h
theorem x_iload {z : Int} (hc : code pc = i_iload k n) (hl : ls[k]? = some (some (.inl z))) (h : am_Ex P d code (n, ls, .inl z :: st, M) Q) : am_Ex P d code (pc, ls, st, M) Q :=
  x_step (by show code pc _ = _; rw [hc]; simp [i_iload, hl]) h
theorem x_aload {r : Option Nat} (hc : code pc = i_aload k n) (hl : ls[k]? = some (some (.inr r))) (h : am_Ex P d code (n, ls, .inr r :: st, M) Q) : am_Ex P d code (pc, ls, st, M) Q :=
  x_step (by show code pc _ = _; rw [hc]; simp [i_aload, hl]) h
theorem x_istore {z : Int} (hc : code pc = i_istore k n) (hl : k < ls.length) (h : am_Ex P d code (n, ls.set k (some (.inl z)), st, M) Q) : am_Ex P d code (pc, ls, .inl z :: st, M) Q :=
  x_step (by show code pc _ = _; rw [hc]; simp [i_istore, hl]) h
theorem x_astore {r : Option Nat} (hc : code pc = i_astore k n) (hl : k < ls.length) (h : am_Ex P d code (n, ls.set k (some (.inr r)), st, M) Q) : am_Ex P d code (pc, ls, .inr r :: st, M) Q :=
  x_step (by show code pc _ = _; rw [hc]; simp [i_astore, hl]) h
theorem x_iinc {z x : Int} (hc : code pc = i_iinc k z n) (hl : ls[k]? = some (some (.inl x))) (hz : am_ok (x + z)) (h : am_Ex P d code (n, ls.set k (some (.inl (x + z))), st, M) Q) : am_Ex P d code (pc, ls, st, M) Q :=
  x_step (by show code pc _ = _; rw [hc]; simp [i_iinc, hl, hz]) h
theorem x_pop {v : am_V} (hc : code pc = i_pop n)  (h : am_Ex P d code (n, ls, st, M) Q) : am_Ex P d code (pc, ls, v :: st, M) Q :=
  x_step (by show code pc _ = _; rw [hc]; simp [i_pop]) h
theorem x_dup {v : am_V} (hc : code pc = i_dup n)  (h : am_Ex P d code (n, ls, v :: v :: st, M) Q) : am_Ex P d code (pc, ls, v :: st, M) Q :=
  x_step (by show code pc _ = _; rw [hc]; simp [i_dup]) h
theorem x_dup_x1 {v u : am_V} (hc : code pc = i_dup_x1 n)  (h : am_Ex P d code (n, ls, v :: u :: v :: st, M) Q) : am_Ex P d code (pc, ls, v :: u :: st, M) Q :=
  x_step (by show code pc _ = _; rw [hc]; simp [i_dup_x1]) h
theorem x_dup_x2 {v u s : am_V} (hc : code pc = i_dup_x2 n)  (h : am_Ex P d code (n, ls, v :: u :: s :: v :: st, M) Q) : am_Ex P d code (pc, ls, v :: u :: s :: st, M) Q :=
  x_step (by show code pc _ = _; rw [hc]; simp [i_dup_x2]) h
theorem x_dup2 {v u : am_V} (hc : code pc = i_dup2 n)  (h : am_Ex P d code (n, ls, v :: u :: v :: u :: st, M) Q) : am_Ex P d code (pc, ls, v :: u :: st, M) Q :=
  x_step (by show code pc _ = _; rw [hc]; simp [i_dup2]) h
theorem x_goto  (hc : code pc = i_goto n)  (h : am_Ex P d code (n, ls, st, M) Q) : am_Ex P d code (pc, ls, st, M) Q :=
  x_step (by show code pc _ = _; rw [hc]; simp [i_goto]) h
theorem x_iadd {x y : Int} (hc : code pc = i_iadd n) (hz : am_ok (x + y)) (h : am_Ex P d code (n, ls, .inl (x + y) :: st, M) Q) : am_Ex P d code (pc, ls, .inl y :: .inl x :: st, M) Q :=
  x_step (by show code pc _ = _; rw [hc]; simp [i_iadd, hz]) h
theorem x_isub {x y : Int} (hc : code pc = i_isub n) (hz : am_ok (x - y)) (h : am_Ex P d code (n, ls, .inl (x - y) :: st, M) Q) : am_Ex P d code (pc, ls, .inl y :: .inl x :: st, M) Q :=
  x_step (by show code pc _ = _; rw [hc]; simp [i_isub, hz]) h
theorem x_imul {x y : Int} (hc : code pc = i_imul n) (hz : am_ok (x * y)) (h : am_Ex P d code (n, ls, .inl (x * y) :: st, M) Q) : am_Ex P d code (pc, ls, .inl y :: .inl x :: st, M) Q :=
  x_step (by show code pc _ = _; rw [hc]; simp [i_imul, hz]) h
theorem x_iand {x y : Int} (hc : code pc = i_iand n)  (h : am_Ex P d code (n, ls, .inl (am_and x y) :: st, M) Q) : am_Ex P d code (pc, ls, .inl y :: .inl x :: st, M) Q :=
  x_step (by show code pc _ = _; rw [hc]; simp [i_iand]) h
theorem x_ior {x y : Int} (hc : code pc = i_ior n)  (h : am_Ex P d code (n, ls, .inl (am_or x y) :: st, M) Q) : am_Ex P d code (pc, ls, .inl y :: .inl x :: st, M) Q :=
  x_step (by show code pc _ = _; rw [hc]; simp [i_ior]) h
theorem x_ixor {x y : Int} (hc : code pc = i_ixor n)  (h : am_Ex P d code (n, ls, .inl (am_xor x y) :: st, M) Q) : am_Ex P d code (pc, ls, .inl y :: .inl x :: st, M) Q :=
  x_step (by show code pc _ = _; rw [hc]; simp [i_ixor]) h
theorem x_icmp_eq {x y : Int} (hc : code pc = i_icmp_eq t n) (h1 : x = y → am_Ex P d code (t, ls, st, M) Q) (h2 : ¬ (x = y) → am_Ex P d code (n, ls, st, M) Q) : am_Ex P d code (pc, ls, .inl y :: .inl x :: st, M) Q := by
  by_cases hx : x = y
  · refine x_step (q' := (t, ls, st, M)) ?_ (h1 hx)
    show code pc _ = _
    rw [hc]
    simp only [i_icmp_eq]
    rw [if_pos hx]
  · refine x_step (q' := (n, ls, st, M)) ?_ (h2 hx)
    show code pc _ = _
    rw [hc]
    simp only [i_icmp_eq]
    rw [if_neg hx]
theorem x_if_eq {x : Int} (hc : code pc = i_if_eq t n) (h1 : x = 0 → am_Ex P d code (t, ls, st, M) Q) (h2 : ¬ (x = 0) → am_Ex P d code (n, ls, st, M) Q) : am_Ex P d code (pc, ls, .inl x :: st, M) Q := by
  by_cases hx : x = 0
  · refine x_step (q' := (t, ls, st, M)) ?_ (h1 hx)
    show code pc _ = _
    rw [hc]
    simp only [i_if_eq]
    rw [if_pos hx]
  · refine x_step (q' := (n, ls, st, M)) ?_ (h2 hx)
    show code pc _ = _
    rw [hc]
    simp only [i_if_eq]
    rw [if_neg hx]
theorem x_icmp_ne {x y : Int} (hc : code pc = i_icmp_ne t n) (h1 : ¬ x = y → am_Ex P d code (t, ls, st, M) Q) (h2 : ¬ (¬ x = y) → am_Ex P d code (n, ls, st, M) Q) : am_Ex P d code (pc, ls, .inl y :: .inl x :: st, M) Q := by
  by_cases hx : ¬ x = y
  · refine x_step (q' := (t, ls, st, M)) ?_ (h1 hx)
    show code pc _ = _
    rw [hc]
    simp only [i_icmp_ne]
    rw [if_pos hx]
  · refine x_step (q' := (n, ls, st, M)) ?_ (h2 hx)
    show code pc _ = _
    rw [hc]
    simp only [i_icmp_ne]
    rw [if_neg hx]
theorem x_if_ne {x : Int} (hc : code pc = i_if_ne t n) (h1 : ¬ x = 0 → am_Ex P d code (t, ls, st, M) Q) (h2 : ¬ (¬ x = 0) → am_Ex P d code (n, ls, st, M) Q) : am_Ex P d code (pc, ls, .inl x :: st, M) Q := by
  by_cases hx : ¬ x = 0
  · refine x_step (q' := (t, ls, st, M)) ?_ (h1 hx)
    show code pc _ = _
    rw [hc]
    simp only [i_if_ne]
    rw [if_pos hx]
  · refine x_step (q' := (n, ls, st, M)) ?_ (h2 hx)
    show code pc _ = _
    rw [hc]
    simp only [i_if_ne]
    rw [if_neg hx]
theorem x_icmp_lt {x y : Int} (hc : code pc = i_icmp_lt t n) (h1 : x < y → am_Ex P d code (t, ls, st, M) Q) (h2 : ¬ (x < y) → am_Ex P d code (n, ls, st, M) Q) : am_Ex P d code (pc, ls, .inl y :: .inl x :: st, M) Q := by
  by_cases hx : x < y
  · refine x_step (q' := (t, ls, st, M)) ?_ (h1 hx)
    show code pc _ = _
    rw [hc]
    simp only [i_icmp_lt]
    rw [if_pos hx]
  · refine x_step (q' := (n, ls, st, M)) ?_ (h2 hx)
    show code pc _ = _
    rw [hc]
    simp only [i_icmp_lt]
    rw [if_neg hx]
theorem x_if_lt {x : Int} (hc : code pc = i_if_lt t n) (h1 : x < 0 → am_Ex P d code (t, ls, st, M) Q) (h2 : ¬ (x < 0) → am_Ex P d code (n, ls, st, M) Q) : am_Ex P d code (pc, ls, .inl x :: st, M) Q := by
  by_cases hx : x < 0
  · refine x_step (q' := (t, ls, st, M)) ?_ (h1 hx)
    show code pc _ = _
    rw [hc]
    simp only [i_if_lt]
    rw [if_pos hx]
  · refine x_step (q' := (n, ls, st, M)) ?_ (h2 hx)
    show code pc _ = _
    rw [hc]
    simp only [i_if_lt]
    rw [if_neg hx]
theorem x_icmp_ge {x y : Int} (hc : code pc = i_icmp_ge t n) (h1 : y ≤ x → am_Ex P d code (t, ls, st, M) Q) (h2 : ¬ (y ≤ x) → am_Ex P d code (n, ls, st, M) Q) : am_Ex P d code (pc, ls, .inl y :: .inl x :: st, M) Q := by
  by_cases hx : y ≤ x
  · refine x_step (q' := (t, ls, st, M)) ?_ (h1 hx)
    show code pc _ = _
    rw [hc]
    simp only [i_icmp_ge]
    rw [if_pos hx]
  · refine x_step (q' := (n, ls, st, M)) ?_ (h2 hx)
    show code pc _ = _
    rw [hc]
    simp only [i_icmp_ge]
    rw [if_neg hx]
theorem x_if_ge {x : Int} (hc : code pc = i_if_ge t n) (h1 : 0 ≤ x → am_Ex P d code (t, ls, st, M) Q) (h2 : ¬ (0 ≤ x) → am_Ex P d code (n, ls, st, M) Q) : am_Ex P d code (pc, ls, .inl x :: st, M) Q := by
  by_cases hx : 0 ≤ x
  · refine x_step (q' := (t, ls, st, M)) ?_ (h1 hx)
    show code pc _ = _
    rw [hc]
    simp only [i_if_ge]
    rw [if_pos hx]
  · refine x_step (q' := (n, ls, st, M)) ?_ (h2 hx)
    show code pc _ = _
    rw [hc]
    simp only [i_if_ge]
    rw [if_neg hx]
theorem x_icmp_gt {x y : Int} (hc : code pc = i_icmp_gt t n) (h1 : y < x → am_Ex P d code (t, ls, st, M) Q) (h2 : ¬ (y < x) → am_Ex P d code (n, ls, st, M) Q) : am_Ex P d code (pc, ls, .inl y :: .inl x :: st, M) Q := by
  by_cases hx : y < x
  · refine x_step (q' := (t, ls, st, M)) ?_ (h1 hx)
    show code pc _ = _
    rw [hc]
    simp only [i_icmp_gt]
    rw [if_pos hx]
  · refine x_step (q' := (n, ls, st, M)) ?_ (h2 hx)
    show code pc _ = _
    rw [hc]
    simp only [i_icmp_gt]
    rw [if_neg hx]
theorem x_if_gt {x : Int} (hc : code pc = i_if_gt t n) (h1 : 0 < x → am_Ex P d code (t, ls, st, M) Q) (h2 : ¬ (0 < x) → am_Ex P d code (n, ls, st, M) Q) : am_Ex P d code (pc, ls, .inl x :: st, M) Q := by
  by_cases hx : 0 < x
  · refine x_step (q' := (t, ls, st, M)) ?_ (h1 hx)
    show code pc _ = _
    rw [hc]
    simp only [i_if_gt]
    rw [if_pos hx]
  · refine x_step (q' := (n, ls, st, M)) ?_ (h2 hx)
    show code pc _ = _
    rw [hc]
    simp only [i_if_gt]
    rw [if_neg hx]
theorem x_icmp_le {x y : Int} (hc : code pc = i_icmp_le t n) (h1 : x ≤ y → am_Ex P d code (t, ls, st, M) Q) (h2 : ¬ (x ≤ y) → am_Ex P d code (n, ls, st, M) Q) : am_Ex P d code (pc, ls, .inl y :: .inl x :: st, M) Q := by
  by_cases hx : x ≤ y
  · refine x_step (q' := (t, ls, st, M)) ?_ (h1 hx)
    show code pc _ = _
    rw [hc]
    simp only [i_icmp_le]
    rw [if_pos hx]
  · refine x_step (q' := (n, ls, st, M)) ?_ (h2 hx)
    show code pc _ = _
    rw [hc]
    simp only [i_icmp_le]
    rw [if_neg hx]
theorem x_if_le {x : Int} (hc : code pc = i_if_le t n) (h1 : x ≤ 0 → am_Ex P d code (t, ls, st, M) Q) (h2 : ¬ (x ≤ 0) → am_Ex P d code (n, ls, st, M) Q) : am_Ex P d code (pc, ls, .inl x :: st, M) Q := by
  by_cases hx : x ≤ 0
  · refine x_step (q' := (t, ls, st, M)) ?_ (h1 hx)
    show code pc _ = _
    rw [hc]
    simp only [i_if_le]
    rw [if_pos hx]
  · refine x_step (q' := (n, ls, st, M)) ?_ (h2 hx)
    show code pc _ = _
    rw [hc]
    simp only [i_if_le]
    rw [if_neg hx]
theorem x_ifnull {r : Option Nat} (hc : code pc = i_ifnull t n) (h1 : r = none → am_Ex P d code (t, ls, st, M) Q) (h2 : ∀ a, r = some a → am_Ex P d code (n, ls, st, M) Q) : am_Ex P d code (pc, ls, .inr r :: st, M) Q := by
  cases r with
  | none => exact x_step (q' := (t, ls, st, M)) (by show code pc _ = _; rw [hc]; rfl) (h1 rfl)
  | some a => exact x_step (q' := (n, ls, st, M)) (by show code pc _ = _; rw [hc]; rfl) (h2 a rfl)
theorem x_ifnonnull {r : Option Nat} (hc : code pc = i_ifnonnull t n) (h1 : ∀ a, r = some a → am_Ex P d code (t, ls, st, M) Q) (h2 : r = none → am_Ex P d code (n, ls, st, M) Q) : am_Ex P d code (pc, ls, .inr r :: st, M) Q := by
  cases r with
  | none => exact x_step (q' := (n, ls, st, M)) (by show code pc _ = _; rw [hc]; rfl) (h2 rfl)
  | some a => exact x_step (q' := (t, ls, st, M)) (by show code pc _ = _; rw [hc]; rfl) (h1 a rfl)
theorem x_tsw {lo x : Int} {ts : List Nat} {t0 : Nat} (hc : code pc = i_tsw lo ts t0) (h : am_Ex P d code (am_ts lo ts t0 x, ls, st, M) Q) : am_Ex P d code (pc, ls, .inl x :: st, M) Q :=
  x_step (by show code pc _ = _; rw [hc]; rfl) h
theorem x_lsw {x : Int} {ps : List (Int × Nat)} {t0 : Nat} (hc : code pc = i_lsw ps t0) (h : am_Ex P d code (am_lk ps t0 x, ls, st, M) Q) : am_Ex P d code (pc, ls, .inl x :: st, M) Q :=
  x_step (by show code pc _ = _; rw [hc]; rfl) h
variable {nn ss a ci b : Nat} {μ : Nat → Option am_C}
theorem x_get {fs : List am_V} {v : am_V} (hc : code pc = i_get ci k n) (hm : μ a = some (.inl (ci, fs))) (hv : fs[k]? = some v) (h : am_Ex P d code (n, ls, v :: st, nn, ss, μ) Q) : am_Ex P d code (pc, ls, .inr (some a) :: st, nn, ss, μ) Q :=
  x_step (by show code pc _ = _; rw [hc]; simp [i_get, hm, hv]) h
theorem x_put {fs : List am_V} {v : am_V} (hc : code pc = i_put ci k b n) (hm : μ a = some (.inl (ci, fs))) (hk : k < fs.length) (hv : am_fit b v = true) (h : am_Ex P d code (n, ls, st, nn, ss, am_up μ a (.inl (ci, fs.set k v))) Q) : am_Ex P d code (pc, ls, v :: .inr (some a) :: st, nn, ss, μ) Q :=
  x_step (by show code pc _ = _; rw [hc]; simp [i_put, hm, hk, hv]) h
theorem x_iald {i : Int} {N : Nat} {f : Nat → Int} (hc : code pc = i_iald t n) (hm : μ a = some (.inr (.inl (t, N, f)))) (h0 : 0 ≤ i) (h1 : i < N) (h : am_Ex P d code (n, ls, .inl (f i.toNat) :: st, nn, ss, μ) Q) : am_Ex P d code (pc, ls, .inl i :: .inr (some a) :: st, nn, ss, μ) Q :=
  x_step (by show code pc _ = _; rw [hc]; simp [i_iald, hm, h0, h1]) h
theorem x_iast {i z : Int} {N : Nat} {f : Nat → Int} (hc : code pc = i_iast t b n) (hm : μ a = some (.inr (.inl (t, N, f)))) (h0 : 0 ≤ i) (h1 : i < N) (hv : am_fit b (.inl z) = true) (h : am_Ex P d code (n, ls, st, nn, ss, am_up μ a (.inr (.inl (t, N, am_fu f i.toNat z)))) Q) : am_Ex P d code (pc, ls, .inl z :: .inl i :: .inr (some a) :: st, nn, ss, μ) Q :=
  x_step (by show code pc _ = _; rw [hc]; simp [i_iast, hm, h0, h1, hv]) h
theorem x_aald {i : Int} {N : Nat} {f : Nat → Option Nat} (hc : code pc = i_aald t n) (hm : μ a = some (.inr (.inr (t, N, f)))) (h0 : 0 ≤ i) (h1 : i < N) (h : am_Ex P d code (n, ls, .inr (f i.toNat) :: st, nn, ss, μ) Q) : am_Ex P d code (pc, ls, .inl i :: .inr (some a) :: st, nn, ss, μ) Q :=
  x_step (by show code pc _ = _; rw [hc]; simp [i_aald, hm, h0, h1]) h
theorem x_aast {i : Int} {N v : Nat} {f : Nat → Option Nat} {fs : List am_V} (hc : code pc = i_aast t ci n) (hm : μ a = some (.inr (.inr (t, N, f)))) (hm2 : μ v = some (.inl (ci, fs))) (h0 : 0 ≤ i) (h1 : i < N) (h : am_Ex P d code (n, ls, st, nn, ss, am_up μ a (.inr (.inr (t, N, am_fu f i.toNat (some v))))) Q) : am_Ex P d code (pc, ls, .inr (some v) :: .inl i :: .inr (some a) :: st, nn, ss, μ) Q :=
  x_step (by show code pc _ = _; rw [hc]; simp [i_aast, hm, hm2, h0, h1]) h
theorem x_alen {N : Nat} {f : Nat → Int} (hc : code pc = i_alen t n) (hm : μ a = some (.inr (.inl (t, N, f)))) (h0 : N < 2147483648) (h : am_Ex P d code (n, ls, .inl N :: st, nn, ss, μ) Q) : am_Ex P d code (pc, ls, .inr (some a) :: st, nn, ss, μ) Q :=
  x_step (by show code pc _ = _; rw [hc]; simp [i_alen, hm, h0]) h
theorem x_alenR {N : Nat} {f : Nat → Option Nat} (hc : code pc = i_alen t n) (hm : μ a = some (.inr (.inr (t, N, f)))) (h0 : N < 2147483648) (h : am_Ex P d code (n, ls, .inl N :: st, nn, ss, μ) Q) : am_Ex P d code (pc, ls, .inr (some a) :: st, nn, ss, μ) Q :=
  x_step (by show code pc _ = _; rw [hc]; simp [i_alen, hm, h0]) h
theorem x_new {fs : List am_V} (hc : code pc = i_new ci fs n) (h : am_Ex P d code (n, ls, .inr (some nn) :: st, nn + 1, ss + fs.length, am_up μ nn (.inl (ci, fs))) Q) : am_Ex P d code (pc, ls, st, nn, ss, μ) Q :=
  x_step (by show code pc _ = _; rw [hc]; rfl) h
theorem x_newa {i : Int} (hc : code pc = i_newa t n) (h0 : 0 ≤ i) (h1 : i ≤ 100000) (h : am_Ex P d code (n, ls, .inr (some nn) :: st, nn + 1, ss + i.toNat, am_up μ nn (.inr (.inl (t, i.toNat, fun _ => 0)))) Q) : am_Ex P d code (pc, ls, .inl i :: st, nn, ss, μ) Q :=
  x_step (by show code pc _ = _; rw [hc]; simp [i_newa, h0, h1]) h
theorem x_anewa {i : Int} (hc : code pc = i_anewa t n) (h0 : 0 ≤ i) (h1 : i ≤ 100000) (h : am_Ex P d code (n, ls, .inr (some nn) :: st, nn + 1, ss + i.toNat, am_up μ nn (.inr (.inr (t, i.toNat, fun _ => none)))) Q) : am_Ex P d code (pc, ls, .inl i :: st, nn, ss, μ) Q :=
  x_step (by show code pc _ = _; rw [hc]; simp [i_anewa, h0, h1]) h
theorem x_iret {z : Int} (hc : code pc = i_iret) (h : Q (some (.inl z)) M) : am_Ex P d code (pc, ls, [.inl z], M) Q :=
  x_done (y := (some (.inl z), M)) (by show code pc _ = _; rw [hc]; rfl) h
theorem x_zret {z : Int} (hc : code pc = i_zret) (hz : z = 0 ∨ z = 1) (h : Q (some (.inl z)) M) : am_Ex P d code (pc, ls, [.inl z], M) Q :=
  x_done (y := (some (.inl z), M)) (by show code pc _ = _; rw [hc]; simp only [i_zret]; rw [if_pos hz]) h
theorem x_aret {r : Option Nat} (hc : code pc = i_aret) (h : Q (some (.inr r)) M) : am_Ex P d code (pc, ls, [.inr r], M) Q :=
  x_done (y := (some (.inr r), M)) (by show code pc _ = _; rw [hc]; rfl) h
theorem x_vret (hc : code pc = i_vret) (h : Q none M) : am_Ex P d code (pc, ls, [], M) Q :=
  x_done (y := (none, M)) (by show code pc _ = _; rw [hc]; rfl) h
theorem x_max {x y : Int} (hc : code pc = i_max) (h : Q (some (.inl (if x < y then y else x))) M) : am_Ex P d code (pc, [some (.inl x), some (.inl y)], st, M) Q :=
  x_done (y := (some (.inl (if x < y then y else x)), M)) (by show code pc _ = _; rw [hc]; rfl) h
theorem x_min {x y : Int} (hc : code pc = i_min) (h : Q (some (.inl (if y < x then y else x))) M) : am_Ex P d code (pc, [some (.inl x), some (.inl y)], st, M) Q :=
  x_done (y := (some (.inl (if y < x then y else x)), M)) (by show code pc _ = _; rw [hc]; rfl) h
theorem x_sld {i : Int} {L : Nat} {xs : Nat → Int} (hc : code pc = i_sld L xs n) (h0 : 0 ≤ i) (h1 : i < L) (h : am_Ex P d code (n, ls, .inl (xs i.toNat) :: st, M) Q) : am_Ex P d code (pc, ls, .inl i :: .inr (some 0) :: st, M) Q :=
  x_step (by show code pc _ = _; rw [hc]; simp [i_sld, h0, h1]) h
theorem x_slen {L : Nat} (hc : code pc = i_slen L n) (h : am_Ex P d code (n, ls, .inl L :: st, M) Q) : am_Ex P d code (pc, ls, .inr (some 0) :: st, M) Q :=
  x_step (by show code pc _ = _; rw [hc]; rfl) h
variable {j : Nat}
theorem x_callS0 (hc : code pc = i_callS j 0 n) (h8 : st.length ≤ 8) (h : am_Wp P d j [] M (fun r M' => am_Ex P d code (n, ls, r.toList ++ st, M') Q)) : am_Ex P d code (pc, ls, st, M) Q :=
  x_callw (w := (j, [], n, ls, st, M)) (by show code pc _ = _; rw [hc]; unfold i_callS; rw [if_pos ⟨by first | (simp; done) | (simp; omega), by first | (simp; done) | (simp; omega)⟩]; simp) h
theorem x_callS1 {v1 : am_V} (hc : code pc = i_callS j 1 n) (h8 : st.length ≤ 8) (h : am_Wp P d j [v1] M (fun r M' => am_Ex P d code (n, ls, r.toList ++ st, M') Q)) : am_Ex P d code (pc, ls, v1 :: st, M) Q :=
  x_callw (w := (j, [v1], n, ls, st, M)) (by show code pc _ = _; rw [hc]; unfold i_callS; rw [if_pos ⟨by first | (simp; done) | (simp; omega), by first | (simp; done) | (simp; omega)⟩]; simp) h
theorem x_callS2 {v1 v2 : am_V} (hc : code pc = i_callS j 2 n) (h8 : st.length ≤ 8) (h : am_Wp P d j [v1, v2] M (fun r M' => am_Ex P d code (n, ls, r.toList ++ st, M') Q)) : am_Ex P d code (pc, ls, v2 :: v1 :: st, M) Q :=
  x_callw (w := (j, [v1, v2], n, ls, st, M)) (by show code pc _ = _; rw [hc]; unfold i_callS; rw [if_pos ⟨by first | (simp; done) | (simp; omega), by first | (simp; done) | (simp; omega)⟩]; simp) h
theorem x_callS3 {v1 v2 v3 : am_V} (hc : code pc = i_callS j 3 n) (h8 : st.length ≤ 8) (h : am_Wp P d j [v1, v2, v3] M (fun r M' => am_Ex P d code (n, ls, r.toList ++ st, M') Q)) : am_Ex P d code (pc, ls, v3 :: v2 :: v1 :: st, M) Q :=
  x_callw (w := (j, [v1, v2, v3], n, ls, st, M)) (by show code pc _ = _; rw [hc]; unfold i_callS; rw [if_pos ⟨by first | (simp; done) | (simp; omega), by first | (simp; done) | (simp; omega)⟩]; simp) h
theorem x_callS4 {v1 v2 v3 v4 : am_V} (hc : code pc = i_callS j 4 n) (h8 : st.length ≤ 8) (h : am_Wp P d j [v1, v2, v3, v4] M (fun r M' => am_Ex P d code (n, ls, r.toList ++ st, M') Q)) : am_Ex P d code (pc, ls, v4 :: v3 :: v2 :: v1 :: st, M) Q :=
  x_callw (w := (j, [v1, v2, v3, v4], n, ls, st, M)) (by show code pc _ = _; rw [hc]; unfold i_callS; rw [if_pos ⟨by first | (simp; done) | (simp; omega), by first | (simp; done) | (simp; omega)⟩]; simp) h
theorem x_callS5 {v1 v2 v3 v4 v5 : am_V} (hc : code pc = i_callS j 5 n) (h8 : st.length ≤ 8) (h : am_Wp P d j [v1, v2, v3, v4, v5] M (fun r M' => am_Ex P d code (n, ls, r.toList ++ st, M') Q)) : am_Ex P d code (pc, ls, v5 :: v4 :: v3 :: v2 :: v1 :: st, M) Q :=
  x_callw (w := (j, [v1, v2, v3, v4, v5], n, ls, st, M)) (by show code pc _ = _; rw [hc]; unfold i_callS; rw [if_pos ⟨by first | (simp; done) | (simp; omega), by first | (simp; done) | (simp; omega)⟩]; simp) h
theorem x_callS6 {v1 v2 v3 v4 v5 v6 : am_V} (hc : code pc = i_callS j 6 n) (h8 : st.length ≤ 8) (h : am_Wp P d j [v1, v2, v3, v4, v5, v6] M (fun r M' => am_Ex P d code (n, ls, r.toList ++ st, M') Q)) : am_Ex P d code (pc, ls, v6 :: v5 :: v4 :: v3 :: v2 :: v1 :: st, M) Q :=
  x_callw (w := (j, [v1, v2, v3, v4, v5, v6], n, ls, st, M)) (by show code pc _ = _; rw [hc]; unfold i_callS; rw [if_pos ⟨by first | (simp; done) | (simp; omega), by first | (simp; done) | (simp; omega)⟩]; simp) h
theorem x_callS7 {v1 v2 v3 v4 v5 v6 v7 : am_V} (hc : code pc = i_callS j 7 n) (h8 : st.length ≤ 8) (h : am_Wp P d j [v1, v2, v3, v4, v5, v6, v7] M (fun r M' => am_Ex P d code (n, ls, r.toList ++ st, M') Q)) : am_Ex P d code (pc, ls, v7 :: v6 :: v5 :: v4 :: v3 :: v2 :: v1 :: st, M) Q :=
  x_callw (w := (j, [v1, v2, v3, v4, v5, v6, v7], n, ls, st, M)) (by show code pc _ = _; rw [hc]; unfold i_callS; rw [if_pos ⟨by first | (simp; done) | (simp; omega), by first | (simp; done) | (simp; omega)⟩]; simp) h
theorem x_callI0 (hc : code pc = i_callI j 0 n) (h8 : st.length ≤ 8) (h : am_Wp P d j [.inr (some a)] M (fun r M' => am_Ex P d code (n, ls, r.toList ++ st, M') Q)) : am_Ex P d code (pc, ls, .inr (some a) :: st, M) Q :=
  x_callw (w := (j, [.inr (some a)], n, ls, st, M)) (by show code pc _ = _; rw [hc]; unfold i_callI; rw [if_pos ⟨by first | (simp; done) | (simp; omega), by first | (simp; done) | (simp; omega)⟩]; simp) h
theorem x_callV0 {fs : List am_V} (hc : code pc = i_callV ci j 0 n) (hm : μ a = some (.inl (ci, fs))) (h8 : st.length ≤ 8) (h : am_Wp P d j [.inr (some a)] (nn, ss, μ) (fun r M' => am_Ex P d code (n, ls, r.toList ++ st, M') Q)) : am_Ex P d code (pc, ls, .inr (some a) :: st, nn, ss, μ) Q :=
  x_callw (w := (j, [.inr (some a)], n, ls, st, nn, ss, μ)) (by show code pc _ = _; rw [hc]; unfold i_callV; rw [if_pos ⟨by first | (simp; done) | (simp; omega), by first | (simp; done) | (simp; omega)⟩]; simp [hm]) h
theorem x_callI1 {v1 : am_V} (hc : code pc = i_callI j 1 n) (h8 : st.length ≤ 8) (h : am_Wp P d j [.inr (some a), v1] M (fun r M' => am_Ex P d code (n, ls, r.toList ++ st, M') Q)) : am_Ex P d code (pc, ls, v1 :: .inr (some a) :: st, M) Q :=
  x_callw (w := (j, [.inr (some a), v1], n, ls, st, M)) (by show code pc _ = _; rw [hc]; unfold i_callI; rw [if_pos ⟨by first | (simp; done) | (simp; omega), by first | (simp; done) | (simp; omega)⟩]; simp) h
theorem x_callV1 {v1 : am_V} {fs : List am_V} (hc : code pc = i_callV ci j 1 n) (hm : μ a = some (.inl (ci, fs))) (h8 : st.length ≤ 8) (h : am_Wp P d j [.inr (some a), v1] (nn, ss, μ) (fun r M' => am_Ex P d code (n, ls, r.toList ++ st, M') Q)) : am_Ex P d code (pc, ls, v1 :: .inr (some a) :: st, nn, ss, μ) Q :=
  x_callw (w := (j, [.inr (some a), v1], n, ls, st, nn, ss, μ)) (by show code pc _ = _; rw [hc]; unfold i_callV; rw [if_pos ⟨by first | (simp; done) | (simp; omega), by first | (simp; done) | (simp; omega)⟩]; simp [hm]) h
theorem x_callI2 {v1 v2 : am_V} (hc : code pc = i_callI j 2 n) (h8 : st.length ≤ 8) (h : am_Wp P d j [.inr (some a), v1, v2] M (fun r M' => am_Ex P d code (n, ls, r.toList ++ st, M') Q)) : am_Ex P d code (pc, ls, v2 :: v1 :: .inr (some a) :: st, M) Q :=
  x_callw (w := (j, [.inr (some a), v1, v2], n, ls, st, M)) (by show code pc _ = _; rw [hc]; unfold i_callI; rw [if_pos ⟨by first | (simp; done) | (simp; omega), by first | (simp; done) | (simp; omega)⟩]; simp) h
theorem x_callV2 {v1 v2 : am_V} {fs : List am_V} (hc : code pc = i_callV ci j 2 n) (hm : μ a = some (.inl (ci, fs))) (h8 : st.length ≤ 8) (h : am_Wp P d j [.inr (some a), v1, v2] (nn, ss, μ) (fun r M' => am_Ex P d code (n, ls, r.toList ++ st, M') Q)) : am_Ex P d code (pc, ls, v2 :: v1 :: .inr (some a) :: st, nn, ss, μ) Q :=
  x_callw (w := (j, [.inr (some a), v1, v2], n, ls, st, nn, ss, μ)) (by show code pc _ = _; rw [hc]; unfold i_callV; rw [if_pos ⟨by first | (simp; done) | (simp; omega), by first | (simp; done) | (simp; omega)⟩]; simp [hm]) h
theorem x_callI3 {v1 v2 v3 : am_V} (hc : code pc = i_callI j 3 n) (h8 : st.length ≤ 8) (h : am_Wp P d j [.inr (some a), v1, v2, v3] M (fun r M' => am_Ex P d code (n, ls, r.toList ++ st, M') Q)) : am_Ex P d code (pc, ls, v3 :: v2 :: v1 :: .inr (some a) :: st, M) Q :=
  x_callw (w := (j, [.inr (some a), v1, v2, v3], n, ls, st, M)) (by show code pc _ = _; rw [hc]; unfold i_callI; rw [if_pos ⟨by first | (simp; done) | (simp; omega), by first | (simp; done) | (simp; omega)⟩]; simp) h
theorem x_callV3 {v1 v2 v3 : am_V} {fs : List am_V} (hc : code pc = i_callV ci j 3 n) (hm : μ a = some (.inl (ci, fs))) (h8 : st.length ≤ 8) (h : am_Wp P d j [.inr (some a), v1, v2, v3] (nn, ss, μ) (fun r M' => am_Ex P d code (n, ls, r.toList ++ st, M') Q)) : am_Ex P d code (pc, ls, v3 :: v2 :: v1 :: .inr (some a) :: st, nn, ss, μ) Q :=
  x_callw (w := (j, [.inr (some a), v1, v2, v3], n, ls, st, nn, ss, μ)) (by show code pc _ = _; rw [hc]; unfold i_callV; rw [if_pos ⟨by first | (simp; done) | (simp; omega), by first | (simp; done) | (simp; omega)⟩]; simp [hm]) h
theorem x_callI4 {v1 v2 v3 v4 : am_V} (hc : code pc = i_callI j 4 n) (h8 : st.length ≤ 8) (h : am_Wp P d j [.inr (some a), v1, v2, v3, v4] M (fun r M' => am_Ex P d code (n, ls, r.toList ++ st, M') Q)) : am_Ex P d code (pc, ls, v4 :: v3 :: v2 :: v1 :: .inr (some a) :: st, M) Q :=
  x_callw (w := (j, [.inr (some a), v1, v2, v3, v4], n, ls, st, M)) (by show code pc _ = _; rw [hc]; unfold i_callI; rw [if_pos ⟨by first | (simp; done) | (simp; omega), by first | (simp; done) | (simp; omega)⟩]; simp) h
theorem x_callV4 {v1 v2 v3 v4 : am_V} {fs : List am_V} (hc : code pc = i_callV ci j 4 n) (hm : μ a = some (.inl (ci, fs))) (h8 : st.length ≤ 8) (h : am_Wp P d j [.inr (some a), v1, v2, v3, v4] (nn, ss, μ) (fun r M' => am_Ex P d code (n, ls, r.toList ++ st, M') Q)) : am_Ex P d code (pc, ls, v4 :: v3 :: v2 :: v1 :: .inr (some a) :: st, nn, ss, μ) Q :=
  x_callw (w := (j, [.inr (some a), v1, v2, v3, v4], n, ls, st, nn, ss, μ)) (by show code pc _ = _; rw [hc]; unfold i_callV; rw [if_pos ⟨by first | (simp; done) | (simp; omega), by first | (simp; done) | (simp; omega)⟩]; simp [hm]) h
theorem x_callI5 {v1 v2 v3 v4 v5 : am_V} (hc : code pc = i_callI j 5 n) (h8 : st.length ≤ 8) (h : am_Wp P d j [.inr (some a), v1, v2, v3, v4, v5] M (fun r M' => am_Ex P d code (n, ls, r.toList ++ st, M') Q)) : am_Ex P d code (pc, ls, v5 :: v4 :: v3 :: v2 :: v1 :: .inr (some a) :: st, M) Q :=
  x_callw (w := (j, [.inr (some a), v1, v2, v3, v4, v5], n, ls, st, M)) (by show code pc _ = _; rw [hc]; unfold i_callI; rw [if_pos ⟨by first | (simp; done) | (simp; omega), by first | (simp; done) | (simp; omega)⟩]; simp) h
theorem x_callV5 {v1 v2 v3 v4 v5 : am_V} {fs : List am_V} (hc : code pc = i_callV ci j 5 n) (hm : μ a = some (.inl (ci, fs))) (h8 : st.length ≤ 8) (h : am_Wp P d j [.inr (some a), v1, v2, v3, v4, v5] (nn, ss, μ) (fun r M' => am_Ex P d code (n, ls, r.toList ++ st, M') Q)) : am_Ex P d code (pc, ls, v5 :: v4 :: v3 :: v2 :: v1 :: .inr (some a) :: st, nn, ss, μ) Q :=
  x_callw (w := (j, [.inr (some a), v1, v2, v3, v4, v5], n, ls, st, nn, ss, μ)) (by show code pc _ = _; rw [hc]; unfold i_callV; rw [if_pos ⟨by first | (simp; done) | (simp; omega), by first | (simp; done) | (simp; omega)⟩]; simp [hm]) h
theorem x_callI6 {v1 v2 v3 v4 v5 v6 : am_V} (hc : code pc = i_callI j 6 n) (h8 : st.length ≤ 8) (h : am_Wp P d j [.inr (some a), v1, v2, v3, v4, v5, v6] M (fun r M' => am_Ex P d code (n, ls, r.toList ++ st, M') Q)) : am_Ex P d code (pc, ls, v6 :: v5 :: v4 :: v3 :: v2 :: v1 :: .inr (some a) :: st, M) Q :=
  x_callw (w := (j, [.inr (some a), v1, v2, v3, v4, v5, v6], n, ls, st, M)) (by show code pc _ = _; rw [hc]; unfold i_callI; rw [if_pos ⟨by first | (simp; done) | (simp; omega), by first | (simp; done) | (simp; omega)⟩]; simp) h
theorem x_callV6 {v1 v2 v3 v4 v5 v6 : am_V} {fs : List am_V} (hc : code pc = i_callV ci j 6 n) (hm : μ a = some (.inl (ci, fs))) (h8 : st.length ≤ 8) (h : am_Wp P d j [.inr (some a), v1, v2, v3, v4, v5, v6] (nn, ss, μ) (fun r M' => am_Ex P d code (n, ls, r.toList ++ st, M') Q)) : am_Ex P d code (pc, ls, v6 :: v5 :: v4 :: v3 :: v2 :: v1 :: .inr (some a) :: st, nn, ss, μ) Q :=
  x_callw (w := (j, [.inr (some a), v1, v2, v3, v4, v5, v6], n, ls, st, nn, ss, μ)) (by show code pc _ = _; rw [hc]; unfold i_callV; rw [if_pos ⟨by first | (simp; done) | (simp; omega), by first | (simp; done) | (simp; omega)⟩]; simp [hm]) h
end AmRows
/-- a list of places and what stands there -/
def am_at : List (Nat × am_I) → Nat → am_I
  | [], _ => i_fail
  | q :: l, pc => if pc = q.1 then q.2 else am_at l pc
end
section
/-! SOUNDNESS, first part: what the machine's heap has to do with the abstract one -/
abbrev am_E : Type := va_G × List vw_C × List FieldType × (Nat → ClassId) × List Cond × List Cond × Nat × Nat × Nat × (Nat → Int32)
abbrev e_D (E : am_E) : va_G := E.1
abbrev e_cl (E : am_E) : List vw_C := E.2.1
abbrev e_kd (E : am_E) : List FieldType := E.2.2.1
abbrev e_dA (E : am_E) : Nat → ClassId := E.2.2.2.1
abbrev e_nw (E : am_E) : List Cond := E.2.2.2.2.1
abbrev e_Ts (E : am_E) : List Cond := E.2.2.2.2.2.1
abbrev e_h (E : am_E) : Nat := E.2.2.2.2.2.2.1
abbrev e_b (E : am_E) : Nat := E.2.2.2.2.2.2.2.1
abbrev e_L (E : am_E) : Nat := E.2.2.2.2.2.2.2.2.1
abbrev e_xs (E : am_E) : Nat → Int32 := E.2.2.2.2.2.2.2.2.2
abbrev am_T : Type := MethodName × ByteArray × Nat × Option FieldType
def am_ad (E : am_E) (a : Nat) : Nat := if a = 0 then e_b E else e_h E + a
theorem am_ad_p {E : am_E} {a : Nat} (h : 1 ≤ a) : am_ad E a = e_h E + a := by
  unfold am_ad
  rw [if_neg (by omega)]
def am_cv (E : am_E) (v : am_V) : Value := match v with
  | .inl z => .int (Int32.ofInt z)
  | .inr r => va_rf (r.map (am_ad E))
theorem am_cv_c (E : am_E) (v : am_V) : (am_cv E v).category = 1 := by
  rcases v with z | _ | a <;> rfl
theorem am_cv_p {E : am_E} {a : Nat} (h : 1 ≤ a) : am_cv E (.inr (some a)) = .ref (e_h E + a) := by
  show va_rf (some (am_ad E a)) = _
  rw [am_ad_p h]
  rfl
def am_cE (E : am_E) (c : am_C) : va_E := match c with
  | .inl o => .inr (o.1, o.2.map (am_cv E))
  | .inr (.inl o) => .inl (e_dA E o.1, o.2.1, .inl (fun j => Int32.ofInt (o.2.2 j)))
  | .inr (.inr o) => .inl (e_dA E o.1, o.2.1, .inr (.inr (.inr (.inr (fun j => (o.2.2 j).map (am_ad E))))))
def am_H (E : am_E) (M : am_M) (H : Heap) : Prop := H.size = e_h E + M.1 ∧ 1 ≤ M.1 ∧ ∀ (a : Nat) (c : am_C), M.2.2 a = some c → 1 ≤ a ∧ va_at (e_D E) (e_cl E) (e_h E + a, am_cE E c) H
def am_wV (v : am_V) : Prop := match v with
  | .inl z => am_ok z
  | .inr _ => True
def am_wC (c : am_C) : Prop := match c with
  | .inl o => ∀ v ∈ o.2, am_wV v
  | .inr (.inl o) => ∀ j, j < o.2.1 → am_ok (o.2.2 j)
  | .inr (.inr _) => True
def am_wM (M : am_M) : Prop := ∀ (a : Nat) (c : am_C), M.2.2 a = some c → am_wC c
def am_wS (st : List am_V) : Prop := ∀ v ∈ st, am_wV v
theorem am_wS_c {v : am_V} {st : List am_V} (h1 : am_wV v) (h2 : am_wS st) : am_wS (v :: st) := by
  intro u hu
  rcases List.mem_cons.mp hu with rfl | hu
  · exact h1
  · exact h2 u hu
theorem am_wS_h {v : am_V} {st : List am_V} (h : am_wS (v :: st)) : am_wV v := h v List.mem_cons_self
theorem am_wS_t {v : am_V} {st : List am_V} (h : am_wS (v :: st)) : am_wS st := fun u hu => h u (List.mem_cons_of_mem _ hu)
def am_KK (E : am_E) (U : State) : Prop := va_K (e_D E) (e_cl E) [] U ∧ (∀ (t : Nat) (ty : FieldType), (e_kd E)[t]? = some ty → ArrOfT U (e_dA E t) ty ∧ va_RA U (e_dA E t) ty) ∧ (∀ w ∈ e_nw E, va_Nw w U) ∧ va_X (e_b E) (e_L E) (e_xs E) U U.heap
def am_nN (E : am_E) : Prop := e_b E ≤ e_h E ∧ ∀ w ∈ e_nw E, ∃ (a : String) (i : Nat) (y : MethodName) (g : String), w = .methodLinkNest a i y g
theorem am_KK.moved {E : am_E} {s U : State} (hn : am_nN E) (hW : s.WarmedH U.vm) (hq : U.heap[e_b E]? = s.heap[e_b E]?) (h : am_KK E s) : am_KK E U :=
  ⟨va_K.moved hW.alike h.1, fun t ty ht => ⟨arrOfT_moved hW.alike (h.2.1 t ty ht).1, (h.2.1 t ty ht).2.moved hW.alike⟩, fun w hw => by
    obtain ⟨a, i, y, g, rfl⟩ := hn.2 w hw
    exact va_Nw.warmM hW (h.2.2.1 _ hw), (h.2.2.2.kept hq).moved hW.alike⟩
theorem am_KK.same {E : am_E} {s U : State} (hn : am_nN E) (hv : s.vm = U.vm) (hh : U.heap = s.heap) (h : am_KK E s) : am_KK E U := by
  have hA : s.vm.Alike U.vm := by rw [hv]; exact Vm.Alike.refl _
  exact ⟨va_K.moved hA h.1, fun t ty ht => ⟨arrOfT_moved hA (h.2.1 t ty ht).1, (h.2.1 t ty ht).2.moved hA⟩, fun w hw => by
    obtain ⟨a, i, y, g, rfl⟩ := hn.2 w hw
    exact va_Nw.same rfl hv (h.2.2.1 _ hw), (h.2.2.2.kept (by rw [hh])).moved hA⟩
def am_X (E : am_E) (T : am_T) (p : Program) (s : State) (m : MethodId) (args : Array Value) (meth : Method) (c : Code) : Prop :=
  p.tables.exec = Jvm.exec ∧ c.code = T.2.1 ∧ c.maxLocals = T.2.2.1 ∧ s.vm.findClass T.1.cls = some m.cls ∧ (∀ w ∈ e_Ts E, w.before args s = true) ∧ am_KK E s ∧ meth.name = T.1.name ∧ meth.sig.returnType = T.2.2.2 ∧ meth.locks = false
def am_Re (E : am_E) (H0 : Heap) (n0 k0 : Nat) (M : am_M) (H : Heap) (locs : List Loc) (cells slots : Nat) : Prop :=
  am_H E M H ∧ am_wM M ∧ M.1 = n0 + cells ∧ M.2.1 = k0 + slots ∧ (∀ x ∈ locs, e_h E + 1 ≤ x.base) ∧ ∀ q : Nat, q ≤ e_h E → H[q]? = H0[q]?
def am_Lr (E : am_E) (nL : Nat) (ls : am_L) (lsC : Array Slot) : Prop :=
  lsC.size = nL ∧ lv_wf lsC ∧ ls.length = nL ∧ ∀ (i : Nat) (v : am_V), ls[i]? = some (some v) → lsC[i]? = some (.val (am_cv E v)) ∧ am_wV v
def am_Ws (E : am_E) (T : am_T) (pc : Nat) (ls : am_L) (st : List am_V) (M : am_M) (q : am_F) : Prop :=
  ∀ (p : Program) (l : Launch) (e : Env) (R : Room) (s : State) (m : MethodId) (args : Array Value) (below : List Frame) (meth : Method) (c : Code) (Q : State → Prop) (H : Heap) (locs : List Loc) (cells slots n0 k0 : Nat) (lsC : Array Slot),
    am_X E T p s m args meth c → am_wS st → am_Re E s.heap n0 k0 M H locs cells slots → am_Lr E T.2.2.1 ls lsC → q.2.2.2.1 ≤ n0 + R.cells → q.2.2.2.2.1 ≤ k0 + R.slots →
    (∀ (H' : Heap) (locs' : List Loc) (cells' slots' : Nat) (lsC' : Array Slot), am_wS q.2.2.1 → am_Re E s.heap n0 k0 q.2.2.2 H' locs' cells' slots' → am_Lr E T.2.2.1 q.2.1 lsC' → W p l e R s m args below meth c H' locs' cells' slots' Q (F0 m q.1 lsC' (q.2.2.1.map (am_cv E)))) →
    W p l e R s m args below meth c H locs cells slots Q (F0 m pc lsC (st.map (am_cv E)))
def am_Rt (T : am_T) (pc : Nat) (st : List am_V) (r : Option am_V) : Prop :=
  (decode T.2.1 pc = .ok (.ireturn, 1) ∧ ∃ z, st = [.inl z] ∧ r = some (.inl z) ∧ (T.2.2.2 = some .int ∨ (T.2.2.2 = some .boolean ∧ (z = 0 ∨ z = 1)))) ∨
  (decode T.2.1 pc = .ok (.areturn, 1) ∧ ∃ v, st = [.inr v] ∧ r = some (.inr v) ∧ ∃ rt, T.2.2.2 = some rt ∧ ((∃ n, rt = .object n) ∨ ∃ t, rt = .array t)) ∨
  (decode T.2.1 pc = .ok (.return_, 1) ∧ st = [] ∧ r = none ∧ T.2.2.2 = none)
/-- what is made only grows -/
def am_Mo (pc : Nat) (f : am_I) : Prop := ∀ (ls : am_L) (st : List am_V) (M : am_M),
  (∀ q, f (pc, ls, st, M) = some (.inl q) → M.1 ≤ q.2.2.2.1 ∧ M.2.1 ≤ q.2.2.2.2.1) ∧ (∀ y, f (pc, ls, st, M) = some (.inr (.inl y)) → y.2 = M) ∧ ∀ w, f (pc, ls, st, M) = some (.inr (.inr w)) → w.2.2.2.2.2 = M ∧ w.2.2.2.1 = ls
-- contracts
def am_ws (E : am_E) (T : am_T) : List Cond := Cond.code T.1 T.2.1 T.2.2.1 T.2.2.2 :: e_Ts E
def am_rm (d : Nat) (M M' : am_M) : Room := { frames := d - 1, cells := M'.1 - M.1, slots := M'.2.1 - M.2.1, locals := 40 * (d - 1) }
def am_Pc (E : am_E) (as : List am_V) (M : am_M) : Array Value → State → Prop := fun v U => v = (as.map (am_cv E)).toArray ∧ am_H E M U.heap ∧ am_KK E U
def am_Qc (E : am_E) (y : am_Y) : Array Value → State → Outcome → State → Prop := fun _ st o t => o = .returned (y.1.map (am_cv E)) ∧ am_H E y.2 t.heap ∧ am_wM y.2 ∧ (∀ v, y.1 = some v → am_wV v) ∧ ∀ q : Nat, q ≤ e_h E → t.heap[q]? = st.heap[q]?
def am_IH (E : am_E) (tb : Nat → am_T) (P : am_P) (l : Launch) (k d : Nat) : Prop := ∀ (j : Nat) (as : List am_V) (M : am_M) (y : am_Y), 3 ≤ j → am_call P k d j as M = some y → am_wS as → am_wM M →
  Met l (tb j).1 (am_ws E (tb j)) (am_rm d M y.2) (am_Pc E as M) (am_Qc E y) (y.2.1 - M.1) (y.2.2.1 - M.2.1) (fun q => e_h E + 1 ≤ q)
def am_Cl (E : am_E) (tb : Nat → am_T) (P : am_P) (T : am_T) (pc : Nat) (ls : am_L) (st : List am_V) (M : am_M) (w : Nat × List am_V × am_F) : Prop :=
  ∀ (k d : Nat) (y : am_Y) (p : Program) (l : Launch) (e : Env) (R : Room) (s : State) (m : MethodId) (args : Array Value) (below : List Frame) (meth : Method) (c : Code) (Q : State → Prop) (H : Heap) (locs : List Loc) (cells slots n0 k0 : Nat) (lsC : Array Slot),
    am_IH E tb P l k d → am_call P k d w.1 w.2.1 M = some y → (M.1 ≤ y.2.1 ∧ M.2.1 ≤ y.2.2.1) → am_X E T p s m args meth c → am_wS st → am_Re E s.heap n0 k0 M H locs cells slots → am_Lr E T.2.2.1 ls lsC → d ≤ R.frames → 40 * d ≤ R.locals → y.2.1 ≤ n0 + R.cells → y.2.2.1 ≤ k0 + R.slots →
    (∀ (H' : Heap) (locs' : List Loc) (cells' slots' : Nat), am_wS (y.1.toList ++ w.2.2.2.2.1) → am_Re E s.heap n0 k0 y.2 H' locs' cells' slots' → W p l e R s m args below meth c H' locs' cells' slots' Q (F0 m w.2.2.1 lsC ((y.1.toList ++ w.2.2.2.2.1).map (am_cv E)))) →
    W p l e R s m args below meth c H locs cells slots Q (F0 m pc lsC (st.map (am_cv E)))
def am_G (E : am_E) (tb : Nat → am_T) (P : am_P) (T : am_T) (pc : Nat) (f : am_I) : Prop := am_Mo pc f ∧ ∀ (ls : am_L) (st : List am_V) (M : am_M),
  (∀ q, f (pc, ls, st, M) = some (.inl q) → am_Ws E T pc ls st M q) ∧ (∀ y, f (pc, ls, st, M) = some (.inr (.inl y)) → am_Rt T pc st y.1) ∧ ∀ w, f (pc, ls, st, M) = some (.inr (.inr w)) → am_Cl E tb P T pc ls st M w
/-- an instruction that only goes on: one road at a time -/
theorem am_G.ofStep {E : am_E} {tb : Nat → am_T} {P : am_P} {T : am_T} {pc : Nat} {f : am_I} (h : ∀ (ls : am_L) (st : List am_V) (M : am_M) (x : am_F ⊕ (am_Y ⊕ (Nat × List am_V × am_F))), f (pc, ls, st, M) = some x → ∃ q, x = .inl q ∧ M.1 ≤ q.2.2.2.1 ∧ M.2.1 ≤ q.2.2.2.2.1 ∧ am_Ws E T pc ls st M q) : am_G E tb P T pc f := by
  refine ⟨fun ls st M => ⟨fun q hq => ?_, fun y hy => ?_, fun w hw => ?_⟩, fun ls st M => ⟨fun q hq => ?_, fun y hy => ?_, fun w hw => ?_⟩⟩
  · obtain ⟨q', e1, h1, h2, -⟩ := h ls st M _ hq
    cases e1
    exact ⟨h1, h2⟩
  · obtain ⟨q', e1, -⟩ := h ls st M _ hy
    cases e1
  · obtain ⟨q', e1, -⟩ := h ls st M _ hw
    cases e1
  · obtain ⟨q', e1, -, -, h3⟩ := h ls st M _ hq
    cases e1
    exact h3
  · obtain ⟨q', e1, -⟩ := h ls st M _ hy
    cases e1
  · obtain ⟨q', e1, -⟩ := h ls st M _ hw
    cases e1
theorem am_G.fail {E : am_E} {tb : Nat → am_T} {P : am_P} {T : am_T} {pc : Nat} : am_G E tb P T pc i_fail := am_G.ofStep (fun ls st M x h => by cases h)
def am_all (E : am_E) (tb : Nat → am_T) (P : am_P) (T : am_T) : List (Nat × am_I) → Prop
  | [] => True
  | q :: l => am_G E tb P T q.1 q.2 ∧ am_all E tb P T l
theorem am_all.get {E : am_E} {tb : Nat → am_T} {P : am_P} {T : am_T} : ∀ (l : List (Nat × am_I)), am_all E tb P T l → ∀ pc, am_G E tb P T pc (am_at l pc) := by
  intro l
  induction l with
  | nil => intro _ pc; exact am_G.fail
  | cons q l ih =>
    intro h pc
    unfold am_at
    by_cases hp : pc = q.1
    · rw [if_pos hp, hp]
      exact h.1
    · rw [if_neg hp]
      exact ih h.2 pc
theorem am_all.app {E : am_E} {tb : Nat → am_T} {P : am_P} {T : am_T} : ∀ (l l' : List (Nat × am_I)), am_all E tb P T l → am_all E tb P T l' → am_all E tb P T (l ++ l') := by
  intro l
  induction l with
  | nil => intro l' _ h; exact h
  | cons q l ih => intro l' h h'; exact ⟨h.1, ih l' h.2 h'⟩
-- numbers
theorem am_ti {z : Int} (h : am_ok z) : (Int32.ofInt z).toInt = z := Int32.toInt_ofInt_of_le (by have := h.1; omega) (by have := h.2; omega)
theorem am_lt {x y : Int} (hx : am_ok x) (hy : am_ok y) : Int32.ofInt x < Int32.ofInt y ↔ x < y := by
  rw [Int32.lt_iff_toInt_lt, am_ti hx, am_ti hy]
theorem am_le {x y : Int} (hx : am_ok x) (hy : am_ok y) : Int32.ofInt x ≤ Int32.ofInt y ↔ x ≤ y := by
  rw [Int32.le_iff_toInt_le, am_ti hx, am_ti hy]
theorem am_eq {x y : Int} (hx : am_ok x) (hy : am_ok y) : Int32.ofInt x = Int32.ofInt y ↔ x = y := by
  rw [← Int32.toInt_inj, am_ti hx, am_ti hy]
theorem am_cl {z : Int} (h : am_ok z) : (Int32.ofInt z).toNatClampNeg = z.toNat := by
  show (Int32.ofInt z).toInt.toNat = _
  rw [am_ti h]
theorem am_ok0 : am_ok 0 := by unfold am_ok; omega
theorem am_okI (x : Int32) : am_ok x.toInt := ⟨by have := x.le_toInt; omega, by have := x.toInt_lt; omega⟩
theorem am_ok_and (x y : Int) : am_ok (am_and x y) := am_okI _
theorem am_ok_or (x y : Int) : am_ok (am_or x y) := am_okI _
theorem am_ok_xor (x y : Int) : am_ok (am_xor x y) := am_okI _
-- locals
theorem am_Lr.get {E : am_E} {nL k : Nat} {ls : am_L} {lsC : Array Slot} {v : am_V} (h : am_Lr E nL ls lsC) (hl : ls[k]? = some (some v)) : lsC[k]? = some (.val (am_cv E v)) := (h.2.2.2 k v hl).1
theorem am_Lr.wf {E : am_E} {nL k : Nat} {ls : am_L} {lsC : Array Slot} {v : am_V} (h : am_Lr E nL ls lsC) (hl : ls[k]? = some (some v)) : am_wV v := (h.2.2.2 k v hl).2
/-- all that the locals hold, as a list -/
def am_pr (E : am_E) (ls : am_L) : List (Nat × Value) := (List.range ls.length).filterMap (fun i => match ls[i]? with
  | some (some v) => some (i, am_cv E v)
  | _ => none)
theorem am_pr_in {E : am_E} {ls : am_L} {i : Nat} {v : am_V} (h : ls[i]? = some (some v)) : (i, am_cv E v) ∈ am_pr E ls := by
  refine List.mem_filterMap.mpr ⟨i, List.mem_range.mpr (List.getElem?_eq_some_iff.mp h).1, ?_⟩
  simp only [h]
theorem am_pr_of {E : am_E} {ls : am_L} {q : Nat × Value} (h : q ∈ am_pr E ls) : ∃ v, ls[q.1]? = some (some v) ∧ q.2 = am_cv E v := by
  obtain ⟨i, -, hi⟩ := List.mem_filterMap.mp h
  split at hi
  · next v hv =>
    cases hi
    exact ⟨v, hv, rfl⟩
  · cases hi
theorem am_Lr.has {E : am_E} {nL : Nat} {ls : am_L} {lsC : Array Slot} (h : am_Lr E nL ls lsC) : lv_has lsC nL (am_pr E ls) := by
  refine ⟨h.1, h.2.1, fun q hq => ?_⟩
  obtain ⟨v, h1, h2⟩ := am_pr_of hq
  rw [h2]
  exact h.get h1
theorem am_Lr.set {E : am_E} {nL k : Nat} {ls : am_L} {lsC lsC' : Array Slot} {v : am_V} (h : am_Lr E nL ls lsC) (hk : k < nL) (hv : am_wV v) (h' : lv_has lsC' nL ((k, am_cv E v) :: (am_pr E ls).filter (fun q => !(q.1 == k) && !(q.1 + 1 == k && q.2.category == 2)))) : am_Lr E nL (ls.set k (some v)) lsC' := by
  refine ⟨h'.1, h'.2.1, by rw [List.length_set]; exact h.2.2.1, fun i u hi => ?_⟩
  by_cases hik : i = k
  · subst hik
    rw [List.getElem?_set_self (by rw [h.2.2.1]; exact hk)] at hi
    cases hi
    exact ⟨h'.2.2 (i, am_cv E v) List.mem_cons_self, hv⟩
  · rw [List.getElem?_set_ne (fun z => hik z.symm)] at hi
    refine ⟨h'.2.2 (i, am_cv E u) (List.mem_cons_of_mem _ (List.mem_filter.mpr ⟨am_pr_in hi, ?_⟩)), h.wf hi⟩
    simp [hik, am_cv_c]
end
section
/-! SOUNDNESS, second part: instructions that leave the heap alone -/
section AmS
variable {E : am_E} {tb : Nat → am_T} {P : am_P} {T : am_T} {pc n k t : Nat}
theorem s_iconst {z : Int} (hd : decode T.2.1 pc = .ok (.iconst z, 1)) (hz : am_ok z) (hn : pc + 1 = n) : am_G E tb P T pc (i_const z n) := by
  subst hn
  refine am_G.ofStep (fun ls st M x h => ?_)
  cases h
  refine ⟨_, rfl, Nat.le_refl _, Nat.le_refl _, ?_⟩
  intro p l e R s m args below meth c Q H locs cells slots n0 k0 lsC X hS hR hL _ _ kk
  refine lv_iconst X.1 X.2.1 hd rfl ?_
  exact kk H locs cells slots lsC (am_wS_c hz hS) hR hL
theorem s_bipush {z : Int} (hd : decode T.2.1 pc = .ok (.bipush z, 2)) (hv : (Int8.ofInt z).toInt32 = Int32.ofInt z) (hz : am_ok z) (hn : pc + 2 = n) : am_G E tb P T pc (i_const z n) := by
  subst hn
  refine am_G.ofStep (fun ls st M x h => ?_)
  cases h
  refine ⟨_, rfl, Nat.le_refl _, Nat.le_refl _, ?_⟩
  intro p l e R s m args below meth c Q H locs cells slots n0 k0 lsC X hS hR hL _ _ kk
  refine lv_bipush X.1 X.2.1 hd hv ?_
  exact kk H locs cells slots lsC (am_wS_c hz hS) hR hL
theorem s_sipush {z : Int} (hd : decode T.2.1 pc = .ok (.sipush z, 3)) (hv : (Int16.ofInt z).toInt32 = Int32.ofInt z) (hz : am_ok z) (hn : pc + 3 = n) : am_G E tb P T pc (i_const z n) := by
  subst hn
  refine am_G.ofStep (fun ls st M x h => ?_)
  cases h
  refine ⟨_, rfl, Nat.le_refl _, Nat.le_refl _, ?_⟩
  intro p l e R s m args below meth c Q H locs cells slots n0 k0 lsC X hS hR hL _ _ kk
  refine lv_sipush X.1 X.2.1 hd hv ?_
  exact kk H locs cells slots lsC (am_wS_c hz hS) hR hL
theorem s_ldc {z : Int} {index : Nat} (hd : decode T.2.1 pc = .ok (.ldc index, 2)) (hw : Cond.constant T.1.cls index (Int32.ofInt z) ∈ e_Ts E) (hz : am_ok z) (hn : pc + 2 = n) : am_G E tb P T pc (i_const z n) := by
  subst hn
  refine am_G.ofStep (fun ls st M x h => ?_)
  cases h
  refine ⟨_, rfl, Nat.le_refl _, Nat.le_refl _, ?_⟩
  intro p l e R s m args below meth c Q H locs cells slots n0 k0 lsC X hS hR hL _ _ kk
  refine lv_ldc X.1 X.2.1 X.2.2.2.1 (X.2.2.2.2.1 _ hw) hd ?_
  exact kk H locs cells slots lsC (am_wS_c hz hS) hR hL
theorem s_null (hd : decode T.2.1 pc = .ok (.aconst_null, 1)) (hn : pc + 1 = n) : am_G E tb P T pc (i_null n) := by
  subst hn
  refine am_G.ofStep (fun ls st M x h => ?_)
  cases h
  refine ⟨_, rfl, Nat.le_refl _, Nat.le_refl _, ?_⟩
  intro p l e R s m args below meth c Q H locs cells slots n0 k0 lsC X hS hR hL _ _ kk
  refine lv_null X.1 X.2.1 hd ?_
  exact kk H locs cells slots lsC (am_wS_c trivial hS) hR hL
theorem s_iload_n {kf : Fin 4} (hd : decode T.2.1 pc = .ok (.iload_n kf, 1)) (hk : (kf : Nat) = k) (hn : pc + 1 = n) : am_G E tb P T pc (i_iload k n) := by
  subst hk; subst hn
  refine am_G.ofStep (fun ls st M x h => ?_)
  unfold i_iload at h
  dsimp only at h
  split at h
  · next z hl =>
    cases h
    refine ⟨_, rfl, Nat.le_refl _, Nat.le_refl _, ?_⟩
    intro p l e R s m args below meth c Q H locs cells slots n0 k0 lsC X hS hR hL _ _ kk
    refine lv_iload_n X.1 X.2.1 hd rfl (hL.get hl) ?_
    exact kk H locs cells slots lsC (am_wS_c (hL.wf hl) hS) hR hL
  · cases h
theorem s_iload (hd : decode T.2.1 pc = .ok (.iload k, 2)) (hn : pc + 2 = n) : am_G E tb P T pc (i_iload k n) := by
  subst hn
  refine am_G.ofStep (fun ls st M x h => ?_)
  unfold i_iload at h
  dsimp only at h
  split at h
  · next z hl =>
    cases h
    refine ⟨_, rfl, Nat.le_refl _, Nat.le_refl _, ?_⟩
    intro p l e R s m args below meth c Q H locs cells slots n0 k0 lsC X hS hR hL _ _ kk
    refine lv_iload X.1 X.2.1 hd (hL.get hl) ?_
    exact kk H locs cells slots lsC (am_wS_c (hL.wf hl) hS) hR hL
  · cases h
theorem s_aload_n {kf : Fin 4} (hd : decode T.2.1 pc = .ok (.aload_n kf, 1)) (hk : (kf : Nat) = k) (hn : pc + 1 = n) : am_G E tb P T pc (i_aload k n) := by
  subst hk; subst hn
  refine am_G.ofStep (fun ls st M x h => ?_)
  unfold i_aload at h
  dsimp only at h
  split at h
  · next r hl =>
    cases h
    refine ⟨_, rfl, Nat.le_refl _, Nat.le_refl _, ?_⟩
    intro p l e R s m args below meth c Q H locs cells slots n0 k0 lsC X hS hR hL _ _ kk
    have hk := kk H locs cells slots lsC (am_wS_c (hL.wf hl) hS) hR hL
    have hg := hL.get hl
    cases r with
    | none => exact lv_aload_nN X.1 X.2.1 hd rfl hg hk
    | some a => exact lv_aload_n X.1 X.2.1 hd rfl hg hk
  · cases h
theorem s_aload (hd : decode T.2.1 pc = .ok (.aload k, 2)) (hn : pc + 2 = n) : am_G E tb P T pc (i_aload k n) := by
  subst hn
  refine am_G.ofStep (fun ls st M x h => ?_)
  unfold i_aload at h
  dsimp only at h
  split at h
  · next r hl =>
    cases h
    refine ⟨_, rfl, Nat.le_refl _, Nat.le_refl _, ?_⟩
    intro p l e R s m args below meth c Q H locs cells slots n0 k0 lsC X hS hR hL _ _ kk
    have hk := kk H locs cells slots lsC (am_wS_c (hL.wf hl) hS) hR hL
    have hg := hL.get hl
    cases r with
    | none => exact lv_aloadN X.1 X.2.1 hd hg hk
    | some a => exact lv_aload X.1 X.2.1 hd hg hk
  · cases h
theorem s_istore_n {kf : Fin 4} (hd : decode T.2.1 pc = .ok (.istore_n kf, 1)) (hk : (kf : Nat) = k) (hn : pc + 1 = n) : am_G E tb P T pc (i_istore k n) := by
  subst hk; subst hn
  refine am_G.ofStep (fun ls st M x h => ?_)
  unfold i_istore at h
  dsimp only at h
  split at h
  · next z st' =>
    split at h
    · next hk =>
      cases h
      refine ⟨_, rfl, Nat.le_refl _, Nat.le_refl _, ?_⟩
      intro p l e R s m args below meth c Q H locs cells slots n0 k0 lsC X hS hR hL _ _ kk
      rw [hL.2.2.1] at hk
      refine lv_istore_n X.1 X.2.1 hd rfl hL.has hk rfl (fun lsC' h' => ?_)
      exact kk H locs cells slots lsC' (am_wS_t hS) hR (hL.set (v := .inl z) hk (am_wS_h hS) h')
    · cases h
  · cases h
theorem s_istore (hd : decode T.2.1 pc = .ok (.istore k, 2)) (hn : pc + 2 = n) : am_G E tb P T pc (i_istore k n) := by
  subst hn
  refine am_G.ofStep (fun ls st M x h => ?_)
  unfold i_istore at h
  dsimp only at h
  split at h
  · next z st' =>
    split at h
    · next hk =>
      cases h
      refine ⟨_, rfl, Nat.le_refl _, Nat.le_refl _, ?_⟩
      intro p l e R s m args below meth c Q H locs cells slots n0 k0 lsC X hS hR hL _ _ kk
      rw [hL.2.2.1] at hk
      refine lv_istore X.1 X.2.1 hd hL.has hk rfl (fun lsC' h' => ?_)
      exact kk H locs cells slots lsC' (am_wS_t hS) hR (hL.set (v := .inl z) hk (am_wS_h hS) h')
    · cases h
  · cases h
theorem s_astore_n {kf : Fin 4} (hd : decode T.2.1 pc = .ok (.astore_n kf, 1)) (hk : (kf : Nat) = k) (hn : pc + 1 = n) : am_G E tb P T pc (i_astore k n) := by
  subst hk; subst hn
  refine am_G.ofStep (fun ls st M x h => ?_)
  unfold i_astore at h
  dsimp only at h
  split at h
  · next r st' =>
    split at h
    · next hk =>
      cases h
      refine ⟨_, rfl, Nat.le_refl _, Nat.le_refl _, ?_⟩
      intro p l e R s m args below meth c Q H locs cells slots n0 k0 lsC X hS hR hL _ _ kk
      rw [hL.2.2.1] at hk
      have k2 : ∀ lsC', lv_has lsC' T.2.2.1 ((_, am_cv E (.inr r)) :: (am_pr E ls).filter (fun q => !(q.1 == _) && !(q.1 + 1 == _ && q.2.category == 2))) → _ := fun lsC' h' => kk H locs cells slots lsC' (am_wS_t hS) hR (hL.set (v := .inr r) hk (am_wS_h hS) h')
      cases r with
      | none => exact lv_astore_nN X.1 X.2.1 hd rfl hL.has hk rfl (fun lsC' h' => k2 lsC' h')
      | some a => exact lv_astore_n X.1 X.2.1 hd rfl hL.has hk rfl (fun lsC' h' => k2 lsC' h')
    · cases h
  · cases h
theorem s_astore (hd : decode T.2.1 pc = .ok (.astore k, 2)) (hn : pc + 2 = n) : am_G E tb P T pc (i_astore k n) := by
  subst hn
  refine am_G.ofStep (fun ls st M x h => ?_)
  unfold i_astore at h
  dsimp only at h
  split at h
  · next r st' =>
    split at h
    · next hk =>
      cases h
      refine ⟨_, rfl, Nat.le_refl _, Nat.le_refl _, ?_⟩
      intro p l e R s m args below meth c Q H locs cells slots n0 k0 lsC X hS hR hL _ _ kk
      rw [hL.2.2.1] at hk
      have k2 : ∀ lsC', lv_has lsC' T.2.2.1 ((_, am_cv E (.inr r)) :: (am_pr E ls).filter (fun q => !(q.1 == _) && !(q.1 + 1 == _ && q.2.category == 2))) → _ := fun lsC' h' => kk H locs cells slots lsC' (am_wS_t hS) hR (hL.set (v := .inr r) hk (am_wS_h hS) h')
      cases r with
      | none => exact lv_astoreN X.1 X.2.1 hd hL.has hk rfl (fun lsC' h' => k2 lsC' h')
      | some a => exact lv_astore X.1 X.2.1 hd hL.has hk rfl (fun lsC' h' => k2 lsC' h')
    · cases h
  · cases h
theorem s_iinc {z : Int} (hd : decode T.2.1 pc = .ok (.iinc k z, 3)) (hn : pc + 3 = n) : am_G E tb P T pc (i_iinc k z n) := by
  subst hn
  refine am_G.ofStep (fun ls st M x h => ?_)
  unfold i_iinc at h
  dsimp only at h
  split at h
  · next y hl =>
    split at h
    · next hz =>
      cases h
      refine ⟨_, rfl, Nat.le_refl _, Nat.le_refl _, ?_⟩
      intro p l e R s m args below meth c Q H locs cells slots n0 k0 lsC X hS hR hL _ _ kk
      have hk : k < T.2.2.1 := by rw [← hL.2.2.1]; exact (List.getElem?_eq_some_iff.mp hl).1
      obtain ⟨i, hi⟩ := List.getElem?_of_mem (am_pr_in (E := E) hl)
      refine lv_iinc X.1 X.2.1 hd hL.has hi (Int32.ofInt_add y z).symm hk rfl (fun lsC' h' => ?_)
      exact kk H locs cells slots lsC' hS hR (hL.set (v := .inl (y + z)) hk hz h')
    · cases h
  · cases h
theorem s_pop (hd : decode T.2.1 pc = .ok (.pop, 1)) (hn : pc + 1 = n) : am_G E tb P T pc (i_pop n) := by
  subst hn
  refine am_G.ofStep (fun ls st M x h => ?_)
  unfold i_pop at h
  dsimp only at h
  split at h
  · next v st' =>
    cases h
    refine ⟨_, rfl, Nat.le_refl _, Nat.le_refl _, ?_⟩
    intro p l e R s m args below meth c Q H locs cells slots n0 k0 lsC X hS hR hL _ _ kk
    refine lv_pop X.1 X.2.1 hd (am_cv_c E _) ?_
    exact kk H locs cells slots lsC (am_wS_t hS) hR hL
  · cases h
theorem s_dup (hd : decode T.2.1 pc = .ok (.dup, 1)) (hn : pc + 1 = n) : am_G E tb P T pc (i_dup n) := by
  subst hn
  refine am_G.ofStep (fun ls st M x h => ?_)
  unfold i_dup at h
  dsimp only at h
  split at h
  · next v st' =>
    cases h
    refine ⟨_, rfl, Nat.le_refl _, Nat.le_refl _, ?_⟩
    intro p l e R s m args below meth c Q H locs cells slots n0 k0 lsC X hS hR hL _ _ kk
    refine lv_dup X.1 X.2.1 hd (am_cv_c E _) ?_
    exact kk H locs cells slots lsC (am_wS_c (am_wS_h hS) hS) hR hL
  · cases h
theorem s_dup_x1 (hd : decode T.2.1 pc = .ok (.dup_x1, 1)) (hn : pc + 1 = n) : am_G E tb P T pc (i_dup_x1 n) := by
  subst hn
  refine am_G.ofStep (fun ls st M x h => ?_)
  unfold i_dup_x1 at h
  dsimp only at h
  split at h
  · next v u st' =>
    cases h
    refine ⟨_, rfl, Nat.le_refl _, Nat.le_refl _, ?_⟩
    intro p l e R s m args below meth c Q H locs cells slots n0 k0 lsC X hS hR hL _ _ kk
    refine lv_dup_x1 X.1 X.2.1 hd (am_cv_c E _) (am_cv_c E _) ?_
    exact kk H locs cells slots lsC (am_wS_c (am_wS_h hS) (am_wS_c (am_wS_h (am_wS_t hS)) (am_wS_c (am_wS_h hS) (am_wS_t (am_wS_t hS))))) hR hL
  · cases h
theorem s_dup_x2 (hd : decode T.2.1 pc = .ok (.dup_x2, 1)) (hn : pc + 1 = n) : am_G E tb P T pc (i_dup_x2 n) := by
  subst hn
  refine am_G.ofStep (fun ls st M x h => ?_)
  unfold i_dup_x2 at h
  dsimp only at h
  split at h
  · next v u r st' =>
    cases h
    refine ⟨_, rfl, Nat.le_refl _, Nat.le_refl _, ?_⟩
    intro p l e R s m args below meth c Q H locs cells slots n0 k0 lsC X hS hR hL _ _ kk
    refine lv_dup_x2 X.1 X.2.1 hd (am_cv_c E _) (am_cv_c E _) (am_cv_c E _) ?_
    exact kk H locs cells slots lsC (am_wS_c (am_wS_h hS) (am_wS_c (am_wS_h (am_wS_t hS)) (am_wS_c (am_wS_h (am_wS_t (am_wS_t hS))) (am_wS_c (am_wS_h hS) (am_wS_t (am_wS_t (am_wS_t hS))))))) hR hL
  · cases h
theorem s_dup2 (hd : decode T.2.1 pc = .ok (.dup2, 1)) (hn : pc + 1 = n) : am_G E tb P T pc (i_dup2 n) := by
  subst hn
  refine am_G.ofStep (fun ls st M x h => ?_)
  unfold i_dup2 at h
  dsimp only at h
  split at h
  · next v u st' =>
    cases h
    refine ⟨_, rfl, Nat.le_refl _, Nat.le_refl _, ?_⟩
    intro p l e R s m args below meth c Q H locs cells slots n0 k0 lsC X hS hR hL _ _ kk
    refine lv_dup2_11 X.1 X.2.1 hd (am_cv_c E _) (am_cv_c E _) ?_
    exact kk H locs cells slots lsC (am_wS_c (am_wS_h hS) (am_wS_c (am_wS_h (am_wS_t hS)) hS)) hR hL
  · cases h
theorem s_iadd (hd : decode T.2.1 pc = .ok (.iadd, 1)) (hn : pc + 1 = n) : am_G E tb P T pc (i_iadd n) := by
  subst hn
  refine am_G.ofStep (fun ls st M x h => ?_)
  unfold i_iadd at h
  dsimp only at h
  split at h
  · next b a st' =>
    split at h
    · next hz =>
      cases h
      refine ⟨_, rfl, Nat.le_refl _, Nat.le_refl _, ?_⟩
      intro p l e R s m args below meth c Q H locs cells slots n0 k0 lsC X hS hR hL _ _ kk
      refine lv_iadd X.1 X.2.1 hd ?_
      rw [← Int32.ofInt_add]
      exact kk H locs cells slots lsC (am_wS_c hz (am_wS_t (am_wS_t hS))) hR hL
    · cases h
  · cases h
theorem s_isub (hd : decode T.2.1 pc = .ok (.isub, 1)) (hn : pc + 1 = n) : am_G E tb P T pc (i_isub n) := by
  subst hn
  refine am_G.ofStep (fun ls st M x h => ?_)
  unfold i_isub at h
  dsimp only at h
  split at h
  · next b a st' =>
    split at h
    · next hz =>
      cases h
      refine ⟨_, rfl, Nat.le_refl _, Nat.le_refl _, ?_⟩
      intro p l e R s m args below meth c Q H locs cells slots n0 k0 lsC X hS hR hL _ _ kk
      refine lv_isub X.1 X.2.1 hd ?_
      rw [← Int32.ofInt_sub]
      exact kk H locs cells slots lsC (am_wS_c hz (am_wS_t (am_wS_t hS))) hR hL
    · cases h
  · cases h
theorem s_imul (hd : decode T.2.1 pc = .ok (.imul, 1)) (hn : pc + 1 = n) : am_G E tb P T pc (i_imul n) := by
  subst hn
  refine am_G.ofStep (fun ls st M x h => ?_)
  unfold i_imul at h
  dsimp only at h
  split at h
  · next b a st' =>
    split at h
    · next hz =>
      cases h
      refine ⟨_, rfl, Nat.le_refl _, Nat.le_refl _, ?_⟩
      intro p l e R s m args below meth c Q H locs cells slots n0 k0 lsC X hS hR hL _ _ kk
      refine lv_imul X.1 X.2.1 hd ?_
      rw [← Int32.ofInt_mul]
      exact kk H locs cells slots lsC (am_wS_c hz (am_wS_t (am_wS_t hS))) hR hL
    · cases h
  · cases h
theorem s_iand (hd : decode T.2.1 pc = .ok (.iand, 1)) (hn : pc + 1 = n) : am_G E tb P T pc (i_iand n) := by
  subst hn
  refine am_G.ofStep (fun ls st M x h => ?_)
  unfold i_iand at h
  dsimp only at h
  split at h
  · next b a st' =>
    cases h
    refine ⟨_, rfl, Nat.le_refl _, Nat.le_refl _, ?_⟩
    intro p l e R s m args below meth c Q H locs cells slots n0 k0 lsC X hS hR hL _ _ kk
    refine lv_iand X.1 X.2.1 hd ?_
    rw [show Int32.ofInt a &&& Int32.ofInt b = Int32.ofInt (am_and a b) from (Int32.ofInt_toInt _).symm]
    exact kk H locs cells slots lsC (am_wS_c (am_ok_and a b) (am_wS_t (am_wS_t hS))) hR hL
  · cases h
theorem s_ior (hd : decode T.2.1 pc = .ok (.ior, 1)) (hn : pc + 1 = n) : am_G E tb P T pc (i_ior n) := by
  subst hn
  refine am_G.ofStep (fun ls st M x h => ?_)
  unfold i_ior at h
  dsimp only at h
  split at h
  · next b a st' =>
    cases h
    refine ⟨_, rfl, Nat.le_refl _, Nat.le_refl _, ?_⟩
    intro p l e R s m args below meth c Q H locs cells slots n0 k0 lsC X hS hR hL _ _ kk
    refine lv_ior X.1 X.2.1 hd ?_
    rw [show Int32.ofInt a ||| Int32.ofInt b = Int32.ofInt (am_or a b) from (Int32.ofInt_toInt _).symm]
    exact kk H locs cells slots lsC (am_wS_c (am_ok_or a b) (am_wS_t (am_wS_t hS))) hR hL
  · cases h
theorem s_ixor (hd : decode T.2.1 pc = .ok (.ixor, 1)) (hn : pc + 1 = n) : am_G E tb P T pc (i_ixor n) := by
  subst hn
  refine am_G.ofStep (fun ls st M x h => ?_)
  unfold i_ixor at h
  dsimp only at h
  split at h
  · next b a st' =>
    cases h
    refine ⟨_, rfl, Nat.le_refl _, Nat.le_refl _, ?_⟩
    intro p l e R s m args below meth c Q H locs cells slots n0 k0 lsC X hS hR hL _ _ kk
    refine lv_ixor X.1 X.2.1 hd ?_
    rw [show Int32.ofInt a ^^^ Int32.ofInt b = Int32.ofInt (am_xor a b) from (Int32.ofInt_toInt _).symm]
    exact kk H locs cells slots lsC (am_wS_c (am_ok_xor a b) (am_wS_t (am_wS_t hS))) hR hL
  · cases h
theorem s_goto {off : Int} (hd : decode T.2.1 pc = .ok (.goto off, 3)) (hn : (pc : Int) + off = (n : Int)) : am_G E tb P T pc (i_goto n) := by
  refine am_G.ofStep (fun ls st M x h => ?_)
  cases h
  refine ⟨_, rfl, Nat.le_refl _, Nat.le_refl _, ?_⟩
  intro p l e R s m args below meth c Q H locs cells slots n0 k0 lsC X hS hR hL _ _ kk
  exact lv_goto X.1 X.2.1 hd hn (kk H locs cells slots lsC hS hR hL)
theorem s_icmp_eq {off : Int} (hd : decode T.2.1 pc = .ok (.if_icmp .eq off, 3)) (ht : (pc : Int) + off = (t : Int)) (hn : pc + 3 = n) : am_G E tb P T pc (i_icmp_eq t n) := by
  subst hn
  refine am_G.ofStep (fun ls st M x h => ?_)
  unfold i_icmp_eq at h
  dsimp only at h
  split at h
  · next b a st' =>
    split at h
    · next hx =>
      cases h
      refine ⟨_, rfl, Nat.le_refl _, Nat.le_refl _, ?_⟩
      intro p l e R s m args below meth c Q H locs cells slots n0 k0 lsC X hS hR hL _ _ kk
      exact lv_icmp_eq X.1 X.2.1 hd ht (fun _ => kk H locs cells slots lsC (am_wS_t (am_wS_t hS)) hR hL) (fun q => absurd ((am_eq (am_wS_h (am_wS_t hS)) (am_wS_h hS)).mpr hx) q)
    · next hx =>
      cases h
      refine ⟨_, rfl, Nat.le_refl _, Nat.le_refl _, ?_⟩
      intro p l e R s m args below meth c Q H locs cells slots n0 k0 lsC X hS hR hL _ _ kk
      exact lv_icmp_eq X.1 X.2.1 hd ht (fun q => absurd ((am_eq (am_wS_h (am_wS_t hS)) (am_wS_h hS)).mp q) hx) (fun _ => kk H locs cells slots lsC (am_wS_t (am_wS_t hS)) hR hL)
  · cases h
theorem s_if_eq {off : Int} (hd : decode T.2.1 pc = .ok (.ifCond .eq off, 3)) (ht : (pc : Int) + off = (t : Int)) (hn : pc + 3 = n) : am_G E tb P T pc (i_if_eq t n) := by
  subst hn
  refine am_G.ofStep (fun ls st M x h => ?_)
  unfold i_if_eq at h
  dsimp only at h
  split at h
  · next a st' =>
    split at h
    · next hx =>
      cases h
      refine ⟨_, rfl, Nat.le_refl _, Nat.le_refl _, ?_⟩
      intro p l e R s m args below meth c Q H locs cells slots n0 k0 lsC X hS hR hL _ _ kk
      exact lv_if_eq X.1 X.2.1 hd ht (fun _ => kk H locs cells slots lsC (am_wS_t hS) hR hL) (fun q => absurd ((am_eq (am_wS_h hS) am_ok0).mpr hx) q)
    · next hx =>
      cases h
      refine ⟨_, rfl, Nat.le_refl _, Nat.le_refl _, ?_⟩
      intro p l e R s m args below meth c Q H locs cells slots n0 k0 lsC X hS hR hL _ _ kk
      exact lv_if_eq X.1 X.2.1 hd ht (fun q => absurd ((am_eq (am_wS_h hS) am_ok0).mp q) hx) (fun _ => kk H locs cells slots lsC (am_wS_t hS) hR hL)
  · cases h
theorem s_icmp_ne {off : Int} (hd : decode T.2.1 pc = .ok (.if_icmp .ne off, 3)) (ht : (pc : Int) + off = (t : Int)) (hn : pc + 3 = n) : am_G E tb P T pc (i_icmp_ne t n) := by
  subst hn
  refine am_G.ofStep (fun ls st M x h => ?_)
  unfold i_icmp_ne at h
  dsimp only at h
  split at h
  · next b a st' =>
    split at h
    · next hx =>
      cases h
      refine ⟨_, rfl, Nat.le_refl _, Nat.le_refl _, ?_⟩
      intro p l e R s m args below meth c Q H locs cells slots n0 k0 lsC X hS hR hL _ _ kk
      exact lv_icmp_ne X.1 X.2.1 hd ht (fun _ => kk H locs cells slots lsC (am_wS_t (am_wS_t hS)) hR hL) (fun q => absurd ((am_eq (am_wS_h (am_wS_t hS)) (am_wS_h hS)).mp q) hx)
    · next hx =>
      cases h
      refine ⟨_, rfl, Nat.le_refl _, Nat.le_refl _, ?_⟩
      intro p l e R s m args below meth c Q H locs cells slots n0 k0 lsC X hS hR hL _ _ kk
      exact lv_icmp_ne X.1 X.2.1 hd ht (fun q => absurd ((am_eq (am_wS_h (am_wS_t hS)) (am_wS_h hS)).mpr (Classical.not_not.mp hx)) q) (fun _ => kk H locs cells slots lsC (am_wS_t (am_wS_t hS)) hR hL)
  · cases h
theorem s_if_ne {off : Int} (hd : decode T.2.1 pc = .ok (.ifCond .ne off, 3)) (ht : (pc : Int) + off = (t : Int)) (hn : pc + 3 = n) : am_G E tb P T pc (i_if_ne t n) := by
  subst hn
  refine am_G.ofStep (fun ls st M x h => ?_)
  unfold i_if_ne at h
  dsimp only at h
  split at h
  · next a st' =>
    split at h
    · next hx =>
      cases h
      refine ⟨_, rfl, Nat.le_refl _, Nat.le_refl _, ?_⟩
      intro p l e R s m args below meth c Q H locs cells slots n0 k0 lsC X hS hR hL _ _ kk
      exact lv_if_ne X.1 X.2.1 hd ht (fun _ => kk H locs cells slots lsC (am_wS_t hS) hR hL) (fun q => absurd ((am_eq (y := 0) (am_wS_h hS) am_ok0).mp q) hx)
    · next hx =>
      cases h
      refine ⟨_, rfl, Nat.le_refl _, Nat.le_refl _, ?_⟩
      intro p l e R s m args below meth c Q H locs cells slots n0 k0 lsC X hS hR hL _ _ kk
      exact lv_if_ne X.1 X.2.1 hd ht (fun q => absurd ((am_eq (y := 0) (am_wS_h hS) am_ok0).mpr (Classical.not_not.mp hx)) q) (fun _ => kk H locs cells slots lsC (am_wS_t hS) hR hL)
  · cases h
theorem s_icmp_lt {off : Int} (hd : decode T.2.1 pc = .ok (.if_icmp .lt off, 3)) (ht : (pc : Int) + off = (t : Int)) (hn : pc + 3 = n) : am_G E tb P T pc (i_icmp_lt t n) := by
  subst hn
  refine am_G.ofStep (fun ls st M x h => ?_)
  unfold i_icmp_lt at h
  dsimp only at h
  split at h
  · next b a st' =>
    split at h
    · next hx =>
      cases h
      refine ⟨_, rfl, Nat.le_refl _, Nat.le_refl _, ?_⟩
      intro p l e R s m args below meth c Q H locs cells slots n0 k0 lsC X hS hR hL _ _ kk
      exact lv_icmp_lt X.1 X.2.1 hd ht (fun _ => kk H locs cells slots lsC (am_wS_t (am_wS_t hS)) hR hL) (fun q => absurd ((am_lt (am_wS_h (am_wS_t hS)) (am_wS_h hS)).mpr hx) q)
    · next hx =>
      cases h
      refine ⟨_, rfl, Nat.le_refl _, Nat.le_refl _, ?_⟩
      intro p l e R s m args below meth c Q H locs cells slots n0 k0 lsC X hS hR hL _ _ kk
      exact lv_icmp_lt X.1 X.2.1 hd ht (fun q => absurd ((am_lt (am_wS_h (am_wS_t hS)) (am_wS_h hS)).mp q) hx) (fun _ => kk H locs cells slots lsC (am_wS_t (am_wS_t hS)) hR hL)
  · cases h
theorem s_if_lt {off : Int} (hd : decode T.2.1 pc = .ok (.ifCond .lt off, 3)) (ht : (pc : Int) + off = (t : Int)) (hn : pc + 3 = n) : am_G E tb P T pc (i_if_lt t n) := by
  subst hn
  refine am_G.ofStep (fun ls st M x h => ?_)
  unfold i_if_lt at h
  dsimp only at h
  split at h
  · next a st' =>
    split at h
    · next hx =>
      cases h
      refine ⟨_, rfl, Nat.le_refl _, Nat.le_refl _, ?_⟩
      intro p l e R s m args below meth c Q H locs cells slots n0 k0 lsC X hS hR hL _ _ kk
      exact lv_if_lt X.1 X.2.1 hd ht (fun _ => kk H locs cells slots lsC (am_wS_t hS) hR hL) (fun q => absurd ((am_lt (am_wS_h hS) am_ok0).mpr hx) q)
    · next hx =>
      cases h
      refine ⟨_, rfl, Nat.le_refl _, Nat.le_refl _, ?_⟩
      intro p l e R s m args below meth c Q H locs cells slots n0 k0 lsC X hS hR hL _ _ kk
      exact lv_if_lt X.1 X.2.1 hd ht (fun q => absurd ((am_lt (am_wS_h hS) am_ok0).mp q) hx) (fun _ => kk H locs cells slots lsC (am_wS_t hS) hR hL)
  · cases h
theorem s_icmp_ge {off : Int} (hd : decode T.2.1 pc = .ok (.if_icmp .ge off, 3)) (ht : (pc : Int) + off = (t : Int)) (hn : pc + 3 = n) : am_G E tb P T pc (i_icmp_ge t n) := by
  subst hn
  refine am_G.ofStep (fun ls st M x h => ?_)
  unfold i_icmp_ge at h
  dsimp only at h
  split at h
  · next b a st' =>
    split at h
    · next hx =>
      cases h
      refine ⟨_, rfl, Nat.le_refl _, Nat.le_refl _, ?_⟩
      intro p l e R s m args below meth c Q H locs cells slots n0 k0 lsC X hS hR hL _ _ kk
      exact lv_icmp_ge X.1 X.2.1 hd ht (fun _ => kk H locs cells slots lsC (am_wS_t (am_wS_t hS)) hR hL) (fun q => absurd ((am_le (am_wS_h hS) (am_wS_h (am_wS_t hS))).mpr hx) q)
    · next hx =>
      cases h
      refine ⟨_, rfl, Nat.le_refl _, Nat.le_refl _, ?_⟩
      intro p l e R s m args below meth c Q H locs cells slots n0 k0 lsC X hS hR hL _ _ kk
      exact lv_icmp_ge X.1 X.2.1 hd ht (fun q => absurd ((am_le (am_wS_h hS) (am_wS_h (am_wS_t hS))).mp q) hx) (fun _ => kk H locs cells slots lsC (am_wS_t (am_wS_t hS)) hR hL)
  · cases h
theorem s_if_ge {off : Int} (hd : decode T.2.1 pc = .ok (.ifCond .ge off, 3)) (ht : (pc : Int) + off = (t : Int)) (hn : pc + 3 = n) : am_G E tb P T pc (i_if_ge t n) := by
  subst hn
  refine am_G.ofStep (fun ls st M x h => ?_)
  unfold i_if_ge at h
  dsimp only at h
  split at h
  · next a st' =>
    split at h
    · next hx =>
      cases h
      refine ⟨_, rfl, Nat.le_refl _, Nat.le_refl _, ?_⟩
      intro p l e R s m args below meth c Q H locs cells slots n0 k0 lsC X hS hR hL _ _ kk
      exact lv_if_ge X.1 X.2.1 hd ht (fun _ => kk H locs cells slots lsC (am_wS_t hS) hR hL) (fun q => absurd ((am_le am_ok0 (am_wS_h hS)).mpr hx) q)
    · next hx =>
      cases h
      refine ⟨_, rfl, Nat.le_refl _, Nat.le_refl _, ?_⟩
      intro p l e R s m args below meth c Q H locs cells slots n0 k0 lsC X hS hR hL _ _ kk
      exact lv_if_ge X.1 X.2.1 hd ht (fun q => absurd ((am_le am_ok0 (am_wS_h hS)).mp q) hx) (fun _ => kk H locs cells slots lsC (am_wS_t hS) hR hL)
  · cases h
theorem s_icmp_gt {off : Int} (hd : decode T.2.1 pc = .ok (.if_icmp .gt off, 3)) (ht : (pc : Int) + off = (t : Int)) (hn : pc + 3 = n) : am_G E tb P T pc (i_icmp_gt t n) := by
  subst hn
  refine am_G.ofStep (fun ls st M x h => ?_)
  unfold i_icmp_gt at h
  dsimp only at h
  split at h
  · next b a st' =>
    split at h
    · next hx =>
      cases h
      refine ⟨_, rfl, Nat.le_refl _, Nat.le_refl _, ?_⟩
      intro p l e R s m args below meth c Q H locs cells slots n0 k0 lsC X hS hR hL _ _ kk
      exact lv_icmp_gt X.1 X.2.1 hd ht (fun _ => kk H locs cells slots lsC (am_wS_t (am_wS_t hS)) hR hL) (fun q => absurd ((am_lt (am_wS_h hS) (am_wS_h (am_wS_t hS))).mpr hx) q)
    · next hx =>
      cases h
      refine ⟨_, rfl, Nat.le_refl _, Nat.le_refl _, ?_⟩
      intro p l e R s m args below meth c Q H locs cells slots n0 k0 lsC X hS hR hL _ _ kk
      exact lv_icmp_gt X.1 X.2.1 hd ht (fun q => absurd ((am_lt (am_wS_h hS) (am_wS_h (am_wS_t hS))).mp q) hx) (fun _ => kk H locs cells slots lsC (am_wS_t (am_wS_t hS)) hR hL)
  · cases h
theorem s_if_gt {off : Int} (hd : decode T.2.1 pc = .ok (.ifCond .gt off, 3)) (ht : (pc : Int) + off = (t : Int)) (hn : pc + 3 = n) : am_G E tb P T pc (i_if_gt t n) := by
  subst hn
  refine am_G.ofStep (fun ls st M x h => ?_)
  unfold i_if_gt at h
  dsimp only at h
  split at h
  · next a st' =>
    split at h
    · next hx =>
      cases h
      refine ⟨_, rfl, Nat.le_refl _, Nat.le_refl _, ?_⟩
      intro p l e R s m args below meth c Q H locs cells slots n0 k0 lsC X hS hR hL _ _ kk
      exact lv_if_gt X.1 X.2.1 hd ht (fun _ => kk H locs cells slots lsC (am_wS_t hS) hR hL) (fun q => absurd ((am_lt am_ok0 (am_wS_h hS)).mpr hx) q)
    · next hx =>
      cases h
      refine ⟨_, rfl, Nat.le_refl _, Nat.le_refl _, ?_⟩
      intro p l e R s m args below meth c Q H locs cells slots n0 k0 lsC X hS hR hL _ _ kk
      exact lv_if_gt X.1 X.2.1 hd ht (fun q => absurd ((am_lt am_ok0 (am_wS_h hS)).mp q) hx) (fun _ => kk H locs cells slots lsC (am_wS_t hS) hR hL)
  · cases h
theorem s_icmp_le {off : Int} (hd : decode T.2.1 pc = .ok (.if_icmp .le off, 3)) (ht : (pc : Int) + off = (t : Int)) (hn : pc + 3 = n) : am_G E tb P T pc (i_icmp_le t n) := by
  subst hn
  refine am_G.ofStep (fun ls st M x h => ?_)
  unfold i_icmp_le at h
  dsimp only at h
  split at h
  · next b a st' =>
    split at h
    · next hx =>
      cases h
      refine ⟨_, rfl, Nat.le_refl _, Nat.le_refl _, ?_⟩
      intro p l e R s m args below meth c Q H locs cells slots n0 k0 lsC X hS hR hL _ _ kk
      exact lv_icmp_le X.1 X.2.1 hd ht (fun _ => kk H locs cells slots lsC (am_wS_t (am_wS_t hS)) hR hL) (fun q => absurd ((am_le (am_wS_h (am_wS_t hS)) (am_wS_h hS)).mpr hx) q)
    · next hx =>
      cases h
      refine ⟨_, rfl, Nat.le_refl _, Nat.le_refl _, ?_⟩
      intro p l e R s m args below meth c Q H locs cells slots n0 k0 lsC X hS hR hL _ _ kk
      exact lv_icmp_le X.1 X.2.1 hd ht (fun q => absurd ((am_le (am_wS_h (am_wS_t hS)) (am_wS_h hS)).mp q) hx) (fun _ => kk H locs cells slots lsC (am_wS_t (am_wS_t hS)) hR hL)
  · cases h
theorem s_if_le {off : Int} (hd : decode T.2.1 pc = .ok (.ifCond .le off, 3)) (ht : (pc : Int) + off = (t : Int)) (hn : pc + 3 = n) : am_G E tb P T pc (i_if_le t n) := by
  subst hn
  refine am_G.ofStep (fun ls st M x h => ?_)
  unfold i_if_le at h
  dsimp only at h
  split at h
  · next a st' =>
    split at h
    · next hx =>
      cases h
      refine ⟨_, rfl, Nat.le_refl _, Nat.le_refl _, ?_⟩
      intro p l e R s m args below meth c Q H locs cells slots n0 k0 lsC X hS hR hL _ _ kk
      exact lv_if_le X.1 X.2.1 hd ht (fun _ => kk H locs cells slots lsC (am_wS_t hS) hR hL) (fun q => absurd ((am_le (am_wS_h hS) am_ok0).mpr hx) q)
    · next hx =>
      cases h
      refine ⟨_, rfl, Nat.le_refl _, Nat.le_refl _, ?_⟩
      intro p l e R s m args below meth c Q H locs cells slots n0 k0 lsC X hS hR hL _ _ kk
      exact lv_if_le X.1 X.2.1 hd ht (fun q => absurd ((am_le (am_wS_h hS) am_ok0).mp q) hx) (fun _ => kk H locs cells slots lsC (am_wS_t hS) hR hL)
  · cases h
theorem s_ifnull {off : Int} (hd : decode T.2.1 pc = .ok (.ifnull off, 3)) (ht : (pc : Int) + off = (t : Int)) (hn : pc + 3 = n) : am_G E tb P T pc (i_ifnull t n) := by
  subst hn
  refine am_G.ofStep (fun ls st M x h => ?_)
  unfold i_ifnull at h
  dsimp only at h
  split at h
  · next st' =>
    cases h
    refine ⟨_, rfl, Nat.le_refl _, Nat.le_refl _, ?_⟩
    intro p l e R s m args below meth c Q H locs cells slots n0 k0 lsC X hS hR hL _ _ kk
    exact lv_ifnullN X.1 X.2.1 hd ht (kk H locs cells slots lsC (am_wS_t hS) hR hL)
  · next a st' =>
    cases h
    refine ⟨_, rfl, Nat.le_refl _, Nat.le_refl _, ?_⟩
    intro p l e R s m args below meth c Q H locs cells slots n0 k0 lsC X hS hR hL _ _ kk
    exact lv_ifnull X.1 X.2.1 hd (kk H locs cells slots lsC (am_wS_t hS) hR hL)
  · cases h
theorem s_ifnonnull {off : Int} (hd : decode T.2.1 pc = .ok (.ifnonnull off, 3)) (ht : (pc : Int) + off = (t : Int)) (hn : pc + 3 = n) : am_G E tb P T pc (i_ifnonnull t n) := by
  subst hn
  refine am_G.ofStep (fun ls st M x h => ?_)
  unfold i_ifnonnull at h
  dsimp only at h
  split at h
  · next st' =>
    cases h
    refine ⟨_, rfl, Nat.le_refl _, Nat.le_refl _, ?_⟩
    intro p l e R s m args below meth c Q H locs cells slots n0 k0 lsC X hS hR hL _ _ kk
    exact lv_ifnonnullN X.1 X.2.1 hd (kk H locs cells slots lsC (am_wS_t hS) hR hL)
  · next a st' =>
    cases h
    refine ⟨_, rfl, Nat.le_refl _, Nat.le_refl _, ?_⟩
    intro p l e R s m args below meth c Q H locs cells slots n0 k0 lsC X hS hR hL _ _ kk
    exact lv_ifnonnull X.1 X.2.1 hd ht (kk H locs cells slots lsC (am_wS_t hS) hR hL)
  · cases h
def am_swc (pc : Nat) : List (Int × Int) → List (Int × Nat) → Bool
  | [], [] => true
  | u :: l, v :: l' => decide (u.1 = v.1) && (decide ((pc : Int) + u.2 = (v.2 : Int)) && am_swc pc l l')
  | _, _ => false
theorem am_swc_ok {pc t0 : Nat} {dflt x : Int} (hd : (pc : Int) + dflt = (t0 : Int)) : ∀ (l : List (Int × Int)) (l' : List (Int × Nat)), am_swc pc l l' = true → (pc : Int) + Op.lookupswitch.offset l dflt x = ((am_lk l' t0 x : Nat) : Int) := by
  intro l
  induction l with
  | nil =>
    intro l' h
    cases l' with
    | nil => exact hd
    | cons v l' => cases h
  | cons u l ih =>
    intro l' h
    cases l' with
    | nil => cases h
    | cons v l' =>
      obtain ⟨a, o⟩ := u
      simp only [am_swc, Bool.and_eq_true, decide_eq_true_eq] at h
      rw [Op.lookupswitch.offset_cons]
      unfold am_lk
      by_cases hx : x = v.1
      · rw [if_pos hx, if_pos (by rw [h.1, hx])]
        exact h.2.1
      · rw [if_neg hx, if_neg (fun q => hx (by rw [← h.1, q]))]
        exact ih l' h.2.2
theorem s_lsw {dflt : Int} {ps : Array (Int × Int)} {len t0 : Nat} {l' : List (Int × Nat)} (hd : decode T.2.1 pc = .ok (.lookupswitch dflt ps, len)) (hp : (ps.toList.zip (ps.toList.drop 1)).all (fun (a, next) => a.1 < next.1) = true) (h0 : (pc : Int) + dflt = (t0 : Int)) (hc : am_swc pc ps.toList l' = true) : am_G E tb P T pc (i_lsw l' t0) := by
  refine am_G.ofStep (fun ls st M x h => ?_)
  unfold i_lsw at h
  dsimp only at h
  split at h
  · next a st' =>
    cases h
    refine ⟨_, rfl, Nat.le_refl _, Nat.le_refl _, ?_⟩
    intro p l e R s m args below meth c Q H locs cells slots n0 k0 lsC X hS hR hL _ _ kk
    refine lv_lookup X.1 X.2.1 hd hp rfl ?_ (kk H locs cells slots lsC (am_wS_t hS) hR hL)
    rw [am_ti (am_wS_h hS)]
    exact am_swc_ok h0 ps.toList l' hc
  · cases h
theorem s_tsw {dflt lo hi : Int} {offs : Array Int} {len t0 : Nat} {ts : List Nat} (hd : decode T.2.1 pc = .ok (.tableswitch dflt lo hi offs, len)) (h0 : (pc : Int) + dflt = (t0 : Int)) (hh : hi + 1 = lo + ts.length) (hc : ∀ i, i < ts.length → ∃ o, offs[i]? = some o ∧ (pc : Int) + o = ((ts.getD i t0 : Nat) : Int)) : am_G E tb P T pc (i_tsw lo ts t0) := by
  refine am_G.ofStep (fun ls st M x h => ?_)
  unfold i_tsw at h
  dsimp only at h
  split at h
  · next a st' =>
    cases h
    refine ⟨_, rfl, Nat.le_refl _, Nat.le_refl _, ?_⟩
    intro p l e R s m args below meth c Q H locs cells slots n0 k0 lsC X hS hR hL _ _ kk
    have k2 := kk H locs cells slots lsC (am_wS_t hS) hR hL
    dsimp only at k2
    have ea := am_ti (am_wS_h hS)
    unfold am_ts at k2
    by_cases hr : lo ≤ a ∧ a < lo + ts.length
    · rw [if_pos hr] at k2
      obtain ⟨o, h1, h2⟩ := hc (a - lo).toNat (by omega)
      exact lv_tableIn X.1 X.2.1 hd (by rw [ea]; omega) (by rw [ea]; omega) (by rw [ea]; exact h1) h2 k2
    · rw [if_neg hr] at k2
      exact lv_tableOut X.1 X.2.1 hd (by rw [ea]; omega) h0 k2
  · cases h
/-- an end -/
theorem am_G.ofRet {f : am_I} (h : ∀ (ls : am_L) (st : List am_V) (M : am_M) (x : am_F ⊕ (am_Y ⊕ (Nat × List am_V × am_F))), f (pc, ls, st, M) = some x → ∃ r, x = .inr (.inl (r, M)) ∧ am_Rt T pc st r) : am_G E tb P T pc f := by
  refine ⟨fun ls st M => ⟨fun q hq => ?_, fun y hy => ?_, fun w hw => ?_⟩, fun ls st M => ⟨fun q hq => ?_, fun y hy => ?_, fun w hw => ?_⟩⟩
  · obtain ⟨r, e1, -⟩ := h ls st M _ hq
    cases e1
  · obtain ⟨r, e1, -⟩ := h ls st M _ hy
    cases e1
    rfl
  · obtain ⟨r, e1, -⟩ := h ls st M _ hw
    cases e1
  · obtain ⟨r, e1, -⟩ := h ls st M _ hq
    cases e1
  · obtain ⟨r, e1, h2⟩ := h ls st M _ hy
    cases e1
    exact h2
  · obtain ⟨r, e1, -⟩ := h ls st M _ hw
    cases e1
theorem s_iret (hd : decode T.2.1 pc = .ok (.ireturn, 1)) (hr : T.2.2.2 = some .int) : am_G E tb P T pc i_iret := by
  refine am_G.ofRet (fun ls st M x h => ?_)
  unfold i_iret at h
  dsimp only at h
  split at h
  · next z =>
    cases h
    exact ⟨_, rfl, Or.inl ⟨hd, z, rfl, rfl, Or.inl hr⟩⟩
  · cases h
theorem s_zret (hd : decode T.2.1 pc = .ok (.ireturn, 1)) (hr : T.2.2.2 = some .boolean) : am_G E tb P T pc i_zret := by
  refine am_G.ofRet (fun ls st M x h => ?_)
  unfold i_zret at h
  dsimp only at h
  split at h
  · next z =>
    split at h
    · next hz =>
      cases h
      exact ⟨_, rfl, Or.inl ⟨hd, z, rfl, rfl, Or.inr ⟨hr, hz⟩⟩⟩
    · cases h
  · cases h
theorem s_aret {rt : FieldType} (hd : decode T.2.1 pc = .ok (.areturn, 1)) (hr : T.2.2.2 = some rt) (ho : (∃ n, rt = .object n) ∨ ∃ t, rt = .array t) : am_G E tb P T pc i_aret := by
  refine am_G.ofRet (fun ls st M x h => ?_)
  unfold i_aret at h
  dsimp only at h
  split at h
  · next v =>
    cases h
    exact ⟨_, rfl, Or.inr (Or.inl ⟨hd, v, rfl, rfl, rt, hr, ho⟩)⟩
  · cases h
theorem s_vret (hd : decode T.2.1 pc = .ok (.return_, 1)) (hr : T.2.2.2 = none) : am_G E tb P T pc i_vret := by
  refine am_G.ofRet (fun ls st M x h => ?_)
  unfold i_vret at h
  dsimp only at h
  split at h
  · cases h
    exact ⟨_, rfl, Or.inr (Or.inr ⟨hd, rfl, rfl, hr⟩)⟩
  · cases h
end AmS
end
section
/-! SOUNDNESS, third part: instructions that read or write the heap -/
theorem am_P1 {D : va_G} {cl : List vw_C} {q : Nat × va_E} {H : Heap} (h : va_at D cl q H) : va_P D cl [q] H := by
  intro k q' hk
  cases k with
  | zero =>
    cases hk
    exact h
  | succ n => simp at hk
theorem am_Re.at {E : am_E} {H0 : Heap} {n0 k0 : Nat} {M : am_M} {H : Heap} {locs : List Loc} {cells slots a : Nat} {c : am_C} (h : am_Re E H0 n0 k0 M H locs cells slots) (hm : M.2.2 a = some c) : 1 ≤ a ∧ va_at (e_D E) (e_cl E) (e_h E + a, am_cE E c) H := h.1.2.2 a c hm
theorem am_Re.up {E : am_E} {H0 : Heap} {n0 k0 : Nat} {M : am_M} {H H' : Heap} {locs : List Loc} {cells slots a i : Nat} {c0 c : am_C} (h : am_Re E H0 n0 k0 M H locs cells slots) (hm : M.2.2 a = some c0) (hw : am_wC c) (hat : va_at (e_D E) (e_cl E) (e_h E + a, am_cE E c) H') (hz : H'.size = H.size) (ho : ∀ q, q ≠ e_h E + a → H'[q]? = H[q]?) : am_Re E H0 n0 k0 (M.1, M.2.1, am_up M.2.2 a c) H' (locs ++ [⟨e_h E + a, i⟩]) cells slots := by
  obtain ⟨⟨z1, z2, z3⟩, w1, c1, c2, l1, f1⟩ := h
  obtain ⟨ha, -⟩ := z3 a c0 hm
  refine ⟨⟨hz.trans z1, z2, fun x u hx => ?_⟩, fun x u hx => ?_, c1, c2, fun x hx => ?_, fun q hq => ?_⟩
  · by_cases hxa : x = a
    · subst hxa
      have e1 : am_up M.2.2 x c x = some u := hx
      rw [am_up_s] at e1
      cases e1
      exact ⟨ha, hat⟩
    · have e1 : am_up M.2.2 a c x = some u := hx
      rw [am_up_n hxa] at e1
      obtain ⟨g1, g2⟩ := z3 x u e1
      exact ⟨g1, g2.kept (ho _ (fun q => hxa (Nat.add_left_cancel q)))⟩
  · by_cases hxa : x = a
    · subst hxa
      have e1 : am_up M.2.2 x c x = some u := hx
      rw [am_up_s] at e1
      cases e1
      exact hw
    · have e1 : am_up M.2.2 a c x = some u := hx
      rw [am_up_n hxa] at e1
      exact w1 x u e1
  · rcases List.mem_append.mp hx with hx | hx
    · exact l1 x hx
    · rw [List.mem_singleton.mp hx]
      show e_h E + 1 ≤ e_h E + a
      omega
  · rw [ho q (by omega)]
    exact f1 q hq
theorem am_Re.mk {E : am_E} {H0 : Heap} {n0 k0 k : Nat} {M : am_M} {H H' : Heap} {locs : List Loc} {cells slots : Nat} {c : am_C} (h : am_Re E H0 n0 k0 M H locs cells slots) (hw : am_wC c) (hat : va_at (e_D E) (e_cl E) (e_h E + M.1, am_cE E c) H') (hz : H'.size = H.size + 1) (ho : ∀ q, q < H.size → H'[q]? = H[q]?) : am_Re E H0 n0 k0 (M.1 + 1, M.2.1 + k, am_up M.2.2 M.1 c) H' locs (cells + 1) (slots + k) := by
  obtain ⟨⟨z1, z2, z3⟩, w1, c1, c2, l1, f1⟩ := h
  refine ⟨⟨by show H'.size = e_h E + (M.1 + 1); omega, by show 1 ≤ M.1 + 1; omega, fun x u hx => ?_⟩, fun x u hx => ?_, by show M.1 + 1 = _; omega, by show M.2.1 + k = _; omega, l1, fun q hq => ?_⟩
  · have e1 : am_up M.2.2 M.1 c x = some u := hx
    by_cases hxa : x = M.1
    · rw [hxa, am_up_s] at e1
      cases e1
      rw [hxa]
      exact ⟨z2, hat⟩
    · rw [am_up_n hxa] at e1
      obtain ⟨g1, g2⟩ := z3 x u e1
      exact ⟨g1, g2.kept (ho _ g2.lt)⟩
  · have e1 : am_up M.2.2 M.1 c x = some u := hx
    by_cases hxa : x = M.1
    · rw [hxa, am_up_s] at e1
      cases e1
      exact hw
    · rw [am_up_n hxa] at e1
      exact w1 x u e1
  · rw [ho q (by omega)]
    exact f1 q hq
theorem am_fit_ok {E : am_E} {b : Nat} {v : am_V} {ty : FieldType} (h : am_fit b v = true) (hb : (b = 0 ∧ ty = .int) ∨ (b = 1 ∧ ty = .boolean) ∨ (b = 2 ∧ ((∃ C, ty = .object C) ∨ ∃ t, ty = .array t))) : narrow ty (am_cv E v) = am_cv E v ∧ fits ty (am_cv E v) = true := by
  rcases hb with ⟨rfl, rfl⟩ | ⟨rfl, rfl⟩ | ⟨rfl, ht⟩
  · rcases v with z | r
    · exact ⟨rfl, rfl⟩
    · cases h
  · rcases v with z | r
    · have hz : z = 0 ∨ z = 1 := by simpa [am_fit] using h
      rcases hz with rfl | rfl
      · exact ⟨show narrow .boolean (.int (Int32.ofInt 0)) = .int (Int32.ofInt 0) by decide, show fits .boolean (.int (Int32.ofInt 0)) = true by decide⟩
      · exact ⟨show narrow .boolean (.int (Int32.ofInt 1)) = .int (Int32.ofInt 1) by decide, show fits .boolean (.int (Int32.ofInt 1)) = true by decide⟩
    · cases h
  · rcases v with z | r
    · cases h
    · rcases ht with ⟨C, rfl⟩ | ⟨t, rfl⟩ <;> cases r <;> exact ⟨rfl, rfl⟩
theorem am_ix {i : Int} {N : Nat} (hi : am_ok i) (h0 : 0 ≤ i) (h1 : i < N) : ¬ (Int32.ofInt i < 0 ∨ N ≤ (Int32.ofInt i).toNatClampNeg) := by
  rw [am_cl hi]
  rintro (h | h)
  · have h2 : i < 0 := (am_lt hi am_ok0).mp h
    omega
  · omega
section AmH
variable {p : Program} {l : Launch} {e : Env} {R : Room} {s : State} {m : MethodId} {args : Array Value} {below : List Frame} {meth : Method} {c : Code} {H : Heap} {locs : List Loc} {cells slots : Nat} {Q : State → Prop}
variable {cc : ByteArray} {pc : Nat} {ls : Array Slot} {rest : List Value} {D : va_G} {cl : List vw_C} {a : Nat}
theorem am_Wput (hexec : p.tables.exec = Jvm.exec) (hb : c.code = cc) {own C : String} {Tf : u_T} {N ci index : Nat} {Ts : List Cond} (hts : ∀ w ∈ Ts, w.before args s = true) (hin : ∀ w ∈ u_ws C Tf N, w ∈ Ts) (ty0 : Nat → FieldType) (hty : ∀ k, k < N → parseFieldDescriptor (Tf k).2.2.1 = some (ty0 k)) (hnm : ∀ a, a < N → ∀ b, b < N → a ≠ b → (Tf a).2.1 ≠ (Tf b).2.1) (hown : s.vm.findClass own = some m.cls) (hK : va_K D cl [] s) {fs : List Value} (hat : va_at D cl (a, .inr (ci, fs)) H) (hc : cl[ci]? = some (C, Tf, N)) (k : Nat) (hk : k < N) (hlink : (Cond.fieldLink own index (Tf k).1 (Tf k).2.1 (Tf k).2.2.1).before args s = true) (hfin : (Tf k).2.2.2 = false ∨ ((Tf k).2.2.2 = true ∧ meth.name = "<init>" ∧ (Tf k).1 = own)) {ty : FieldType} {v : Value} (hd : parseFieldDescriptor (Tf k).2.2.1 = some ty) (hn : narrow ty v = v) (hfit : fits ty v = true) (hl : k < fs.length)
    (hdg : decode cc pc = .ok (.putfield index, 3)) (kk : ∀ (H1 : Heap) (i : Nat), va_at D cl (a, .inr (ci, fs.set k v)) H1 → H1.size = H.size → (∀ q, q ≠ a → H1[q]? = H[q]?) → W p l e R s m args below meth c H1 (locs ++ [⟨a, i⟩]) cells slots Q (F0 m (pc + 3) ls rest)) : W p l e R s m args below meth c H locs cells slots Q (F0 m pc ls (v :: .ref a :: rest)) := by
  have hap := va_apart (own := own) hts hin ty0 hty hnm hK hc
  obtain ⟨r, h1, cell, q1, q2, q3, q4⟩ := hat
  have hr : r = (C, Tf, N) := Option.some.inj (h1.symm.trans hc)
  subst hr
  obtain ⟨hS, hfc, kC, hkC, hkind⟩ := hK.1 ci _ hc
  obtain ⟨cf, kf, fi, f, hi, hsl⟩ := hS k hk
  have hst := (u_facts hfc hkC (u_lays hts hin hk) hi).1
  have fin : ∀ H' : Heap, H'[a]? = some (cell.setSlot f.slot v) → H'.size = H.size → (∀ q, q ≠ a → H'[q]? = H[q]?) → W p l e R s m args below meth c H' (locs ++ [⟨a, f.slot⟩]) cells slots Q (F0 m (pc + 3) ls rest) := by
    intro H' e1 e2 e3
    rw [hsl] at e1 ⊢
    exact kk H' _ ⟨_, hc, t_OB.to (V := updV (vp_V fs) k v) ⟨_, e1, q2, q3, t_set q4 hap hk v⟩ (fun j _ => vp_updV_set hl v j)⟩ e2 e3
  have hlay := hts _ (hin _ (u_in_lay hk))
  unfold u_lay at hlay
  rcases hfin with hfin | ⟨hfin, hin2, hdecl⟩
  · rw [if_neg (by rw [hfin]; decide)] at hlay
    have h6 := u_store hfc hkC hkind hlay hi hd hn hfit
    exact W.putK hexec hb (f := f) ⟨hown, hlink, ⟨_, _, _, hi⟩, hst⟩ (by rw [q2]; exact h6) q1 q3 (by rw [hsl]; exact k2_hasslot (q4 k hk)) rfl rfl hdg fin
  · rw [if_pos hfin] at hlay
    have hcf : m.cls = cf := by
      obtain ⟨_, _, c', _, _, _, -, -, hf', -, -, -, hown2, -⟩ := Cond.laysFinal_spec hlay
      have e1 : c' = cf := by have := hi.symm.trans hf'; simp at this; exact this.1.symm
      rw [hdecl] at hown2
      rw [← e1]; exact Option.some.inj (hown.symm.trans hown2)
    have h6 := u_fits hfc hkC hkind (Or.inr hlay) hi hd hn hfit
    exact W.putFinK hexec hb hown hlink hi hst hcf hin2 (by rw [q2]; exact h6) q1 q3 (by rw [hsl]; exact k2_hasslot (q4 k hk)) rfl rfl hdg fin
end AmH
section AmS2
variable {E : am_E} {tb : Nat → am_T} {P : am_P} {T : am_T} {pc n k t ci b : Nat}
theorem s_get {index N : Nat} {C : String} {Tf : u_T} (hc : (e_cl E)[ci]? = some (C, Tf, N)) (hin : ∀ w ∈ u_ws C Tf N, w ∈ e_Ts E) (hk : k < N) (hw : Cond.fieldLink T.1.cls index (Tf k).1 (Tf k).2.1 (Tf k).2.2.1 ∈ e_Ts E) (hd : decode T.2.1 pc = .ok (.getfield index, 3)) (hn : pc + 3 = n) : am_G E tb P T pc (i_get ci k n) := by
  subst hn
  refine am_G.ofStep (fun ls st M x h => ?_)
  unfold i_get at h
  dsimp only at h
  split at h
  · next a st' =>
    split at h
    · next o hm =>
      split at h
      · next ho =>
        split at h
        · next v hv =>
          cases h
          refine ⟨_, rfl, Nat.le_refl _, Nat.le_refl _, ?_⟩
          intro p l e R s m args below meth c Q H locs cells slots n0 k0 lsC X hS hR hL _ _ kk
          obtain ⟨ha, hat⟩ := hR.at hm
          subst ho
          have hwv : am_wV v := hR.2.1 a _ hm v (List.mem_of_getElem? hv)
          rw [List.map_cons, am_cv_p ha]
          refine va_get (D := e_D E) (cl := e_cl E) (ws := [(e_h E + a, am_cE E (.inl o))]) (tys := []) (ci := o.1) (v := am_cv E v) X.1 X.2.1 X.2.2.2.2.1 hin X.2.2.2.1 X.2.2.2.2.2.1.1 (am_P1 hat) 0 (fs := o.2.map (am_cv E)) rfl hc k hk (X.2.2.2.2.1 _ hw) (fun _ h9 => h9) (by rw [List.getElem?_map, hv]; rfl) hd ?_
          exact kk H locs cells slots lsC (am_wS_c hwv (am_wS_t hS)) hR hL
        · cases h
      · cases h
    · cases h
  · cases h
theorem s_put {index N : Nat} {C : String} {Tf : u_T} {ty : FieldType} (hc : (e_cl E)[ci]? = some (C, Tf, N)) (hin : ∀ w ∈ u_ws C Tf N, w ∈ e_Ts E) (ty0 : Nat → FieldType) (hty : ∀ k, k < N → parseFieldDescriptor (Tf k).2.2.1 = some (ty0 k)) (hnm : ∀ a, a < N → ∀ b, b < N → a ≠ b → (Tf a).2.1 ≠ (Tf b).2.1) (hk : k < N) (hw : Cond.fieldLink T.1.cls index (Tf k).1 (Tf k).2.1 (Tf k).2.2.1 ∈ e_Ts E) (hfin : (Tf k).2.2.2 = false ∨ ((Tf k).2.2.2 = true ∧ T.1.name = "<init>" ∧ (Tf k).1 = T.1.cls)) (hdt : parseFieldDescriptor (Tf k).2.2.1 = some ty) (hb : (b = 0 ∧ ty = .int) ∨ (b = 1 ∧ ty = .boolean) ∨ (b = 2 ∧ ((∃ C, ty = .object C) ∨ ∃ t, ty = .array t))) (hd : decode T.2.1 pc = .ok (.putfield index, 3)) (hn : pc + 3 = n) : am_G E tb P T pc (i_put ci k b n) := by
  subst hn
  refine am_G.ofStep (fun ls st M x h => ?_)
  unfold i_put at h
  dsimp only at h
  split at h
  · next v a st' =>
    split at h
    · next o hm =>
      split at h
      · next ho =>
        cases h
        refine ⟨_, rfl, Nat.le_refl _, Nat.le_refl _, ?_⟩
        intro p l e R s m args below meth c Q H locs cells slots n0 k0 lsC X hS hR hL _ _ kk
        obtain ⟨ha, hat⟩ := hR.at hm
        obtain ⟨ho, hl, hv⟩ := ho
        subst ho
        have hwv : am_wV v := am_wS_h hS
        have hwo : ∀ u ∈ o.2, am_wV u := hR.2.1 a _ hm
        obtain ⟨hnar, hfit⟩ := am_fit_ok (E := E) hv hb
        rw [List.map_cons, List.map_cons, am_cv_p ha]
        refine am_Wput (D := e_D E) (cl := e_cl E) (ci := o.1) X.1 X.2.1 X.2.2.2.2.1 hin ty0 hty hnm X.2.2.2.1 X.2.2.2.2.2.1.1 (fs := o.2.map (am_cv E)) hat hc k hk (X.2.2.2.2.1 _ hw) (by rw [X.2.2.2.2.2.2.1]; exact hfin) hdt hnar hfit (by rw [List.length_map]; exact hl) hd (fun H1 i hat1 hz ho1 => ?_)
        refine kk H1 _ cells slots lsC (am_wS_t (am_wS_t hS)) (hR.up (c := .inl (o.1, o.2.set k v)) hm ?_ ?_ hz ho1) hL
        · intro u hu
          rcases List.mem_or_eq_of_mem_set hu with hu | rfl
          · exact hwo u hu
          · exact hwv
        · show va_at _ _ (_, .inr (o.1, (o.2.set k v).map (am_cv E))) H1
          rw [List.map_set]
          exact hat1
      · cases h
    · cases h
  · cases h
theorem s_iald (hkd : (e_kd E)[t]? = some .int) (hd : decode T.2.1 pc = .ok (.iaload, 1)) (hn : pc + 1 = n) : am_G E tb P T pc (i_iald t n) := by
  subst hn
  refine am_G.ofStep (fun ls st M x h => ?_)
  unfold i_iald at h
  dsimp only at h
  split at h
  · next i a st' =>
    split at h
    · next o hm =>
      split at h
      · next ho =>
        cases h
        refine ⟨_, rfl, Nat.le_refl _, Nat.le_refl _, ?_⟩
        intro p l e R s m args below meth c Q H locs cells slots n0 k0 lsC X hS hR hL _ _ kk
        obtain ⟨ha, hat⟩ := hR.at hm
        obtain ⟨ho, h0, h1⟩ := ho
        subst ho
        have hi : am_ok i := am_wS_h hS
        have hwo : ∀ j, j < o.2.1 → am_ok (o.2.2 j) := hR.2.1 a _ hm
        rw [List.map_cons, List.map_cons, am_cv_p ha]
        refine W.iald (v := .int (Int32.ofInt (o.2.2 i.toNat))) X.1 X.2.1 hat ((X.2.2.2.2.2.1.2.1 _ _ hkd).1 o.2.1 (fun j => .int (Int32.ofInt (o.2.2 j)))) (fun q => by cases q) (by show ¬ (Int32.ofInt i < 0 ∨ (arrV _ _ _).slots.size ≤ _); rw [arrV_size]; exact am_ix hi h0 h1) (by show (arrV _ _ _).slots[_]? = _; rw [am_cl hi, arrV_read _ _ (show i.toNat < o.2.1 by omega)]) rfl rfl hd ?_
        exact kk H locs cells slots lsC (am_wS_c (hwo _ (by omega)) (am_wS_t (am_wS_t hS))) hR hL
      · cases h
    · cases h
  · cases h
theorem s_zald (hkd : (e_kd E)[t]? = some .boolean) (hd : decode T.2.1 pc = .ok (.baload, 1)) (hn : pc + 1 = n) : am_G E tb P T pc (i_iald t n) := by
  subst hn
  refine am_G.ofStep (fun ls st M x h => ?_)
  unfold i_iald at h
  dsimp only at h
  split at h
  · next i a st' =>
    split at h
    · next o hm =>
      split at h
      · next ho =>
        cases h
        refine ⟨_, rfl, Nat.le_refl _, Nat.le_refl _, ?_⟩
        intro p l e R s m args below meth c Q H locs cells slots n0 k0 lsC X hS hR hL _ _ kk
        obtain ⟨ha, hat⟩ := hR.at hm
        obtain ⟨ho, h0, h1⟩ := ho
        subst ho
        have hi : am_ok i := am_wS_h hS
        have hwo : ∀ j, j < o.2.1 → am_ok (o.2.2 j) := hR.2.1 a _ hm
        rw [List.map_cons, List.map_cons, am_cv_p ha]
        refine W.zald (v := .int (Int32.ofInt (o.2.2 i.toNat))) X.1 X.2.1 hat ((X.2.2.2.2.2.1.2.1 _ _ hkd).1 o.2.1 (fun j => .int (Int32.ofInt (o.2.2 j)))) (fun q => by cases q) (by show ¬ (Int32.ofInt i < 0 ∨ (arrV _ _ _).slots.size ≤ _); rw [arrV_size]; exact am_ix hi h0 h1) (by show (arrV _ _ _).slots[_]? = _; rw [am_cl hi, arrV_read _ _ (show i.toNat < o.2.1 by omega)]) rfl rfl hd ?_
        exact kk H locs cells slots lsC (am_wS_c (hwo _ (by omega)) (am_wS_t (am_wS_t hS))) hR hL
      · cases h
    · cases h
  · cases h
theorem am_fu_c (f : Nat → Int) (i : Nat) (z : Int) : (fun j => Value.int (Int32.ofInt (am_fu f i z j))) = updV (fun j => Value.int (Int32.ofInt (f j))) i (.int (Int32.ofInt z)) := by
  funext j
  by_cases hj : j = i
  · simp [am_fu, updV, hj]
  · simp [am_fu, updV, hj]
theorem s_iast (hkd : (e_kd E)[t]? = some .int) (hd : decode T.2.1 pc = .ok (.iastore, 1)) (hn : pc + 1 = n) : am_G E tb P T pc (i_iast t b n) := by
  subst hn
  refine am_G.ofStep (fun ls st M x h => ?_)
  unfold i_iast at h
  dsimp only at h
  split at h
  · next z i a st' =>
    split at h
    · next o hm =>
      split at h
      · next ho =>
        cases h
        refine ⟨_, rfl, Nat.le_refl _, Nat.le_refl _, ?_⟩
        intro p l e R s m args below meth c Q H locs cells slots n0 k0 lsC X hS hR hL _ _ kk
        obtain ⟨ha, hat⟩ := hR.at hm
        obtain ⟨ho, ⟨h0, h1⟩, hv⟩ := ho
        subst ho
        have hi : am_ok i := am_wS_h (am_wS_t hS)
        have hz : am_ok z := am_wS_h hS
        have hwo : ∀ j, j < o.2.1 → am_ok (o.2.2 j) := hR.2.1 a _ hm
        rw [List.map_cons, List.map_cons, List.map_cons, am_cv_p ha]
        refine W.iast X.1 X.2.1 hat ((X.2.2.2.2.2.1.2.1 _ _ hkd).1 o.2.1 (fun j => .int (Int32.ofInt (o.2.2 j)))) (fun q => by cases q) (by show ¬ (Int32.ofInt i < 0 ∨ (arrV _ _ _).slots.size ≤ _); rw [arrV_size]; exact am_ix hi h0 h1) rfl rfl hd (fun H1 e1 hz1 ho1 => ?_)
        refine kk H1 _ cells slots lsC (am_wS_t (am_wS_t (am_wS_t hS))) (hR.up (c := .inr (.inl (o.1, o.2.1, am_fu o.2.2 i.toNat z))) hm ?_ ?_ hz1 ho1) hL
        · intro j hj
          show am_ok (am_fu o.2.2 i.toNat z j)
          unfold am_fu
          split
          · exact hz
          · exact hwo j hj
        · show H1[e_h E + a]? = some (arrV (e_dA E o.1) o.2.1 (fun j => .int (Int32.ofInt (am_fu o.2.2 i.toNat z j))))
          rw [am_fu_c, ← arrV_store, e1, am_cl hi]
          rfl
      · cases h
    · cases h
  · cases h
theorem s_zast (hkd : (e_kd E)[t]? = some .boolean) (hd : decode T.2.1 pc = .ok (.bastore, 1)) (hn : pc + 1 = n) : am_G E tb P T pc (i_iast t 1 n) := by
  subst hn
  refine am_G.ofStep (fun ls st M x h => ?_)
  unfold i_iast at h
  dsimp only at h
  split at h
  · next z i a st' =>
    split at h
    · next o hm =>
      split at h
      · next ho =>
        cases h
        refine ⟨_, rfl, Nat.le_refl _, Nat.le_refl _, ?_⟩
        intro p l e R s m args below meth c Q H locs cells slots n0 k0 lsC X hS hR hL _ _ kk
        obtain ⟨ha, hat⟩ := hR.at hm
        obtain ⟨ho, ⟨h0, h1⟩, hv⟩ := ho
        subst ho
        have hi : am_ok i := am_wS_h (am_wS_t hS)
        have hz : am_ok z := am_wS_h hS
        have hwo : ∀ j, j < o.2.1 → am_ok (o.2.2 j) := hR.2.1 a _ hm
        have hnar : narrow .boolean (.int (Int32.ofInt z)) = .int (Int32.ofInt z) := (am_fit_ok (E := E) (v := .inl z) hv (Or.inr (Or.inl ⟨rfl, rfl⟩))).1
        rw [List.map_cons, List.map_cons, List.map_cons, am_cv_p ha]
        refine W.zast X.1 X.2.1 hat ((X.2.2.2.2.2.1.2.1 _ _ hkd).1 o.2.1 (fun j => .int (Int32.ofInt (o.2.2 j)))) (fun q => by cases q) (by show ¬ (Int32.ofInt i < 0 ∨ (arrV _ _ _).slots.size ≤ _); rw [arrV_size]; exact am_ix hi h0 h1) rfl rfl hd (fun H1 e1 hz1 ho1 => ?_)
        rw [hnar] at e1
        refine kk H1 _ cells slots lsC (am_wS_t (am_wS_t (am_wS_t hS))) (hR.up (c := .inr (.inl (o.1, o.2.1, am_fu o.2.2 i.toNat z))) hm ?_ ?_ hz1 ho1) hL
        · intro j hj
          show am_ok (am_fu o.2.2 i.toNat z j)
          unfold am_fu
          split
          · exact hz
          · exact hwo j hj
        · show H1[e_h E + a]? = some (arrV (e_dA E o.1) o.2.1 (fun j => .int (Int32.ofInt (am_fu o.2.2 i.toNat z j))))
          rw [am_fu_c, ← arrV_store, e1, am_cl hi]
          rfl
      · cases h
    · cases h
  · cases h
theorem s_aald {C : String} (hkd : (e_kd E)[t]? = some (.object C)) (hd : decode T.2.1 pc = .ok (.aaload, 1)) (hn : pc + 1 = n) : am_G E tb P T pc (i_aald t n) := by
  subst hn
  refine am_G.ofStep (fun ls st M x h => ?_)
  unfold i_aald at h
  dsimp only at h
  split at h
  · next i a st' =>
    split at h
    · next o hm =>
      split at h
      · next ho =>
        cases h
        refine ⟨_, rfl, Nat.le_refl _, Nat.le_refl _, ?_⟩
        intro p l e R s m args below meth c Q H locs cells slots n0 k0 lsC X hS hR hL _ _ kk
        obtain ⟨ha, hat⟩ := hR.at hm
        obtain ⟨ho, h0, h1⟩ := ho
        subst ho
        have hi : am_ok i := am_wS_h hS
        rw [List.map_cons, List.map_cons, am_cv_p ha]
        refine W.aald (ty := .object C) (v := am_cv E (.inr (o.2.2 i.toNat))) X.1 X.2.1 hat ((X.2.2.2.2.2.1.2.1 _ _ hkd).1 o.2.1 (fun j => va_rf ((o.2.2 j).map (am_ad E)))) rfl (fun q => by cases q) (by show ¬ (Int32.ofInt i < 0 ∨ (arrV _ _ _).slots.size ≤ _); rw [arrV_size]; exact am_ix hi h0 h1) (by show (arrV _ _ _).slots[_]? = _; rw [am_cl hi, arrV_read _ _ (show i.toNat < o.2.1 by omega)]; rfl) rfl rfl hd ?_
        exact kk H locs cells slots lsC (am_wS_c trivial (am_wS_t (am_wS_t hS))) hR hL
      · cases h
    · cases h
  · cases h
theorem s_aast {q : vw_C} (hkd : (e_kd E)[t]? = some (.object q.1)) (hc : (e_cl E)[ci]? = some q) (hd : decode T.2.1 pc = .ok (.aastore, 1)) (hn : pc + 1 = n) : am_G E tb P T pc (i_aast t ci n) := by
  subst hn
  refine am_G.ofStep (fun ls st M x h => ?_)
  unfold i_aast at h
  dsimp only at h
  split at h
  · next v i a st' =>
    split at h
    · next o u hm hu =>
      split at h
      · next ho =>
        cases h
        refine ⟨_, rfl, Nat.le_refl _, Nat.le_refl _, ?_⟩
        intro p l e R s m args below meth c Q H locs cells slots n0 k0 lsC X hS hR hL _ _ kk
        obtain ⟨ha, hat⟩ := hR.at hm
        obtain ⟨hv, hvt⟩ := hR.at hu
        obtain ⟨ho, ⟨h0, h1⟩, huc⟩ := ho
        subst ho
        subst huc
        have hi : am_ok i := am_wS_h (am_wS_t hS)
        have K := X.2.2.2.2.2.1
        obtain ⟨r', hr', cellV, g1, g2, g3, -⟩ := hvt
        have hcls := (K.1.1 u.1 q hc).2
        obtain ⟨kA, comp, k1, k2, k3, -⟩ := (K.2.1 _ _ hkd).2
        have hcomp : comp = (e_D E).1 u.1 := Option.some.inj (k3.symm.trans hcls.1)
        subst hcomp
        obtain ⟨kC, hkC, -⟩ := hcls.2
        rw [List.map_cons, List.map_cons, List.map_cons, am_cv_p ha, am_cv_p hv]
        refine W.aast X.1 X.2.1 hat (fun q h => by cases h) (fun h => by cases h) k1 k2 rfl hkC ⟨fun h => (am_ix hi h0 h1) (Or.inl h), by show _ < (arrV _ _ _).slots.size; rw [arrV_size, am_cl hi]; exact (show i.toNat < o.2.1 by omega)⟩ g1 (fun q h => by rw [g3] at h; cases h) (by rw [g2]; exact hkC) (by rw [g2]; exact va_assign hcls) rfl rfl hd (fun H1 e1 hz1 ho1 => ?_)
        refine kk H1 _ cells slots lsC (am_wS_t (am_wS_t (am_wS_t hS))) (hR.up (c := .inr (.inr (o.1, o.2.1, am_fu o.2.2 i.toNat (some v)))) hm trivial ?_ hz1 ho1) hL
        show H1[e_h E + a]? = some (arrV (e_dA E o.1) o.2.1 (fun j => va_rf ((am_fu o.2.2 i.toNat (some v) j).map (am_ad E))))
        have ef : (fun j => va_rf ((am_fu o.2.2 i.toNat (some v) j).map (am_ad E))) = updV (fun j => va_rf ((o.2.2 j).map (am_ad E))) i.toNat (.ref (e_h E + v)) := by
          funext j
          by_cases hj : j = i.toNat
          · simp [am_fu, updV, hj, va_rf, am_ad_p hv]
          · simp [am_fu, updV, hj]
        rw [ef, ← arrV_store, e1, am_cl hi]
        rfl
      · cases h
    · cases h
  · cases h
theorem s_alen {ty : FieldType} (hkd : (e_kd E)[t]? = some ty) (hd : decode T.2.1 pc = .ok (.arraylength, 1)) (hn : pc + 1 = n) : am_G E tb P T pc (i_alen t n) := by
  subst hn
  refine am_G.ofStep (fun ls st M x h => ?_)
  unfold i_alen at h
  dsimp only at h
  split at h
  · next a st' =>
    split at h
    · next o hm =>
      split at h
      · next ho =>
        cases h
        refine ⟨_, rfl, Nat.le_refl _, Nat.le_refl _, ?_⟩
        intro p l e R s m args below meth c Q H locs cells slots n0 k0 lsC X hS hR hL _ _ kk
        obtain ⟨ha, hat⟩ := hR.at hm
        obtain ⟨ho, h1⟩ := ho
        subst ho
        rw [List.map_cons, am_cv_p ha]
        refine W.alen (n := Int32.ofInt (o.2.1 : Int)) X.1 X.2.1 hat ((X.2.2.2.2.2.1.2.1 _ _ hkd).1 o.2.1 (fun j => .int (Int32.ofInt (o.2.2 j)))) (by show (arrV _ _ _).slots.size.toInt32 = _; rw [arrV_size]; rfl) rfl rfl hd ?_
        exact kk H locs cells slots lsC (am_wS_c (by show am_ok (o.2.1 : Int); constructor <;> omega) (am_wS_t hS)) hR hL
      · cases h
    · next o hm =>
      split at h
      · next ho =>
        cases h
        refine ⟨_, rfl, Nat.le_refl _, Nat.le_refl _, ?_⟩
        intro p l e R s m args below meth c Q H locs cells slots n0 k0 lsC X hS hR hL _ _ kk
        obtain ⟨ha, hat⟩ := hR.at hm
        obtain ⟨ho, h1⟩ := ho
        subst ho
        rw [List.map_cons, am_cv_p ha]
        refine W.alen (n := Int32.ofInt (o.2.1 : Int)) X.1 X.2.1 hat ((X.2.2.2.2.2.1.2.1 _ _ hkd).1 o.2.1 (fun j => va_rf ((o.2.2 j).map (am_ad E)))) (by show (arrV _ _ _).slots.size.toInt32 = _; rw [arrV_size]; rfl) rfl rfl hd ?_
        exact kk H locs cells slots lsC (am_wS_c (by show am_ok (o.2.1 : Int); constructor <;> omega) (am_wS_t hS)) hR hL
      · cases h
    · cases h
  · cases h
theorem s_new {index N : Nat} {C : String} {Tf : u_T} {fs : List am_V} (hc : (e_cl E)[ci]? = some (C, Tf, N)) (hin : ∀ w ∈ u_ws C Tf N, w ∈ e_Ts E) (ty0 : Nat → FieldType) (hty : ∀ k, k < N → parseFieldDescriptor (Tf k).2.2.1 = some (ty0 k)) (hcl : Cond.classLink T.1.cls index C ∈ e_Ts E) (hins : Cond.instantiable C N ∈ e_Ts E) (hini : Cond.initialized C ∈ e_Ts E) (hl : fs.length = N) (hfs : ∀ j, j < N → defaultValue (ty0 j) = vp_V (fs.map (am_cv E)) j) (hwf : am_wS fs) (hd : decode T.2.1 pc = .ok (.new index, 3)) (hn : pc + 3 = n) : am_G E tb P T pc (i_new ci fs n) := by
  subst hn
  subst hl
  refine am_G.ofStep (fun ls st M x h => ?_)
  cases h
  refine ⟨_, rfl, Nat.le_succ _, Nat.le_add_right _ _, ?_⟩
  intro p l e R s m args below meth c Q H locs cells slots n0 k0 lsC X hS hR hL hb1 hb2 kk
  have hKn := X.2.2.2.2.2.1.1.1 ci _ hc
  have hsz : H.size = e_h E + M.1 := hR.1.1
  have c1 := hR.2.2.1
  have c2 := hR.2.2.2.1
  dsimp only at hb1 hb2
  refine W.newcK X.1 X.2.1 X.2.2.2.1 (X.2.2.2.2.1 _ hcl) (X.2.2.2.2.1 _ hins) (X.2.2.2.2.1 _ hini) rfl hd (by omega) (by omega) hKn.2.1 rfl (fun H1 kC hkC e1 z1 o1 => ?_)
  have hat : va_at (e_D E) (e_cl E) (e_h E + M.1, am_cE E (.inl (ci, fs))) H1 := by
    rw [← hsz]
    exact ⟨_, hc, (u_born ty0 X.2.2.2.2.1 hin hKn hkC e1 hty).to hfs⟩
  have k2 := kk H1 locs (cells + 1) (slots + fs.length) lsC (am_wS_c trivial hS) (hR.mk (c := .inl (ci, fs)) hwf hat z1 o1) hL
  dsimp only at k2
  rw [List.map_cons, am_cv_p hR.1.2.1, ← hsz] at k2
  exact k2
theorem s_newa {at0 : ArrayType} {ty : FieldType} (hat0 : newarray.typeOf at0 = ty) (hkd : (e_kd E)[t]? = some ty) (hp : ty = .int ∨ ty = .boolean) (hw : Cond.arrayClass ty ∈ e_Ts E) (hd : decode T.2.1 pc = .ok (.newarray at0, 2)) (hn : pc + 2 = n) : am_G E tb P T pc (i_newa t n) := by
  subst hn
  refine am_G.ofStep (fun ls st M x h => ?_)
  unfold i_newa at h
  dsimp only at h
  split at h
  · next i st' =>
    split at h
    · next hi0 =>
      cases h
      refine ⟨_, rfl, Nat.le_succ _, Nat.le_add_right _ _, ?_⟩
      intro p l e R s m args below meth c Q H locs cells slots n0 k0 lsC X hS hR hL hb1 hb2 kk
      have hsz : H.size = e_h E + M.1 := hR.1.1
      have c1 := hR.2.2.1
      have c2 := hR.2.2.2.1
      dsimp only at hb1 hb2
      have hi : am_ok i := am_wS_h hS
      subst hat0
      have hcb : componentBytes (newarray.typeOf at0) ≤ 4 := by
        rcases hp with hp | hp <;> rw [hp] <;> decide
      have hbytes : i.toNat * componentBytes (newarray.typeOf at0) ≤ 536870912 := Nat.le_trans (Nat.mul_le_mul (show i.toNat ≤ 100000 by omega) hcb) (by decide)
      have hdv : (fun _ : Nat => defaultValue (newarray.typeOf at0)) = fun _ => Value.int (Int32.ofInt 0) := by
        funext _
        rcases hp with hp | hp <;> rw [hp] <;> rfl
      refine va_newaK X.1 X.2.1 (X.2.2.2.2.1 _ hw) rfl hd rfl (fun q => by have := (am_lt hi am_ok0).mp q; omega) (am_cl hi) hbytes (by omega) (by omega) hsz (fun H1 cA e1 z1 o1 hAr hNm => ?_)
      have hcA : cA = e_dA E t := by
        have h2 := (X.2.2.2.2.2.1.2.1 _ _ hkd).2
        rcases hp with hp | hp
        · rw [hp] at h2 hNm
          exact Option.some.inj (hNm.symm.trans h2)
        · rw [hp] at h2 hNm
          exact Option.some.inj (hNm.symm.trans h2)
      have hat : va_at (e_D E) (e_cl E) (e_h E + M.1, am_cE E (.inr (.inl (t, i.toNat, fun _ => 0)))) H1 := by
        show H1[e_h E + M.1]? = some (arrV (e_dA E t) i.toNat (fun _ => .int (Int32.ofInt 0)))
        rw [e1, hdv, hcA]
      have k2 := kk H1 locs (cells + 1) (slots + i.toNat) lsC (am_wS_c trivial (am_wS_t hS)) (hR.mk (c := .inr (.inl (t, i.toNat, fun _ => 0))) (fun _ _ => am_ok0) hat (by rw [hsz]; exact z1) (by rw [hsz]; exact o1)) hL
      dsimp only at k2
      rw [List.map_cons, am_cv_p hR.1.2.1] at k2
      exact k2
    · cases h
  · cases h
theorem s_anewa {index : Nat} {C : String} (hkd : (e_kd E)[t]? = some (.object C)) (hcl : Cond.classLink T.1.cls index C ∈ e_Ts E) (hov : Cond.arrayOver (.object C) ∈ e_Ts E) (hd : decode T.2.1 pc = .ok (.anewarray index, 3)) (hn : pc + 3 = n) : am_G E tb P T pc (i_anewa t n) := by
  subst hn
  refine am_G.ofStep (fun ls st M x h => ?_)
  unfold i_anewa at h
  dsimp only at h
  split at h
  · next i st' =>
    split at h
    · next hi0 =>
      cases h
      refine ⟨_, rfl, Nat.le_succ _, Nat.le_add_right _ _, ?_⟩
      intro p l e R s m args below meth c Q H locs cells slots n0 k0 lsC X hS hR hL hb1 hb2 kk
      have hsz : H.size = e_h E + M.1 := hR.1.1
      have c1 := hR.2.2.1
      have c2 := hR.2.2.2.1
      dsimp only at hb1 hb2
      have hi : am_ok i := am_wS_h hS
      refine W.anew X.1 X.2.1 X.2.2.2.1 (X.2.2.2.2.1 _ hcl) (X.2.2.2.2.1 _ hov) rfl hd rfl (fun q => by have := (am_lt hi am_ok0).mp q; omega) (by rw [am_cl hi]; omega) (by omega) (by rw [am_cl hi]; omega) (fun cA kA comp h1 h2 h3 h4 => ?_)
      have hcA : cA = e_dA E t := by
        obtain ⟨kA', comp', g1, g2, g3, g4⟩ := (X.2.2.2.2.2.1.2.1 _ _ hkd).2
        exact Option.some.inj (h1.symm.trans g4)
      rw [am_cl hi]
      have hat : va_at (e_D E) (e_cl E) (e_h E + M.1, am_cE E (.inr (.inr (t, i.toNat, fun _ => none)))) (H.push { cls := cA, slots := Array.replicate i.toNat .null, vm := .none }) := by
        show (H.push _)[e_h E + M.1]? = some (arrV (e_dA E t) i.toNat (fun _ => .null))
        rw [← hsz, ← arrV_new, hcA]
        simp
      have k2 := kk _ locs (cells + 1) (slots + i.toNat) lsC (am_wS_c trivial (am_wS_t hS)) (hR.mk (c := .inr (.inr (t, i.toNat, fun _ => none))) trivial hat (by simp) (fun q hq => by rw [Array.getElem?_push, if_neg (Nat.ne_of_lt hq)])) hL
      dsimp only at k2
      rw [List.map_cons, am_cv_p hR.1.2.1, ← hsz] at k2
      exact k2
    · cases h
  · cases h
theorem s_sld {n : Nat} {xs : Nat → Int} (hN : am_nN E) (hxs : ∀ j, xs j = (e_xs E j).toInt) (hd : decode T.2.1 pc = .ok (.iaload, 1)) (hn : pc + 1 = n) : am_G E tb P T pc (i_sld (e_L E) xs n) := by
  subst hn
  refine am_G.ofStep (fun ls st M x h => ?_)
  unfold i_sld at h
  dsimp only at h
  split at h
  · next i st' =>
    split at h
    · next hi0 =>
      cases h
      refine ⟨_, rfl, Nat.le_refl _, Nat.le_refl _, ?_⟩
      intro p l e R s m args below meth c Q H locs cells slots n0 k0 lsC X hS hR hL _ _ kk
      have hi : am_ok i := am_wS_h hS
      obtain ⟨scr, g1, g2, g3, g4, g5⟩ := X.2.2.2.2.2.1.2.2.2
      have hcell : H[e_b E]? = some scr := by rw [hR.2.2.2.2.2 _ hN.1]; exact g1
      have e0 : am_cv E (.inl (xs i.toNat)) = .int (e_xs E i.toNat) := by
        show Value.int (Int32.ofInt (xs i.toNat)) = _
        rw [hxs, Int32.ofInt_toInt]
      refine W.iald (a := e_b E) (v := am_cv E (.inl (xs i.toNat))) X.1 X.2.1 hcell g2 g3 (by rw [g4]; exact am_ix hi hi0.1 hi0.2) (by rw [am_cl hi, g5 _ (by omega), e0]) rfl rfl hd ?_
      exact kk H locs cells slots lsC (am_wS_c (by show am_ok (xs i.toNat); rw [hxs]; exact am_okI _) (am_wS_t (am_wS_t hS))) hR hL
    · cases h
  · cases h
theorem s_slen {n : Nat} (hN : am_nN E) (hL0 : e_L E < 2147483648) (hd : decode T.2.1 pc = .ok (.arraylength, 1)) (hn : pc + 1 = n) : am_G E tb P T pc (i_slen (e_L E) n) := by
  subst hn
  refine am_G.ofStep (fun ls st M x h => ?_)
  unfold i_slen at h
  dsimp only at h
  split at h
  · next st' =>
    cases h
    refine ⟨_, rfl, Nat.le_refl _, Nat.le_refl _, ?_⟩
    intro p l e R s m args below meth c Q H locs cells slots n0 k0 lsC X hS hR hL _ _ kk
    obtain ⟨scr, g1, g2, g3, g4, g5⟩ := X.2.2.2.2.2.1.2.2.2
    have hcell : H[e_b E]? = some scr := by rw [hR.2.2.2.2.2 _ hN.1]; exact g1
    refine W.alen (a := e_b E) (n := Int32.ofInt (e_L E)) X.1 X.2.1 hcell g2 (by rw [g4]; rfl) rfl rfl hd ?_
    exact kk H locs cells slots lsC (am_wS_c (by show am_ok (e_L E); constructor <;> omega) (am_wS_t hS)) hR hL
  · cases h
end AmS2
end
section
/-! SOUNDNESS, fourth part: calls, bodies, contracts -/
theorem am_Pc_b {E : am_E} (hN : am_nN E) {as : List am_V} {M : am_M} : FrameBlind (am_Pc E as M) := by
  intro a U g mk q
  obtain ⟨q1, q2, q3⟩ := q
  exact ⟨q1, q2, am_KK.same (s := U) (U := U.calling g mk a) hN rfl rfl q3⟩
theorem am_Pc_i {E : am_E} (hN : am_nN E) {T : am_T} {p : Program} {s U : State} {m : MethodId} {args : Array Value} {meth : Method} {c : Code} {as : List am_V} {n0 k0 : Nat} {M : am_M} {H : Heap} {locs : List Loc} {cells slots : Nat} (X : am_X E T p s m args meth c) (hR : am_Re E s.heap n0 k0 M H locs cells slots) (hU : U.heap = H) (hW : s.WarmedH U.vm) : am_Pc E as M (as.map (am_cv E)).toArray U :=
  ⟨rfl, by rw [hU]; exact hR.1, X.2.2.2.2.2.1.moved hN hW (by rw [hU]; exact hR.2.2.2.2.2 _ hN.1)⟩
section AmC
variable {p : Program} {l : Launch} {e : Env} {R : Room} {s : State} {m : MethodId} {args : Array Value} {below : List Frame} {meth : Method} {c : Code} {H : Heap} {locs : List Loc} {cells slots : Nat} {Q : State → Prop}
theorem am_after {E : am_E} {y : am_Y} {a : Array Value} {free : Addr → Prop} {mc ms pc : Nat} {ls : Array Slot} {st0 rest : List Value} (hr : va_Run p l e R s m args below meth c H locs cells slots mc ms (F0 m pc ls st0) rest (am_Qc E y a) free)
    (kk : ∀ (H' : Heap) (L : List Loc), (∀ q ∈ L, free q.base) → am_H E y.2 H' → am_wM y.2 → (∀ v, y.1 = some v → am_wV v) → (∀ q : Nat, q ≤ e_h E → H'[q]? = H[q]?) → W p l e R s m args below meth c H' (locs ++ L) (cells + mc) (slots + ms) Q (F0 m (pc + 3) ls ((y.1.map (am_cv E)).toList ++ rest))) : W p l e R s m args below meth c H locs cells slots Q (F0 m pc ls st0) := by
  intro T hT X
  obtain ⟨v, st₀, t, T', L, h0, X', hL, e1, e2, ⟨hv, hH, hw1, hw2, hfr⟩, st⟩ := hr T hT X
  have hv' : v = y.1.map (am_cv E) := by injection hv
  subst hv'
  obtain ⟨t2, a1, b1⟩ := kk T'.heap L hL (by rw [e1]; exact hH) hw1 hw2 (fun q hq => by rw [e1, hfr q hq, h0]) T' rfl X'
  exact ⟨t2, st t2 a1, b1⟩
end AmC
theorem am_Re.call {E : am_E} {H0 : Heap} {n0 k0 : Nat} {M : am_M} {y : am_Y} {H H' : Heap} {locs L : List Loc} {cells slots : Nat} (h : am_Re E H0 n0 k0 M H locs cells slots) (hm : M.1 ≤ y.2.1 ∧ M.2.1 ≤ y.2.2.1) (hL : ∀ q ∈ L, e_h E + 1 ≤ q.base) (hH : am_H E y.2 H') (hw : am_wM y.2) (hf : ∀ q : Nat, q ≤ e_h E → H'[q]? = H[q]?) : am_Re E H0 n0 k0 y.2 H' (locs ++ L) (cells + (y.2.1 - M.1)) (slots + (y.2.2.1 - M.2.1)) := by
  obtain ⟨-, -, c1, c2, l1, f1⟩ := h
  obtain ⟨m1, m2⟩ := hm
  refine ⟨hH, hw, by omega, by omega, fun x hx => ?_, fun q hq => (hf q hq).trans (f1 q hq)⟩
  rcases List.mem_append.mp hx with hx | hx
  · exact l1 x hx
  · exact hL x hx
theorem am_wS_app {a b : List am_V} (h1 : am_wS a) (h2 : am_wS b) : am_wS (a ++ b) := by
  intro v hv
  rcases List.mem_append.mp hv with h | h
  · exact h1 v h
  · exact h2 v h
theorem am_wS_tk {a : List am_V} (k : Nat) (h : am_wS a) : am_wS (a.take k) := fun v hv => h v (List.mem_of_mem_take hv)
theorem am_wS_dr {a : List am_V} (k : Nat) (h : am_wS a) : am_wS (a.drop k) := fun v hv => h v (List.mem_of_mem_drop hv)
theorem am_wS_rv {a : List am_V} (h : am_wS a) : am_wS a.reverse := fun v hv => h v (List.mem_reverse.mp hv)
theorem am_wS_op {r : Option am_V} (h : ∀ v, r = some v → am_wV v) : am_wS r.toList := by
  intro v hv
  cases r with
  | none => cases hv
  | some u =>
    cases List.mem_singleton.mp hv
    exact h _ rfl
theorem am_opm {E : am_E} (r : Option am_V) (st : List am_V) : ((r.toList ++ st).map (am_cv E)) = (r.map (am_cv E)).toList ++ st.map (am_cv E) := by
  cases r <;> simp
theorem am_cats {E : am_E} (st : List am_V) : ((st.map (am_cv E)).map fun v => v.category).sum = st.length := by
  induction st with
  | nil => rfl
  | cons v st ih =>
    rw [List.map_cons, List.map_cons, List.sum_cons, ih, am_cv_c, List.length_cons]
    omega
/-- what is asked of a callee: its words are good, and are among ours -/
def am_TsOk (E : am_E) : Prop := ∀ w ∈ e_Ts E, (w.onTables && w.keeps) = true ∨ ∃ ty, w = .arrayClass ty
theorem am_gin {E : am_E} (h : am_TsOk E) {T' : am_T} (hc : Cond.code T'.1 T'.2.1 T'.2.2.1 T'.2.2.2 ∈ e_Ts E) : GoodIn (e_Ts E) (am_ws E T') := by
  intro w hw
  rcases List.mem_cons.mp hw with rfl | hw
  · exact ⟨hc, h _ hc⟩
  · exact ⟨hw, h w hw⟩
theorem am_split {st : List am_V} {na : Nat} {v : am_V} (h : st[na]? = some v) : st = st.take na ++ v :: st.drop (na + 1) := by
  have hl : na < st.length := (List.getElem?_eq_some_iff.mp h).1
  have e1 : st.drop na = v :: st.drop (na + 1) := by
    rw [List.drop_eq_getElem_cons hl]
    congr 1
    exact (List.getElem?_eq_some_iff.mp h).2
  rw [← e1, List.take_append_drop]
theorem am_taker {st : List am_V} {na : Nat} {v : am_V} (h : st[na]? = some v) : (st.take (na + 1)).reverse = v :: (st.take na).reverse := by
  rw [List.take_succ, h]
  simp
/-- the facts that a call's row wants of its callee -/
def am_Ce (E : am_E) (T T' : am_T) (na : Nat) : Prop := am_nN E ∧ am_TsOk E ∧ Cond.code T'.1 T'.2.1 T'.2.2.1 T'.2.2.2 ∈ e_Ts E ∧ Cond.initialized T'.1.cls ∈ e_Ts E ∧ (T'.1.cls ≠ "java/lang/invoke/MethodHandle" ∧ T'.1.cls ≠ "java/lang/invoke/VarHandle" ∧ (parseMethodDescriptor T'.1.desc).map (fun d => d.parameters.length) = some na) ∧ T'.2.2.1 ≤ 21
theorem am_G.ofCall {E : am_E} {tb : Nat → am_T} {P : am_P} {T : am_T} {pc : Nat} {f : am_I} (h : ∀ (ls : am_L) (st : List am_V) (M : am_M) (x : am_F ⊕ (am_Y ⊕ (Nat × List am_V × am_F))), f (pc, ls, st, M) = some x → ∃ w, x = .inr (.inr w) ∧ w.2.2.2.2.2 = M ∧ w.2.2.2.1 = ls ∧ am_Cl E tb P T pc ls st M w) : am_G E tb P T pc f := by
  refine ⟨fun ls st M => ⟨fun q hq => ?_, fun y hy => ?_, fun w hw => ?_⟩, fun ls st M => ⟨fun q hq => ?_, fun y hy => ?_, fun w hw => ?_⟩⟩
  · obtain ⟨r, e1, -⟩ := h ls st M _ hq
    cases e1
  · obtain ⟨r, e1, -⟩ := h ls st M _ hy
    cases e1
  · obtain ⟨r, e1, h1, h2, -⟩ := h ls st M _ hw
    cases e1
    exact ⟨h1, h2⟩
  · obtain ⟨r, e1, -⟩ := h ls st M _ hq
    cases e1
  · obtain ⟨r, e1, -⟩ := h ls st M _ hy
    cases e1
  · obtain ⟨r, e1, -, -, h3⟩ := h ls st M _ hw
    cases e1
    exact h3
theorem am_call_0 {P : am_P} {k d j : Nat} {as : List am_V} {M : am_M} {y : am_Y} (h : am_call P k d j as M = some y) : 1 ≤ d := by
  cases d with
  | zero => cases h
  | succ d => omega
section AmS3
variable {E : am_E} {tb : Nat → am_T} {P : am_P} {T : am_T} {pc n j na ci index : Nat}
theorem s_callS (hj : 3 ≤ j) (hC : am_Ce E T (tb j) na) (hl : Cond.methodLink T.1.cls index (tb j).1 ∈ e_Ts E) (hs : Cond.static (tb j).1 ∈ e_Ts E) (hd : decode T.2.1 pc = .ok (.invokestatic index, 3)) (hn : pc + 3 = n) : am_G E tb P T pc (i_callS j na n) := by
  subst hn
  refine am_G.ofCall (fun ls st M x h => ?_)
  unfold i_callS at h
  dsimp only at h
  split at h
  · next hlen =>
    cases h
    refine ⟨_, rfl, rfl, rfl, ?_⟩
    intro k d y p l e R s m args below meth c Q H locs cells slots n0 k0 lsC hI hy hm X hS hR hL hf1 hf2 hb1 hb2 kk
    have hd1 := am_call_0 hy
    obtain ⟨hN, hT, hcode, hini, hdd, hml⟩ := hC
    have hM := hI j _ M y hj hy (am_wS_rv (am_wS_tk na hS)) hR.2.1
    have hts := X.2.2.2.2.1
    have c1 := hR.2.2.1
    have c2 := hR.2.2.2.1
    obtain ⟨m1, m2⟩ := hm
    have cw : CallB R s args T.1.cls index (tb j).1 (tb j).2.1 (tb j).2.2.1 (tb j).2.2.2 (am_ws E (tb j)) (am_rm d M y.2) (y.2.1 - M.1) (y.2.2.1 - M.2.1) na := callB_of na hts (am_gin hT hcode) rfl rfl rfl (hts _ hini) (hts _ hl) hdd ⟨by show d - 1 + 1 ≤ R.frames; omega, by show 8 + ((tb j).2.2.1 + 11) + 40 * (d - 1) ≤ R.locals; omega⟩
    have est : st.map (am_cv E) = (((st.take na).reverse.map (am_cv E))).reverse ++ (st.drop na).map (am_cv E) := by
      rw [← List.map_reverse, List.reverse_reverse, ← List.map_append, List.take_append_drop]
    refine am_after (va_runS (As := (st.take na).reverse.map (am_cv E)) (rest := (st.drop na).map (am_cv E)) ⟨X.1, X.2.1, X.2.2.1, X.2.2.2.1, hts⟩ hM ⟨cw, hts _ hs⟩ ⟨am_Pc_b hN, fun U hU hW => am_Pc_i hN X hR hU hW⟩ rfl (by simp; omega) hL.1 est (lv_room (by rw [am_cats, List.length_drop]; omega)) hd ⟨by omega, by omega⟩) (fun H' L hLf hH' hw1 hw2 hfr => ?_)
    have k2 := kk H' _ _ _ (am_wS_app (am_wS_op hw2) (am_wS_dr na hS)) (hR.call ⟨m1, m2⟩ hLf hH' hw1 hfr)
    rw [am_opm] at k2
    exact k2
  · cases h
/-- the row for a receiver: any call that takes one -/
theorem am_vst {st : List am_V} {a : Nat} (h : st[na]? = some (.inr (some a))) (ha : 1 ≤ a) : st.map (am_cv E) = (((st.take na).reverse.map (am_cv E))).reverse ++ .ref (e_h E + a) :: (st.drop (na + 1)).map (am_cv E) := by
  conv => lhs; rw [am_split h]
  rw [← List.map_reverse, List.reverse_reverse, List.map_append, List.map_cons, am_cv_p ha]
theorem s_callV {q : vw_C} (hj : 3 ≤ j) (hC : am_Ce E T (tb j) na) (hc : (e_cl E)[ci]? = some q) (hq : q.1 = (tb j).1.cls) (hl : Cond.methodLink T.1.cls index (tb j).1 ∈ e_Ts E) (hs : Cond.instanceMethod (tb j).1 ∈ e_Ts E) (hse : Cond.selects (tb j).1.cls (tb j).1 (tb j).1 ∈ e_Ts E) (hd : decode T.2.1 pc = .ok (.invokevirtual index, 3)) (hn : pc + 3 = n) : am_G E tb P T pc (i_callV ci j na n) := by
  subst hn
  refine am_G.ofCall (fun ls st M x h => ?_)
  unfold i_callV at h
  dsimp only at h
  split at h
  · next hlen =>
    split at h
    · next a hst =>
      split at h
      · next o hm0 =>
        split at h
        · next ho =>
          cases h
          refine ⟨_, rfl, rfl, rfl, ?_⟩
          intro k d y p l e R s m args below meth c Q H locs cells slots n0 k0 lsC hI hy hm X hS hR hL hf1 hf2 hb1 hb2 kk
          have hd1 := am_call_0 hy
          obtain ⟨hN, hT, hcode, hini, hdd, hml⟩ := hC
          have hM := hI j _ M y hj hy (am_wS_rv (am_wS_tk (na + 1) hS)) hR.2.1
          have hts := X.2.2.2.2.1
          have c1 := hR.2.2.1
          have c2 := hR.2.2.2.1
          obtain ⟨m1, m2⟩ := hm
          subst ho
          obtain ⟨ha, hat⟩ := hR.at hm0
          have hcell : ∃ cellB : Cell, H[e_h E + a]? = some cellB ∧ cellB.vm.isStatics = false ∧ s.vm.findClass (tb j).1.cls = some cellB.cls := by
            rw [← hq]
            exact va_recv (tys := []) X.2.2.2.2.2.1.1 (am_P1 hat) (ci := o.1) (q0 := 0) (fs := o.2.map (am_cv E)) hc rfl
          rw [am_taker hst] at hM hy
          have cw : CallB R s args T.1.cls index (tb j).1 (tb j).2.1 (tb j).2.2.1 (tb j).2.2.2 (am_ws E (tb j)) (am_rm d M y.2) (y.2.1 - M.1) (y.2.2.1 - M.2.1) na := callB_of na hts (am_gin hT hcode) rfl rfl rfl (hts _ hini) (hts _ hl) hdd ⟨by show d - 1 + 1 ≤ R.frames; omega, by show 8 + ((tb j).2.2.1 + 11) + 40 * (d - 1) ≤ R.locals; omega⟩
          have ear : (((Sum.inr (some a) : am_V) :: (st.take na).reverse).map (am_cv E)) = .ref (e_h E + a) :: (st.take na).reverse.map (am_cv E) := by rw [List.map_cons, am_cv_p ha]
          refine am_after (va_runV (b := e_h E + a) (As := (st.take na).reverse.map (am_cv E)) (rest := (st.drop (na + 1)).map (am_cv E)) ⟨X.1, X.2.1, X.2.2.1, X.2.2.2.1, hts⟩ hM ⟨cw, hts _ hs, hts _ hse⟩ ⟨am_Pc_b hN, hcell, fun U hU hW => by rw [← ear]; exact am_Pc_i hN X hR hU hW⟩ rfl (by simp; omega) hL.1 (am_vst hst ha) (lv_room (by rw [am_cats, List.length_drop]; omega)) hd ⟨by omega, by omega⟩) (fun H' L hLf hH' hw1 hw2 hfr => ?_)
          have k2 := kk H' _ _ _ (am_wS_app (am_wS_op hw2) (am_wS_dr (na + 1) hS)) (hR.call ⟨m1, m2⟩ hLf hH' hw1 hfr)
          rw [am_opm] at k2
          exact k2
        · cases h
      · cases h
    · cases h
  · cases h
/-- a new object's own making: of a class of ours, by a link or a nest mate's link -/
theorem s_callI (hj : 3 ≤ j) (hC : am_Ce E T (tb j) na) (hr : (tb j).2.2.2 = none) (hnm : (tb j).1.name = "<init>") {host : String} (hl : Cond.methodLink T.1.cls index (tb j).1 ∈ e_Ts E ∨ Cond.methodLinkNest T.1.cls index (tb j).1 host ∈ e_nw E) (hs : Cond.instanceMethod (tb j).1 ∈ e_Ts E) (hd : decode T.2.1 pc = .ok (.invokespecial index, 3)) (hn : pc + 3 = n) : am_G E tb P T pc (i_callI j na n) := by
  subst hn
  refine am_G.ofCall (fun ls st M x h => ?_)
  unfold i_callI at h
  dsimp only at h
  split at h
  · next hlen =>
    split at h
    · next a hst =>
      cases h
      refine ⟨_, rfl, rfl, rfl, ?_⟩
      intro k d y p l e R s m args below meth c Q H locs cells slots n0 k0 lsC hI hy hm X hS hR hL hf1 hf2 hb1 hb2 kk
      have hd1 := am_call_0 hy
      obtain ⟨hN, hT, hcode, hini, hdd, hml⟩ := hC
      have hM := hI j _ M y hj hy (am_wS_rv (am_wS_tk (na + 1) hS)) hR.2.1
      have hts := X.2.2.2.2.1
      have c1 := hR.2.2.1
      have c2 := hR.2.2.2.1
      obtain ⟨m1, m2⟩ := hm
      rw [am_taker hst] at hM hy
      have est : st.map (am_cv E) = (((st.take na).reverse.map (am_cv E))).reverse ++ .ref (am_ad E a) :: (st.drop (na + 1)).map (am_cv E) := by
        conv => lhs; rw [am_split hst]
        rw [← List.map_reverse, List.reverse_reverse, List.map_append, List.map_cons]
        rfl
      have ear : (((Sum.inr (some a) : am_V) :: (st.take na).reverse).map (am_cv E)) = .ref (am_ad E a) :: (st.take na).reverse.map (am_cv E) := by rw [List.map_cons]; rfl
      have hP : PreS s H (am_Pc E (.inr (some a) :: (st.take na).reverse) M) (.ref (am_ad E a) :: (st.take na).reverse.map (am_cv E)) := ⟨am_Pc_b hN, fun U hU hW => by rw [← ear]; exact am_Pc_i hN X hR hU hW⟩
      have hRm : (am_rm d M y.2).frames + 1 ≤ R.frames ∧ 8 + ((tb j).2.2.1 + 11) + (am_rm d M y.2).locals ≤ R.locals := ⟨by show d - 1 + 1 ≤ R.frames; omega, by show 8 + ((tb j).2.2.1 + 11) + 40 * (d - 1) ≤ R.locals; omega⟩
      have hgo : va_Run p l e R s m args below meth c H locs cells slots (y.2.1 - M.1) (y.2.2.1 - M.2.1) (F0 m pc lsC (st.map (am_cv E))) ((st.drop (na + 1)).map (am_cv E)) (am_Qc E y (Value.ref (am_ad E a) :: (st.take na).reverse.map (am_cv E)).toArray) (fun q => e_h E + 1 ≤ q) := by
        rcases hl with hl | hl
        · have cw : CallB R s args T.1.cls index (tb j).1 (tb j).2.1 (tb j).2.2.1 (tb j).2.2.2 (am_ws E (tb j)) (am_rm d M y.2) (y.2.1 - M.1) (y.2.2.1 - M.2.1) na := callB_of na hts (am_gin hT hcode) rfl rfl rfl (hts _ hini) (hts _ hl) hdd hRm
          rw [hr] at cw
          exact va_runI (b := am_ad E a) (As := (st.take na).reverse.map (am_cv E)) (rest := (st.drop (na + 1)).map (am_cv E)) ⟨X.1, X.2.1, X.2.2.1, X.2.2.2.1, hts⟩ hM ⟨cw, hnm, hts _ hs⟩ hP rfl (by simp; omega) hL.1 est (lv_room (by rw [am_cats, List.length_drop]; omega)) hd ⟨by omega, by omega⟩
        · have cw : va_CN R s args T.1.cls index (tb j).1 host (tb j).2.1 (tb j).2.2.1 (tb j).2.2.2 (am_ws E (tb j)) (am_rm d M y.2) (y.2.1 - M.1) (y.2.2.1 - M.2.1) na := va_cnB na hts (am_gin hT hcode) rfl rfl rfl (X.2.2.2.2.2.1.2.2.1 _ hl) (hts _ hini) hdd hRm
          rw [hr] at cw
          exact va_runIN (b := am_ad E a) (As := (st.take na).reverse.map (am_cv E)) (rest := (st.drop (na + 1)).map (am_cv E)) ⟨X.1, X.2.1, X.2.2.1, X.2.2.2.1, hts⟩ hM ⟨cw, hnm, hts _ hs⟩ hP rfl (by simp; omega) hL.1 est (lv_room (by rw [am_cats, List.length_drop]; omega)) hd ⟨by omega, by omega⟩
      refine am_after hgo (fun H' L hLf hH' hw1 hw2 hfr => ?_)
      have k2 := kk H' _ _ _ (am_wS_app (am_wS_op hw2) (am_wS_dr (na + 1) hS)) (hR.call ⟨m1, m2⟩ hLf hH' hw1 hfr)
      rw [am_opm] at k2
      exact k2
    · cases h
  · cases h
end AmS3
/-- number 0: Object's own making; numbers 1 and 2: max and min -/
def am_P0 (P : am_P) : Prop := P 0 = (1, am_at [(0, i_vret)]) ∧ P 1 = (2, am_at [(0, i_max)]) ∧ P 2 = (2, am_at [(0, i_min)])
theorem am_call0 {P : am_P} (h : am_P0 P) {k d : Nat} {v : am_V} {M : am_M} {y : am_Y} (hy : am_call P k d 0 [v] M = some y) : y = (none, M) := by
  cases d with
  | zero => cases hy
  | succ d =>
    rw [am_call_s, h.1, if_pos (Nat.le_of_ble_eq_true rfl)] at hy
    cases k with
    | zero => cases hy
    | succ k =>
      rw [am_run_s] at hy
      cases hy
      rfl
theorem am_call1 {P : am_P} (h : am_P0 P) {k d : Nat} {a b : Int} {M : am_M} {y : am_Y} (hy : am_call P k d 1 [.inl a, .inl b] M = some y) : y = (some (.inl (if a < b then b else a)), M) := by
  cases d with
  | zero => cases hy
  | succ d =>
    rw [am_call_s, h.2.1, if_pos (Nat.le_of_ble_eq_true rfl)] at hy
    cases k with
    | zero => cases hy
    | succ k =>
      rw [am_run_s] at hy
      cases hy
      rfl
theorem am_call2 {P : am_P} (h : am_P0 P) {k d : Nat} {a b : Int} {M : am_M} {y : am_Y} (hy : am_call P k d 2 [.inl a, .inl b] M = some y) : y = (some (.inl (if b < a then b else a)), M) := by
  cases d with
  | zero => cases hy
  | succ d =>
    rw [am_call_s, h.2.2, if_pos (Nat.le_of_ble_eq_true rfl)] at hy
    cases k with
    | zero => cases hy
    | succ k =>
      rw [am_run_s] at hy
      cases hy
      rfl
/-- the two one-step methods take two numbers -/
def i_call2 (j n : Nat) : am_I := fun q => match q.2.2.1 with
  | .inl b :: .inl a :: st => if st.length ≤ 8 then some (.inr (.inr (j, [.inl a, .inl b], n, q.2.1, st, q.2.2.2))) else none
  | _ => none
theorem x_call2 {P : am_P} {d pc n j : Nat} {code : Nat → am_I} {ls : am_L} {st : List am_V} {M : am_M} {Q : Option am_V → am_M → Prop} {a b : Int} (hc : code pc = i_call2 j n) (h8 : st.length ≤ 8) (h : am_Wp P d j [.inl a, .inl b] M (fun r M' => am_Ex P d code (n, ls, r.toList ++ st, M') Q)) : am_Ex P d code (pc, ls, .inl b :: .inl a :: st, M) Q :=
  x_callw (w := (j, [.inl a, .inl b], n, ls, st, M)) (by show code pc _ = _; rw [hc]; simp [i_call2, h8]) h
theorem am_wmax {P : am_P} (h : am_P0 P) (d : Nat) {a b : Int} {M : am_M} {Q : Option am_V → am_M → Prop} (hQ : Q (some (.inl (if a < b then b else a))) M) : am_Wp P (d + 1) 1 [.inl a, .inl b] M Q := am_wp h.2.1 (Nat.le_of_ble_eq_true rfl) (x_max (pc := 0) rfl hQ)
theorem am_wmin {P : am_P} (h : am_P0 P) (d : Nat) {a b : Int} {M : am_M} {Q : Option am_V → am_M → Prop} (hQ : Q (some (.inl (if b < a then b else a))) M) : am_Wp P (d + 1) 2 [.inl a, .inl b] M Q := am_wp h.2.2 (Nat.le_of_ble_eq_true rfl) (x_min (pc := 0) rfl hQ)
theorem am_wobj {P : am_P} (h : am_P0 P) (d : Nat) {v : am_V} {M : am_M} {Q : Option am_V → am_M → Prop} (hQ : Q none M) : am_Wp P (d + 1) 0 [v] M Q := am_wp h.1 (Nat.le_refl 1) (x_vret (pc := 0) rfl hQ)
section AmS4
variable {E : am_E} {tb : Nat → am_T} {P : am_P} {T : am_T} {pc n j na ci index : Nat}
theorem s_obj (hP : am_P0 P) (hl : Cond.methodLink T.1.cls index Lib.objectInit ∈ e_Ts E) (hi : Cond.instanceMethod Lib.objectInit ∈ e_Ts E) (hcd : Cond.code Lib.objectInit ⟨#[0xb1]⟩ 1 none ∈ e_Ts E) (hd : decode T.2.1 pc = .ok (.invokespecial index, 3)) (hn : pc + 3 = n) : am_G E tb P T pc (i_callI 0 0 n) := by
  subst hn
  refine am_G.ofCall (fun ls st M x h => ?_)
  unfold i_callI at h
  dsimp only at h
  split at h
  · next hlen =>
    split at h
    · next a hst =>
      cases h
      refine ⟨_, rfl, rfl, rfl, ?_⟩
      intro k d y p l e R s m args below meth c Q H locs cells slots n0 k0 lsC hI hy hm X hS hR hL hf1 hf2 hb1 hb2 kk
      have hd1 := am_call_0 hy
      have hts := X.2.2.2.2.1
      obtain ⟨v, st', rfl⟩ : ∃ v st', st = v :: st' := by
        cases st with
        | nil => simp at hst
        | cons v st' => exact ⟨v, st', rfl⟩
      have hv : v = .inr (some a) := by simpa using hst
      subst hv
      have hy2 : y = (none, M) := am_call0 hP hy
      subst hy2
      have hls : st'.length ≤ 8 := by simp at hlen; omega
      have k2 := kk H locs cells slots (am_wS_t hS) hR
      refine W.objInit X.1 X.2.1 X.2.2.2.1 (hts _ hl) (hts _ hi) (hts _ hcd) (a := am_ad E a) (rest := st'.map (am_cv E)) rfl (by rw [X.2.2.1]; exact hL.1) rfl hd (by omega) (by show 2 * 0 + _ + 12 ≤ _; rw [am_cats]; omega) ?_
      exact k2
    · cases h
  · cases h
theorem s_max (hP : am_P0 P) (hl : Cond.methodLink T.1.cls index Lib.Math.max.name ∈ e_Ts E) (hs : Cond.static Lib.Math.max.name ∈ e_Ts E) (hi : Cond.initialized "java/lang/Math" ∈ e_Ts E) (hcd : Cond.code Lib.Math.max.name Lib.Math.max.code 2 (some .int) ∈ e_Ts E) (hd : decode T.2.1 pc = .ok (.invokestatic index, 3)) (hn : pc + 3 = n) : am_G E tb P T pc (i_call2 1 n) := by
  subst hn
  refine am_G.ofCall (fun ls st M x h => ?_)
  unfold i_call2 at h
  dsimp only at h
  split at h
  · next b a st' =>
    split at h
    · next hls =>
      cases h
      refine ⟨_, rfl, rfl, rfl, ?_⟩
      intro k d y p l e R s m args below meth c Q H locs cells slots n0 k0 lsC hI hy hm X hS hR hL hf1 hf2 hb1 hb2 kk
      have hd1 := am_call_0 hy
      have hts := X.2.2.2.2.1
      have hy2 : y = (some (.inl (if a < b then b else a)), M) := am_call1 hP hy
      subst hy2
      have hb : am_ok b := am_wS_h hS
      have ha : am_ok a := am_wS_h (am_wS_t hS)
      have c1 := hR.2.2.1
      have c2 := hR.2.2.2.1
      dsimp only at hb1 hb2
      have k2 := kk H locs cells slots (am_wS_c (by show am_ok (if a < b then b else a); split <;> assumption) (am_wS_t (am_wS_t hS))) hR
      refine va_mmax X.1 X.2.1 (by rw [X.2.2.1]; exact hL.1.symm) X.2.2.2.1 (hts _ hl) (hts _ hs) (hts _ hi) (hts _ hcd) (by omega) (by rw [am_cats]; omega) (by omega) (by omega) hd ?_
      have e1 : (if Int32.ofInt a < Int32.ofInt b then Int32.ofInt b else Int32.ofInt a) = Int32.ofInt (if a < b then b else a) := by
        by_cases hab : a < b
        · rw [if_pos hab, if_pos ((am_lt ha hb).mpr hab)]
        · rw [if_neg hab, if_neg (fun q => hab ((am_lt ha hb).mp q))]
      rw [e1]
      exact k2
    · cases h
  · cases h
theorem s_min (hP : am_P0 P) (hl : Cond.methodLink T.1.cls index Lib.Math.min.name ∈ e_Ts E) (hs : Cond.static Lib.Math.min.name ∈ e_Ts E) (hi : Cond.initialized "java/lang/Math" ∈ e_Ts E) (hcd : Cond.code Lib.Math.min.name Lib.Math.min.code 2 (some .int) ∈ e_Ts E) (hd : decode T.2.1 pc = .ok (.invokestatic index, 3)) (hn : pc + 3 = n) : am_G E tb P T pc (i_call2 2 n) := by
  subst hn
  refine am_G.ofCall (fun ls st M x h => ?_)
  unfold i_call2 at h
  dsimp only at h
  split at h
  · next b a st' =>
    split at h
    · next hls =>
      cases h
      refine ⟨_, rfl, rfl, rfl, ?_⟩
      intro k d y p l e R s m args below meth c Q H locs cells slots n0 k0 lsC hI hy hm X hS hR hL hf1 hf2 hb1 hb2 kk
      have hd1 := am_call_0 hy
      have hts := X.2.2.2.2.1
      have hy2 : y = (some (.inl (if b < a then b else a)), M) := am_call2 hP hy
      subst hy2
      have hb : am_ok b := am_wS_h hS
      have ha : am_ok a := am_wS_h (am_wS_t hS)
      have c1 := hR.2.2.1
      have c2 := hR.2.2.2.1
      dsimp only at hb1 hb2
      have k2 := kk H locs cells slots (am_wS_c (by show am_ok (if b < a then b else a); split <;> assumption) (am_wS_t (am_wS_t hS))) hR
      refine va_mmin X.1 X.2.1 (by rw [X.2.2.1]; exact hL.1.symm) X.2.2.2.1 (hts _ hl) (hts _ hs) (hts _ hi) (hts _ hcd) (by omega) (by rw [am_cats]; omega) (by omega) (by omega) hd ?_
      have e1 : (if Int32.ofInt b < Int32.ofInt a then Int32.ofInt b else Int32.ofInt a) = Int32.ofInt (if b < a then b else a) := by
        by_cases hab : b < a
        · rw [if_pos hab, if_pos ((am_lt hb ha).mpr hab)]
        · rw [if_neg hab, if_neg (fun q => hab ((am_lt hb ha).mp q))]
      rw [e1]
      exact k2
    · cases h
  · cases h
end AmS4
-- what runs make only grows
theorem am_run_mo {c : am_K} {code : Nat → am_I} (hG : ∀ pc, am_Mo pc (code pc)) (hc : ∀ j as M y, c j as M = some y → M.1 ≤ y.2.1 ∧ M.2.1 ≤ y.2.2.1) : ∀ (k : Nat) (q : am_F) (y : am_Y), am_run c code k q = some y → q.2.2.2.1 ≤ y.2.1 ∧ q.2.2.2.2.1 ≤ y.2.2.1 := by
  intro k
  induction k with
  | zero => intro q y h; cases h
  | succ k ih =>
    intro q y h
    rw [am_run_s] at h
    obtain ⟨h1, h2, h3⟩ := hG q.1 q.2.1 q.2.2.1 q.2.2.2
    cases hx : code q.1 q with
    | none => rw [hx] at h; cases h
    | some x =>
      rw [hx] at h
      rcases x with q' | y' | w
      · have g := h1 q' hx
        have g2 := ih q' y h
        exact ⟨Nat.le_trans g.1 g2.1, Nat.le_trans g.2 g2.2⟩
      · have g : y' = y := Option.some.inj h
        have g2 := h2 y' hx
        rw [← g, g2]
        exact ⟨Nat.le_refl _, Nat.le_refl _⟩
      · cases hr : c w.1 w.2.1 w.2.2.2.2.2 with
        | none => simp only [am_nx, hr] at h; cases h
        | some z =>
          rw [am_nx_c _ _ w hr] at h
          have g0 := hc _ _ _ _ hr
          rw [(h3 w hx).1] at g0
          have g2 := ih _ y h
          exact ⟨Nat.le_trans g0.1 g2.1, Nat.le_trans g0.2 g2.2⟩
theorem am_call_mo {P : am_P} (hG : ∀ j pc, am_Mo pc ((P j).2 pc)) : ∀ (d k j : Nat) (as : List am_V) (M : am_M) (y : am_Y), am_call P k d j as M = some y → M.1 ≤ y.2.1 ∧ M.2.1 ≤ y.2.2.1 := by
  intro d
  induction d with
  | zero => intro k j as M y h; cases h
  | succ d ih =>
    intro k j as M y h
    rw [am_call_s] at h
    by_cases hn : as.length ≤ (P j).1
    · rw [if_pos hn] at h
      exact am_run_mo (hG j) (ih k) k _ y h
    · rw [if_neg hn] at h
      cases h
/-- A BODY: a run of the abstract machine is a run of the machine -/
theorem am_body {E : am_E} {tb : Nat → am_T} {P : am_P} {T : am_T} {code : Nat → am_I} (hG : ∀ pc, am_G E tb P T pc (code pc)) {l : Launch} {kc d : Nat} (hI : am_IH E tb P l kc d) (hMo : ∀ j as M y, am_call P kc d j as M = some y → M.1 ≤ y.2.1 ∧ M.2.1 ≤ y.2.2.1)
    {p : Program} {e : Env} {R : Room} {s : State} {m : MethodId} {args : Array Value} {below : List Frame} {meth : Method} {c : Code} {Q : State → Prop} {n0 k0 : Nat} (X : am_X E T p s m args meth c) (hf1 : d ≤ R.frames) (hf2 : 40 * d ≤ R.locals) (y : am_Y) (hb1 : y.2.1 ≤ n0 + R.cells) (hb2 : y.2.2.1 ≤ k0 + R.slots)
    (hend : ∀ (pc : Nat) (st : List am_V) (H : Heap) (locs : List Loc) (cells slots : Nat) (lsC : Array Slot), am_Rt T pc st y.1 → am_wS st → am_Re E s.heap n0 k0 y.2 H locs cells slots → W p l e R s m args below meth c H locs cells slots Q (F0 m pc lsC (st.map (am_cv E)))) :
    ∀ (k : Nat) (q : am_F), am_run (am_call P kc d) code k q = some y → ∀ (H : Heap) (locs : List Loc) (cells slots : Nat) (lsC : Array Slot), am_wS q.2.2.1 → am_Re E s.heap n0 k0 q.2.2.2 H locs cells slots → am_Lr E T.2.2.1 q.2.1 lsC → W p l e R s m args below meth c H locs cells slots Q (F0 m q.1 lsC (q.2.2.1.map (am_cv E))) := by
  intro k
  induction k with
  | zero => intro q h; cases h
  | succ k ih =>
    intro q h H locs cells slots lsC hS hR hL
    rw [am_run_s] at h
    obtain ⟨g1, g2, g3⟩ := (hG q.1).2 q.2.1 q.2.2.1 q.2.2.2
    cases hx : code q.1 q with
    | none => rw [hx] at h; cases h
    | some x =>
      rw [hx] at h
      rcases x with q' | y' | w
      · have hm := am_run_mo (fun pc => (hG pc).1) hMo k q' y h
        exact g1 q' hx p l e R s m args below meth c Q H locs cells slots n0 k0 lsC X hS hR hL (Nat.le_trans hm.1 hb1) (Nat.le_trans hm.2 hb2) (fun H' locs' cells' slots' lsC' hS' hR' hL' => ih q' h H' locs' cells' slots' lsC' hS' hR' hL')
      · have e1 : y' = y := Option.some.inj h
        have e2 := ((hG q.1).1 q.2.1 q.2.2.1 q.2.2.2).2.1 y' hx
        rw [e1] at e2
        have hrt := g2 y' hx
        rw [e1] at hrt
        refine hend q.1 q.2.2.1 H locs cells slots lsC hrt hS ?_
        rw [e2]
        exact hR
      · have e3 := ((hG q.1).1 q.2.1 q.2.2.1 q.2.2.2).2.2 w hx
        cases hr : am_call P kc d w.1 w.2.1 w.2.2.2.2.2 with
        | none => simp only [am_nx, hr] at h; cases h
        | some z =>
          rw [am_nx_c _ _ w hr] at h
          rw [e3.1] at hr
          have hm := am_run_mo (fun pc => (hG pc).1) hMo k _ y h
          exact g3 w hx kc d z p l e R s m args below meth c Q H locs cells slots n0 k0 lsC hI hr (hMo _ _ _ _ hr) X hS hR hL hf1 hf2 (Nat.le_trans hm.1 hb1) (Nat.le_trans hm.2 hb2) (fun H' locs' cells' slots' hS' hR' => ih _ h H' locs' cells' slots' lsC hS' hR' (by rw [e3.2]; exact hL))
theorem am_ent_lr {E : am_E} {nL : Nat} {as : List am_V} (hn : as.length ≤ nL) (hw : am_wS as) : am_Lr E nL (am_ent nL as) (((as.map (am_cv E)).map Slot.val ++ List.replicate (nL - (as.map (am_cv E)).length) Slot.unset).toArray) := by
  have key : ∀ (i : Nat) (z : Slot), (((as.map (am_cv E)).map Slot.val ++ List.replicate (nL - (as.map (am_cv E)).length) Slot.unset).toArray)[i]? = some z → (∃ v, as[i]? = some v ∧ z = .val (am_cv E v)) ∨ z = .unset := by
    intro i z hz
    rw [List.getElem?_toArray] at hz
    by_cases hi : i < as.length
    · rw [List.getElem?_append_left (by simpa using hi)] at hz
      simp only [List.getElem?_map] at hz
      cases hv : as[i]? with
      | none => rw [hv] at hz; cases hz
      | some v =>
        rw [hv] at hz
        cases hz
        exact Or.inl ⟨v, rfl, rfl⟩
    · rw [List.getElem?_append_right (by simpa using hi)] at hz
      exact Or.inr (List.eq_of_mem_replicate (List.mem_of_getElem? hz))
  refine ⟨by simp; omega, ⟨fun i v hv hc => ?_, fun i hi => ?_⟩, by simp [am_ent]; omega, fun i v hv => ?_⟩
  · rcases key i _ hv with ⟨u, -, hu⟩ | hu
    · cases hu
      rw [am_cv_c] at hc
      cases hc
    · cases hu
  · rcases key i _ hi with ⟨u, -, hu⟩ | hu
    · cases hu
    · cases hu
  · have hi : as[i]? = some v := by
      unfold am_ent at hv
      by_cases hi : i < as.length
      · rw [List.getElem?_append_left (by simpa using hi), List.getElem?_map] at hv
        cases hu : as[i]? with
        | none => rw [hu] at hv; cases hv
        | some u =>
          rw [hu] at hv
          cases hv
          rfl
      · rw [List.getElem?_append_right (by simpa using hi)] at hv
        have := List.eq_of_mem_replicate (List.mem_of_getElem? hv)
        cases this
    refine ⟨?_, hw v (List.mem_of_getElem? hi)⟩
    have hlt := (List.getElem?_eq_some_iff.mp hi).1
    rw [List.getElem?_toArray, List.getElem?_append_left (by simpa using hlt)]
    simp [hi]
/-- A METHOD: its contract, from the contracts of what it calls -/
theorem am_met {E : am_E} {tb : Nat → am_T} {P : am_P} {j : Nat} {code : Nat → am_I} (hN : am_nN E) (hT : am_TsOk E) (hP : P j = ((tb j).2.2.1, code)) (hpl : plainName (tb j).1.cls = true) (hcode : Cond.code (tb j).1 (tb j).2.1 (tb j).2.2.1 (tb j).2.2.2 ∈ e_Ts E) (hG : ∀ pc, am_G E tb P (tb j) pc (code pc)) (hMo : ∀ j pc, am_Mo pc ((P j).2 pc)) {l : Launch} {k d : Nat} (hI : am_IH E tb P l k d) {as : List am_V} {M : am_M} {y : am_Y} (hy : am_call P k (d + 1) j as M = some y) (hwS : am_wS as) (hwM : am_wM M) :
    Met l (tb j).1 (am_ws E (tb j)) (am_rm (d + 1) M y.2) (am_Pc E as M) (am_Qc E y) (y.2.1 - M.1) (y.2.2.1 - M.2.1) (fun q => e_h E + 1 ≤ q) := by
  have hmo := am_call_mo hMo (d + 1) k j as M y hy
  rw [am_call_s, hP] at hy
  by_cases hn : as.length ≤ (tb j).2.2.1
  · rw [if_pos hn] at hy
    refine Met.ofW (cc := (tb j).2.1) (maxL := (tb j).2.2.1) (ret := (tb j).2.2.2) hpl rfl ?_
    intro p e s m args below meth c s₁ B hml hv
    obtain ⟨rfl, hH, hK⟩ := hv
    have hts0 := atoms_spec (ws := am_ws E (tb j)) B.pre
    have X : am_X E (tb j) p s m (as.map (am_cv E)).toArray meth c := ⟨B.exec, B.bytes, hml, findClass_of_methodNamed B.named, fun w hw => hts0 w (List.mem_cons_of_mem _ hw), hK, (name_of_methodNamed B.named B.method).1, B.returns, B.notSynchronized⟩
    have hR : am_Re E s.heap M.1 M.2.1 M s.heap [] 0 0 := ⟨hH, hwM, rfl, rfl, fun x hx => (by cases hx), fun q _ => rfl⟩
    rw [entry_eq m (as.map (am_cv E)) (fun v hv => by obtain ⟨u, -, rfl⟩ := List.mem_map.mp hv; exact am_cv_c E u)]
    refine am_body (Q := MQ below (am_Qc E y) (as.map (am_cv E)).toArray s (y.2.1 - M.1) (y.2.2.1 - M.2.1) (fun q => e_h E + 1 ≤ q)) hG hI (am_call_mo hMo d k) X (R := am_rm (d + 1) M y.2) (Nat.le_refl d) (Nat.le_refl _) y (n0 := M.1) (k0 := M.2.1) (by show y.2.1 ≤ M.1 + (y.2.1 - M.1); omega) (by show y.2.2.1 ≤ M.2.1 + (y.2.2.1 - M.2.1); omega) ?_ k (0, am_ent (tb j).2.2.1 as, [], M) hy s.heap [] 0 0 _ (fun v hv => by cases hv) hR (am_ent_lr hn hwS)
    intro pc st H locs cells slots lsC hrt hS hRe
    have e1 : cells = y.2.1 - M.1 := by have := hRe.2.2.1; omega
    have e2 : slots = y.2.2.1 - M.2.1 := by have := hRe.2.2.2.1; omega
    subst e1; subst e2
    have hq : ∀ t : State, t.heap = H → s.WarmedH t.vm → (∀ v, y.1 = some v → am_wV v) → am_Qc E y (as.map (am_cv E)).toArray s (.returned (y.1.map (am_cv E))) t := fun t ht _ hw => ⟨rfl, by rw [ht]; exact hRe.1, hRe.2.1, hw, fun q hq => by rw [ht]; exact hRe.2.2.2.2.2 q hq⟩
    have hlocks : meth.locks = false := B.notSynchronized
    rcases hrt with ⟨hd, z, rfl, hr, ht⟩ | ⟨hd, v, rfl, hr, rt, ht, ho⟩ | ⟨hd, rfl, hr, ht⟩
    · have hw : ∀ v, y.1 = some v → am_wV v := fun v hv => by rw [hr] at hv; cases hv; exact am_wS_h hS
      have hq2 : ∀ t : State, t.heap = H → s.WarmedH t.vm → am_Qc E y (as.map (am_cv E)).toArray s (.returned (some (.int (Int32.ofInt z)))) t := fun t h1 h2 => by have := hq t h1 h2 hw; rw [hr] at this; exact this
      rcases ht with ht | ⟨ht, hz⟩
      · exact W.iret B.exec B.bytes (B.returns.trans ht) hq2 hRe.2.2.2.2.1 hd hlocks
      · refine W.zret B.exec B.bytes (B.returns.trans ht) ?_ hq2 hRe.2.2.2.2.1 hd hlocks
        rcases hz with rfl | rfl <;> decide
    · have hw : ∀ v, y.1 = some v → am_wV v := fun v hv => by rw [hr] at hv; cases hv; exact trivial
      refine W.aret (v := am_cv E (.inr v)) B.exec B.bytes (B.returns.trans ht) ho ?_ (fun t h1 h2 => by have := hq t h1 h2 hw; rw [hr] at this; exact this) hRe.2.2.2.2.1 hd hlocks
      cases v with
      | none => exact Or.inl rfl
      | some a => exact Or.inr ⟨_, rfl⟩
    · have hw : ∀ v, y.1 = some v → am_wV v := fun v hv => by rw [hr] at hv; cases hv
      exact W.vret B.exec B.bytes (B.returns.trans ht) (fun t h1 h2 => by have := hq t h1 h2 hw; rw [hr] at this; exact this) hRe.2.2.2.2.1 hd hlocks
  · rw [if_neg hn] at hy
    cases hy
/-- ALL METHODS of a program, at every depth -/
def am_Prog (E : am_E) (tb : Nat → am_T) (P : am_P) (J : Nat) : Prop :=
  am_nN E ∧ am_TsOk E ∧ am_P0 P ∧ (∀ j, 3 ≤ j → j < J → (P j).1 = (tb j).2.2.1 ∧ plainName (tb j).1.cls = true ∧ Cond.code (tb j).1 (tb j).2.1 (tb j).2.2.1 (tb j).2.2.2 ∈ e_Ts E ∧ ∀ pc, am_G E tb P (tb j) pc ((P j).2 pc)) ∧ ∀ j, J ≤ j → ∀ pc, (P j).2 pc = i_fail
theorem am_Mo_at : ∀ (l : List (Nat × am_I)), (∀ q ∈ l, am_Mo q.1 q.2) → ∀ pc, am_Mo pc (am_at l pc) := by
  intro l
  induction l with
  | nil => intro _ pc ls st M; exact ⟨fun q h => (by cases h), fun y h => (by cases h), fun w h => (by cases h)⟩
  | cons q l ih =>
    intro h pc
    unfold am_at
    by_cases hp : pc = q.1
    · rw [if_pos hp, hp]
      exact h q List.mem_cons_self
    · rw [if_neg hp]
      exact ih (fun u hu => h u (List.mem_cons_of_mem _ hu)) pc
theorem am_Mo_v : am_Mo 0 i_vret := by
  intro ls st M
  refine ⟨fun q h => ?_, fun y h => ?_, fun w h => ?_⟩ <;> unfold i_vret at h <;> dsimp only at h <;> split at h <;> cases h
  rfl
theorem am_Mo_max : am_Mo 0 i_max := by
  intro ls st M
  refine ⟨fun q h => ?_, fun y h => ?_, fun w h => ?_⟩ <;> unfold i_max at h <;> dsimp only at h <;> split at h <;> cases h
  rfl
theorem am_Mo_min : am_Mo 0 i_min := by
  intro ls st M
  refine ⟨fun q h => ?_, fun y h => ?_, fun w h => ?_⟩ <;> unfold i_min at h <;> dsimp only at h <;> split at h <;> cases h
  rfl
theorem am_Prog.mo {E : am_E} {tb : Nat → am_T} {P : am_P} {J : Nat} (h : am_Prog E tb P J) : ∀ j pc, am_Mo pc ((P j).2 pc) := by
  intro j pc
  obtain ⟨-, -, h0, h1, h2⟩ := h
  by_cases hj : 3 ≤ j
  · by_cases hJ : j < J
    · exact ((h1 j hj hJ).2.2.2 pc).1
    · rw [h2 j (by omega) pc]
      intro ls st M
      exact ⟨fun q h => (by cases h), fun y h => (by cases h), fun w h => (by cases h)⟩
  · rcases (show j = 0 ∨ j = 1 ∨ j = 2 by omega) with rfl | rfl | rfl
    · rw [h0.1]
      exact am_Mo_at _ (fun q hq => by cases List.mem_singleton.mp hq; exact am_Mo_v) pc
    · rw [h0.2.1]
      exact am_Mo_at _ (fun q hq => by cases List.mem_singleton.mp hq; exact am_Mo_max) pc
    · rw [h0.2.2]
      exact am_Mo_at _ (fun q hq => by cases List.mem_singleton.mp hq; exact am_Mo_min) pc
theorem am_run_fail {c : am_K} {code : Nat → am_I} (h : ∀ pc, code pc = i_fail) (k : Nat) (q : am_F) : am_run c code k q = none := by
  cases k with
  | zero => rfl
  | succ k =>
    rw [am_run_s, h]
    rfl
theorem am_sound {E : am_E} {tb : Nat → am_T} {P : am_P} {J : Nat} (h : am_Prog E tb P J) (l : Launch) (k : Nat) : ∀ d, am_IH E tb P l k d := by
  intro d
  induction d with
  | zero => intro j as M y _ hy; cases hy
  | succ d ih =>
    intro j as M y hj hy hwS hwM
    have hMo := h.mo
    obtain ⟨hN, hT, -, h1, h2⟩ := h
    by_cases hJ : j < J
    · obtain ⟨e1, hpl, hcode, hG⟩ := h1 j hj hJ
      exact am_met (code := (P j).2) hN hT (by rw [← e1]) hpl hcode hG hMo ih hy hwS hwM
    · rw [am_call_s] at hy
      by_cases hn : as.length ≤ (P j).1
      · rw [if_pos hn, am_run_fail (h2 j (by omega))] at hy
        cases hy
      · rw [if_neg hn] at hy
        cases hy
end
