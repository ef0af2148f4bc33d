/-! the reference: is the criterion good? -/
def pa (op : Int) : Nat := if op < 6 then 0 else if op = 6 then 1 else 2
def rd : Nat → List Nat → List Nat
  | 0, [] => []
  | 0, c :: st => rd (c - 1) st
  | k + 1, st => (k + 1) :: st
def gr (tk : List mv_Q) : Nat → Nat → List Nat → Bool
  | 0, _, st => decide (st = [])
  | r + 1, i, st => if (0 < i ∧ st = []) ∨ 5 < st.length then false else gr tk r (i + 1) (rd (pa (mg tk i).1) st)
theorem rd_le : ∀ (st : List Nat) (x : Nat), (rd x st).length ≤ st.length + 1 := by
  intro st
  induction st with
  | nil =>
    intro x
    cases x with
    | zero => exact Nat.zero_le _
    | succ x => exact Nat.le_refl _
  | cons c st ih =>
    intro x
    cases x with
    | zero =>
      have := ih (c - 1)
      show (rd (c - 1) st).length ≤ (c :: st).length + 1
      rw [List.length_cons]
      omega
    | succ x => exact Nat.le_refl _
theorem rd_s (k : Nat) (st : List Nat) : rd (k + 1) st = (k + 1) :: st := by cases st <;> rfl
theorem rd_02 (st : List Nat) : rd 0 (2 :: st) = 1 :: st := rd_s 0 st
theorem pa_le (op : Int) : pa op ≤ 2 := by
  unfold pa
  split
  · omega
  · split <;> omega
theorem rd_pos : ∀ (st : List Nat) (x : Nat), x ≤ 2 → (∀ c, c ∈ st → 1 ≤ c ∧ c ≤ 2) → ∀ c, c ∈ rd x st → 1 ≤ c ∧ c ≤ 2 := by
  intro st
  induction st with
  | nil =>
    intro x hx h c hc
    cases x with
    | zero => cases hc
    | succ x =>
      have hc : c ∈ [x + 1] := hc
      rw [List.mem_singleton] at hc
      omega
  | cons y st ih =>
    intro x hx h c hc
    cases x with
    | zero => exact ih (y - 1) (by have := h y (List.mem_cons_self ..); omega) (fun z hz => h z (List.mem_cons_of_mem _ hz)) c hc
    | succ x =>
      have hc : c ∈ (x + 1) :: y :: st := hc
      rw [List.mem_cons] at hc
      rcases hc with hc | hc
      · omega
      · exact h c hc
theorem eX_in {F : Nat → mv_V} {n k : Nat} {j : Int} (hj : j = (k : Int)) (hk : k < n) : eX F n j = (F k).1 := by
  unfold eX
  rw [if_pos (by omega), hj]
  rfl
theorem dX_in {F : Nat → mv_V} {n k : Nat} {j : Int} (hj : j = (k : Int)) (hk : k < n) : dX F n j = (F k).2 := by
  unfold dX
  rw [if_pos (by omega), hj]
  rfl
theorem eX_out {F : Nat → mv_V} {n : Nat} {j : Int} (hj : (n : Int) ≤ j) : eX F n j = 15 := by
  unfold eX
  rw [if_neg (by omega)]
theorem gr_sub (tk : List mv_Q) (h14 : tk.length ≤ 14) : ∀ (b r i : Nat) (st : List Nat), r ≤ b → i + r = tk.length → 0 < r → (0 < i → st ≠ []) → gr tk r i st = if (ed tk i).1 ≤ tk.length ∧ (ed tk i).2 + st.length ≤ 5 then gr tk (tk.length - (ed tk i).1.toNat) (ed tk i).1.toNat (rd 0 st) else false := by
  intro b
  induction b with
  | zero => intro r i st hb hi hr; omega
  | succ b ih =>
    intro r i st hb hi hr hst
    obtain ⟨r, rfl⟩ : ∃ r', r = r' + 1 := ⟨r - 1, by omega⟩
    have hlt : i < tk.length := by omega
    have hrec := ed_rec tk h14 hlt
    have hin := ed_in tk h14 hlt
    have hstep : gr tk (r + 1) i st = if 5 < st.length then false else gr tk r (i + 1) (rd (pa (mg tk i).1) st) := by
      show (if (0 < i ∧ st = []) ∨ 5 < st.length then false else gr tk r (i + 1) (rd (pa (mg tk i).1) st)) = _
      by_cases h5 : 5 < st.length
      · rw [if_pos (Or.inr h5), if_pos h5]
      · rw [if_neg (fun q => q.elim (fun q => hst q.1 q.2) h5), if_neg h5]
    rw [hstep]
    by_cases h6 : (mg tk i).1 < 6
    · have e : ed tk i = ((i : Int) + 1, 0) := by
        rw [hrec]
        unfold mM
        rw [if_pos h6]
      have ep : pa (mg tk i).1 = 0 := by
        unfold pa
        rw [if_pos h6]
      rw [e, ep]
      simp only
      by_cases h5 : 5 < st.length
      · rw [if_pos h5, if_neg (by omega)]
      · rw [if_neg h5, if_pos (by omega), show ((i : Int) + 1).toNat = i + 1 by omega, show tk.length - (i + 1) = r by omega]
    · by_cases h6' : (mg tk i).1 = 6
      · have e : ed tk i = (eX (ed tk) tk.length (i + 1), 1 + dX (ed tk) tk.length (i + 1)) := by
          rw [hrec]
          unfold mM
          rw [if_neg h6, if_pos h6']
        have ep : pa (mg tk i).1 = 1 := by
          unfold pa
          rw [if_neg h6, if_pos h6']
        rw [ep]
        rw [show rd 1 st = 1 :: st from rd_s 0 st]
        by_cases hr0 : r = 0
        · have e1 : eX (ed tk) tk.length ((i : Int) + 1) = 15 := eX_out (by omega)
          rw [e, e1]
          simp only
          rw [if_neg (show ¬ ((15 : Int) ≤ tk.length ∧ _) by omega), hr0]
          split <;> rfl
        · have e1 : eX (ed tk) tk.length ((i : Int) + 1) = (ed tk (i + 1)).1 := eX_in (k := i + 1) (by omega) (by omega)
          have e2 : dX (ed tk) tk.length ((i : Int) + 1) = (ed tk (i + 1)).2 := dX_in (k := i + 1) (by omega) (by omega)
          have hin1 := ed_in tk h14 (show i + 1 < tk.length by omega)
          rw [ih r (i + 1) (1 :: st) (by omega) (by omega) (by omega) (fun _ q => by cases q), e, e1, e2]
          simp only [List.length_cons]
          by_cases h5 : 5 < st.length
          · rw [if_pos h5, if_neg (by omega)]
          · rw [if_neg h5]
            by_cases hv : (ed tk (i + 1)).1 ≤ tk.length ∧ (ed tk (i + 1)).2 + ((st.length + 1 : Nat) : Int) ≤ 5
            · rw [if_pos hv, if_pos (by omega)]
              rfl
            · rw [if_neg hv, if_neg (by omega)]
      · have e : ed tk i = (eX (ed tk) tk.length (eX (ed tk) tk.length (i + 1)), 1 + (if dX (ed tk) tk.length (i + 1) < dX (ed tk) tk.length (eX (ed tk) tk.length (i + 1)) then dX (ed tk) tk.length (eX (ed tk) tk.length (i + 1)) else dX (ed tk) tk.length (i + 1))) := by
          rw [hrec]
          unfold mM
          rw [if_neg h6, if_neg h6']
        have ep : pa (mg tk i).1 = 2 := by
          unfold pa
          rw [if_neg h6, if_neg h6']
        rw [ep]
        rw [show rd 2 st = 2 :: st from rd_s 1 st]
        by_cases hr0 : r = 0
        · have e1 : eX (ed tk) tk.length ((i : Int) + 1) = 15 := eX_out (by omega)
          have e2 : eX (ed tk) tk.length 15 = 15 := eX_out (by omega)
          rw [e, e1, e2]
          simp only
          rw [if_neg (show ¬ ((15 : Int) ≤ tk.length ∧ _) by omega), hr0]
          split <;> rfl
        · have e1 : eX (ed tk) tk.length ((i : Int) + 1) = (ed tk (i + 1)).1 := eX_in (k := i + 1) (by omega) (by omega)
          have e2 : dX (ed tk) tk.length ((i : Int) + 1) = (ed tk (i + 1)).2 := dX_in (k := i + 1) (by omega) (by omega)
          have hin1 := ed_in tk h14 (show i + 1 < tk.length by omega)
          rw [ih r (i + 1) (2 :: st) (by omega) (by omega) (by omega) (fun _ q => by cases q), e, e1, e2]
          simp only [List.length_cons]
          by_cases hE : (ed tk (i + 1)).1 < tk.length
          · have e3 : eX (ed tk) tk.length (ed tk (i + 1)).1 = (ed tk (ed tk (i + 1)).1.toNat).1 := eX_in (by omega) (by omega)
            have e4 : dX (ed tk) tk.length (ed tk (i + 1)).1 = (ed tk (ed tk (i + 1)).1.toNat).2 := dX_in (by omega) (by omega)
            have hin2 := ed_in tk h14 (show (ed tk (i + 1)).1.toNat < tk.length by omega)
            rw [e3, e4]
            have e5 := ih (tk.length - (ed tk (i + 1)).1.toNat) (ed tk (i + 1)).1.toNat (1 :: st) (by omega) (by omega) (by omega) (fun _ q => by cases q)
            simp only [List.length_cons] at e5
            by_cases h5 : 5 < st.length
            · rw [if_pos h5, if_neg]
              split <;> omega
            · rw [if_neg h5]
              by_cases hv : (ed tk (i + 1)).1 ≤ tk.length ∧ (ed tk (i + 1)).2 + ((st.length + 1 : Nat) : Int) ≤ 5
              · rw [if_pos hv]
                rw [rd_02, e5]
                by_cases hv2 : (ed tk (ed tk (i + 1)).1.toNat).1 ≤ tk.length ∧ (ed tk (ed tk (i + 1)).1.toNat).2 + ((st.length + 1 : Nat) : Int) ≤ 5
                · rw [if_pos hv2, if_pos]
                  · rfl
                  · split <;> omega
                · rw [if_neg hv2, if_neg]
                  split <;> omega
              · rw [if_neg hv, if_neg]
                split <;> omega
          · have e3 : eX (ed tk) tk.length (ed tk (i + 1)).1 = 15 := eX_out (by omega)
            rw [e3]
            rw [if_neg (show ¬ ((15 : Int) ≤ tk.length ∧ _) by omega)]
            by_cases h5 : 5 < st.length
            · rw [if_pos h5]
            · rw [if_neg h5]
              by_cases hv : (ed tk (i + 1)).1 ≤ tk.length ∧ (ed tk (i + 1)).2 + ((st.length + 1 : Nat) : Int) ≤ 5
              · rw [if_pos hv, rd_02, show tk.length - (ed tk (i + 1)).1.toNat = 0 by omega]
                rfl
              · rw [if_neg hv]
theorem gr_gd (tk : List mv_Q) (h14 : tk.length ≤ 14) : (0 < tk.length ∧ gr tk tk.length 0 [] = true) ↔ gd tk := by
  by_cases h0 : 0 < tk.length
  · have hin := ed_in tk h14 h0
    rw [gr_sub tk h14 tk.length tk.length 0 [] (Nat.le_refl _) (by omega) h0 (fun q => by omega)]
    constructor
    · rintro ⟨-, h⟩
      by_cases hv : (ed tk 0).1 ≤ tk.length ∧ (ed tk 0).2 + (([] : List Nat).length : Int) ≤ 5
      · rw [if_pos hv] at h
        have hv2 := hv.2
        simp only [List.length_nil] at hv2
        refine ⟨h0, ?_, by omega⟩
        by_cases he : (ed tk 0).1 = tk.length
        · exact he
        · exfalso
          obtain ⟨r, hr⟩ : ∃ r', tk.length - (ed tk 0).1.toNat = r' + 1 := ⟨tk.length - (ed tk 0).1.toNat - 1, by omega⟩
          rw [hr] at h
          have h : (if (0 < (ed tk 0).1.toNat ∧ rd 0 [] = []) ∨ 5 < (rd 0 []).length then false else gr tk r ((ed tk 0).1.toNat + 1) (rd (pa (mg tk (ed tk 0).1.toNat).1) (rd 0 []))) = true := h
          rw [if_pos (Or.inl ⟨by omega, rfl⟩)] at h
          cases h
      · rw [if_neg hv] at h
        cases h
    · rintro ⟨-, h1, h2⟩
      refine ⟨h0, ?_⟩
      rw [if_pos ⟨by omega, by simp only [List.length_nil]; omega⟩, show tk.length - (ed tk 0).1.toNat = 0 by omega]
      rfl
  · constructor
    · rintro ⟨h, -⟩
      exact absurd h h0
    · rintro ⟨h, -⟩
      exact absurd h h0
def sg (f : Nat → Int) : List Nat → Prop
  | [] => True
  | c :: st => f st.length = (c : Int) ∧ sg f st
theorem sg_up {f : Nat → Int} {k : Nat} {z : Int} : ∀ st : List Nat, sg f st → st.length ≤ k → sg (am_fu f k z) st := by
  intro st
  induction st with
  | nil => intro _ _; trivial
  | cons c st ih =>
    intro h hk
    rw [List.length_cons] at hk
    exact ⟨by rw [am_fu_n (by omega)]; exact h.1, ih h.2 (by omega)⟩
section R11
variable {d nn ss : Nat} {μ0 μ μ' : Nat → Option am_C} {Q : Option am_V → am_M → Prop} {g g' : Nat → Nat → Int} {c e f : Int} {tk : List mv_Q}
theorem c_M_parts {i : Nat} {op t : Int} (h : mR μ0 μ g c e t f) (hi : i < 14) (ho : g 13 (3 * i) = op) (hQ : Q (some (.inl (pa op : Nat))) (nn, ss, μ)) : am_Wp mv_P (d + 1) jM_parts [.inr (some 50), .inl i] (nn, ss, μ) Q := by
  unfold pa at hQ
  refine am_wp pM_parts (Nat.le_of_ble_eq_true rfl) ?_
  refine x_aload rfl rfl ?_
  refine x_get rfl h.o rfl ?_
  refine x_const rfl ?_
  refine x_iload rfl rfl ?_
  refine x_imul rfl ⟨by omega, by omega⟩ ?_
  refine x_rd (j := 3 * i) rfl h.a13 (by omega) (by omega) (ho) ?_
  refine x_istore rfl (Nat.le_of_ble_eq_true rfl) ?_
  refine x_iload rfl rfl ?_
  refine x_const rfl ?_
  refine x_icmp_ge rfl (fun hc => ?_) (fun hc => ?_)
  · rw [if_neg (by omega)] at hQ
    refine x_iload rfl rfl ?_
    refine x_const rfl ?_
    refine x_icmp_ne rfl (fun hc => ?_) (fun hc => ?_)
    · rw [if_neg hc] at hQ
      refine x_const rfl ?_
      refine x_iret rfl ?_
      exact hQ
    · rw [if_pos (by omega)] at hQ
      refine x_const rfl ?_
      refine x_goto rfl ?_
      refine x_iret rfl ?_
      exact hQ
  · rw [if_pos (by omega)] at hQ
    refine x_const rfl ?_
    refine x_goto rfl ?_
    refine x_iret rfl ?_
    exact hQ
theorem c_M_good (h : mR μ0 μ g c e tk.length f) (hk : RK g tk) (hQ : ∀ μ' g', mR μ0 μ' g' c e tk.length f → (∀ j, j ≠ 16 → g' j = g j) → Q (some (.inl (if gd tk then 1 else 0))) (nn, ss, μ')) : am_Wp mv_P (d + 2) jM_good [.inr (some 50)] (nn, ss, μ) Q := by
  have h14 := hk.1
  have inner : ∀ (st : List Nat) (x i : Nat) (μ : Nat → Option am_C) (G : Nat → Nat → Int), mR μ0 μ G c e tk.length f → sg (G 16) (x :: st) → (∀ c, c ∈ st → 1 ≤ c ∧ c ≤ 2) → st.length ≤ 5 → (∀ j, j ≠ 16 → G j = g j) → (∀ μ' G', mR μ0 μ' G' c e tk.length f → sg (G' 16) (rd x st) → (∀ j, j ≠ 16 → G' j = g j) → am_Ex mv_P (d + 1) (am_at kM_good) (78, [some (.inr (some 50)), some (.inl ((rd x st).length : Int)), some (.inl (i : Int))], [], nn, ss, μ') Q) → am_Ex mv_P (d + 1) (am_at kM_good) (41, [some (.inr (some 50)), some (.inl ((st.length : Int) + 1)), some (.inl (i : Int))], [], nn, ss, μ) Q := by
    intro st
    induction st with
    | nil =>
      intro x i μ G h hs hp hl Go K
      have hs1 : G 16 0 = (x : Int) := hs.1
      rw [List.length_nil]
      refine x_iload rfl rfl ?_
      refine x_if_le rfl (fun hc => ?_) (fun hc => ?_)
      · exact absurd hc (by simp)
      · refine x_aload rfl rfl ?_
        refine x_get rfl h.o rfl ?_
        refine x_iload rfl rfl ?_
        refine x_const rfl ?_
        refine x_isub rfl ⟨by omega, by omega⟩ ?_
        refine x_rd (j := 0) rfl h.a16 (by omega) (by omega) (hs1) ?_
        refine x_if_ne rfl (fun hc => ?_) (fun hc => ?_)
        · cases x with
          | zero => exact absurd rfl hc
          | succ x => exact K μ G h hs Go
        · have hx : x = 0 := by omega
          subst hx
          refine x_iinc rfl rfl ⟨by omega, by omega⟩ ?_
          refine x_iload rfl rfl ?_
          refine x_if_le rfl (fun hc => ?_) (fun hc => ?_)
          · refine x_iload rfl rfl ?_
            refine x_if_le rfl (fun hc => ?_) (fun hc => ?_)
            · exact K μ G h trivial Go
            · exact absurd (by decide) hc
          · exact absurd (by decide) hc
    | cons y st ih =>
      intro x i μ G h hs hp hl Go K
      have hs1 : G 16 (st.length + 1) = (x : Int) := hs.1
      have hs2 : G 16 st.length = (y : Int) := hs.2.1
      have hy := hp y (List.mem_cons_self ..)
      rw [List.length_cons] at hl
      rw [List.length_cons]
      refine x_iload rfl rfl ?_
      refine x_if_le rfl (fun hc => ?_) (fun hc => ?_)
      · exact absurd hc (by omega)
      · refine x_aload rfl rfl ?_
        refine x_get rfl h.o rfl ?_
        refine x_iload rfl rfl ?_
        refine x_const rfl ?_
        refine x_isub rfl ⟨by omega, by omega⟩ ?_
        refine x_rd (j := st.length + 1) rfl h.a16 (by omega) (by omega) (hs1) ?_
        refine x_if_ne rfl (fun hc => ?_) (fun hc => ?_)
        · cases x with
          | zero => exact absurd rfl hc
          | succ x => exact K μ G h hs Go
        · have hx : x = 0 := by omega
          subst hx
          refine x_iinc rfl rfl ⟨by omega, by omega⟩ ?_
          refine x_iload rfl rfl ?_
          refine x_if_le rfl (fun hc => ?_) (fun hc => ?_)
          · exact absurd hc (by omega)
          · refine x_aload rfl rfl ?_
            refine x_get rfl h.o rfl ?_
            refine x_iload rfl rfl ?_
            refine x_const rfl ?_
            refine x_isub rfl ⟨by omega, by omega⟩ ?_
            refine x_dup2 rfl ?_
            refine x_rd (j := st.length) rfl h.a16 (by omega) (by omega) (hs2) ?_
            refine x_const rfl ?_
            refine x_isub rfl ⟨by omega, by omega⟩ ?_
            refine x_iastN (j := st.length) rfl h.a16 (by omega) (by omega) rfl (fun μ e o => ?_)
            replace h := h.st (j := 16) (Nat.le_of_ble_eq_true rfl) e o
            clear e o
            refine x_goto rfl ?_
            have := ih (y - 1) i _ _ h ⟨by show am_fu (G 16) st.length _ st.length = _; rw [am_fu_s]; omega, sg_up st hs.2.2 (Nat.le_refl _)⟩ (fun c hc => hp c (List.mem_cons_of_mem _ hc)) (by omega) (fun j hj => by rw [am_fu_n hj]; exact Go j hj) K
            rw [show ((st.length + 1 : Nat) : Int) + 1 + -1 = (st.length : Int) + 1 by omega]
            exact this
  have loop : ∀ (r i : Nat) (st : List Nat) (μ : Nat → Option am_C) (G : Nat → Nat → Int), i + r = tk.length → mR μ0 μ G c e tk.length f → sg (G 16) st → (∀ c, c ∈ st → 1 ≤ c ∧ c ≤ 2) → st.length ≤ 6 → (∀ j, j ≠ 16 → G j = g j) → gr tk r i st = gr tk tk.length 0 [] → am_Ex mv_P (d + 1) (am_at kM_good) (4, [some (.inr (some 50)), some (.inl (st.length : Int)), some (.inl (i : Int))], [], nn, ss, μ) Q := by
    intro r
    induction r with
    | zero =>
      intro i st μ G hi h hs hp hl Go hg
      have hQ' := hQ μ G h Go
      have hg : decide (st = []) = gr tk tk.length 0 [] := hg
      refine x_iload rfl rfl ?_
      refine x_aload rfl rfl ?_
      refine x_get rfl h.o rfl ?_
      refine x_icmp_ge rfl (fun hc => ?_) (fun hc => ?_)
      · refine x_aload rfl rfl ?_
        refine x_get rfl h.o rfl ?_
        refine x_if_le rfl (fun hc => ?_) (fun hc => ?_)
        · refine x_const rfl ?_
          refine x_zret rfl (by first | exact Or.inl rfl | exact Or.inr rfl | assumption | omega) ?_
          rw [if_neg (fun q => by have := q.1; omega)] at hQ'
          exact hQ'
        · refine x_iload rfl rfl ?_
          refine x_if_ne rfl (fun hc => ?_) (fun hc => ?_)
          · refine x_const rfl ?_
            refine x_zret rfl (by first | exact Or.inl rfl | exact Or.inr rfl | assumption | omega) ?_
            rw [if_neg] at hQ'
            · exact hQ'
            · intro q
              rw [← gr_gd tk h14, ← hg] at q
              have hst := of_decide_eq_true q.2
              rw [hst] at hc
              exact hc rfl
          · refine x_const rfl ?_
            refine x_goto rfl ?_
            refine x_zret rfl (by first | exact Or.inl rfl | exact Or.inr rfl | assumption | omega) ?_
            rw [if_pos] at hQ'
            · exact hQ'
            · rw [← gr_gd tk h14, ← hg]
              refine ⟨by omega, decide_eq_true (List.length_eq_zero_iff.mp (by omega))⟩
      · exact absurd hc (by omega)
    | succ r ih =>
      intro i st μ G hi h hs hp hl Go hg
      have hg : (if (0 < i ∧ st = []) ∨ 5 < st.length then false else gr tk r (i + 1) (rd (pa (mg tk i).1) st)) = gr tk tk.length 0 [] := hg
      have bad : ((0 < i ∧ st = []) ∨ 5 < st.length) → am_Ex mv_P (d + 1) (am_at kM_good) (25, [some (.inr (some 50)), some (.inl (st.length : Int)), some (.inl (i : Int))], [], nn, ss, μ) Q := by
        intro hb
        rw [if_pos hb] at hg
        have hQ' := hQ μ G h Go
        rw [if_neg (fun q => by rw [← gr_gd tk h14, ← hg] at q; exact absurd q.2 (by decide))] at hQ'
        refine x_const rfl ?_
        refine x_zret rfl (by first | exact Or.inl rfl | exact Or.inr rfl | assumption | omega) ?_
        exact hQ'
      have go : ¬ ((0 < i ∧ st = []) ∨ 5 < st.length) → am_Ex mv_P (d + 1) (am_at kM_good) (27, [some (.inr (some 50)), some (.inl (st.length : Int)), some (.inl (i : Int))], [], nn, ss, μ) Q := by
        intro hb
        rw [if_neg hb] at hg
        refine x_aload rfl rfl ?_
        refine x_get rfl h.o rfl ?_
        refine x_iload rfl rfl ?_
        refine x_aload rfl rfl ?_
        refine x_iload rfl rfl ?_
        refine x_callV1 rfl h.o (Nat.le_of_ble_eq_true rfl) ?_
        refine c_M_parts h (by omega) ((congrFun (Go 13 (by decide)) _).trans (hk.2 i (by omega)).1) ?_
        refine x_iastN (j := st.length) rfl h.a16 (by omega) (by omega) rfl (fun μ e o => ?_)
        replace h := h.st (j := 16) (Nat.le_of_ble_eq_true rfl) e o
        clear e o
        refine x_iinc rfl rfl ⟨by omega, by omega⟩ ?_
        refine inner st (pa (mg tk i).1) i _ _ h ⟨by show am_fu (G 16) st.length _ st.length = _; rw [am_fu_s], sg_up st hs (Nat.le_refl _)⟩ hp (by omega) (fun j hj => by rw [am_fu_n hj]; exact Go j hj) (fun μ2 G2 h hs2 Go2 => ?_)
        refine x_iinc rfl rfl ⟨by omega, by omega⟩ ?_
        refine x_goto rfl ?_
        have := rd_le st (pa (mg tk i).1)
        exact ih (i + 1) (rd (pa (mg tk i).1) st) μ2 G2 (by omega) h hs2 (rd_pos st _ (pa_le _) hp) (by omega) Go2 hg
      have len0 : st = [] ↔ st.length = 0 := List.length_eq_zero_iff.symm
      refine x_iload rfl rfl ?_
      refine x_aload rfl rfl ?_
      refine x_get rfl h.o rfl ?_
      refine x_icmp_ge rfl (fun hc => ?_) (fun hc => ?_)
      · exact absurd hc (by omega)
      · refine x_iload rfl rfl ?_
        refine x_if_le rfl (fun hc => ?_) (fun hc => ?_)
        · refine x_iload rfl rfl ?_
          refine x_const rfl ?_
          refine x_icmp_le rfl (fun hc => ?_) (fun hc => ?_)
          · exact go (by omega)
          · exact bad (Or.inr (by omega))
        · rename_i hc9
          refine x_iload rfl rfl ?_
          refine x_if_eq rfl (fun hc => ?_) (fun hc => ?_)
          · exact bad (Or.inl ⟨by omega, len0.mpr (by omega)⟩)
          · refine x_iload rfl rfl ?_
            refine x_const rfl ?_
            refine x_icmp_le rfl (fun hc => ?_) (fun hc => ?_)
            · exact go (fun q => q.elim (fun q => by have := len0.mp q.2; omega) (by omega))
            · exact bad (Or.inr (by omega))
  refine am_wp pM_good (Nat.le_of_ble_eq_true rfl) ?_
  refine x_const rfl ?_
  refine x_istore rfl (Nat.le_of_ble_eq_true rfl) ?_
  refine x_const rfl ?_
  refine x_istore rfl (Nat.le_of_ble_eq_true rfl) ?_
  exact loop tk.length 0 [] μ g (by omega) h trivial (fun c hc => by cases hc) (by decide) (fun _ _ => rfl) rfl
end R11
