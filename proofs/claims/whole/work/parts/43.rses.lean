/-! the reference's sessions -/
def pt (j s k : Nat) : Prop := if j = 8 ∨ j = 9 then 24 * s ≤ k ∧ k < 24 * s + 24 else if j = 12 then 100 * s ≤ k ∧ k < 100 * s + 100 else k = s
def sF (g g' : Nat → Nat → Int) (s : Nat) : Prop := ∀ j k, ((j < 5 ∨ 12 < j) ∨ ¬ pt j s k) → g' j k = g j k
theorem pt_u {j s k : Nat} (hj : j = 8 ∨ j = 9) (h : 24 * s ≤ k ∧ k < 24 * s + 24) : pt j s k := by
  unfold pt
  rw [if_pos hj]
  exact h
theorem pt_n {s k : Nat} (h : 100 * s ≤ k ∧ k < 100 * s + 100) : pt 12 s k := by
  unfold pt
  rw [if_neg (by decide), if_pos rfl]
  exact h
theorem pt_s {j s : Nat} (hj : j ≠ 8 ∧ j ≠ 9 ∧ j ≠ 12) : pt j s s := by
  unfold pt
  rw [if_neg (by omega), if_neg (by omega)]
theorem sF.rf {g : Nat → Nat → Int} {s : Nat} : sF g g s := fun _ _ _ => rfl
theorem sF.tr {g g' g'' : Nat → Nat → Int} {s : Nat} (h : sF g g' s) (h' : sF g' g'' s) : sF g g'' s := fun j k hk => by rw [h' j k hk, h j k hk]
theorem sF.st {g g' : Nat → Nat → Int} {s j k : Nat} {z : Int} (h : sF g g' s) (hj : 5 ≤ j ∧ j ≤ 12) (hp : pt j s k) : sF g (am_fu g' j (am_fu (g' j) k z)) s := by
  intro i x hx
  by_cases hi : i = j
  · subst hi
    rw [am_fu_s]
    by_cases hk : x = k
    · subst hk
      rcases hx with hx | hx
      · omega
      · exact absurd hp hx
    · rw [am_fu_n hk]
      exact h i x hx
  · rw [am_fu_n hi]
    exact h i x hx
theorem sF.o {g g' : Nat → Nat → Int} {s j : Nat} (h : sF g g' s) (hj : j < 5 ∨ 12 < j) : g' j = g j := funext (fun k => h j k (Or.inl hj))
def RV (g : Nat → Nat → Int) (s : Nat) (v : List mv_V) : Prop := (g 7 s = v.length ∧ v.length ≤ 24) ∧ ∀ k, k < v.length → g 8 (24 * s + k) = (vg v k).1 ∧ g 9 (24 * s + k) = (vg v k).2
def RN (g : Nat → Nat → Int) (s : Nat) (nt : List mv_V) : Prop := (g 11 s = nt.length ∧ nt.length ≤ 49) ∧ ∀ k, k < nt.length → g 12 (100 * s + 2 * k) = (vg nt k).1 ∧ g 12 (100 * s + 2 * k + 1) = (vg nt k).2
def RS (g : Nat → Nat → Int) (s : Nat) (x : mv_S) : Prop := g 5 s = x.1 ∧ -1 ≤ x.1 ∧ x.1 < 3 ∧ (0 ≤ x.1 → g 6 s = x.2.1 ∧ (x.2.1 = 0 ∨ x.2.1 = 1) ∧ g 10 s = x.2.2.1 ∧ RV g s x.2.2.2.1 ∧ RN g s x.2.2.2.2)
theorem RV.cg {g g' : Nat → Nat → Int} {s : Nat} {v : List mv_V} (h : RV g s v) (h7 : g' 7 = g 7) (h8 : g' 8 = g 8) (h9 : g' 9 = g 9) : RV g' s v := by
  unfold RV
  rw [h7, h8, h9]
  exact h
theorem RN.cg {g g' : Nat → Nat → Int} {s : Nat} {v : List mv_V} (h : RN g s v) (h7 : g' 11 = g 11) (h8 : g' 12 = g 12) : RN g' s v := by
  unfold RN
  rw [h7, h8]
  exact h
theorem RS.cg {g g' : Nat → Nat → Int} {s : Nat} {x : mv_S} (h : RS g s x) (hj : ∀ j, 5 ≤ j → j ≤ 12 → g' j = g j) : RS g' s x := by
  obtain ⟨h1, h2, h3, h4⟩ := h
  refine ⟨by rw [hj 5 (by omega) (by omega)]; exact h1, h2, h3, fun h0 => ?_⟩
  obtain ⟨k1, k2, k3, k4, k5⟩ := h4 h0
  exact ⟨by rw [hj 6 (by omega) (by omega)]; exact k1, k2, by rw [hj 10 (by omega) (by omega)]; exact k3, k4.cg (hj 7 (by omega) (by omega)) (hj 8 (by omega) (by omega)) (hj 9 (by omega) (by omega)), k5.cg (hj 11 (by omega) (by omega)) (hj 12 (by omega) (by omega))⟩
theorem RS.fr {g g' : Nat → Nat → Int} {s s' : Nat} {x : mv_S} (h : RS g s' x) (hf : sF g g' s) (hs : s' ≠ s) : RS g' s' x := by
  have ps : ∀ j, j ≠ 8 → j ≠ 9 → j ≠ 12 → ¬ pt j s s' := by
    intro j h1 h2 h3 hp
    unfold pt at hp
    rw [if_neg (by omega), if_neg h3] at hp
    exact hs hp
  have pu : ∀ j k, j = 8 ∨ j = 9 → k < 24 → ¬ pt j s (24 * s' + k) := by
    intro j k hj hk hp
    unfold pt at hp
    rw [if_pos hj] at hp
    omega
  have pn : ∀ k, k < 100 → ¬ pt 12 s (100 * s' + k) := by
    intro k hk hp
    unfold pt at hp
    rw [if_neg (by decide), if_pos rfl] at hp
    omega
  obtain ⟨h1, h2, h3, h4⟩ := h
  refine ⟨by rw [hf 5 s' (Or.inr (ps 5 (by decide) (by decide) (by decide)))]; exact h1, h2, h3, fun h0 => ?_⟩
  obtain ⟨k1, k2, k3, ⟨⟨v0, v1⟩, v2⟩, ⟨n0, n1⟩, n2⟩ := h4 h0
  refine ⟨by rw [hf 6 s' (Or.inr (ps 6 (by decide) (by decide) (by decide)))]; exact k1, k2, by rw [hf 10 s' (Or.inr (ps 10 (by decide) (by decide) (by decide)))]; exact k3, ⟨⟨by rw [hf 7 s' (Or.inr (ps 7 (by decide) (by decide) (by decide)))]; exact v0, v1⟩, fun k hk => ?_⟩, ⟨by rw [hf 11 s' (Or.inr (ps 11 (by decide) (by decide) (by decide)))]; exact n0, n1⟩, fun k hk => ?_⟩
  · rw [hf 8 _ (Or.inr (pu 8 k (Or.inl rfl) (by omega))), hf 9 _ (Or.inr (pu 9 k (Or.inr rfl) (by omega)))]
    exact v2 k hk
  · rw [hf 12 _ (Or.inr (pn (2 * k) (by omega))), show 100 * s' + 2 * k + 1 = 100 * s' + (2 * k + 1) by omega, hf 12 _ (Or.inr (pn (2 * k + 1) (by omega)))]
    exact n2 k hk
theorem RV.set {g g' : Nat → Nat → Int} {s k : Nat} {v : List mv_V} {z : Int} (h : RV g s v) (hk : k < v.length) (h7 : g' 7 = g 7) (h8 : g' 8 = g 8) (h9 : g' 9 = am_fu (g 9) (24 * s + k) z) : RV g' s (v.set k ((vg v k).1, z)) := by
  obtain ⟨⟨h1, h2⟩, h3⟩ := h
  refine ⟨⟨by rw [h7, List.length_set]; exact h1, by rw [List.length_set]; exact h2⟩, fun i hi => ?_⟩
  rw [List.length_set] at hi
  rw [vg_set, h8, h9]
  by_cases hik : i = k
  · rw [if_pos ⟨hik, hk⟩, hik, am_fu_s]
    exact ⟨(h3 k hk).1, rfl⟩
  · rw [if_neg (fun q => hik q.1), am_fu_n (by omega)]
    exact h3 i hi
theorem vg_mid (kp : List mv_V) (x : mv_V) (w : List mv_V) : vg (kp ++ x :: w) kp.length = x := by
  rw [vg_app, if_neg (by omega), Nat.sub_self]
  rfl
theorem set_mid (kp : List mv_V) (x y : mv_V) (w : List mv_V) : (kp ++ x :: w).set kp.length y = kp ++ y :: w := by
  rw [List.set_append_right _ _ (Nat.le_refl _), Nat.sub_self]
  rfl
section R5
variable {d nn ss : Nat} {μ0 μ : Nat → Option am_C} {Q : Option am_V → am_M → Prop} {g : Nat → Nat → Int} {c e t f : Int} {B : Nat → mv_B} {ses : Nat → mv_S}
theorem c_M_none {x : Int} (h : mR μ0 μ g c e t f) (hs : ∀ s, s < 4 → RS g s (ses s)) (h1 : ¬ hasM ses x → Q (some (.inl 1)) (nn, ss, μ)) (h0 : hasM ses x → Q (some (.inl 0)) (nn, ss, μ)) : am_Wp mv_P (d + 2) jM_none [.inr (some 50), .inl x] (nn, ss, μ) Q := by
  refine am_wp pM_none (Nat.le_of_ble_eq_true rfl) ?_
  refine x_iload rfl rfl ?_
  refine x_const rfl ?_
  refine x_const rfl ?_
  refine x_callS3 rfl (Nat.le_of_ble_eq_true rfl) ?_
  refine c_M_in (fun hx => ?_) (fun hx => ?_)
  · obtain ⟨q1, q2, q3, -⟩ := hs x.toNat (by omega)
    refine x_if_eq rfl (fun hc => ?_) (fun hc => ?_)
    · exact absurd hc (by decide)
    · refine x_aload rfl rfl ?_
      refine x_get rfl h.o rfl ?_
      refine x_iload rfl rfl ?_
      refine x_rd (j := x.toNat) rfl h.a5 (by omega) (by omega) (q1) ?_
      refine x_if_ge rfl (fun hc => ?_) (fun hc => ?_)
      · refine x_const rfl ?_
        refine x_zret rfl (by first | exact Or.inl rfl | exact Or.inr rfl | assumption | omega) ?_
        exact h0 ⟨by omega, by omega⟩
      · refine x_const rfl ?_
        refine x_goto rfl ?_
        refine x_zret rfl (by first | exact Or.inl rfl | exact Or.inr rfl | assumption | omega) ?_
        exact h1 (fun q => by have := q.2; omega)
  · refine x_if_eq rfl (fun hc => ?_) (fun hc => ?_)
    · refine x_const rfl ?_
      refine x_goto rfl ?_
      refine x_zret rfl (by first | exact Or.inl rfl | exact Or.inr rfl | assumption | omega) ?_
      exact h1 (fun q => by have := q.1; omega)
    · exact absurd rfl hc
theorem hasM.rs {x : Int} (h : hasM ses x) (hs : ∀ s, s < 4 → RS g s (ses s)) : x.toNat < 4 ∧ x = ((x.toNat : Nat) : Int) ∧ (ses x.toNat).1 = (((ses x.toNat).1.toNat : Nat) : Int) ∧ (ses x.toNat).1.toNat < 3 ∧ g 5 x.toNat = (((ses x.toNat).1.toNat : Nat) : Int) ∧ g 6 x.toNat = (ses x.toNat).2.1 ∧ ((ses x.toNat).2.1 = 0 ∨ (ses x.toNat).2.1 = 1) ∧ g 10 x.toNat = (ses x.toNat).2.2.1 ∧ RV g x.toNat (ses x.toNat).2.2.2.1 ∧ RN g x.toNat (ses x.toNat).2.2.2.2 := by
  obtain ⟨k1, k2⟩ := h
  obtain ⟨q1, q2, q3, q4⟩ := hs x.toNat (by omega)
  have q5 := q4 (by omega)
  exact ⟨by omega, by omega, by omega, by omega, by omega, q5⟩
theorem c_M_bad {x y : Int} (h : mR μ0 μ g c e t f) (hs : ∀ s, s < 4 → RS g s (ses s)) (h1 : ¬ inV ses x y → Q (some (.inl 1)) (nn, ss, μ)) (h0 : inV ses x y → Q (some (.inl 0)) (nn, ss, μ)) : am_Wp mv_P (d + 3) jM_bad [.inr (some 50), .inl x, .inl y] (nn, ss, μ) Q := by
  refine am_wp pM_bad (Nat.le_of_ble_eq_true rfl) ?_
  refine x_aload rfl rfl ?_
  refine x_iload rfl rfl ?_
  refine x_callV1 rfl h.o (Nat.le_of_ble_eq_true rfl) ?_
  refine c_M_none h hs (fun hx => ?_) (fun hx => ?_)
  · refine x_if_ne rfl (fun hc => ?_) (fun hc => ?_)
    · refine x_const rfl ?_
      refine x_goto rfl ?_
      refine x_zret rfl (by first | exact Or.inl rfl | exact Or.inr rfl | assumption | omega) ?_
      exact h1 (fun q => hx q.1)
    · exact absurd (by decide) hc
  · obtain ⟨e1, e2, e3, e4, e5, e6, e7, e8, e9, e10⟩ := hx.rs hs
    refine x_if_ne rfl (fun hc => ?_) (fun hc => ?_)
    · exact absurd rfl hc
    · refine x_iload rfl rfl ?_
      refine x_const rfl ?_
      refine x_aload rfl rfl ?_
      refine x_get rfl h.o rfl ?_
      refine x_iload rfl rfl ?_
      refine x_rd (j := x.toNat) rfl h.a7 (by omega) (by omega) (e9.1.1) ?_
      refine x_callS3 rfl (Nat.le_of_ble_eq_true rfl) ?_
      refine c_M_in (fun hy => ?_) (fun hy => ?_)
      · refine x_if_ne rfl (fun hc => ?_) (fun hc => ?_)
        · refine x_const rfl ?_
          refine x_zret rfl (by first | exact Or.inl rfl | exact Or.inr rfl | assumption | omega) ?_
          exact h0 ⟨hx, hy⟩
        · exact absurd (by decide) hc
      · refine x_if_ne rfl (fun hc => ?_) (fun hc => ?_)
        · exact absurd rfl hc
        · refine x_const rfl ?_
          refine x_goto rfl ?_
          refine x_zret rfl (by first | exact Or.inl rfl | exact Or.inr rfl | assumption | omega) ?_
          exact h1 (fun q => hy q.2)
theorem c_M_uidOf {s k : Nat} {n : Int} {v : List mv_V} (h : mR μ0 μ g c e t f) (hs : s < 4) (hv : RV g s v) (hk : k < v.length) (hn : n = (k : Int) + 1) (hQ : Q (some (.inl (vg v k).1)) (nn, ss, μ)) : am_Wp mv_P (d + 1) jM_uidOf [.inr (some 50), .inl s, .inl n] (nn, ss, μ) Q := by
  obtain ⟨⟨v0, v1⟩, v2⟩ := hv
  refine am_wp pM_uidOf (Nat.le_of_ble_eq_true rfl) ?_
  refine x_aload rfl rfl ?_
  refine x_get rfl h.o rfl ?_
  refine x_const rfl ?_
  refine x_iload rfl rfl ?_
  refine x_imul rfl ⟨by omega, by omega⟩ ?_
  refine x_iload rfl rfl ?_
  refine x_iadd rfl ⟨by omega, by omega⟩ ?_
  refine x_const rfl ?_
  refine x_isub rfl ⟨by omega, by omega⟩ ?_
  refine x_rd (j := 24 * s + k) rfl h.a8 (by omega) (by omega) ((v2 k hk).1) ?_
  refine x_iret rfl ?_
  exact hQ
theorem c_M_gone {s k m : Nat} {n : Int} {v : List mv_V} (h : mR μ0 μ g c e t f) (hb : RB g B) (hs : s < 4) (hm : g 5 s = m) (hm3 : m < 3) (h12 : (B m).1.length ≤ 12) (hv : RV g s v) (hk : k < v.length) (hn : n = (k : Int) + 1) (h1 : ¬ fp (B m).1 (vg v k).1 < (B m).1.length → Q (some (.inl 1)) (nn, ss, μ)) (h0 : fp (B m).1 (vg v k).1 < (B m).1.length → Q (some (.inl 0)) (nn, ss, μ)) : am_Wp mv_P (d + 2) jM_gone [.inr (some 50), .inl s, .inl n] (nn, ss, μ) Q := by
  refine am_wp pM_gone (Nat.le_of_ble_eq_true rfl) ?_
  refine x_aload rfl rfl ?_
  refine x_aload rfl rfl ?_
  refine x_get rfl h.o rfl ?_
  refine x_iload rfl rfl ?_
  refine x_rd (j := s) rfl h.a5 (by omega) (by omega) (hm) ?_
  refine x_aload rfl rfl ?_
  refine x_iload rfl rfl ?_
  refine x_iload rfl rfl ?_
  refine x_callV2 rfl h.o (Nat.le_of_ble_eq_true rfl) ?_
  refine c_M_uidOf h hs hv hk hn ?_
  refine x_callV2 rfl h.o (Nat.le_of_ble_eq_true rfl) ?_
  refine c_M_place h hb hm3 h12 ?_
  by_cases hu : fp (B m).1 (vg v k).1 < (B m).1.length
  · rw [pz_in hu]
    refine x_if_ge rfl (fun hc => ?_) (fun hc => ?_)
    · refine x_const rfl ?_
      refine x_zret rfl (by first | exact Or.inl rfl | exact Or.inr rfl | assumption | omega) ?_
      exact h0 hu
    · exact absurd hc (by omega)
  · rw [pz_out hu]
    refine x_if_ge rfl (fun hc => ?_) (fun hc => ?_)
    · exact absurd hc (by decide)
    · refine x_const rfl ?_
      refine x_goto rfl ?_
      refine x_zret rfl (by first | exact Or.inl rfl | exact Or.inr rfl | assumption | omega) ?_
      exact h1 hu
theorem c_M_tell {s : Nat} {kd x : Int} {nt : List mv_V} (h : mR μ0 μ g c e t f) (hs : s < 4) (hn : RN g s nt) (hl : nt.length < 49) (hQ : ∀ μ' g', mR μ0 μ' g' c e t f → RN g' s (nt ++ [(kd, x)]) → (∀ j, j ≠ 11 → j ≠ 12 → g' j = g j) → sF g g' s → Q none (nn, ss, μ')) : am_Wp mv_P (d + 1) jM_tell [.inr (some 50), .inl s, .inl kd, .inl x] (nn, ss, μ) Q := by
  obtain ⟨⟨n0, n1⟩, n2⟩ := hn
  refine am_wp pM_tell (Nat.le_of_ble_eq_true rfl) ?_
  refine x_aload rfl rfl ?_
  refine x_get rfl h.o rfl ?_
  refine x_const rfl ?_
  refine x_iload rfl rfl ?_
  refine x_imul rfl ⟨by omega, by omega⟩ ?_
  refine x_const rfl ?_
  refine x_aload rfl rfl ?_
  refine x_get rfl h.o rfl ?_
  refine x_iload rfl rfl ?_
  refine x_rd (j := s) rfl h.a11 (by omega) (by omega) (n0) ?_
  refine x_imul rfl ⟨by omega, by omega⟩ ?_
  refine x_iadd rfl ⟨by omega, by omega⟩ ?_
  refine x_iload rfl rfl ?_
  refine x_iastN (j := 100 * s + 2 * nt.length) rfl h.a12 (by omega) (by omega) rfl (fun μ e o => ?_)
  replace h := h.st (j := 12) (Nat.le_of_ble_eq_true rfl) e o
  clear e o
  refine x_aload rfl rfl ?_
  refine x_get rfl h.o rfl ?_
  refine x_const rfl ?_
  refine x_iload rfl rfl ?_
  refine x_imul rfl ⟨by omega, by omega⟩ ?_
  refine x_const rfl ?_
  refine x_aload rfl rfl ?_
  refine x_get rfl h.o rfl ?_
  refine x_iload rfl rfl ?_
  refine x_rd (j := s) rfl h.a11 (by omega) (by omega) (n0) ?_
  refine x_imul rfl ⟨by omega, by omega⟩ ?_
  refine x_iadd rfl ⟨by omega, by omega⟩ ?_
  refine x_const rfl ?_
  refine x_iadd rfl ⟨by omega, by omega⟩ ?_
  refine x_iload rfl rfl ?_
  refine x_iastN (j := 100 * s + 2 * nt.length + 1) rfl h.a12 (by omega) (by omega) rfl (fun μ e o => ?_)
  replace h := h.st (j := 12) (Nat.le_of_ble_eq_true rfl) e o
  clear e o
  refine x_aload rfl rfl ?_
  refine x_get rfl h.o rfl ?_
  refine x_iload rfl rfl ?_
  refine x_dup2 rfl ?_
  refine x_rd (j := s) rfl h.a11 (by omega) (by omega) (n0) ?_
  refine x_const rfl ?_
  refine x_iadd rfl ⟨by omega, by omega⟩ ?_
  refine x_iastN (j := s) rfl h.a11 (by omega) (by omega) rfl (fun μ e o => ?_)
  replace h := h.st (j := 11) (Nat.le_of_ble_eq_true rfl) e o
  clear e o
  refine x_vret rfl ?_
  refine hQ _ _ h ⟨⟨?_, by simp; omega⟩, fun k hk => ?_⟩ (fun j h1 h2 => ?_) ?_
  · show am_fu (g 11) s _ s = _
    rw [am_fu_s, List.length_append]
    rfl
  · rw [List.length_append] at hk
    simp only [List.length_cons, List.length_nil] at hk
    show am_fu (am_fu (g 12) (100 * s + 2 * nt.length) kd) (100 * s + 2 * nt.length + 1) x _ = _ ∧ am_fu (am_fu (g 12) (100 * s + 2 * nt.length) kd) (100 * s + 2 * nt.length + 1) x _ = _
    rw [vg_app]
    by_cases hk2 : k < nt.length
    · rw [if_pos hk2, am_fu_n (by omega), am_fu_n (by omega), am_fu_n (by omega), am_fu_n (by omega)]
      exact n2 k hk2
    · rw [if_neg hk2, show k = nt.length by omega, am_fu_n (by omega), am_fu_s, am_fu_s, Nat.sub_self]
      exact ⟨rfl, rfl⟩
  · rw [am_fu_n h1, am_fu_n h2, am_fu_n h2]
  · exact ((sF.rf.st (by omega) (pt_n (by omega))).st (by omega) (pt_n (by omega))).st (by omega) (pt_s (by decide))
theorem c_M_leave {s : Nat} {n : Int} {kp w : List mv_V} {x : mv_V} (h : mR μ0 μ g c e t f) (hs : s < 4) (hv : RV g s (kp ++ x :: w)) (hn : n = (kp.length : Int) + 1) (hQ : ∀ μ' g', mR μ0 μ' g' c e t f → RV g' s (kp ++ w) → (∀ j, j ≠ 7 → j ≠ 8 → j ≠ 9 → g' j = g j) → sF g g' s → Q none (nn, ss, μ')) : am_Wp mv_P (d + 1) jM_leave [.inr (some 50), .inl s, .inl n] (nn, ss, μ) Q := by
  obtain ⟨⟨v0, v1⟩, v2⟩ := hv
  rw [List.length_append, List.length_cons] at v0 v1
  have loop : ∀ (r y : Nat) (μ : Nat → Option am_C) (G : Nat → Nat → Int), y + r = 24 * s + kp.length + w.length → 24 * s + kp.length ≤ y → mR μ0 μ G c e t f → G 7 s = (kp.length : Int) + w.length → G 8 = sf (g 8) (24 * s + kp.length) y 1 → G 9 = sf (g 9) (24 * s + kp.length) y 1 → (∀ j, j ≠ 7 → j ≠ 8 → j ≠ 9 → G j = g j) → sF g G s → am_Ex mv_P d (am_at kM_leave) (19, [some (.inr (some 50)), some (.inl (s : Int)), some (.inl n), some (.inl (y : Int))], [], nn, ss, μ) Q := by
    intro r
    induction r with
    | zero =>
      intro y μ G hy hlo h G7 G8 G9 Go hF
      refine x_iload rfl rfl ?_
      refine x_const rfl ?_
      refine x_iload rfl rfl ?_
      refine x_imul rfl ⟨by omega, by omega⟩ ?_
      refine x_aload rfl rfl ?_
      refine x_get rfl h.o rfl ?_
      refine x_iload rfl rfl ?_
      refine x_rd (j := s) rfl h.a7 (by omega) (by omega) (G7) ?_
      refine x_iadd rfl ⟨by omega, by omega⟩ ?_
      refine x_icmp_ge rfl (fun hc => ?_) (fun hc => ?_)
      · refine x_vret rfl ?_
        refine hQ _ G h ⟨⟨?_, by rw [List.length_append]; omega⟩, fun k hk => ?_⟩ Go hF
        · rw [G7, List.length_append]
          omega
        · rw [List.length_append] at hk
          rw [vg_app, G8, G9]
          unfold sf
          by_cases hk2 : k < kp.length
          · rw [if_pos hk2, if_neg (by omega), if_neg (by omega)]
            have := v2 k (by rw [List.length_append, List.length_cons]; omega)
            rw [vg_app, if_pos hk2] at this
            exact this
          · rw [if_neg hk2, if_pos (by omega), if_pos (by omega)]
            have := v2 (k + 1) (by rw [List.length_append, List.length_cons]; omega)
            rw [vg_app, if_neg (by omega), show k + 1 - kp.length = (k - kp.length) + 1 by omega, vg_s] at this
            exact this
      · exact absurd hc (by omega)
    | succ r ih =>
      intro y μ G hy hlo h G7 G8 G9 Go hF
      refine x_iload rfl rfl ?_
      refine x_const rfl ?_
      refine x_iload rfl rfl ?_
      refine x_imul rfl ⟨by omega, by omega⟩ ?_
      refine x_aload rfl rfl ?_
      refine x_get rfl h.o rfl ?_
      refine x_iload rfl rfl ?_
      refine x_rd (j := s) rfl h.a7 (by omega) (by omega) (G7) ?_
      refine x_iadd rfl ⟨by omega, by omega⟩ ?_
      refine x_icmp_ge rfl (fun hc => ?_) (fun hc => ?_)
      · exact absurd hc (by omega)
      · refine x_aload rfl rfl ?_
        refine x_get rfl h.o rfl ?_
        refine x_iload rfl rfl ?_
        refine x_aload rfl rfl ?_
        refine x_get rfl h.o rfl ?_
        refine x_iload rfl rfl ?_
        refine x_const rfl ?_
        refine x_iadd rfl ⟨by omega, by omega⟩ ?_
        refine x_rd (j := y + 1) rfl h.a8 (by omega) (by omega) ((congrFun G8 _).trans (sf_v _ hlo)) ?_
        refine x_iastN (j := y) rfl h.a8 (by omega) (by omega) rfl (fun μ e o => ?_)
        replace h := h.st (j := 8) (Nat.le_of_ble_eq_true rfl) e o
        clear e o
        refine x_aload rfl rfl ?_
        refine x_get rfl h.o rfl ?_
        refine x_iload rfl rfl ?_
        refine x_aload rfl rfl ?_
        refine x_get rfl h.o rfl ?_
        refine x_iload rfl rfl ?_
        refine x_const rfl ?_
        refine x_iadd rfl ⟨by omega, by omega⟩ ?_
        refine x_rd (j := y + 1) rfl h.a9 (by omega) (by omega) ((congrFun G9 _).trans (sf_v _ hlo)) ?_
        refine x_iastN (j := y) rfl h.a9 (by omega) (by omega) rfl (fun μ e o => ?_)
        replace h := h.st (j := 9) (Nat.le_of_ble_eq_true rfl) e o
        clear e o
        refine x_iinc rfl rfl ⟨by omega, by omega⟩ ?_
        refine x_goto rfl ?_
        refine ih (y + 1) _ _ (by omega) (by omega) h G7 ?_ ?_ (fun j h1 h2 h3 => ?_) ((hF.st (by omega) (pt_u (Or.inl rfl) (by omega))).st (by omega) (pt_u (Or.inr rfl) (by omega)))
        · show am_fu (G 8) y _ = _
          rw [G8, sf_s _ hlo]
        · show am_fu (G 9) y _ = _
          rw [G9, sf_s _ hlo]
        · rw [am_fu_n h3, am_fu_n h2]
          exact Go j h1 h2 h3
  refine am_wp pM_leave (Nat.le_of_ble_eq_true rfl) ?_
  refine x_aload rfl rfl ?_
  refine x_get rfl h.o rfl ?_
  refine x_iload rfl rfl ?_
  refine x_dup2 rfl ?_
  refine x_rd (j := s) rfl h.a7 (by omega) (by omega) (v0) ?_
  refine x_const rfl ?_
  refine x_isub rfl ⟨by omega, by omega⟩ ?_
  refine x_iastN (j := s) rfl h.a7 (by omega) (by omega) rfl (fun μ e o => ?_)
  replace h := h.st (j := 7) (Nat.le_of_ble_eq_true rfl) e o
  clear e o
  refine x_const rfl ?_
  refine x_iload rfl rfl ?_
  refine x_imul rfl ⟨by omega, by omega⟩ ?_
  refine x_iload rfl rfl ?_
  refine x_iadd rfl ⟨by omega, by omega⟩ ?_
  refine x_const rfl ?_
  refine x_isub rfl ⟨by omega, by omega⟩ ?_
  refine x_istore rfl (Nat.le_of_ble_eq_true rfl) ?_
  rw [show 24 * (s : Int) + n - 1 = ((24 * s + kp.length : Nat) : Int) by omega]
  refine loop w.length (24 * s + kp.length) _ _ (by omega) (Nat.le_refl _) h ?_ ?_ ?_ (fun j h1 h2 h3 => ?_) (sF.rf.st (by omega) (pt_s (by decide)))
  · show am_fu (g 7) s _ s = _
    rw [am_fu_s]
    omega
  · rw [sf_0]
    rfl
  · rw [sf_0]
    rfl
  · rw [am_fu_n h1]
end R5
