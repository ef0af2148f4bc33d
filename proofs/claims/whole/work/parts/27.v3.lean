/-! what each call answers and does: the model; and the class's methods against it -/
abbrev mv_T : Type := (List mv_H × Nat) × (Nat → Int) × (Nat → mv_S) × List mv_Q × List Int
def VR (μ : Nat → Option am_C) (S : mv_T) : Prop := VL μ S.1 S.2.1 S.2.2.1 S.2.2.2.1 S.2.2.2.2
def IC (S : mv_T) : Prop := LI S.1.1 S.1.2 ∧ S.1.1.length < 4000 ∧ (∀ m, m < 3 → 0 ≤ S.2.1 m ∧ S.2.1 m < 50000) ∧ (∀ s, s < 4 → -1 ≤ (S.2.2.1 s).1 ∧ (S.2.2.1 s).1 < 3) ∧ ∀ k, k < S.2.2.2.1.length → 0 ≤ (mg S.2.2.2.1 k).1
/-- the box of a session, its messages -/
def bxs (S : mv_T) (s : Nat) : mv_B := rp S.1.1 (S.2.2.1 s).1.toNat
def vws (S : mv_T) (s : Nat) : List mv_V := (S.2.2.1 s).2.2.2.1
def setS (S : mv_T) (s : Nat) (x : mv_S) : mv_T := (S.1, S.2.1, am_fu S.2.2.1 s x, S.2.2.2)
def kn (x : mv_S) (k : Nat) (f : Int) : mv_S := (x.1, x.2.1, x.2.2.1, x.2.2.2.1.set k ((vg x.2.2.2.1 k).1, f), x.2.2.2.2)
def lvS (x : mv_S) : mv_S := (-1, 0, x.2.2.1, [], [])
def updS (S : mv_T) (s : Nat) (rm : Int) : mv_T := setS S s (upS (S.2.2.1 s) (bxs S s) rm)
def sAdd (S : mv_T) (m : Nat) (f z : Int) : Int × mv_T := if (rp S.1.1 m).1.length = 12 then (-2, S) else ((rp S.1.1 m).2, (nt S.1 (1, m, (rp S.1.1 m).2, f, z), S.2))
def sp_append (S : mv_T) (m f z : Int) : Int × mv_T := if (0 ≤ m ∧ m < 3) ∧ (0 ≤ f ∧ f ≤ 31) ∧ 1 ≤ z ∧ z ≤ 999 then sAdd S m.toNat f z else (-1, S)
def sp_select (S : mv_T) (s m r : Int) : Int × mv_T := if (0 ≤ s ∧ s < 4) ∧ 0 ≤ m ∧ m < 3 then (((ga (rp S.1.1 m.toNat).1 ([], 0)).1.length : Int), setS S s.toNat (m, r, (ga (rp S.1.1 m.toNat).1 ([], 0)).2, (ga (rp S.1.1 m.toNat).1 ([], 0)).1, [])) else (-1, S)
def pgS (S : mv_T) (m : Nat) : (List mv_H × Nat) × Nat := pg m (rp S.1.1 m).1.length S.1 0 0
def sp_close (S : mv_T) (s : Int) : Int × mv_T := if hasM S.2.2.1 s then (if (S.2.2.1 s.toNat).2.1 = 0 then (((pgS S (S.2.2.1 s.toNat).1.toNat).2 : Int), setS ((pgS S (S.2.2.1 s.toNat).1.toNat).1, S.2) s.toNat (lvS (S.2.2.1 s.toNat))) else (0, setS S s.toNat (lvS (S.2.2.1 s.toNat)))) else (-1, S)
def sp_check (S : mv_T) (s : Int) : Int × mv_T := if hasM S.2.2.1 s then (((upS (S.2.2.1 s.toNat) (bxs S s.toNat) 1).2.2.2.2.length : Int), updS S s.toNat 1) else (-1, S)
def sp_fetch (S : mv_T) (s n : Int) : Int × mv_T := if inV S.2.2.1 s n then (if fp (bxs S s.toNat).1 (vg (vws S s.toNat) (n.toNat - 1)).1 < (bxs S s.toNat).1.length then ((mg (bxs S s.toNat).1 (fp (bxs S s.toNat).1 (vg (vws S s.toNat) (n.toNat - 1)).1)).2.1, setS S s.toNat (kn (S.2.2.1 s.toNat) (n.toNat - 1) (mg (bxs S s.toNat).1 (fp (bxs S s.toNat).1 (vg (vws S s.toNat) (n.toNat - 1)).1)).2.1)) else (-3, S)) else (-1, S)
def stF (S : mv_T) (s n mode f : Int) : Int := cfl (mg (bxs S s.toNat).1 (fp (bxs S s.toNat).1 (vg (vws S s.toNat) (n.toNat - 1)).1)).2.1 mode f
def stS (S : mv_T) (s n mode f : Int) : mv_T := setS (nt S.1 (3, (S.2.2.1 s.toNat).1, (vg (vws S s.toNat) (n.toNat - 1)).1, stF S s n mode f, 0), S.2) s.toNat (kn (S.2.2.1 s.toNat) (n.toNat - 1) (stF S s n mode f))
def sp_store (S : mv_T) (s n mode f : Int) : Int × mv_T := if (0 ≤ mode ∧ mode ≤ 2) ∧ (0 ≤ f ∧ f ≤ 31) ∧ inV S.2.2.1 s n then (if (S.2.2.1 s.toNat).2.1 = 0 then (if fp (bxs S s.toNat).1 (vg (vws S s.toNat) (n.toNat - 1)).1 < (bxs S s.toNat).1.length then (stF S s n mode f, updS (stS S s n mode f) s.toNat 0) else (-3, S)) else (-4, S)) else (-1, S)
def sp_expunge (S : mv_T) (s : Int) : Int × mv_T := if hasM S.2.2.1 s then (if (S.2.2.1 s.toNat).2.1 = 0 then (((pgS S (S.2.2.1 s.toNat).1.toNat).2 : Int), updS ((pgS S (S.2.2.1 s.toNat).1.toNat).1, S.2) s.toNat 1) else (-4, S)) else (-1, S)
def sp_copy (S : mv_T) (s n m : Int) : Int × mv_T := if (0 ≤ m ∧ m < 3) ∧ inV S.2.2.1 s n then (if fp (bxs S s.toNat).1 (vg (vws S s.toNat) (n.toNat - 1)).1 < (bxs S s.toNat).1.length then (if (rp S.1.1 m.toNat).1.length = 12 then (-2, S) else ((rp S.1.1 m.toNat).2, updS (sAdd S m.toNat (mg (bxs S s.toNat).1 (fp (bxs S s.toNat).1 (vg (vws S s.toNat) (n.toNat - 1)).1)).2.1 (mg (bxs S s.toNat).1 (fp (bxs S s.toNat).1 (vg (vws S s.toNat) (n.toNat - 1)).1)).2.2).2 s.toNat 1)) else (-3, S)) else (-1, S)
def setK (S : mv_T) (tk : List mv_Q) (fd : List Int) : mv_T := (S.1, S.2.1, S.2.2.1, tk, fd)
def sp_criterion (S : mv_T) (op a b : Int) : Int × mv_T := if 0 ≤ op ∧ op ≤ 8 then (if S.2.2.2.1.length = 14 then (-2, S) else ((S.2.2.2.1.length : Int) + 1, setK S (S.2.2.2.1 ++ [(op, a, b)]) S.2.2.2.2)) else (-1, S)
def fh (l tk : List mv_Q) : List mv_V → Nat → List Int
  | [], _ => []
  | x :: v, k => if fp l x.1 < l.length ∧ ¬ tv tk (lfv (mg l (fp l x.1)) ((k : Int) + 1)) 0 = 0 then ((k : Int) + 1) :: fh l tk v (k + 1) else fh l tk v (k + 1)
def fdS (S : mv_T) (s : Nat) : List Int := fh (bxs S s).1 S.2.2.2.1 (vws S s) 0
def sp_search (S : mv_T) (s : Int) : Int × mv_T := if hasM S.2.2.1 s then (if gd S.2.2.2.1 then (((fdS S s.toNat).length : Int), updS (setK S [] (fdS S s.toNat)) s.toNat 0) else (-5, setK S [] S.2.2.2.2)) else (-1, S)
def sp_found (S : mv_T) (k : Int) : Int := if 0 ≤ k ∧ k < S.2.2.2.2.length then S.2.2.2.2.getD k.toNat 0 else -1
def sp_sync (S : mv_T) : mv_T := ((S.1.1, S.1.1.length), S.2)
def lost (lg : List mv_H) (du : Nat) (m : Int) : Bool := (lg.drop du).any (fun c => decide (c.1 = 1) && decide (c.2.1 = m))
def sp_crash (S : mv_T) : mv_T := ((S.1.1.take S.1.2, S.1.2), (fun m => if lost S.1.1 S.1.2 m then S.2.1 m + 1 else S.2.1 m), (fun s => lvS (S.2.2.1 s)), S.2.2.2)
def sp_message (S : mv_T) (m k w : Int) : Int := if (0 ≤ m ∧ m < 3) ∧ 0 ≤ k ∧ k < (rp S.1.1 m.toNat).1.length then (if w = 0 then (mg (rp S.1.1 m.toNat).1 k.toNat).1 else if w = 1 then (mg (rp S.1.1 m.toNat).1 k.toNat).2.1 else if w = 2 then (mg (rp S.1.1 m.toNat).1 k.toNat).2.2 else -1) else -1
def sp_seen (S : mv_T) (s n w : Int) : Int := if inV S.2.2.1 s n then (if w = 0 then (vg (vws S s.toNat) (n.toNat - 1)).1 else if w = 1 then (vg (vws S s.toNat) (n.toNat - 1)).2 else -1) else -1
def sp_notice (S : mv_T) (s k w : Int) : Int := if hasM S.2.2.1 s ∧ 0 ≤ k ∧ k < (S.2.2.1 s.toNat).2.2.2.2.length then (if w = 0 then (vg (S.2.2.1 s.toNat).2.2.2.2 k.toNat).1 else if w = 1 then (vg (S.2.2.1 s.toNat).2.2.2.2 k.toNat).2 else -1) else -1
def cnS (ses : Nat → mv_S) (x : Int) : Int := (if (ses 0).1 = x then 1 else 0) + (if (ses 1).1 = x then 1 else 0) + (if (ses 2).1 = x then 1 else 0) + (if (ses 3).1 = x then 1 else 0)
def sp_mailbox (S : mv_T) (m w : Int) : Int := if 0 ≤ m ∧ m < 3 then (if w = 0 then ((rp S.1.1 m.toNat).1.length : Int) else if w = 1 then (rp S.1.1 m.toNat).2 else if w = 2 then S.2.1 m.toNat else if w = 3 then cnS S.2.2.1 m else -1) else -1
def sp_count (S : mv_T) (w : Int) : Int := if w = 0 then (S.1.1.length : Int) else if w = 1 then (S.1.2 : Int) else if w = 2 then (S.2.2.2.1.length : Int) else if w = 3 then (S.2.2.2.2.length : Int) else -1
section V5
variable {d nn ss : Nat} {μ : Nat → Option am_C} {Q : Option am_V → am_M → Prop} {S : mv_T}
theorem VR.VX (h : VR μ S) : ∃ E, VX μ (rp S.1.1) S.2.1 S.2.2.1 E (S.1.1.length - S.1.2) S.1.2 S.2.2.2.1 S.2.2.2.2 ∧ jOk S.1.1 S.1.2 E := h
theorem hasM.mb {s : Int} (h : hasM S.2.2.1 s) (hI : IC S) : (S.2.2.1 s.toNat).1 = (((S.2.2.1 s.toNat).1.toNat : Nat) : Int) ∧ (S.2.2.1 s.toNat).1.toNat < 3 ∧ s.toNat < 4 ∧ s = ((s.toNat : Nat) : Int) := by
  obtain ⟨h1, h2⟩ := h
  have h3 := hI.2.2.2.1 s.toNat (by omega)
  omega
theorem v_append {m f z : Int} (h : VR μ S) (hI : IC S) (hQ : ∀ μ', VR μ' (sp_append S m f z).2 → fr μ μ' 1 50 → Q (some (.inl (sp_append S m f z).1)) (nn, ss, μ')) : am_Wp mv_P (d + 5) jV_append [.inr (some 1), .inl m, .inl f, .inl z] (nn, ss, μ) Q := by
  obtain ⟨E, hX, hj⟩ := h.VX
  have g1 := hX.1
  unfold voP at g1
  unfold sp_append at hQ
  have bad : ¬ ((0 ≤ m ∧ m < 3) ∧ (0 ≤ f ∧ f ≤ 31) ∧ 1 ≤ z ∧ z ≤ 999) → am_Ex mv_P (d + 4) (am_at kV_append) (26, [some (.inr (some 1)), some (.inl m), some (.inl f), some (.inl z)], [], nn, ss, μ) Q := by
    intro hb
    rw [if_neg hb] at hQ
    refine x_const rfl ?_
    refine x_iret rfl ?_
    exact hQ μ h fr.rf
  refine am_wp pV_append (Nat.le_of_ble_eq_true rfl) ?_
  refine x_iload rfl rfl ?_
  refine x_callS1 rfl (Nat.le_of_ble_eq_true rfl) ?_
  refine c_V_isMailbox (fun hm => ?_) (fun hm => ?_)
  · refine x_if_eq rfl (fun hc => ?_) (fun hc => ?_)
    · exact absurd hc (by decide)
    · refine x_iload rfl rfl ?_
      refine x_callS1 rfl (Nat.le_of_ble_eq_true rfl) ?_
      refine c_V_areFlags (fun hf => ?_) (fun hf => ?_)
      · refine x_if_eq rfl (fun hc => ?_) (fun hc => ?_)
        · exact absurd hc (by decide)
        · refine x_iload rfl rfl ?_
          refine x_const rfl ?_
          refine x_icmp_lt rfl (fun hc => ?_) (fun hc => ?_)
          · exact bad (by omega)
          · refine x_iload rfl rfl ?_
            refine x_const rfl ?_
            refine x_icmp_le rfl (fun hc => ?_) (fun hc => ?_)
            · refine x_aload rfl rfl ?_
              refine x_iload rfl rfl ?_
              refine x_iload rfl rfl ?_
              refine x_iload rfl rfl ?_
              refine x_callV3 rfl (by assumption) (Nat.le_of_ble_eq_true rfl) ?_
              rw [if_pos ⟨hm, hf, by omega, by omega⟩] at hQ
              unfold sAdd at hQ
              rw [show m = ((m.toNat : Nat) : Int) by omega]
              refine c_V_add (lg := S.1.1) (du := S.1.2) h hI.1 (by omega) (fun h12 => ?_) (fun μ' h12 hV hf => ?_)
              · refine x_iret rfl ?_
                rw [if_pos h12] at hQ
                exact hQ μ h fr.rf
              · refine x_iret rfl ?_
                rw [if_neg (by omega)] at hQ
                exact hQ μ' hV hf
            · exact bad (by omega)
      · refine x_if_eq rfl (fun hc => ?_) (fun hc => ?_)
        · exact bad (by omega)
        · exact absurd rfl hc
  · refine x_if_eq rfl (fun hc => ?_) (fun hc => ?_)
    · exact bad (by omega)
    · exact absurd rfl hc
theorem v_select {s m r : Int} (hr : r = 0 ∨ r = 1) (h : VR μ S) (hI : IC S) (hQ : ∀ μ', VR μ' (sp_select S s m r).2 → fr μ μ' 1 50 → Q (some (.inl (sp_select S s m r).1)) (nn, ss, μ')) : am_Wp mv_P (d + 4) jV_select [.inr (some 1), .inl s, .inl m, .inl r] (nn, ss, μ) Q := by
  obtain ⟨E, hX, hj⟩ := h.VX
  have hX' := hX
  obtain ⟨g1, ⟨⟨f0, g5, g6⟩, f1, g2, g3⟩, g7, g4, -⟩ := hX
  unfold voP at g1
  unfold sp_select at hQ
  refine am_wp pV_select (Nat.le_of_ble_eq_true rfl) ?_
  refine x_iload rfl rfl ?_
  refine x_callS1 rfl (Nat.le_of_ble_eq_true rfl) ?_
  refine c_V_isSession (fun hs => ?_) (fun hs => ?_)
  · refine x_if_eq rfl (fun hc => ?_) (fun hc => ?_)
    · exact absurd hc (by decide)
    · refine x_iload rfl rfl ?_
      refine x_callS1 rfl (Nat.le_of_ble_eq_true rfl) ?_
      refine c_V_isMailbox (fun hm => ?_) (fun hm => ?_)
      · refine x_if_ne rfl (fun hc => ?_) (fun hc => ?_)
        · rw [if_pos ⟨hs, hm⟩] at hQ
          have hb := g7 m.toNat (by omega)
          have k0 := g4 s.toNat (by omega)
          obtain ⟨fs, k1⟩ := k0.ob
          refine x_aload rfl rfl ?_
          refine x_get rfl (by assumption) rfl ?_
          refine x_iload rfl rfl ?_
          refine x_aaldN (j := s.toNat) rfl (by assumption) (by omega) (by omega) ?_
          rw [g3 _ (by omega)]
          refine x_iload rfl rfl ?_
          refine x_iload rfl rfl ?_
          refine x_aload rfl rfl ?_
          refine x_get rfl (by assumption) rfl ?_
          refine x_iload rfl rfl ?_
          refine x_aaldN (j := m.toNat) rfl (by assumption) (by omega) (by omega) ?_
          rw [g6 _ (by omega)]
          refine x_callV3 rfl (by assumption) (Nat.le_of_ble_eq_true rfl) ?_
          refine c_S_open k0 hr hb (by omega) (fun μ1 hs1 hf1 => ?_)
          have hX1 := hX'.sess (x := (m, r, (ga (rp S.1.1 m.toNat).1 ([], 0)).2, (ga (rp S.1.1 m.toNat).1 ([], 0)).1, [])) (show s.toNat < 4 by omega) hs1 hf1
          have hX1' := hX1
          obtain ⟨k1, ⟨-, f2, k2, k3⟩, -⟩ := hX1
          unfold voP at k1
          obtain ⟨V, T, kA, -⟩ := hs1
          refine x_aload rfl rfl ?_
          refine x_get rfl (by assumption) rfl ?_
          refine x_iload rfl rfl ?_
          refine x_aaldN (j := s.toNat) rfl (by assumption) (by omega) (by omega) ?_
          rw [k3 _ (by omega)]
          refine x_callV0 rfl kA.1 (Nat.le_of_ble_eq_true rfl) ?_
          refine c_S_viewLength kA ?_
          refine x_iret rfl ?_
          exact hQ μ1 ⟨E, hX1', hj⟩ (hf1.wd (by omega) (by omega))
        · exact absurd hc (by decide)
      · refine x_if_ne rfl (fun hc => ?_) (fun hc => ?_)
        · exact absurd rfl hc
        · refine x_const rfl ?_
          refine x_iret rfl ?_
          rw [if_neg (fun q => hm q.2)] at hQ
          exact hQ μ h fr.rf
  · refine x_if_eq rfl (fun hc => ?_) (fun hc => ?_)
    · refine x_const rfl ?_
      refine x_iret rfl ?_
      rw [if_neg (fun q => hs q.1)] at hQ
      exact hQ μ h fr.rf
    · exact absurd rfl hc
theorem VR.upd {s m : Nat} {rm : Int} (h : VR μ S) (hs : s < 4) (hm : (S.2.2.1 s).1 = (m : Int)) (hm3 : m < 3) (hQ : ∀ μ', VR μ' (updS S s rm) → fr μ μ' 1 50 → Q none (nn, ss, μ')) : am_Wp mv_P (d + 4) jV_update [.inr (some 1), .inl s, .inl rm] (nn, ss, μ) Q := by
  obtain ⟨E, hX, hj⟩ := h.VX
  refine c_V_update hX hs hm hm3 (fun μ' hX' hf => hQ μ' ⟨E, ?_, hj⟩ hf)
  have e : bxs S s = rp S.1.1 m := by
    unfold bxs
    rw [hm]
    rfl
  rw [← e] at hX'
  exact hX'
theorem v_check {s : Int} (h : VR μ S) (hI : IC S) (hQ : ∀ μ', VR μ' (sp_check S s).2 → fr μ μ' 1 50 → Q (some (.inl (sp_check S s).1)) (nn, ss, μ')) : am_Wp mv_P (d + 5) jV_check [.inr (some 1), .inl s] (nn, ss, μ) Q := by
  obtain ⟨E, hX, hj⟩ := h.VX
  have g1 := hX.1
  unfold voP at g1
  unfold sp_check at hQ
  refine am_wp pV_check (Nat.le_of_ble_eq_true rfl) ?_
  refine x_aload rfl rfl ?_
  refine x_iload rfl rfl ?_
  refine x_callV1 rfl (by assumption) (Nat.le_of_ble_eq_true rfl) ?_
  refine c_V_hasMailbox hX (fun hs => ?_) (fun hs => ?_)
  · obtain ⟨e1, e2, e3, e4⟩ := hs.mb hI
    rw [if_pos hs] at hQ
    refine x_if_ne rfl (fun hc => ?_) (fun hc => ?_)
    · refine x_aload rfl rfl ?_
      refine x_iload rfl rfl ?_
      refine x_const rfl ?_
      refine x_callV2 rfl (by assumption) (Nat.le_of_ble_eq_true rfl) ?_
      rw [e4]
      refine h.upd e3 e1 e2 (fun μ1 h1 hf1 => ?_)
      rw [← e4]
      obtain ⟨E1, hX1, -⟩ := h1.VX
      obtain ⟨k1, ⟨-, f2, k2, k3⟩, -, k4, -⟩ := hX1
      unfold voP at k1
      have k0 := k4 s.toNat e3
      obtain ⟨V, T, kA, -⟩ := k0
      refine x_aload rfl rfl ?_
      refine x_get rfl (by assumption) rfl ?_
      refine x_iload rfl rfl ?_
      refine x_aaldN (j := s.toNat) rfl (by assumption) (by omega) (by omega) ?_
      rw [k3 _ e3]
      refine x_callV0 rfl kA.1 (Nat.le_of_ble_eq_true rfl) ?_
      refine c_S_noticeCount kA ?_
      refine x_iret rfl ?_
      have e5 : ((updS S s.toNat 1).2.2.1 s.toNat) = upS (S.2.2.1 s.toNat) (bxs S s.toNat) 1 := by
        show am_fu _ _ _ _ = _
        rw [am_fu_s]
      rw [e5]
      exact hQ μ1 h1 hf1
    · exact absurd hc (by decide)
  · rw [if_neg hs] at hQ
    refine x_if_ne rfl (fun hc => ?_) (fun hc => ?_)
    · exact absurd rfl hc
    · refine x_const rfl ?_
      refine x_iret rfl ?_
      exact hQ μ h fr.rf
end V5
