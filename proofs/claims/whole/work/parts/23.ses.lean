/-! a session: cells a .. a+4 -/
abbrev mv_V : Type := Int × Int
def vg (l : List mv_V) (k : Nat) : mv_V := l.getD k (0, 0)
theorem vg_0 (q : mv_V) (l : List mv_V) : vg (q :: l) 0 = q := rfl
theorem vg_s (q : mv_V) (l : List mv_V) (k : Nat) : vg (q :: l) (k + 1) = vg l k := rfl
theorem vg_app (l l' : List mv_V) (k : Nat) : vg (l ++ l') k = if k < l.length then vg l k else vg l' (k - l.length) := by
  unfold vg
  rw [List.getD_eq_getElem?_getD, List.getD_eq_getElem?_getD, List.getD_eq_getElem?_getD]
  by_cases h : k < l.length
  · rw [if_pos h, List.getElem?_append_left h]
  · rw [if_neg h, List.getElem?_append_right (by omega)]
theorem vg_set (l : List mv_V) (i k : Nat) (q : mv_V) : vg (l.set i q) k = if k = i ∧ i < l.length then q else vg l k := by
  unfold vg
  rw [List.getD_eq_getElem?_getD, List.getD_eq_getElem?_getD]
  by_cases h : k = i
  · subst h
    by_cases h2 : k < l.length
    · rw [if_pos ⟨rfl, h2⟩, List.getElem?_set_self h2]
      rfl
    · rw [if_neg (fun q => h2 q.2), List.getElem?_eq_none (by rw [List.length_set]; omega), List.getElem?_eq_none (by omega)]
  · rw [if_neg (fun q => h q.1), List.getElem?_set_ne (fun q => h q.symm)]
def seA (μ : Nat → Option am_C) (a : Nat) (V T : Nat → mv_V) (n t : Nat) (mb ro hi : Int) : Prop :=
  μ a = some (.inl (3, [.inr (some (a + 1)), .inr (some (a + 2)), .inr (some (a + 3)), .inr (some (a + 4)), .inl mb, .inl ro, .inl n, .inl t, .inl hi])) ∧ μ (a + 1) = some (.inr (.inl (0, 24, fun k => (V k).1))) ∧ μ (a + 2) = some (.inr (.inl (0, 24, fun k => (V k).2))) ∧ μ (a + 3) = some (.inr (.inl (0, 49, fun k => (T k).1))) ∧ μ (a + 4) = some (.inr (.inl (0, 49, fun k => (T k).2)))
theorem seA.fr {μ μ' : Nat → Option am_C} {a lo hi : Nat} {V T : Nat → mv_V} {n t : Nat} {mb ro h : Int} (g : seA μ a V T n t mb ro h) (hf : fr μ μ' lo hi) (ho : a + 5 ≤ lo ∨ hi ≤ a) : seA μ' a V T n t mb ro h := by
  obtain ⟨h0, h1, h2, h3, h4⟩ := g
  exact ⟨by rw [hf a (by omega)]; exact h0, by rw [hf (a + 1) (by omega)]; exact h1, by rw [hf (a + 2) (by omega)]; exact h2, by rw [hf (a + 3) (by omega)]; exact h3, by rw [hf (a + 4) (by omega)]; exact h4⟩
section Ses
variable {d nn ss a n t : Nat} {μ : Nat → Option am_C} {Q : Option am_V → am_M → Prop} {V T : Nat → mv_V} {mb ro hi : Int}
theorem c_S_mailboxNumber (h : seA μ a V T n t mb ro hi) (hQ : Q (some (.inl mb)) (nn, ss, μ)) : am_Wp mv_P (d + 1) jS_mailboxNumber [.inr (some a)] (nn, ss, μ) Q := by
  obtain ⟨h0, h1, h2, h3, h4⟩ := h
  refine am_wp pS_mailboxNumber (Nat.le_of_ble_eq_true rfl) ?_
  refine x_aload rfl rfl ?_
  refine x_get rfl (by assumption) rfl ?_
  refine x_iret rfl ?_
  exact hQ
theorem c_S_isReadOnly (h : seA μ a V T n t mb ro hi) (hr : ro = 0 ∨ ro = 1) (hQ : Q (some (.inl ro)) (nn, ss, μ)) : am_Wp mv_P (d + 1) jS_isReadOnly [.inr (some a)] (nn, ss, μ) Q := by
  obtain ⟨h0, h1, h2, h3, h4⟩ := h
  refine am_wp pS_isReadOnly (Nat.le_of_ble_eq_true rfl) ?_
  refine x_aload rfl rfl ?_
  refine x_get rfl (by assumption) rfl ?_
  refine x_zret rfl (by first | exact Or.inl rfl | exact Or.inr rfl | assumption | omega) ?_
  exact hQ
theorem c_S_viewLength (h : seA μ a V T n t mb ro hi) (hQ : Q (some (.inl n)) (nn, ss, μ)) : am_Wp mv_P (d + 1) jS_viewLength [.inr (some a)] (nn, ss, μ) Q := by
  obtain ⟨h0, h1, h2, h3, h4⟩ := h
  refine am_wp pS_viewLength (Nat.le_of_ble_eq_true rfl) ?_
  refine x_aload rfl rfl ?_
  refine x_get rfl (by assumption) rfl ?_
  refine x_iret rfl ?_
  exact hQ
theorem c_S_noticeCount (h : seA μ a V T n t mb ro hi) (hQ : Q (some (.inl t)) (nn, ss, μ)) : am_Wp mv_P (d + 1) jS_noticeCount [.inr (some a)] (nn, ss, μ) Q := by
  obtain ⟨h0, h1, h2, h3, h4⟩ := h
  refine am_wp pS_noticeCount (Nat.le_of_ble_eq_true rfl) ?_
  refine x_aload rfl rfl ?_
  refine x_get rfl (by assumption) rfl ?_
  refine x_iret rfl ?_
  exact hQ
theorem c_S_uidOf {x : Int} {k : Nat} (h : seA μ a V T n t mb ro hi) (hx : x = (k : Int) + 1) (hk : k < 24) (hQ : Q (some (.inl (V k).1)) (nn, ss, μ)) : am_Wp mv_P (d + 1) jS_uidOf [.inr (some a), .inl x] (nn, ss, μ) Q := by
  obtain ⟨h0, h1, h2, h3, h4⟩ := h
  refine am_wp pS_uidOf (Nat.le_of_ble_eq_true rfl) ?_
  refine x_aload rfl rfl ?_
  refine x_get rfl (by assumption) rfl ?_
  refine x_iload rfl rfl ?_
  refine x_const rfl ?_
  refine x_isub rfl ⟨by omega, by omega⟩ ?_
  refine x_ialdN (j := k) rfl (by assumption) (by omega) (by omega) ?_
  refine x_iret rfl ?_
  exact hQ
theorem c_S_knownFlagsOf {x : Int} {k : Nat} (h : seA μ a V T n t mb ro hi) (hx : x = (k : Int) + 1) (hk : k < 24) (hQ : Q (some (.inl (V k).2)) (nn, ss, μ)) : am_Wp mv_P (d + 1) jS_knownFlagsOf [.inr (some a), .inl x] (nn, ss, μ) Q := by
  obtain ⟨h0, h1, h2, h3, h4⟩ := h
  refine am_wp pS_knownFlagsOf (Nat.le_of_ble_eq_true rfl) ?_
  refine x_aload rfl rfl ?_
  refine x_get rfl (by assumption) rfl ?_
  refine x_iload rfl rfl ?_
  refine x_const rfl ?_
  refine x_isub rfl ⟨by omega, by omega⟩ ?_
  refine x_ialdN (j := k) rfl (by assumption) (by omega) (by omega) ?_
  refine x_iret rfl ?_
  exact hQ
theorem c_S_noticeKindAt {k : Nat} (h : seA μ a V T n t mb ro hi) (hk : k < 49) (hQ : Q (some (.inl (T k).1)) (nn, ss, μ)) : am_Wp mv_P (d + 1) jS_noticeKindAt [.inr (some a), .inl k] (nn, ss, μ) Q := by
  obtain ⟨h0, h1, h2, h3, h4⟩ := h
  refine am_wp pS_noticeKindAt (Nat.le_of_ble_eq_true rfl) ?_
  refine x_aload rfl rfl ?_
  refine x_get rfl (by assumption) rfl ?_
  refine x_iload rfl rfl ?_
  refine x_ialdN (j := k) rfl (by assumption) (by omega) (by omega) ?_
  refine x_iret rfl ?_
  exact hQ
theorem c_S_noticeNumberAt {k : Nat} (h : seA μ a V T n t mb ro hi) (hk : k < 49) (hQ : Q (some (.inl (T k).2)) (nn, ss, μ)) : am_Wp mv_P (d + 1) jS_noticeNumberAt [.inr (some a), .inl k] (nn, ss, μ) Q := by
  obtain ⟨h0, h1, h2, h3, h4⟩ := h
  refine am_wp pS_noticeNumberAt (Nat.le_of_ble_eq_true rfl) ?_
  refine x_aload rfl rfl ?_
  refine x_get rfl (by assumption) rfl ?_
  refine x_iload rfl rfl ?_
  refine x_ialdN (j := k) rfl (by assumption) (by omega) (by omega) ?_
  refine x_iret rfl ?_
  exact hQ
theorem am_fu_k {f : Nat → Int} {k : Nat} : am_fu f k (f k) = f := by
  funext j
  by_cases h : j = k <;> simp [am_fu, h]
theorem c_S_know {x z : Int} {k : Nat} (h : seA μ a V T n t mb ro hi) (hx : x = (k : Int) + 1) (hk : k < 24) (hQ : ∀ μ', seA μ' a (am_fu V k ((V k).1, z)) T n t mb ro hi → fr μ μ' a (a + 5) → Q none (nn, ss, μ')) : am_Wp mv_P (d + 1) jS_know [.inr (some a), .inl x, .inl z] (nn, ss, μ) Q := by
  obtain ⟨h0, h1, h2, h3, h4⟩ := h
  refine am_wp pS_know (Nat.le_of_ble_eq_true rfl) ?_
  refine x_aload rfl rfl ?_
  refine x_get rfl (by assumption) rfl ?_
  refine x_iload rfl rfl ?_
  refine x_const rfl ?_
  refine x_isub rfl ⟨by omega, by omega⟩ ?_
  refine x_iload rfl rfl ?_
  refine x_iastN (j := k) rfl (by assumption) (by omega) (by omega) rfl ?_
  intro μ' hn ho
  refine x_vret rfl ?_
  rw [am_fu_p (fun q : mv_V => q.2) V k ((V k).1, z)] at hn
  refine hQ μ' ⟨(ho _ (by omega)).trans h0, ?_, hn, (ho _ (by omega)).trans h3, (ho _ (by omega)).trans h4⟩ (fr.one ho (by omega) (by omega))
  have e : (fun j => (am_fu V k ((V k).1, z) j).1) = fun j => (V j).1 := by
    funext j
    by_cases hj : j = k <;> simp [am_fu, hj]
  rw [e]
  exact (ho _ (by omega)).trans h1
theorem c_S_tell {kd x : Int} (h : seA μ a V T n t mb ro hi) (ht : t < 49) (hQ : ∀ μ', seA μ' a V (am_fu T t (kd, x)) n (t + 1) mb ro hi → fr μ μ' a (a + 5) → Q none (nn, ss, μ')) : am_Wp mv_P (d + 1) jS_tell [.inr (some a), .inl kd, .inl x] (nn, ss, μ) Q := by
  obtain ⟨h0, h1, h2, h3, h4⟩ := h
  refine am_wp pS_tell (Nat.le_of_ble_eq_true rfl) ?_
  refine x_aload rfl rfl ?_
  refine x_get rfl (by assumption) rfl ?_
  refine x_const rfl ?_
  refine x_icmp_ge rfl (fun hc => ?_) (fun hc => ?_)
  · exact absurd hc (by omega)
  · refine x_aload rfl rfl ?_
    refine x_get rfl (by assumption) rfl ?_
    refine x_aload rfl rfl ?_
    refine x_get rfl (by assumption) rfl ?_
    refine x_iload rfl rfl ?_
    refine x_iastN (j := t) rfl (by assumption) (by omega) (by omega) rfl ?_
    intro μ1 n1 o1
    have h0 := (o1 a (by omega)).trans h0
    have h1 := (o1 (a + 1) (by omega)).trans h1
    have h2 := (o1 (a + 2) (by omega)).trans h2
    have h4 := (o1 (a + 4) (by omega)).trans h4
    refine x_aload rfl rfl ?_
    refine x_get rfl (by assumption) rfl ?_
    refine x_aload rfl rfl ?_
    refine x_get rfl (by assumption) rfl ?_
    refine x_iload rfl rfl ?_
    refine x_iastN (j := t) rfl (by assumption) (by omega) (by omega) rfl ?_
    intro μ2 n2 o2
    have h0 := (o2 a (by omega)).trans h0
    have h1 := (o2 (a + 1) (by omega)).trans h1
    have h2 := (o2 (a + 2) (by omega)).trans h2
    have n1 := (o2 (a + 3) (by omega)).trans n1
    refine x_aload rfl rfl ?_
    refine x_dup rfl ?_
    refine x_get rfl (by assumption) rfl ?_
    refine x_const rfl ?_
    refine x_iadd rfl ⟨by omega, by omega⟩ ?_
    refine x_putG rfl (by assumption) (Nat.le_of_ble_eq_true rfl) rfl ?_
    intro μ3 n3 o3
    have h1 := (o3 (a + 1) (by omega)).trans h1
    have h2 := (o3 (a + 2) (by omega)).trans h2
    have n1 := (o3 (a + 3) (by omega)).trans n1
    have n2 := (o3 (a + 4) (by omega)).trans n2
    rw [am_fu_p (fun q : mv_V => q.1) T t (kd, x)] at n1
    rw [am_fu_p (fun q : mv_V => q.2) T t (kd, x)] at n2
    refine x_vret rfl ?_
    exact hQ μ3 ⟨n3, h1, h2, n1, n2⟩ (((fr.one o1 (by omega) (by omega)).tr (fr.one o2 (by omega) (by omega))).tr (fr.one o3 (by omega) (by omega)))
theorem c_S_leave (h : seA μ a V T n t mb ro hi) (hQ : ∀ μ', seA μ' a V T 0 0 (-1) 0 hi → fr μ μ' a (a + 5) → Q none (nn, ss, μ')) : am_Wp mv_P (d + 1) jS_leave [.inr (some a)] (nn, ss, μ) Q := by
  obtain ⟨h0, h1, h2, h3, h4⟩ := h
  refine am_wp pS_leave (Nat.le_of_ble_eq_true rfl) ?_
  refine x_aload rfl rfl ?_
  refine x_const rfl ?_
  refine x_putG rfl (by assumption) (Nat.le_of_ble_eq_true rfl) rfl ?_
  intro μ1 n1 o1
  refine x_aload rfl rfl ?_
  refine x_const rfl ?_
  refine x_putG rfl (by assumption) (Nat.le_of_ble_eq_true rfl) rfl ?_
  intro μ2 n2 o2
  refine x_aload rfl rfl ?_
  refine x_const rfl ?_
  refine x_putG rfl (by assumption) (Nat.le_of_ble_eq_true rfl) rfl ?_
  intro μ3 n3 o3
  refine x_aload rfl rfl ?_
  refine x_const rfl ?_
  refine x_putG rfl (by assumption) (Nat.le_of_ble_eq_true rfl) rfl ?_
  intro μ4 n4 o4
  refine x_vret rfl ?_
  have key : ∀ x, x ≠ a → μ4 x = μ x := fun x hx => by rw [o4 x hx, o3 x hx, o2 x hx, o1 x hx]
  exact hQ μ4 ⟨n4, (key _ (by omega)).trans h1, (key _ (by omega)).trans h2, (key _ (by omega)).trans h3, (key _ (by omega)).trans h4⟩ (fr.one key (by omega) (by omega))
end Ses
-- what a view becomes
def hasU (l : List mv_Q) (u : Int) : Prop := fp l u < l.length
def dk (l : List mv_Q) : List mv_V → List mv_V
  | [] => []
  | x :: v => if fp l x.1 < l.length then x :: dk l v else dk l v
def dn (l : List mv_Q) : List mv_V → Nat → List mv_V
  | [], _ => []
  | x :: v, k => if fp l x.1 < l.length then dn l v (k + 1) else (1, (k : Int) + 1) :: dn l v k
def ga : List mv_Q → List mv_V × Int → List mv_V × Int
  | [], s => s
  | q :: l, s => ga l (if s.1.length < 24 ∧ s.2 < q.1 then (s.1 ++ [(q.1, q.2.1)], q.1) else s)
def lv (l : List mv_Q) : List mv_V → List mv_V
  | [] => []
  | x :: v => (if fp l x.1 < l.length then (x.1, (mg l (fp l x.1)).2.1) else x) :: lv l v
def ln (l : List mv_Q) : List mv_V → Nat → List mv_V
  | [], _ => []
  | x :: v, k => if fp l x.1 < l.length ∧ ¬ (mg l (fp l x.1)).2.1 = x.2 then (3, (k : Int) + 1) :: ln l v (k + 1) else ln l v (k + 1)
theorem dk_len (l : List mv_Q) : ∀ (v : List mv_V) (k : Nat), (dk l v).length + (dn l v k).length = v.length
  | [], _ => rfl
  | x :: v, k => by
    unfold dk dn
    split
    · have := dk_len l v (k + 1)
      simp only [List.length_cons]; omega
    · have := dk_len l v k
      simp only [List.length_cons]; omega
theorem ga_c (q : mv_Q) (l : List mv_Q) (s : List mv_V × Int) : ga (q :: l) s = ga l (if s.1.length < 24 ∧ s.2 < q.1 then (s.1 ++ [(q.1, q.2.1)], q.1) else s) := rfl
theorem ga_full {l : List mv_Q} {s : List mv_V × Int} (h : ¬ s.1.length < 24) : ga l s = s := by
  induction l with
  | nil => rfl
  | cons q l ih =>
    unfold ga
    rw [if_neg (fun g => h g.1)]
    exact ih
theorem ga_len : ∀ (l : List mv_Q) (s : List mv_V × Int), s.1.length ≤ 24 → s.1.length ≤ (ga l s).1.length ∧ (ga l s).1.length ≤ 24
  | [], s, h => ⟨Nat.le_refl _, h⟩
  | q :: l, s, h => by
    unfold ga
    by_cases hg : s.1.length < 24 ∧ s.2 < q.1
    · rw [if_pos hg]
      have := ga_len l (s.1 ++ [(q.1, q.2.1)], q.1) (by simp; omega)
      simp only [List.length_append, List.length_cons, List.length_nil] at this
      omega
    · rw [if_neg hg]
      exact ga_len l s h
theorem lv_len (l : List mv_Q) : ∀ v, (lv l v).length = v.length
  | [] => rfl
  | x :: v => by
    unfold lv
    simp only [List.length_cons, lv_len l v]
theorem ln_len (l : List mv_Q) : ∀ (v : List mv_V) (k : Nat), (ln l v k).length ≤ v.length
  | [], _ => Nat.le_refl _
  | x :: v, k => by
    unfold ln
    have := ln_len l v (k + 1)
    split <;> simp only [List.length_cons] <;> omega
def lL (v : List mv_V) (V : Nat → mv_V) : Prop := ∀ k, k < v.length → V k = vg v k
theorem lL.app {v : List mv_V} {V : Nat → mv_V} (h : lL v V) (q : mv_V) : lL (v ++ [q]) (am_fu V v.length q) := by
  intro k hk
  simp only [List.length_append, List.length_cons, List.length_nil] at hk
  rw [vg_app]
  by_cases h2 : k < v.length
  · rw [if_pos h2, am_fu_n (by omega)]
    exact h k h2
  · rw [if_neg h2, show k = v.length by omega, am_fu_s, Nat.sub_self]
    rfl
/-- a session holds a view and its notices -/
def se (μ : Nat → Option am_C) (a : Nat) (v nt : List mv_V) (mb ro hi : Int) : Prop := ∃ V T, seA μ a V T v.length nt.length mb ro hi ∧ lL v V ∧ lL nt T ∧ v.length ≤ 24 ∧ nt.length ≤ 49 ∧ (ro = 0 ∨ ro = 1)
theorem se.fr {μ μ' : Nat → Option am_C} {a lo hi : Nat} {v nt : List mv_V} {mb ro h : Int} (g : se μ a v nt mb ro h) (hf : fr μ μ' lo hi) (ho : a + 5 ≤ lo ∨ hi ≤ a) : se μ' a v nt mb ro h := by
  obtain ⟨V, T, h1, h2⟩ := g
  exact ⟨V, T, h1.fr hf ho, h2⟩
theorem se.ob {μ : Nat → Option am_C} {a : Nat} {v nt : List mv_V} {mb ro h : Int} (g : se μ a v nt mb ro h) : ∃ fs, μ a = some (.inl (3, fs)) := by
  obtain ⟨V, T, h1, -⟩ := g
  exact ⟨_, h1.1⟩
theorem mg_drop (l : List mv_Q) {k : Nat} (h : k < l.length) : l.drop k = mg l k :: l.drop (k + 1) := by
  rw [List.drop_eq_getElem_cons h]
  congr 1
  unfold mg
  rw [List.getD_eq_getElem?_getD, List.getElem?_eq_getElem h]
  rfl
section Ses2
variable {d nn ss a ab : Nat} {μ : Nat → Option am_C} {Q : Option am_V → am_M → Prop} {v nt : List mv_V} {mb ro hi vl : Int} {b : mv_B}
theorem d_S_tell {kd x : Int} (h : se μ a v nt mb ro hi) (ht : nt.length < 49) (hQ : ∀ μ', se μ' a v (nt ++ [(kd, x)]) mb ro hi → fr μ μ' a (a + 5) → Q none (nn, ss, μ')) : am_Wp mv_P (d + 1) jS_tell [.inr (some a), .inl kd, .inl x] (nn, ss, μ) Q := by
  obtain ⟨V, T, h1, h2, h3, h4, h5, h6⟩ := h
  refine c_S_tell h1 ht (fun μ' hs hf => hQ μ' ⟨V, am_fu T nt.length (kd, x), ?_, h2, h3.app _, h4, by simp; omega, h6⟩ hf)
  rw [List.length_append]
  exact hs
theorem c_S_takeInNew (h : se μ a v nt mb ro hi) (hb : bx μ ab b vl) (hd : ab + 4 ≤ a ∨ a + 5 ≤ ab) (hQ : ∀ μ', se μ' a (ga b.1 (v, hi)).1 nt mb ro (ga b.1 (v, hi)).2 → fr μ μ' a (a + 5) → Q none (nn, ss, μ')) : am_Wp mv_P (d + 2) jS_takeInNew [.inr (some a), .inr (some ab)] (nn, ss, μ) Q := by
  obtain ⟨fsb, hob⟩ := hb.ob
  have h12 : b.1.length ≤ 12 := by obtain ⟨W, -, h2, -⟩ := hb; exact h2
  have loop : ∀ (m k : Nat) (μ' : Nat → Option am_C) (v' : List mv_V) (hi' : Int), k + m = b.1.length → se μ' a v' nt mb ro hi' → ga (b.1.drop k) (v', hi') = ga b.1 (v, hi) → fr μ μ' a (a + 5) → am_Ex mv_P (d + 1) (am_at kS_takeInNew) (2, [some (.inr (some a)), some (.inr (some ab)), some (.inl (k : Int))], [], nn, ss, μ') Q := by
    intro m
    induction m with
    | zero =>
      intro k μ' v' hi' hk hs hg hf
      have hb' := hb.fr hf (by omega)
      obtain ⟨fs2, hob2⟩ := hb'.ob
      refine x_iload rfl rfl ?_
      refine x_aload rfl rfl ?_
      refine x_callV0 rfl (by assumption) (Nat.le_of_ble_eq_true rfl) ?_
      refine d_B_messageCount hb' ?_
      refine x_icmp_ge rfl (fun hc => ?_) (fun hc => ?_)
      · refine x_vret rfl ?_
        rw [List.drop_eq_nil_of_le (by omega)] at hg
        rw [← hg] at hQ
        exact hQ μ' hs hf
      · exact absurd hc (by omega)
    | succ m ih =>
      intro k μ' v' hi' hk hs hg hf
      have hb' := hb.fr hf (by omega)
      obtain ⟨fs2, hob2⟩ := hb'.ob
      obtain ⟨V, T, ⟨g0, g1, g2, g3, g4⟩, h2, h3, h4, h5, h6⟩ := id hs
      rw [mg_drop b.1 (show k < b.1.length by omega), ga_c] at hg
      refine x_iload rfl rfl ?_
      refine x_aload rfl rfl ?_
      refine x_callV0 rfl (by assumption) (Nat.le_of_ble_eq_true rfl) ?_
      refine d_B_messageCount hb' ?_
      refine x_icmp_ge rfl (fun hc => ?_) (fun hc => ?_)
      · exact absurd hc (by omega)
      · refine x_aload rfl rfl ?_
        refine x_get rfl (by assumption) rfl ?_
        refine x_const rfl ?_
        refine x_icmp_ge rfl (fun hc => ?_) (fun hc => ?_)
        · refine x_vret rfl ?_
          have hfull : ¬ v'.length < 24 := by omega
          rw [if_neg (fun g => hfull g.1), ga_full hfull] at hg
          rw [← hg] at hQ
          exact hQ μ' hs hf
        · have hlt : v'.length < 24 := by omega
          refine x_aload rfl rfl ?_
          refine x_iload rfl rfl ?_
          refine x_callV1 rfl (by assumption) (Nat.le_of_ble_eq_true rfl) ?_
          refine d_B_uidAt hb' (by omega) ?_
          refine x_aload rfl rfl ?_
          refine x_get rfl (by assumption) rfl ?_
          refine x_icmp_le rfl (fun hc => ?_) (fun hc => ?_)
          · refine x_iinc rfl rfl ⟨by omega, by omega⟩ ?_
            refine x_goto rfl ?_
            rw [if_neg (fun g => by have := g.2; omega)] at hg
            exact ih (k + 1) μ' v' hi' (by omega) hs hg hf
          · rw [if_pos ⟨hlt, by omega⟩] at hg
            refine x_aload rfl rfl ?_
            refine x_aload rfl rfl ?_
            refine x_iload rfl rfl ?_
            refine x_callV1 rfl (by assumption) (Nat.le_of_ble_eq_true rfl) ?_
            refine d_B_uidAt hb' (by omega) ?_
            refine x_putG rfl (by assumption) (Nat.le_of_ble_eq_true rfl) rfl ?_
            intro μ1 n1 o1
            have g1 := (o1 (a + 1) (by omega)).trans g1
            have g2 := (o1 (a + 2) (by omega)).trans g2
            have g3 := (o1 (a + 3) (by omega)).trans g3
            have g4 := (o1 (a + 4) (by omega)).trans g4
            have b1 := hb'.fr (fr.one (lo := a) (hi := a + 5) o1 (by omega) (by omega)) (by omega)
            refine x_aload rfl rfl ?_
            refine x_get rfl (by assumption) rfl ?_
            refine x_aload rfl rfl ?_
            refine x_get rfl (by assumption) rfl ?_
            refine x_aload rfl rfl ?_
            refine x_get rfl (by assumption) rfl ?_
            refine x_iastN (j := v'.length) rfl (by assumption) (by omega) (by omega) rfl ?_
            intro μ2 n2 o2
            have n1 := (o2 a (by omega)).trans n1
            have g2 := (o2 (a + 2) (by omega)).trans g2
            have g3 := (o2 (a + 3) (by omega)).trans g3
            have g4 := (o2 (a + 4) (by omega)).trans g4
            have b2 := b1.fr (fr.one (lo := a) (hi := a + 5) o2 (by omega) (by omega)) (by omega)
            obtain ⟨fs3, hob3⟩ := b2.ob
            refine x_aload rfl rfl ?_
            refine x_get rfl (by assumption) rfl ?_
            refine x_aload rfl rfl ?_
            refine x_get rfl (by assumption) rfl ?_
            refine x_aload rfl rfl ?_
            refine x_iload rfl rfl ?_
            refine x_callV1 rfl (by assumption) (Nat.le_of_ble_eq_true rfl) ?_
            refine d_B_flagsAt b2 (by omega) ?_
            refine x_iastN (j := v'.length) rfl (by assumption) (by omega) (by omega) rfl ?_
            intro μ3 n3 o3
            have n1 := (o3 a (by omega)).trans n1
            have n2 := (o3 (a + 1) (by omega)).trans n2
            have g3 := (o3 (a + 3) (by omega)).trans g3
            have g4 := (o3 (a + 4) (by omega)).trans g4
            refine x_aload rfl rfl ?_
            refine x_dup rfl ?_
            refine x_get rfl (by assumption) rfl ?_
            refine x_const rfl ?_
            refine x_iadd rfl ⟨by omega, by omega⟩ ?_
            refine x_putG rfl (by assumption) (Nat.le_of_ble_eq_true rfl) rfl ?_
            intro μ4 n4 o4
            have n2 := (o4 (a + 1) (by omega)).trans n2
            have n3 := (o4 (a + 2) (by omega)).trans n3
            have g3 := (o4 (a + 3) (by omega)).trans g3
            have g4 := (o4 (a + 4) (by omega)).trans g4
            rw [am_fu_p (fun q : mv_V => q.1) V v'.length ((mg b.1 k).1, (mg b.1 k).2.1)] at n2
            rw [am_fu_p (fun q : mv_V => q.2) V v'.length ((mg b.1 k).1, (mg b.1 k).2.1)] at n3
            refine x_iinc rfl rfl ⟨by omega, by omega⟩ ?_
            refine x_goto rfl ?_
            refine ih (k + 1) μ4 (v' ++ [((mg b.1 k).1, (mg b.1 k).2.1)]) (mg b.1 k).1 (by omega) ⟨am_fu V v'.length ((mg b.1 k).1, (mg b.1 k).2.1), T, ⟨?_, n2, n3, g3, g4⟩, h2.app _, h3, by simp; omega, h5, h6⟩ hg (hf.tr ((((fr.one o1 (by omega) (by omega)).tr (fr.one o2 (by omega) (by omega))).tr (fr.one o3 (by omega) (by omega))).tr (fr.one o4 (by omega) (by omega))))
            rw [n4, List.length_append]
            rfl
  refine am_wp pS_takeInNew (Nat.le_of_ble_eq_true rfl) ?_
  refine x_const rfl ?_
  refine x_istore rfl (Nat.le_of_ble_eq_true rfl) ?_
  exact loop b.1.length 0 μ v hi (by omega) h rfl fr.rf
theorem c_S_dropGone (h : se μ a v nt mb ro hi) (hnt : nt.length + v.length ≤ 49) (hb : bx μ ab b vl) (hd : ab + 4 ≤ a ∨ a + 5 ≤ ab) (hQ : ∀ μ', se μ' a (dk b.1 v) (nt ++ dn b.1 v 0) mb ro hi → fr μ μ' a (a + 5) → Q none (nn, ss, μ')) : am_Wp mv_P (d + 2) jS_dropGone [.inr (some a), .inr (some ab)] (nn, ss, μ) Q := by
  obtain ⟨V0, T0, hs0, hV0, hT0, hv24, hn49, hro⟩ := h
  have loop : ∀ (r : List mv_V) (k : Nat) (kp nt' : List mv_V) (V T : Nat → mv_V) (μ' : Nat → Option am_C), k + r.length = v.length → (∀ i, i < r.length → V (k + i) = vg r i) → lL kp V → kp.length ≤ k → lL nt' T → nt'.length + r.length ≤ 49 → seA μ' a V T v.length nt'.length mb ro hi → kp ++ dk b.1 r = dk b.1 v → nt' ++ dn b.1 r kp.length = nt ++ dn b.1 v 0 → fr μ μ' a (a + 5) → am_Ex mv_P (d + 1) (am_at kS_dropGone) (4, [some (.inr (some a)), some (.inr (some ab)), some (.inl (kp.length : Int)), some (.inl (k : Int))], [], nn, ss, μ') Q := by
    intro r
    induction r with
    | nil =>
      intro k kp nt' V T μ' hk hr hkp hkk hnt' hn' hs e1 e2 hf
      obtain ⟨g0, g1, g2, g3, g4⟩ := hs
      simp only [List.length_nil] at hk
      refine x_iload rfl rfl ?_
      refine x_aload rfl rfl ?_
      refine x_get rfl (by assumption) rfl ?_
      refine x_icmp_ge rfl (fun hc => ?_) (fun hc => ?_)
      · refine x_aload rfl rfl ?_
        refine x_iload rfl rfl ?_
        refine x_putG rfl (by assumption) (Nat.le_of_ble_eq_true rfl) rfl ?_
        intro μ1 n1 o1
        refine x_vret rfl ?_
        have e1 : kp = dk b.1 v := (List.append_nil kp).symm.trans e1
        have e2 : nt' = nt ++ dn b.1 v 0 := (List.append_nil nt').symm.trans e2
        rw [← e1, ← e2] at hQ
        exact hQ μ1 ⟨V, T, ⟨n1, (o1 _ (by omega)).trans g1, (o1 _ (by omega)).trans g2, (o1 _ (by omega)).trans g3, (o1 _ (by omega)).trans g4⟩, hkp, hnt', by omega, by simpa using hn', hro⟩ (hf.tr (fr.one o1 (by omega) (by omega)))
      · exact absurd hc (by omega)
    | cons x r ih =>
      intro k kp nt' V T μ' hk hr hkp hkk hnt' hn' hs e1 e2 hf
      have hs' := hs
      obtain ⟨g0, g1, g2, g3, g4⟩ := hs
      have hb' := hb.fr hf (by omega)
      obtain ⟨fs2, hob2⟩ := hb'.ob
      simp only [List.length_cons] at hk hn'
      have hVk : V k = x := by
        have := hr 0 (by simp)
        rw [Nat.add_zero, vg_0] at this
        exact this
      have hr' : ∀ i, i < r.length → V (k + 1 + i) = vg r i := fun i hi => by
        have := hr (i + 1) (by simp; omega)
        rw [vg_s, show k + (i + 1) = k + 1 + i by omega] at this
        exact this
      refine x_iload rfl rfl ?_
      refine x_aload rfl rfl ?_
      refine x_get rfl (by assumption) rfl ?_
      refine x_icmp_ge rfl (fun hc => ?_) (fun hc => ?_)
      · exact absurd hc (by omega)
      · refine x_aload rfl rfl ?_
        refine x_aload rfl rfl ?_
        refine x_get rfl (by assumption) rfl ?_
        refine x_iload rfl rfl ?_
        refine x_ialdN (j := k) rfl (by assumption) (by omega) (by omega) ?_
        refine x_callV1 rfl (by assumption) (Nat.le_of_ble_eq_true rfl) ?_
        rw [hVk]
        refine d_B_positionOf hb' ?_
        refine x_const rfl ?_
        refine x_icmp_ne rfl (fun hc => ?_) (fun hc => ?_)
        · have hfd : fp b.1 x.1 < b.1.length := by
            unfold pz at hc
            split at hc
            · assumption
            · exact absurd rfl hc
          have d1 : dk b.1 (x :: r) = x :: dk b.1 r := by
            show (if _ then _ else _) = _
            rw [if_pos hfd]
          have d2 : dn b.1 (x :: r) kp.length = dn b.1 r (kp.length + 1) := by
            show (if _ then _ else _) = _
            rw [if_pos hfd]
          refine x_aload rfl rfl ?_
          refine x_get rfl (by assumption) rfl ?_
          refine x_iload rfl rfl ?_
          refine x_aload rfl rfl ?_
          refine x_get rfl (by assumption) rfl ?_
          refine x_iload rfl rfl ?_
          refine x_ialdN (j := k) rfl (by assumption) (by omega) (by omega) ?_
          refine x_iastN (j := kp.length) rfl (by assumption) (by omega) (by omega) rfl ?_
          intro μ1 n1 o1
          have g0 := (o1 a (by omega)).trans g0
          have g2 := (o1 (a + 2) (by omega)).trans g2
          have g3 := (o1 (a + 3) (by omega)).trans g3
          have g4 := (o1 (a + 4) (by omega)).trans g4
          refine x_aload rfl rfl ?_
          refine x_get rfl (by assumption) rfl ?_
          refine x_iload rfl rfl ?_
          refine x_aload rfl rfl ?_
          refine x_get rfl (by assumption) rfl ?_
          refine x_iload rfl rfl ?_
          refine x_ialdN (j := k) rfl (by assumption) (by omega) (by omega) ?_
          refine x_iastN (j := kp.length) rfl (by assumption) (by omega) (by omega) rfl ?_
          intro μ2 n2 o2
          have g0 := (o2 a (by omega)).trans g0
          have n1 := (o2 (a + 1) (by omega)).trans n1
          have g3 := (o2 (a + 3) (by omega)).trans g3
          have g4 := (o2 (a + 4) (by omega)).trans g4
          rw [am_fu_p (fun q : mv_V => q.1) V kp.length (V k)] at n1
          rw [am_fu_p (fun q : mv_V => q.2) V kp.length (V k)] at n2
          refine x_iinc rfl rfl ⟨by omega, by omega⟩ ?_
          refine x_iinc rfl rfl ⟨by omega, by omega⟩ ?_
          refine x_goto rfl ?_
          have hj := ih (k + 1) (kp ++ [x]) nt' (am_fu V kp.length (V k)) T μ2 (by omega) (fun i hi => by rw [am_fu_n (by omega)]; exact hr' i hi) (by rw [hVk]; exact hkp.app x) (by simp; omega) hnt' (by omega) ⟨g0, n1, n2, g3, g4⟩ (by rw [← e1, d1]; simp) (by rw [← e2, d2]; simp) (hf.tr ((fr.one o1 (by omega) (by omega)).tr (fr.one o2 (by omega) (by omega))))
          rw [List.length_append] at hj
          exact hj
        · have hfd : ¬ fp b.1 x.1 < b.1.length := by
            intro q
            unfold pz at hc
            rw [if_pos q] at hc
            exact hc (by omega)
          have d1 : dk b.1 (x :: r) = dk b.1 r := by
            show (if _ then _ else _) = _
            rw [if_neg hfd]
          have d2 : dn b.1 (x :: r) kp.length = (1, (kp.length : Int) + 1) :: dn b.1 r kp.length := by
            show (if _ then _ else _) = _
            rw [if_neg hfd]
          refine x_aload rfl rfl ?_
          refine x_const rfl ?_
          refine x_iload rfl rfl ?_
          refine x_const rfl ?_
          refine x_iadd rfl ⟨by omega, by omega⟩ ?_
          refine x_callV2 rfl (by assumption) (Nat.le_of_ble_eq_true rfl) ?_
          refine c_S_tell hs' (by omega) (fun μ1 hs1 hf1 => ?_)
          refine x_goto rfl ?_
          refine x_iinc rfl rfl ⟨by omega, by omega⟩ ?_
          refine x_goto rfl ?_
          exact ih (k + 1) kp (nt' ++ [(1, (kp.length : Int) + 1)]) V (am_fu T nt'.length (1, (kp.length : Int) + 1)) μ1 (by omega) hr' hkp (by omega) (hnt'.app _) (by simp; omega) (by rw [List.length_append]; exact hs1) (by rw [← e1, d1]) (by rw [← e2, d2]; simp) (hf.tr hf1)
  refine am_wp pS_dropGone (Nat.le_of_ble_eq_true rfl) ?_
  refine x_const rfl ?_
  refine x_istore rfl (Nat.le_of_ble_eq_true rfl) ?_
  refine x_const rfl ?_
  refine x_istore rfl (Nat.le_of_ble_eq_true rfl) ?_
  exact loop v 0 [] nt V0 T0 μ (by omega) (fun i hi => by rw [Nat.zero_add]; exact hV0 i hi) (fun i hi => by cases hi) (Nat.le_refl 0) hT0 hnt hs0 rfl rfl fr.rf
theorem c_S_learnFlags (h : se μ a v nt mb ro hi) (hnt : nt.length + v.length ≤ 49) (hb : bx μ ab b vl) (hd : ab + 4 ≤ a ∨ a + 5 ≤ ab) (hQ : ∀ μ', se μ' a (lv b.1 v) (nt ++ ln b.1 v 0) mb ro hi → fr μ μ' a (a + 5) → Q none (nn, ss, μ')) : am_Wp mv_P (d + 2) jS_learnFlags [.inr (some a), .inr (some ab)] (nn, ss, μ) Q := by
  obtain ⟨V0, T0, hs0, hV0, hT0, hv24, hn49, hro⟩ := h
  have h12 : b.1.length ≤ 12 := by obtain ⟨W, -, h2, -⟩ := hb; exact h2
  have loop : ∀ (r : List mv_V) (k : Nat) (kp nt' : List mv_V) (V T : Nat → mv_V) (μ' : Nat → Option am_C), k + r.length = v.length → (∀ i, i < r.length → V (k + i) = vg r i) → lL kp V → kp.length = k → lL nt' T → nt'.length + r.length ≤ 49 → seA μ' a V T v.length nt'.length mb ro hi → kp ++ lv b.1 r = lv b.1 v → nt' ++ ln b.1 r k = nt ++ ln b.1 v 0 → fr μ μ' a (a + 5) → ∀ l3, am_Ex mv_P (d + 1) (am_at kS_learnFlags) (2, [some (.inr (some a)), some (.inr (some ab)), some (.inl ((k : Int) + 1)), l3], [], nn, ss, μ') Q := by
    intro r
    induction r with
    | nil =>
      intro k kp nt' V T μ' hk hr hkp hkk hnt' hn' hs e1 e2 hf l3
      have hs' := hs
      obtain ⟨g0, g1, g2, g3, g4⟩ := hs
      simp only [List.length_nil] at hk
      refine x_iload rfl rfl ?_
      refine x_aload rfl rfl ?_
      refine x_get rfl (by assumption) rfl ?_
      refine x_icmp_gt rfl (fun hc => ?_) (fun hc => ?_)
      · refine x_vret rfl ?_
        have e1 : kp = lv b.1 v := (List.append_nil kp).symm.trans e1
        have e2 : nt' = nt ++ ln b.1 v 0 := (List.append_nil nt').symm.trans e2
        rw [← e1, ← e2] at hQ
        rw [show v.length = kp.length by omega] at hs'
        exact hQ μ' ⟨V, T, hs', hkp, hnt', by omega, by simpa using hn', hro⟩ hf
      · exact absurd hc (by omega)
    | cons x r ih =>
      intro k kp nt' V T μ' hk hr hkp hkk hnt' hn' hs e1 e2 hf l3
      have hs' := hs
      obtain ⟨g0, g1, g2, g3, g4⟩ := hs
      have hb' := hb.fr hf (by omega)
      obtain ⟨fs2, hob2⟩ := hb'.ob
      simp only [List.length_cons] at hk hn'
      have hVk : V k = x := by
        have := hr 0 (by simp)
        rw [Nat.add_zero, vg_0] at this
        exact this
      have hr' : ∀ i, i < r.length → V (k + 1 + i) = vg r i := fun i hi => by
        have := hr (i + 1) (by simp; omega)
        rw [vg_s, show k + (i + 1) = k + 1 + i by omega] at this
        exact this
      have hkpx : lL (kp ++ [x]) V := by
        have := hkp.app x
        rw [hkk, ← hVk] at this
        intro i hi
        have g := this i (by rw [hVk]; exact hi)
        rw [← hVk, ← g]
        by_cases hik : i = k
        · rw [hik, am_fu_s]
        · rw [am_fu_n hik]
      refine x_iload rfl rfl ?_
      refine x_aload rfl rfl ?_
      refine x_get rfl (by assumption) rfl ?_
      refine x_icmp_gt rfl (fun hc => ?_) (fun hc => ?_)
      · exact absurd hc (by omega)
      · refine x_aload rfl rfl ?_
        refine x_aload rfl rfl ?_
        refine x_iload rfl rfl ?_
        refine x_callV1 rfl (by assumption) (Nat.le_of_ble_eq_true rfl) ?_
        refine c_S_uidOf hs' rfl (by omega) ?_
        refine x_callV1 rfl (by assumption) (Nat.le_of_ble_eq_true rfl) ?_
        rw [hVk]
        refine d_B_positionOf hb' ?_
        refine x_istore rfl (Nat.le_of_ble_eq_true rfl) ?_
        refine x_iload rfl rfl ?_
        refine x_const rfl ?_
        refine x_icmp_eq rfl (fun hc => ?_) (fun hc => ?_)
        · have hfd : ¬ fp b.1 x.1 < b.1.length := by
            intro q
            unfold pz at hc
            rw [if_pos q] at hc
            omega
          have d1 : lv b.1 (x :: r) = x :: lv b.1 r := by
            show (if _ then _ else _) :: _ = _
            rw [if_neg hfd]
          have d2 : ln b.1 (x :: r) k = ln b.1 r (k + 1) := by
            show (if _ then _ else _) = _
            rw [if_neg (fun q => hfd q.1)]
          refine x_iinc rfl rfl ⟨by omega, by omega⟩ ?_
          refine x_goto rfl ?_
          exact ih (k + 1) (kp ++ [x]) nt' V T μ' (by omega) hr' hkpx (by simp; omega) hnt' (by omega) hs' (by rw [← e1, d1]; simp) (by rw [← e2, d2]) hf _
        · have hfd : fp b.1 x.1 < b.1.length := by
            unfold pz at hc
            split at hc
            · assumption
            · exact absurd rfl hc
          have epz : pz b.1 x.1 = (fp b.1 x.1 : Int) := by
            unfold pz
            rw [if_pos hfd]
          rw [epz]
          have d1 : lv b.1 (x :: r) = (x.1, (mg b.1 (fp b.1 x.1)).2.1) :: lv b.1 r := by
            show (if _ then _ else _) :: _ = _
            rw [if_pos hfd]
          refine x_aload rfl rfl ?_
          refine x_iload rfl rfl ?_
          refine x_callV1 rfl (by assumption) (Nat.le_of_ble_eq_true rfl) ?_
          refine d_B_flagsAt hb' hfd ?_
          refine x_aload rfl rfl ?_
          refine x_iload rfl rfl ?_
          refine x_callV1 rfl (by assumption) (Nat.le_of_ble_eq_true rfl) ?_
          refine c_S_knownFlagsOf hs' rfl (by omega) ?_
          rw [hVk]
          refine x_icmp_eq rfl (fun hc => ?_) (fun hc => ?_)
          · have d2 : ln b.1 (x :: r) k = ln b.1 r (k + 1) := by
              show (if _ then _ else _) = _
              rw [if_neg (fun q => q.2 hc)]
            have ex : (x.1, (mg b.1 (fp b.1 x.1)).2.1) = x := by rw [hc]
            rw [ex] at d1
            refine x_iinc rfl rfl ⟨by omega, by omega⟩ ?_
            refine x_goto rfl ?_
            exact ih (k + 1) (kp ++ [x]) nt' V T μ' (by omega) hr' hkpx (by simp; omega) hnt' (by omega) hs' (by rw [← e1, d1]; simp) (by rw [← e2, d2]) hf _
          · have d2 : ln b.1 (x :: r) k = (3, (k : Int) + 1) :: ln b.1 r (k + 1) := by
              show (if _ then _ else _) = _
              rw [if_pos ⟨hfd, hc⟩]
            refine x_aload rfl rfl ?_
            refine x_iload rfl rfl ?_
            refine x_aload rfl rfl ?_
            refine x_iload rfl rfl ?_
            refine x_callV1 rfl (by assumption) (Nat.le_of_ble_eq_true rfl) ?_
            refine d_B_flagsAt hb' hfd ?_
            refine x_callV2 rfl (by assumption) (Nat.le_of_ble_eq_true rfl) ?_
            refine c_S_know hs' rfl (by omega) (fun μ1 hs1 hf1 => ?_)
            have hs1' := hs1
            obtain ⟨g0, -⟩ := hs1
            refine x_aload rfl rfl ?_
            refine x_const rfl ?_
            refine x_iload rfl rfl ?_
            refine x_callV2 rfl (by assumption) (Nat.le_of_ble_eq_true rfl) ?_
            refine c_S_tell hs1' (by omega) (fun μ2 hs2 hf2 => ?_)
            refine x_iinc rfl rfl ⟨by omega, by omega⟩ ?_
            refine x_goto rfl ?_
            refine ih (k + 1) (kp ++ [(x.1, (mg b.1 (fp b.1 x.1)).2.1)]) (nt' ++ [(3, (k : Int) + 1)]) (am_fu V k ((V k).1, (mg b.1 (fp b.1 x.1)).2.1)) (am_fu T nt'.length (3, (k : Int) + 1)) μ2 (by omega) (fun i hi => by rw [am_fu_n (by omega)]; exact hr' i hi) ?_ (by simp; omega) (hnt'.app _) (by simp; omega) (by rw [List.length_append]; exact hs2) (by rw [← e1, d1]; simp) (by rw [← e2, d2]; simp) (hf.tr (hf1.tr hf2)) _
            have := hkp.app (x.1, (mg b.1 (fp b.1 x.1)).2.1)
            rw [hkk] at this
            rw [hVk]
            exact this
  refine am_wp pS_learnFlags (Nat.le_of_ble_eq_true rfl) ?_
  refine x_const rfl ?_
  refine x_istore rfl (Nat.le_of_ble_eq_true rfl) ?_
  exact loop v 0 [] nt V0 T0 μ (by omega) (fun i hi => by rw [Nat.zero_add]; exact hV0 i hi) (fun i hi => by cases hi) rfl hT0 hnt hs0 rfl rfl fr.rf none
/-- the three steps of an update -/
def upV (l : List mv_Q) (v : List mv_V) (hi : Int) (rm : Int) : List mv_V := lv l (ga l (if rm = 0 then v else dk l v, hi)).1
def upH (l : List mv_Q) (v : List mv_V) (hi : Int) (rm : Int) : Int := (ga l (if rm = 0 then v else dk l v, hi)).2
def upN (l : List mv_Q) (v : List mv_V) (hi : Int) (rm : Int) : List mv_V := (if rm = 0 then [] else dn l v 0) ++ ((if (if rm = 0 then v else dk l v).length < (ga l (if rm = 0 then v else dk l v, hi)).1.length then [(2, ((ga l (if rm = 0 then v else dk l v, hi)).1.length : Int))] else []) ++ ln l (ga l (if rm = 0 then v else dk l v, hi)).1 0)
theorem c_S_update {rm : Int} (h : se μ a v nt mb ro hi) (hb : bx μ ab b vl) (hd : ab + 4 ≤ a ∨ a + 5 ≤ ab) (hQ : ∀ μ', se μ' a (upV b.1 v hi rm) (upN b.1 v hi rm) mb ro (upH b.1 v hi rm) → fr μ μ' a (a + 5) → Q none (nn, ss, μ')) : am_Wp mv_P (d + 3) jS_update [.inr (some a), .inr (some ab), .inl rm] (nn, ss, μ) Q := by
  obtain ⟨V, T, ⟨g0, g1, g2, g3, g4⟩, h2, h3, h4, h5, h6⟩ := h
  have tail : ∀ (v1 n1 : List mv_V) (μ' : Nat → Option am_C), se μ' a v1 n1 mb ro hi → n1.length ≤ 24 → v1.length ≤ 24 → v1 = (if rm = 0 then v else dk b.1 v) → n1 = (if rm = 0 then [] else dn b.1 v 0) → fr μ μ' a (a + 5) → am_Ex mv_P (d + 2) (am_at kS_update) (14, [some (.inr (some a)), some (.inr (some ab)), some (.inl rm), none], [], nn, ss, μ') Q := by
    intro v1 n1 μ' hs hn1 hv1 e1 e2 hf
    have hb' := hb.fr hf (by omega)
    have hs' := hs
    obtain ⟨V1, T1, ⟨k0, k1, k2, k3, k4⟩, -⟩ := hs
    have hlen := ga_len b.1 (v1, hi) hv1
    simp only at hlen
    refine x_aload rfl rfl ?_
    refine x_get rfl (by assumption) rfl ?_
    refine x_istore rfl (Nat.le_of_ble_eq_true rfl) ?_
    refine x_aload rfl rfl ?_
    refine x_aload rfl rfl ?_
    refine x_callV1 rfl (by assumption) (Nat.le_of_ble_eq_true rfl) ?_
    refine c_S_takeInNew hs' hb' hd (fun μ2 hs2 hf2 => ?_)
    have hb2 := hb'.fr hf2 (by omega)
    have hs2' := hs2
    obtain ⟨V2, T2, ⟨l0, l1, l2, l3, l4⟩, -⟩ := hs2
    refine x_aload rfl rfl ?_
    refine x_get rfl (by assumption) rfl ?_
    refine x_iload rfl rfl ?_
    refine x_icmp_le rfl (fun hc => ?_) (fun hc => ?_)
    · refine x_aload rfl rfl ?_
      refine x_aload rfl rfl ?_
      refine x_callV1 rfl (by assumption) (Nat.le_of_ble_eq_true rfl) ?_
      refine c_S_learnFlags hs2' (by omega) hb2 hd (fun μ3 hs3 hf3 => ?_)
      refine x_vret rfl ?_
      refine hQ μ3 ?_ (hf.tr (hf2.tr hf3))
      unfold upV upN upH
      rw [← e1, ← e2, if_neg (show ¬ v1.length < (ga b.1 (v1, hi)).1.length by omega), List.nil_append]
      exact hs3
    · refine x_aload rfl rfl ?_
      refine x_const rfl ?_
      refine x_aload rfl rfl ?_
      refine x_get rfl (by assumption) rfl ?_
      refine x_callV2 rfl (by assumption) (Nat.le_of_ble_eq_true rfl) ?_
      refine d_S_tell hs2' (by omega) (fun μ3 hs3 hf3 => ?_)
      have hb3 := hb2.fr hf3 (by omega)
      have hs3' := hs3
      obtain ⟨V3, T3, ⟨m0, m1, m2, m3, m4⟩, -⟩ := hs3
      refine x_aload rfl rfl ?_
      refine x_aload rfl rfl ?_
      refine x_callV1 rfl (by assumption) (Nat.le_of_ble_eq_true rfl) ?_
      refine c_S_learnFlags hs3' (by simp; omega) hb3 hd (fun μ4 hs4 hf4 => ?_)
      refine x_vret rfl ?_
      refine hQ μ4 ?_ (hf.tr (hf2.tr (hf3.tr hf4)))
      unfold upV upN upH
      rw [← e1, ← e2, if_pos (show v1.length < (ga b.1 (v1, hi)).1.length by omega), ← List.append_assoc]
      exact hs4
  refine am_wp pS_update (Nat.le_of_ble_eq_true rfl) ?_
  refine x_aload rfl rfl ?_
  refine x_const rfl ?_
  refine x_putG rfl (by assumption) (Nat.le_of_ble_eq_true rfl) rfl ?_
  intro μ1 n1 o1
  have hf1 : fr μ μ1 a (a + 5) := fr.one o1 (by omega) (by omega)
  have hs1 : se μ1 a v [] mb ro hi := ⟨V, T, ⟨n1, (o1 _ (by omega)).trans g1, (o1 _ (by omega)).trans g2, (o1 _ (by omega)).trans g3, (o1 _ (by omega)).trans g4⟩, h2, fun k hk => (by cases hk), h4, Nat.zero_le _, h6⟩
  have hb1 := hb.fr hf1 (by omega)
  refine x_iload rfl rfl ?_
  refine x_if_eq rfl (fun hc => ?_) (fun hc => ?_)
  · exact tail v [] μ1 hs1 (Nat.zero_le _) h4 (by rw [if_pos hc]) (by rw [if_pos hc]) hf1
  · refine x_aload rfl rfl ?_
    refine x_aload rfl rfl ?_
    refine x_callV1 rfl (by assumption) (Nat.le_of_ble_eq_true rfl) ?_
    have hdl := dk_len b.1 v 0
    refine c_S_dropGone hs1 (by simp; omega) hb1 hd (fun μ2 hs2 hf2 => ?_)
    exact tail _ _ μ2 hs2 (by rw [List.nil_append]; omega) (by omega) (by rw [if_neg hc]) (by rw [if_neg hc, List.nil_append]) (hf1.tr hf2)
theorem c_S_open {m r : Int} (h : se μ a v nt mb ro hi) (hr : r = 0 ∨ r = 1) (hb : bx μ ab b vl) (hd : ab + 4 ≤ a ∨ a + 5 ≤ ab) (hQ : ∀ μ', se μ' a (ga b.1 ([], 0)).1 [] m r (ga b.1 ([], 0)).2 → fr μ μ' a (a + 5) → Q none (nn, ss, μ')) : am_Wp mv_P (d + 3) jS_open [.inr (some a), .inl m, .inl r, .inr (some ab)] (nn, ss, μ) Q := by
  obtain ⟨V, T, ⟨g0, g1, g2, g3, g4⟩, h2, h3, h4, h5, h6⟩ := h
  have hfit : am_fit 1 (.inl r) = true := by
    rcases hr with rfl | rfl <;> rfl
  refine am_wp pS_open (Nat.le_of_ble_eq_true rfl) ?_
  refine x_aload rfl rfl ?_
  refine x_iload rfl rfl ?_
  refine x_putG rfl (by assumption) (Nat.le_of_ble_eq_true rfl) rfl ?_
  intro μ1 n1 o1
  refine x_aload rfl rfl ?_
  refine x_iload rfl rfl ?_
  refine x_putG rfl n1 (Nat.le_of_ble_eq_true rfl) hfit ?_
  intro μ2 n2 o2
  refine x_aload rfl rfl ?_
  refine x_const rfl ?_
  refine x_putG rfl (by assumption) (Nat.le_of_ble_eq_true rfl) rfl ?_
  intro μ3 n3 o3
  refine x_aload rfl rfl ?_
  refine x_const rfl ?_
  refine x_putG rfl (by assumption) (Nat.le_of_ble_eq_true rfl) rfl ?_
  intro μ4 n4 o4
  have key : ∀ x, x ≠ a → μ4 x = μ x := fun x hx => by rw [o4 x hx, o3 x hx, o2 x hx, o1 x hx]
  have hf : fr μ μ4 a (a + 5) := fr.one key (by omega) (by omega)
  have hs4 : se μ4 a [] nt m r 0 := ⟨V, T, ⟨n4, (key _ (by omega)).trans g1, (key _ (by omega)).trans g2, (key _ (by omega)).trans g3, (key _ (by omega)).trans g4⟩, fun k hk => (by cases hk), h3, Nat.zero_le _, h5, hr⟩
  refine x_aload rfl rfl ?_
  refine x_aload rfl rfl ?_
  refine x_callV1 rfl (by assumption) (Nat.le_of_ble_eq_true rfl) ?_
  refine c_S_takeInNew hs4 (hb.fr hf (by omega)) hd (fun μ5 hs5 hf5 => ?_)
  obtain ⟨V5, T5, ⟨k0, k1, k2, k3, k4⟩, p2, p3, p4, p5, p6⟩ := hs5
  refine x_aload rfl rfl ?_
  refine x_const rfl ?_
  refine x_putG rfl (by assumption) (Nat.le_of_ble_eq_true rfl) rfl ?_
  intro μ6 n6 o6
  refine x_vret rfl ?_
  exact hQ μ6 ⟨V5, T5, ⟨n6, (o6 _ (by omega)).trans k1, (o6 _ (by omega)).trans k2, (o6 _ (by omega)).trans k3, (o6 _ (by omega)).trans k4⟩, p2, fun k hk => (by cases hk), p4, Nat.zero_le _, p6⟩ (hf.tr (hf5.tr (fr.one o6 (by omega) (by omega))))
end Ses2
