/-! more rows for walking: indices as Nat, memories as variables -/
section AmW
variable {P : am_P} {d pc n k t : Nat} {code : Nat → am_I} {ls : am_L} {st : List am_V} {Q : Option am_V → am_M → Prop} {nn ss a ci b : Nat} {μ : Nat → Option am_C}
theorem x_ialdN {i : Int} {N j : Nat} {f : Nat → Int} (hc : code pc = i_iald t n) (hm : μ a = some (.inr (.inl (t, N, f)))) (hj : i = (j : Int)) (h1 : j < N) (h : am_Ex P d code (n, ls, .inl (f j) :: st, nn, ss, μ) Q) : am_Ex P d code (pc, ls, .inl i :: .inr (some a) :: st, nn, ss, μ) Q := by
  subst hj
  exact x_iald hc hm (by omega) (by omega) (by rw [Int.toNat_natCast]; exact h)
theorem x_aaldN {i : Int} {N j : Nat} {f : Nat → Option Nat} (hc : code pc = i_aald t n) (hm : μ a = some (.inr (.inr (t, N, f)))) (hj : i = (j : Int)) (h1 : j < N) (h : am_Ex P d code (n, ls, .inr (f j) :: st, nn, ss, μ) Q) : am_Ex P d code (pc, ls, .inl i :: .inr (some a) :: st, nn, ss, μ) Q := by
  subst hj
  exact x_aald hc hm (by omega) (by omega) (by rw [Int.toNat_natCast]; exact h)
theorem x_putG {fs : List am_V} {v : am_V} (hc : code pc = i_put ci k b n) (hm : μ a = some (.inl (ci, fs))) (hk : k < fs.length) (hv : am_fit b v = true) (h : ∀ μ', μ' a = some (.inl (ci, fs.set k v)) → (∀ x, x ≠ a → μ' x = μ x) → am_Ex P d code (n, ls, st, nn, ss, μ') Q) : am_Ex P d code (pc, ls, v :: .inr (some a) :: st, nn, ss, μ) Q :=
  x_put hc hm hk hv (h _ am_up_s (fun _ hx => am_up_n hx))
theorem x_iastN {i z : Int} {N j : Nat} {f : Nat → Int} (hc : code pc = i_iast t b n) (hm : μ a = some (.inr (.inl (t, N, f)))) (hj : i = (j : Int)) (h1 : j < N) (hv : am_fit b (.inl z) = true) (h : ∀ μ', μ' a = some (.inr (.inl (t, N, am_fu f j z))) → (∀ x, x ≠ a → μ' x = μ x) → am_Ex P d code (n, ls, st, nn, ss, μ') Q) : am_Ex P d code (pc, ls, .inl z :: .inl i :: .inr (some a) :: st, nn, ss, μ) Q := by
  subst hj
  exact x_iast hc hm (by omega) (by omega) hv (by rw [Int.toNat_natCast]; exact h _ am_up_s (fun _ hx => am_up_n hx))
theorem x_aastN {i : Int} {N v j : Nat} {f : Nat → Option Nat} {fs : List am_V} (hc : code pc = i_aast t ci n) (hm : μ a = some (.inr (.inr (t, N, f)))) (hm2 : μ v = some (.inl (ci, fs))) (hj : i = (j : Int)) (h1 : j < N) (h : ∀ μ', μ' a = some (.inr (.inr (t, N, am_fu f j (some v)))) → (∀ x, x ≠ a → μ' x = μ x) → am_Ex P d code (n, ls, st, nn, ss, μ') Q) : am_Ex P d code (pc, ls, .inr (some v) :: .inl i :: .inr (some a) :: st, nn, ss, μ) Q := by
  subst hj
  exact x_aast hc hm hm2 (by omega) (by omega) (by rw [Int.toNat_natCast]; exact h _ am_up_s (fun _ hx => am_up_n hx))
end AmW
