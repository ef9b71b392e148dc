/-! PURE 16: the greatest divisor, both ways -/
theorem gd_end {f a s : Nat} (hs : s < 64) : f_X10_greatestDivisor_L7 (f + 1) (nI a) (nI 0) (nI s) = some (nI a) ∧ f_X11_common_L4 (f + 1) (nI a) (nI 0) = some (nI a) := by
  refine ⟨?_, ?_⟩
  · show f_X10_greatestDivisor_L7b _ _ _ _ = _
    unfold f_X10_greatestDivisor_L7b
    have h64 : ¬ (64 : Int32) ≤ nI s := by
      rw [show (64 : Int32) = nI 64 from rfl]
      exact nI_ge hs (by decide)
    rw [if_neg h64, if_pos (show nI 0 = 0 from rfl)]
  · show f_X11_common_L4b _ _ _ = _
    unfold f_X11_common_L4b
    rw [if_pos (show nI 0 = 0 from rfl)]
theorem gd_one {f g a b s : Nat} (hs : s < 64) (ha : a < 2 ^ 31) (hb : b < 2 ^ 31) (h0 : 0 < b) : f_X10_greatestDivisor_L7 (f + 1) (nI a) (nI b) (nI s) = f_X10_greatestDivisor_L7 f (nI b) (nI (a % b)) (nI (s + 1)) ∧ f_X11_common_L4 (g + 1) (nI a) (nI b) = f_X11_common_L4 g (nI b) (nI (a % b)) := by
  have hnz : ¬ nI b = 0 := nI_ne0 h0 hb
  have hr : nI a - nI a / nI b * nI b = nI (a % b) := pk_rem ha h0 hb
  refine ⟨?_, ?_⟩
  · show f_X10_greatestDivisor_L7b _ _ _ _ = _
    unfold f_X10_greatestDivisor_L7b
    have h64 : ¬ (64 : Int32) ≤ nI s := by
      rw [show (64 : Int32) = nI 64 from rfl]
      exact nI_ge hs (by decide)
    rw [if_neg h64, if_neg hnz]
    unfold g_nz
    rw [if_neg hnz]
    simp only [lt_]
    rw [hr, ← nI_succ]
  · show f_X11_common_L4b _ _ _ = _
    unfold f_X11_common_L4b
    rw [if_neg hnz]
    unfold g_nz
    rw [if_neg hnz]
    simp only [lt_]
    rw [hr]
theorem mod_half {b r : Nat} (h0 : 0 < r) (hr : r < b) : 2 * (b % r) < b := by
  have h1 := Nat.mod_lt b h0
  have h2 : b % r + r ≤ b := by
    have h3 := Nat.div_add_mod b r
    have h4 : 1 ≤ b / r := (Nat.one_le_div_iff h0).mpr (by omega)
    have h5 : r * 1 ≤ r * (b / r) := Nat.mul_le_mul_left r h4
    omega
  omega
theorem gd_all : ∀ (j a b s f g : Nat), b < 2 ^ j → j ≤ 31 → s + 2 * j < 64 → 2 * j < f → 2 * j < g → a < 2 ^ 31 →
    f_X10_greatestDivisor_L7 f (nI a) (nI b) (nI s) = some (nI (Nat.gcd a b)) ∧ f_X11_common_L4 g (nI a) (nI b) = some (nI (Nat.gcd a b)) := by
  intro j
  induction j with
  | zero =>
    intro a b s f g hb hj hs hf hg ha
    obtain ⟨f, rfl⟩ : ∃ z, f = z + 1 := ⟨f - 1, by omega⟩
    obtain ⟨g, rfl⟩ : ∃ z, g = z + 1 := ⟨g - 1, by omega⟩
    have hb0 : b = 0 := by simpa using hb
    subst hb0
    rw [Nat.gcd_zero_right]
    exact ⟨(gd_end (f := f) (by omega)).1, (gd_end (f := g) (s := s) (by omega)).2⟩
  | succ j ih =>
    intro a b s f g hb hj hs hf hg ha
    obtain ⟨f, rfl⟩ : ∃ z, f = z + 3 := ⟨f - 3, by omega⟩
    obtain ⟨g, rfl⟩ : ∃ z, g = z + 3 := ⟨g - 3, by omega⟩
    have hpow : 2 ^ (j + 1) ≤ 2 ^ 31 := Nat.pow_le_pow_right (by decide) hj
    by_cases hb0 : b = 0
    · subst hb0
      rw [Nat.gcd_zero_right]
      exact ⟨(gd_end (f := f + 2) (by omega)).1, (gd_end (f := g + 2) (s := s) (by omega)).2⟩
    · have hb31 : b < 2 ^ 31 := by omega
      obtain ⟨x1, x2⟩ := gd_one (f := f + 2) (g := g + 2) (s := s) (by omega) ha hb31 (by omega)
      rw [x1, x2, Nat.gcd_comm a b, Nat.gcd_rec b a]
      have hr : a % b < b := Nat.mod_lt _ (by omega)
      by_cases hr0 : a % b = 0
      · rw [hr0, Nat.gcd_zero_left]
        exact ⟨(gd_end (f := f + 1) (s := s + 1) (by omega)).1, (gd_end (f := g + 1) (s := s + 1) (by omega)).2⟩
      · obtain ⟨y1, y2⟩ := gd_one (f := f + 1) (g := g + 1) (a := b) (b := a % b) (s := s + 1) (by omega) hb31 (by omega) (by omega)
        rw [y1, y2, Nat.gcd_rec (a % b) b, Nat.gcd_comm (b % (a % b)) (a % b)]
        have hh := mod_half (b := b) (r := a % b) (by omega) hr
        exact ih (a % b) (b % (a % b)) (s + 1 + 1) (f + 1) (g + 1) (by rw [Nat.pow_succ] at hb; omega) (by omega) (by omega) (by omega) (by omega) (by omega)
theorem e_gcd {a b : Nat} (ha : a < 2 ^ 31) (hb : b < 2 ^ 31) : f_X10_greatestDivisor (nI a) (nI b) = some (nI (Nat.gcd a b)) ∧ f_X11_common (nI a) (nI b) = some (nI (Nat.gcd a b)) := by
  have := gd_all 31 a b 0 FU FU hb (Nat.le_refl _) (by decide) (by decide) (by decide) ha
  exact this
