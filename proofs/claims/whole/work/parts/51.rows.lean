/-! PURE 2: what is read of the rows; masks; draws -/
theorem e_ix {R : Nat → Int32} {x : Int32} {k : Nat} (h : x = nI k) (hk : k < 2 ^ 31) : R (ix x) = R k := by rw [h, ix_nI hk]
theorem e_of {R : Nat → Int32} {x y : Int32} {f w : Nat} (hx : x = nI f) (hy : y = nI w) (hf : f < 6) (hw : w < 7) : f_X11_of R x y = some (R (8 + 7 * f + w)) := by
  have e : (8 + 7 * x) + y = nI (8 + 7 * f + w) := by rw [hx, hy, show (8 : Int32) = nI 8 from rfl, show (7 : Int32) = nI 7 from rfl, i_mul, i_add, i_add]
  unfold f_X11_of
  rw [e, g_nI (by omega) (by decide), ix_nI (by omega)]
theorem e_adds {R : Nat → Int32} {x y v : Int32} {f w : Nat} (hx : x = nI f) (hy : y = nI w) (hf : f < 6) (hw : w < 7) : f_X11_adds R x y v = some (upd R (8 + 7 * f + w) (R (8 + 7 * f + w) + v)) := by
  have e : (8 + 7 * x) + y = nI (8 + 7 * f + w) := by rw [hx, hy, show (8 : Int32) = nI 8 from rfl, show (7 : Int32) = nI 7 from rfl, i_mul, i_add, i_add]
  unfold f_X11_adds
  rw [e, g_nI (by omega) (by decide), g_nI (by omega) (by decide), ix_nI (by omega)]
  rfl
theorem e_farms (R : Nat → Int32) : f_X11_farms R = some (R 0) := rfl
/-- g, as a number -/
theorem e_draw {R : Nat → Int32} {a k : Nat} (hR : R 2 = nI a) (ha : a < 2 ^ 31) (hk : 0 < k) (hk2 : k < 2 ^ 31) :
    f_X9_draw (lN a) (nI k) = some (nI ((a * 1103515245 + 12345) % 2147483648 / 65536 % k), lN ((a * 1103515245 + 12345) % 2147483648)) ∧
    f_X11_draw R (nI k) = some (nI ((a * 1103515245 + 12345) % 2147483648 / 65536 % k), upd R 2 (nI ((a * 1103515245 + 12345) % 2147483648))) := by
  have hb : (a * 1103515245 + 12345) % 2147483648 < 2 ^ 31 := Nat.mod_lt _ (by decide)
  have hy : a * 1103515245 + 12345 < 2 ^ 63 := by omega
  have e1 : (lN a * 1103515245 + 12345) - (lN a * 1103515245 + 12345) / 2147483648 * 2147483648 = lN ((a * 1103515245 + 12345) % 2147483648) := by
    rw [show (1103515245 : Int64) = lN 1103515245 from rfl, show (12345 : Int64) = lN 12345 from rfl, show (2147483648 : Int64) = lN 2147483648 from rfl, lN_mul, lN_add, pk_lRem hy (by decide) (by decide)]
  generalize (a * 1103515245 + 12345) % 2147483648 = b at hb e1
  have e2 : (lN b / 65536) - (lN b / 65536) / (Int32.toInt64 (nI k)) * (Int32.toInt64 (nI k)) = lN (b / 65536 % k) := by
    rw [show (65536 : Int64) = lN 65536 from rfl, nI_l hk2, pk_lDiv (by omega) (by decide) (by decide), pk_lRem (by omega) hk (by omega)]
  have hnz : ¬ Int32.toInt64 (nI k) = 0 := by
    rw [nI_l hk2, show (0 : Int64) = lN 0 from rfl, lN_eq hk2 (by decide)]
    omega
  have hp : ¬ nI k ≤ 0 := nI_nle hk hk2
  constructor
  · unfold f_X9_draw
    simp only [lt_, e1, if_neg hp, g_nzL, if_neg hnz, e2, lN_i]
  · unfold f_X11_draw
    rw [hR, nI_l ha]
    simp only [lt_, e1, g_nzL, if_neg hnz, e2, lN_i]
/-! ## masks -/
theorem mk_neigh : ∀ a, a < 64 → ∀ b, b < 64 → nI a &&& (nI b ^^^ (-1)) = nI (a &&& (63 ^^^ b)) := by decide +kernel
theorem mk_bit : ∀ a, a < 64 → ∀ e, e < 6 → (((nI a >>> (nI e &&& 31)) &&& 1) = 1 ↔ a.testBit e = true) := by decide +kernel
theorem mk_one : ∀ e, e < 6 → (1 : Int32) <<< (nI e &&& 31) = nI (2 ^ e) := by decide +kernel
theorem mk_step : ∀ m, m < 64 → ∀ e, e < 6 → (m % 2 ^ e) ||| (if m.testBit e then 2 ^ e else 0) = m % 2 ^ (e + 1) := by decide +kernel
def pc_ (m : Nat) : Nat := (List.range 6).countP (fun e => m.testBit e)
theorem mk_cnt : ∀ m, m < 64 → f_J6_bitCount_0f7a4 (nI m) = some (nI (pc_ m)) := by decide +kernel
theorem mk_and {a b e : Nat} (he : e < 6) : (a &&& (63 ^^^ b)).testBit e = (a.testBit e && !b.testBit e) := by
  have h : (63 : Nat).testBit e = true := by
    have : ∀ e, e < 6 → (63 : Nat).testBit e = true := by decide
    exact this e he
  rw [Nat.testBit_and, Nat.testBit_xor, h]
  simp
theorem mk_and_lt {a b : Nat} (h : a < 64) : a &&& (63 ^^^ b) < 64 := Nat.lt_of_le_of_lt Nat.and_le_left h
/-- a mask and what its bits say -/
def Mk (x : Int32) (p : Nat → Bool) : Prop := ∃ m : Nat, m < 64 ∧ x = nI m ∧ ∀ e, e < 6 → m.testBit e = p e
theorem Mk.bit {x : Int32} {p : Nat → Bool} (h : Mk x p) {y : Int32} {e : Nat} (hy : y = nI e) (he : e < 6) : ((x >>> (y &&& 31)) &&& 1) = 1 ↔ p e = true := by
  obtain ⟨m, hm, rfl, hp⟩ := h
  rw [hy, mk_bit m hm e he, hp e he]
theorem Mk.neigh {x y : Int32} {p q : Nat → Bool} (h : Mk x p) (h2 : Mk y q) : Mk (x &&& (y ^^^ (-1))) (fun e => p e && !q e) := by
  obtain ⟨m, hm, rfl, hp⟩ := h
  obtain ⟨k, hk, rfl, hq⟩ := h2
  refine ⟨m &&& (63 ^^^ k), mk_and_lt hm, mk_neigh m hm k hk, fun e he => ?_⟩
  rw [mk_and he, hp e he, hq e he]
/-- the loop of the reference that gathers a mask -/
theorem near_loop {R : Nat → Int32} {n m f : Nat} {x : Int32} (hR : R 0 = nI n) (hn : n ≤ 6) (hm : m < 64) (hx : x = nI f) (har : ∀ e, e < n → f_X11_areNear R (nI f) (nI e) = some (if m.testBit e then 1 else 0)) :
    ∀ (r e g : Nat), e + r = n → r < g → f_X11_near_L4 R g x (nI (m % 2 ^ e)) (nI e) = some (nI (m % 2 ^ n)) := by
  intro r
  induction r with
  | zero =>
    intro e g he hg
    obtain ⟨g, rfl⟩ : ∃ k, g = k + 1 := ⟨g - 1, by omega⟩
    have he : e = n := by omega
    subst he
    show f_X11_near_L4b _ _ _ _ _ = _
    unfold f_X11_near_L4b
    rw [e_farms, bd_s, hR, if_pos (nI_le (Nat.le_refl _) (by omega))]
  | succ r ih =>
    intro e g he hg
    obtain ⟨g, rfl⟩ : ∃ k, g = k + 1 := ⟨g - 1, by omega⟩
    show f_X11_near_L4b _ _ _ _ _ = _
    unfold f_X11_near_L4b
    rw [e_farms, bd_s, hR, if_neg (nI_ge (by omega) (by omega)), hx, har e (by omega), bd_s]
    have hi := ih (e + 1) g (by omega) (by omega)
    have hs := mk_step m hm e (by omega)
    by_cases hb : m.testBit e = true
    · rw [if_pos hb, if_neg (by decide)]
      unfold f_X11_near_B29
      simp only [lt_]
      rw [mk_one e (by omega), fa_or, ← nI_succ, ← hx]
      rw [if_pos hb] at hs
      rw [hs]
      exact hi
    · rw [if_neg hb, if_pos rfl]
      unfold f_X11_near_B29
      simp only [lt_]
      rw [show (0 : Int32) = nI 0 from rfl, fa_or, ← nI_succ, ← hx]
      rw [if_neg hb] at hs
      rw [hs]
      exact hi
