/-! PURE 39: lines: farms, and two names (src/t88.lean through gen/tmpl.py) -/
section LN
variable {sg : Nat → Int32} {len N : Nat} {so pl : Nat → Int32} {va : Nat → Int64} {A P : Nat → Nat} {W : Nat → Int64} {U G E : Nat → Int32} {words : Nat → Int64} {i a f : Nat}
theorem ts_keep (hT : TKS sg len N so pl va A P W U G E) (ha : a ≤ N) (hf : f ≤ 20000) (h0 : f ≠ 0) : f_X11_takeSign so pl va (nI a) (nI f) 59 = some (nI a, nI f) := by
  unfold f_X11_takeSign
  rw [t_isS0 hT ha (by omega) (c := 59) (by unfold isS; omega) (x := 59) rfl (fun q => h0 q.1), bd_s, if_pos z00, t_wrg hT ha (by omega) (x := 1) (k := 1) rfl, bd_s, rf_keep h0]
theorem farm_tail (hT : TKS sg len N so pl va A P W U G E) (hW : HW words) (hS : SR N f i a) (hf : f ≤ 20000) : ∃ (f1 i1 f2 i2 a2 : Nat) (c2 r2 : Int32) (f3 i3 f4 i4 a4 : Nat) (c4 r4 : Int32) (f5 i5 f6 i6 a6 : Nat) (c6 r6 : Int32) (f7 i7 a7 : Nat),
    f_X7_readWord sg (nI len) (nI f) (nI (A (i))) (nI (P (i))) (W (i)) (U (i)) (G (i)) (E (i)) 439905903467 = some (nI f1, nI (A (i1)), nI (P (i1)), W (i1), U (i1), G (i1), E (i1)) ∧
    f_X7_readNumber sg (nI len) (nI f1) (nI (A (i1))) (nI (P (i1))) (W (i1)) (U (i1)) (G (i1)) (E (i1)) 9999 = some (c2, nI f2, nI (A (i2)), nI (P (i2)), W (i2), U (i2), G (i2), E (i2)) ∧
    f_X7_readWord sg (nI len) (nI f2) (nI (A (i2))) (nI (P (i2))) (W (i2)) (U (i2)) (G (i2)) (E (i2)) 1685022579 = some (nI f3, nI (A (i3)), nI (P (i3)), W (i3), U (i3), G (i3), E (i3)) ∧
    f_X7_readNumber sg (nI len) (nI f3) (nI (A (i3))) (nI (P (i3))) (W (i3)) (U (i3)) (G (i3)) (E (i3)) 9 = some (c4, nI f4, nI (A (i4)), nI (P (i4)), W (i4), U (i4), G (i4), E (i4)) ∧
    f_X7_readWord sg (nI len) (nI f4) (nI (A (i4))) (nI (P (i4))) (W (i4)) (U (i4)) (G (i4)) (E (i4)) 2003790950 = some (nI f5, nI (A (i5)), nI (P (i5)), W (i5), U (i5), G (i5), E (i5)) ∧
    f_X7_readNumber sg (nI len) (nI f5) (nI (A (i5))) (nI (P (i5))) (W (i5)) (U (i5)) (G (i5)) (E (i5)) 99 = some (c6, nI f6, nI (A (i6)), nI (P (i6)), W (i6), U (i6), G (i6), E (i6)) ∧
    f_X7_readSign sg (nI len) (nI f6) (nI (A (i6))) (nI (P (i6))) (W (i6)) (U (i6)) (G (i6)) (E (i6)) 59 = some (nI f7, nI (A (i7)), nI (P (i7)), W (i7), U (i7), G (i7), E (i7)) ∧
    f_X11_takeAfter so pl va words (nI a) (nI f) 1 0 9999 = some (r2, nI a2, nI f2) ∧
    f_X11_takeAfter so pl va words (nI a2) (nI f2) 2 0 9 = some (r4, nI a4, nI f4) ∧
    f_X11_takeAfter so pl va words (nI a4) (nI f4) 3 0 99 = some (r6, nI a6, nI f6) ∧
    f_X11_takeSign so pl va (nI a6) (nI f6) 59 = some (nI a7, nI f7) ∧
    ADV N f a f7 i7 a7 ∧ (f7 = 0 → i7 = i + 7 ∧ (∃ v, v ≤ 9999 ∧ c2 = nI v ∧ r2 = nI v) ∧ (∃ v, v ≤ 9 ∧ c4 = nI v ∧ r4 = nI v) ∧ ∃ v, v ≤ 99 ∧ c6 = nI v ∧ r6 = nI v) := by
  obtain ⟨f1, i1, a1, x1, y1, z1, w1⟩ := rd_word hT hW hS hf (w := 1) (by decide) (x := 1) rfl (y := 439905903467) c_flock
  obtain ⟨f2, i2, a2, c2, r2, x2, y2, z2, w2⟩ := rd_num hT z1.1 z1.2.1 (x := 9999) (m := 9999) rfl (by decide)
  obtain ⟨f3, i3, a3, x3, y3, z3, w3⟩ := rd_word hT hW z2.1 z2.2.1 (w := 2) (by decide) (x := 2) rfl (y := 1685022579) c_dogs
  obtain ⟨f4, i4, a4, c4, r4, x4, y4, z4, w4⟩ := rd_num hT z3.1 z3.2.1 (x := 9) (m := 9) rfl (by decide)
  obtain ⟨f5, i5, a5, x5, y5, z5, w5⟩ := rd_word hT hW z4.1 z4.2.1 (w := 3) (by decide) (x := 3) rfl (y := 2003790950) c_wolf
  obtain ⟨f6, i6, a6, c6, r6, x6, y6, z6, w6⟩ := rd_num hT z5.1 z5.2.1 (x := 99) (m := 99) rfl (by decide)
  obtain ⟨f7, i7, a7, x7, y7, z7, w7⟩ := rd_sign hT z6.1 z6.2.1 (c := 59) (by unfold isS; omega) (x := 59) rfl
  refine ⟨f1, i1, f2, i2, a2, c2, r2, f3, i3, f4, i4, a4, c4, r4, f5, i5, f6, i6, a6, c6, r6, f7, i7, a7, x1, x2, x3, x4, x5, x6, x7, ?_, ?_, ?_, y7, (((((z1.tr z2).tr z3).tr z4).tr z5).tr z6).tr z7, fun h7 => ?_⟩
  · unfold f_X11_takeAfter
    rw [y1, bd_s]
    dsimp only
    rw [y2, bd_s]
  · unfold f_X11_takeAfter
    rw [y3, bd_s]
    dsimp only
    rw [y4, bd_s]
  · unfold f_X11_takeAfter
    rw [y5, bd_s]
    dsimp only
    rw [y6, bd_s]
  · have h6 := z7.z h7
    have h5 := z6.z h6
    have h4 := z5.z h5
    have h3 := z4.z h4
    have h2 := z3.z h3
    have h1 := z2.z h2
    have e1 := (w1 h1).2
    obtain ⟨e2, v2, b2, p2, q2, -⟩ := w2 h2
    have e3 := (w3 h3).2
    obtain ⟨e4, v4, b4, p4, q4, -⟩ := w4 h4
    have e5 := (w5 h5).2
    obtain ⟨e6, v6, b6, p6, q6, -⟩ := w6 h6
    have e7 := (w7 h7).2
    exact ⟨by omega, ⟨v2, b2, p2, q2⟩, ⟨v4, b4, p4, q4⟩, v6, b6, p6, q6⟩
theorem ln_farm (hT : TKS sg len N so pl va A P W U G E) (hW : HW words) (hi : i < N) {R : Nat → Int32} {n : Nat} {nc nr : Nat → Int64} {flock dogs hunger : Nat → Int32} (hD : DF (sh R) n nc nr flock dogs hunger) :
    ∃ (f' i' b fb a' n' : Nat) (nc' nr' : Nat → Int64) (flock' dogs' hunger' R' : Nat → Int32),
      f_X7_readFarm sg (nI len) (nI 0) (nI (A (i))) (nI (P (i))) (W (i)) (U (i)) (G (i)) (E (i)) (nI n) nc flock dogs hunger = some (nI f', nI (A (i')), nI (P (i')), W (i'), U (i'), G (i'), E (i'), nI n', nc', flock', dogs', hunger') ∧
      f_X11_readFarm so pl va words (nI i) (nI 0) R nr = some (nI b, nI fb, R', nr') ∧ f_X11_takeSign so pl va (nI b) (nI fb) 59 = some (nI a', nI f') ∧ ADV N 0 i f' i' a' ∧ (∀ k, k < 1000 ∨ 2000 ≤ k → R' k = R k) ∧
      (f' = 0 → i < i' ∧ n' = n + 1 ∧ DF (sh R') (n + 1) nc' nr' flock' dogs' hunger' ∧ ∀ k, k ≠ 0 → ¬ (8 ≤ k ∧ k < 50 ∧ (k - 8) % 7 ≤ 2) → sh R' k = sh R k) := by
  obtain ⟨d1, d2, d3, d4⟩ := hD
  have hN := hT.1
  have hr0 : R 1000 = nI n := d2
  have hnx := t_nx hT hi
  have hi1 : i + 1 ≤ N := hi
  -- the class, a fault being there
  have cF : ∀ f1, f1 ≤ 20000 → f1 ≠ 0 → ∃ i', i' ≤ N ∧ f_X7_readFarm_B64 sg (nI len) (nI f1) (nI (A (i + 1))) (nI (P (i + 1))) (W (i + 1)) (U (i + 1)) (G (i + 1)) (E (i + 1)) (nI n) nc flock dogs hunger (W (i + 1)) = some (nI f1, nI (A (i')), nI (P (i')), W (i'), U (i'), G (i'), E (i'), nI n, nc, flock, dogs, hunger) := by
    intro f1 h1 h2
    obtain ⟨f1', i1, f2, i2, a2, c2, r2, f3, i3, f4, i4, a4, c4, r4, f5, i5, f6, i6, a6, c6, r6, f7, i7, a7, x1, x2, x3, x4, x5, x6, x7, -, -, -, -, z, -⟩ := farm_tail hT hW (f := f1) (i := min (i + 1 + 1) N) (a := min (i + 1 + 1) N) ⟨by omega, by omega, fun _ => rfl⟩ h1
    have hf7 : f7 = f1 := z.2.2.1 h2
    rw [hf7] at x7
    refine ⟨i7, z.1.1, ?_⟩
    unfold f_X7_readFarm_B64
    rw [t_next hT hi1, bd_s]
    dsimp only
    rw [x1, bd_s]
    dsimp only
    rw [x2, bd_s]
    dsimp only
    rw [x3, bd_s]
    dsimp only
    rw [x4, bd_s]
    dsimp only
    rw [x5, bd_s]
    dsimp only
    rw [x6, bd_s]
    dsimp only
    rw [x7, bd_s]
    dsimp only
    rw [if_neg (nI_ne0 (by omega) (by omega))]
  have cG : ∀ f1, f1 ≤ 20000 → f1 ≠ 0 → ∃ i', i' ≤ N ∧ f_X7_readFarm_B17 sg (nI len) (nI f1) (nI (A (i))) (nI (P (i))) (W (i)) (U (i)) (G (i)) (E (i)) (nI n) nc flock dogs hunger = some (nI f1, nI (A (i')), nI (P (i')), W (i'), U (i'), G (i'), E (i'), nI n, nc, flock, dogs, hunger) := by
    intro f1 h1 h2
    obtain ⟨i', q1, q2⟩ := cF f1 h1 h2
    refine ⟨i', q1, ?_⟩
    unfold f_X7_readFarm_B17
    rw [hnx, bd_s]
    dsimp only
    rw [t_ref hT hi1 (by omega) (x := 1) (k := 1) rfl, t_ref hT hi1 (by omega) (x := 3) (k := 3) rfl, rf_keep h2, rf_keep h2]
    obtain ⟨r, e1, -⟩ := e_named d1 nc (W (i + 1))
    rcases cl_isName (W (i + 1)) with c | c
    · rw [c, bd_s, if_pos z00, bd_s, q2]
    · rw [c, bd_s, if_neg z10, e1, bd_s, bd_s, q2, ite_self]
  have rF : ∀ f1 b, f1 ≤ 20000 → f1 ≠ 0 → f_X11_readFarm_B87 so pl va words (nI b) (nI f1) R nr (nI n) = some (nI b, nI f1, R, nr) := by
    intro f1 b h1 h2
    unfold f_X11_readFarm_B87
    rw [if_neg (nI_nle (by omega) (by omega))]
  have rL : ∀ f1 b k gg, f1 ≤ 20000 → f1 ≠ 0 → f_X11_readFarm_L45 so pl va words (gg + 1) (nI b) (nI f1) R nr (nI n) (nI k) = some (nI b, nI f1, R, nr) := by
    intro f1 b k gg h1 h2
    show f_X11_readFarm_L45b _ _ _ _ _ _ _ _ _ _ _ = _
    unfold f_X11_readFarm_L45b
    rw [rF f1 b h1 h2, if_neg (nI_ne0 (by omega) (by omega)), ite_self]
  have bad : ∀ f1 b, f1 ≤ 20000 → f1 ≠ 0 → b ≤ N → i ≤ b → (∃ i', i' ≤ N ∧ f_X7_readFarm sg (nI len) (nI 0) (nI (A (i))) (nI (P (i))) (W (i)) (U (i)) (G (i)) (E (i)) (nI n) nc flock dogs hunger = some (nI f1, nI (A (i')), nI (P (i')), W (i'), U (i'), G (i'), E (i'), nI n, nc, flock, dogs, hunger)) → f_X11_readFarm so pl va words (nI i) (nI 0) R nr = some (nI b, nI f1, R, nr) →
      ∃ (f' i' b fb a' n' : Nat) (nc' nr' : Nat → Int64) (flock' dogs' hunger' R' : Nat → Int32),
      f_X7_readFarm sg (nI len) (nI 0) (nI (A (i))) (nI (P (i))) (W (i)) (U (i)) (G (i)) (E (i)) (nI n) nc flock dogs hunger = some (nI f', nI (A (i')), nI (P (i')), W (i'), U (i'), G (i'), E (i'), nI n', nc', flock', dogs', hunger') ∧
      f_X11_readFarm so pl va words (nI i) (nI 0) R nr = some (nI b, nI fb, R', nr') ∧ f_X11_takeSign so pl va (nI b) (nI fb) 59 = some (nI a', nI f') ∧ ADV N 0 i f' i' a' ∧ (∀ k, k < 1000 ∨ 2000 ≤ k → R' k = R k) ∧
      (f' = 0 → i < i' ∧ n' = n + 1 ∧ DF (sh R') (n + 1) nc' nr' flock' dogs' hunger' ∧ ∀ k, k ≠ 0 → ¬ (8 ≤ k ∧ k < 50 ∧ (k - 8) % 7 ≤ 2) → sh R' k = sh R k) := by
    rintro f1 b h1 h2 hb hib ⟨i', q1, q2⟩ q3
    exact ⟨f1, i', b, f1, b, n, nc, nr, flock, dogs, hunger, R, q2, q3, ts_keep hT hb h1 h2, ⟨⟨q1, hb, fun q => absurd q h2⟩, h1, fun q => absurd rfl q, hib⟩, fun _ _ => rfl, fun q => absurd q h2⟩
  have hP := t_P hT (show i ≤ N by omega)
  have hP1 := t_P hT hi1
  by_cases h6 : n = 6
  · subst h6
    refine bad (rf 0 5 (P i)) i (rf_le (by decide) (by decide) hP) (rf_nz (by decide)) (by omega) (Nat.le_refl _) ?_ ?_
    · obtain ⟨i', q1, q2⟩ := cG (rf 0 5 (P i)) (rf_le (by decide) (by decide) hP) (rf_nz (by decide))
      refine ⟨i', q1, ?_⟩
      unfold f_X7_readFarm
      rw [if_neg (show ¬ nI 6 < 6 by decide), t_ref hT (by omega) (by decide) (x := 5) (k := 5) rfl, bd_s, q2]
    · unfold f_X11_readFarm
      rw [hr0, lt_r, if_pos (show nI 6 = 6 by decide), t_wrg hT (by omega) (by decide) (x := 5) (k := 5) rfl, bd_s]
  · have hn5 : n < 6 := by omega
    have hlt : nI n < 6 := by rw [show (6 : Int32) = nI 6 from rfl, i_lt (by omega) (by decide)]; exact hn5
    have hne : ¬ nI n = 6 := by rw [show (6 : Int32) = nI 6 from rfl, i_eq (by omega) (by decide)]; omega
    have hc : ∀ x, f_X7_readFarm_B17 sg (nI len) (nI 0) (nI (A (i))) (nI (P (i))) (W (i)) (U (i)) (G (i)) (E (i)) (nI n) nc flock dogs hunger = x → f_X7_readFarm sg (nI len) (nI 0) (nI (A (i))) (nI (P (i))) (W (i)) (U (i)) (G (i)) (E (i)) (nI n) nc flock dogs hunger = x := by
      intro x hx
      unfold f_X7_readFarm
      rw [if_pos hlt, hx]
    have hr : f_X11_readFarm so pl va words (nI i) (nI 0) R nr = (bd_ (f_X11_isName so va (nI (i + 1)) (nI 0) words) fun r_1 => (if r_1 = 0 then (bd_ (f_X11_wrong pl (nI (i + 1)) (nI 0) 1) fun m_fault_1 => (f_X11_readFarm_B43 so pl va words (nI (i + 1)) m_fault_1 R nr (nI n))) else (f_X11_readFarm_B43 so pl va words (nI (i + 1)) (nI 0) R nr (nI n)))) := by
      unfold f_X11_readFarm
      rw [hr0, lt_r, if_neg hne, lt_r, ← nI_succ]
    rcases rd_isName hT hW hi1 with ⟨c1, c2⟩ | ⟨c1, c2, c3, l, l1, l2, l3, l4, l5⟩
    · refine bad (rf 0 1 (P (i + 1))) (i + 1) (rf_le (by decide) (by decide) hP1) (rf_nz (by decide)) hi1 (by omega) ?_ ?_
      · obtain ⟨i', q1, q2⟩ := cF (rf 0 1 (P (i + 1))) (rf_le (by decide) (by decide) hP1) (rf_nz (by decide))
        refine ⟨i', q1, hc _ ?_⟩
        unfold f_X7_readFarm_B17
        rw [hnx, bd_s]
        dsimp only
        rw [c1, bd_s, if_pos z00, t_ref hT hi1 (by decide) (x := 1) (k := 1) rfl, bd_s, q2]
      · rw [hr, c2, bd_s, if_pos z00, t_wrg hT hi1 (by decide) (x := 1) (k := 1) rfl, bd_s]
        unfold f_X11_readFarm_B43
        exact rL _ _ 0 4999 (rf_le (by decide) (by decide) hP1) (rf_nz (by decide))
    · have hsame : ∀ k, k < n → (nr k = va (i + 1) ↔ nc k = W (i + 1)) := by
        intro k hkn
        obtain ⟨m, m1, m2, m3, m4, m5⟩ := d3 k hkn
        obtain ⟨s1, s2⟩ := en_same m3 l3 m2 l2
        rw [m4, m5, l4, l5, s1]
        exact s2.symm
      have hh : ∀ k gg, k < n → f_X11_readFarm_L45 so pl va words (gg + 1) (nI (i + 1)) (nI 0) R nr (nI n) (nI k) = if lg_cmp (nr k) (va (i + 1)) = 0 then f_X11_readFarm_L45 so pl va words gg (nI (i + 1)) (nI (rf 0 3 (P (i + 1)))) R nr (nI n) (nI (k + 1)) else f_X11_readFarm_L45 so pl va words gg (nI (i + 1)) (nI 0) R nr (nI n) (nI (k + 1)) := by
        intro k gg hkn
        show f_X11_readFarm_L45b _ _ _ _ _ _ _ _ _ _ _ = _
        unfold f_X11_readFarm_L45b f_X11_readFarm_B81
        rw [if_neg (nI_ge hkn (by omega)), if_pos (show nI 0 = 0 from rfl), g_nI (by omega) (by decide), g_nI (by omega) (by decide), ix_nI (by omega), ix_nI (by omega), t_wrg hT hi1 (by decide) (x := 3) (k := 3) rfl, bd_s, lt_r, lt_r, ← nI_succ]
      have hcn : ∀ x, f_X7_readFarm sg (nI len) (nI 0) (nI (A (i))) (nI (P (i))) (W (i)) (U (i)) (G (i)) (E (i)) (nI n) nc flock dogs hunger = x ↔ (bd_ (f_X5_named (nI n) nc (W (i + 1))) fun r_2 => (if r_2 = (-1) then (f_X7_readFarm_B64 sg (nI len) (nI 0) (nI (A (i + 1))) (nI (P (i + 1))) (W (i + 1)) (U (i + 1)) (G (i + 1)) (E (i + 1)) (nI n) nc flock dogs hunger (W (i + 1))) else f_X7_readFarm_B64 sg (nI len) (nI (rf 0 3 (P (i + 1)))) (nI (A (i + 1))) (nI (P (i + 1))) (W (i + 1)) (U (i + 1)) (G (i + 1)) (E (i + 1)) (nI n) nc flock dogs hunger (W (i + 1)))) = x := by
        intro x
        unfold f_X7_readFarm f_X7_readFarm_B17
        rw [if_pos hlt, hnx, bd_s]
        dsimp only
        rw [c1, bd_s, if_neg z10, t_ref hT hi1 (by decide) (x := 3) (k := 3) rfl]
        simp only [bd_s]
      obtain ⟨r, e1, e2⟩ := e_named d1 nc (W (i + 1))
      rcases e2 with ⟨q1, q2⟩ | ⟨k0, q1, q2, q3, q4⟩
      · -- a new name
        have lp : ∀ (r k gg : Nat), k + r = n → r < gg → f_X11_readFarm_L45 so pl va words gg (nI (i + 1)) (nI 0) R nr (nI n) (nI k) = f_X11_readFarm_B87 so pl va words (nI (i + 1)) (nI 0) R nr (nI n) := by
          intro r
          induction r with
          | zero =>
            intro k gg hk hg
            obtain ⟨gg, rfl⟩ : ∃ z, gg = z + 1 := ⟨gg - 1, by omega⟩
            have hk : k = n := by omega
            subst hk
            show f_X11_readFarm_L45b _ _ _ _ _ _ _ _ _ _ _ = _
            unfold f_X11_readFarm_L45b
            rw [if_pos (nI_le (Nat.le_refl _) (by omega))]
          | succ r ih =>
            intro k gg hk hg
            obtain ⟨gg, rfl⟩ : ∃ z, gg = z + 1 := ⟨gg - 1, by omega⟩
            rw [hh k gg (by omega), if_neg (fun q => q2 k (by omega) ((hsame k (by omega)).mp (lc_eq.mp q)))]
            exact ih (k + 1) gg (by omega) (by omega)
        obtain ⟨f1', i1, f2, i2, a2, c2', r2, f3, i3, f4, i4, a4, c4, r4, f5, i5, f6, i6, a6, c6, r6, f7, i7, a7, x1, x2, x3, x4, x5, x6, x7, y1, y2, y3, y4, z, zz⟩ := farm_tail hT hW (f := 0) (i := i + 1 + 1) (a := i + 1 + 1) ⟨by omega, by omega, fun _ => rfl⟩ (by decide)
        have hR : f_X11_readFarm so pl va words (nI i) (nI 0) R nr = some (nI a6, nI f6, upd (upd (upd (upd R (1000 + (8 + 7 * n)) r2) (1000 + (9 + 7 * n)) r4) (1000 + (10 + 7 * n)) r6) (1000 + 0) (nI (n + 1)), vp_updL nr n (va (i + 1))) := by
          rw [hr, c2, bd_s, if_neg z10]
          unfold f_X11_readFarm_B43
          have := lp n 0 FU (by omega) (by show n < 5000; omega)
          rw [show nI 0 = (0 : Int32) from rfl] at this
          rw [show nI 0 = (0 : Int32) from rfl, this]
          unfold f_X11_readFarm_B87
          have hl : (1008 : Int32) + 7 * nI n = nI (1000 + (8 + 7 * n)) := by
            rw [show (1008 : Int32) = nI 1008 from rfl, show (7 : Int32) = nI 7 from rfl, i_mul, i_add]
            exact congrArg nI (by omega)
          have hl0 : nI (1000 + (8 + 7 * n)) + 0 = nI (1000 + (8 + 7 * n)) := Int32.add_zero _
          have hl1 : nI (1000 + (8 + 7 * n)) + 1 = nI (1000 + (9 + 7 * n)) := by
            rw [show (1 : Int32) = nI 1 from rfl, i_add]
            exact congrArg nI (by omega)
          have hl2 : nI (1000 + (8 + 7 * n)) + 2 = nI (1000 + (10 + 7 * n)) := by
            rw [show (2 : Int32) = nI 2 from rfl, i_add]
            exact congrArg nI (by omega)
          rw [show (0 : Int32) = nI 0 from rfl] at hl0
          rw [if_pos (show (0 : Int32) ≤ 0 by decide), g_nI (by omega) (by decide), g_nI hn5 (by decide), lt_r, lt_r, lt_r, hl, ← nI_succ, ix_nI (by omega), ix_nI (by omega), show (0 : Int32) = nI 0 from rfl, hl0, hl1, hl2]
          have y1 : f_X11_takeAfter so pl va words (nI (i + 1 + 1)) (nI 0) 1 (nI 0) 9999 = some (r2, nI a2, nI f2) := y1
          have y2 : f_X11_takeAfter so pl va words (nI a2) (nI f2) 2 (nI 0) 9 = some (r4, nI a4, nI f4) := y2
          have y3 : f_X11_takeAfter so pl va words (nI a4) (nI f4) 3 (nI 0) 99 = some (r6, nI a6, nI f6) := y3
          rw [y1, bd_s]
          dsimp only
          rw [g_nI (by omega) (by decide), ix_nI (by omega), lt_r, y2, bd_s]
          dsimp only
          rw [g_nI (by omega) (by decide), ix_nI (by omega), lt_r, y3, bd_s]
          dsimp only
          rw [g_nI (by omega) (by decide), ix_nI (by omega), lt_r, lt_r, u_n (show 1000 ≠ 1000 + (10 + 7 * n) by omega), u_n (show 1000 ≠ 1000 + (9 + 7 * n) by omega), u_n (show 1000 ≠ 1000 + (8 + 7 * n) by omega), hr0, ← nI_succ]
        have hfr : ∀ k, k < 1000 ∨ 2000 ≤ k → upd (upd (upd (upd R (1000 + (8 + 7 * n)) r2) (1000 + (9 + 7 * n)) r4) (1000 + (10 + 7 * n)) r6) (1000 + 0) (nI (n + 1)) k = R k := by
          intro k hk
          rw [u_n (by omega), u_n (by omega), u_n (by omega), u_n (by omega)]
        have hadv : ADV N 0 i f7 i7 a7 := ⟨z.1, z.2.1, fun q => absurd rfl q, by have := z.2.2.2; omega⟩
        have hB : f_X7_readFarm sg (nI len) (nI 0) (nI (A (i))) (nI (P (i))) (W (i)) (U (i)) (G (i)) (E (i)) (nI n) nc flock dogs hunger = if nI f7 = 0 then (bd_ (f_X5_addFarm (nI n) nc flock dogs hunger (W (i + 1)) c2' c4 c6) fun (mt_farms_1, mt_names_1, mt_flock_1, mt_dogs_1, mt_hunger_1) => (some (nI f7, nI (A (i7)), nI (P (i7)), W (i7), U (i7), G (i7), E (i7), mt_farms_1, mt_names_1, mt_flock_1, mt_dogs_1, mt_hunger_1))) else some (nI f7, nI (A (i7)), nI (P (i7)), W (i7), U (i7), G (i7), E (i7), nI n, nc, flock, dogs, hunger) := by
          rw [hcn, e1, bd_s, if_pos q1]
          unfold f_X7_readFarm_B64
          rw [t_nx hT c3, bd_s]
          dsimp only
          rw [x1, bd_s]
          dsimp only
          rw [x2, bd_s]
          dsimp only
          rw [x3, bd_s]
          dsimp only
          rw [x4, bd_s]
          dsimp only
          rw [x5, bd_s]
          dsimp only
          rw [x6, bd_s]
          dsimp only
          rw [x7, bd_s]
        by_cases h7 : f7 = 0
        · obtain ⟨g1, ⟨v2, b2, p2, p2'⟩, ⟨v4, b4, p4, p4'⟩, v6, b6, p6, p6'⟩ := zz h7
          refine ⟨f7, i7, a6, f6, a7, n + 1, vp_updL nc n (W (i + 1)), vp_updL nr n (va (i + 1)), upd flock n c2', upd dogs n c4, upd hunger n c6, _, ?_, hR, y4, hadv, hfr, fun _ => ⟨by omega, rfl, ?_, fun k h1 h2 => ?_⟩⟩
          · rw [hB, if_pos (by rw [h7]; rfl)]
            unfold f_X5_addFarm
            rw [if_neg (show ¬ (6 : Int32) ≤ nI n from nI_ge hn5 (by decide)), g_nI hn5 (by decide), lt_r, g_nI hn5 (by decide), lt_r, g_nI hn5 (by decide), lt_r, g_nI hn5 (by decide), lt_r, lt_r, bd_s, ix_nI (by omega), ← nI_succ]
          · rw [sh_u, sh_u, sh_u, sh_u]
            refine ⟨by omega, u_s _ _ _, fun k hk => ?_, fun y hy => ?_⟩
            · by_cases hkn : k = n
              · subst hkn
                exact ⟨l, l1, l2, l3, by rw [pk_uLs, l5], by rw [pk_uLs, l4]⟩
              · obtain ⟨m, m1, m2, m3, m4, m5⟩ := d3 k (by omega)
                exact ⟨m, m1, m2, m3, by rw [pk_uLn hkn, m4], by rw [pk_uLn hkn, m5]⟩
            · by_cases hyn : y = n
              · subst hyn
                rw [u_s, u_s, u_s, u_n (show 8 + 7 * y ≠ 0 by omega), u_n (show 8 + 7 * y ≠ 10 + 7 * y by omega), u_n (show 8 + 7 * y ≠ 9 + 7 * y by omega), u_s, u_n (show 9 + 7 * y ≠ 0 by omega), u_n (show 9 + 7 * y ≠ 10 + 7 * y by omega), u_s, u_n (show 10 + 7 * y ≠ 0 by omega), u_s]
                exact ⟨⟨by rw [p2, p2'], v2, b2, p2'⟩, ⟨by rw [p4, p4'], v4, b4, p4'⟩, by rw [p6, p6'], v6, b6, p6'⟩
              · rw [u_n hyn, u_n hyn, u_n hyn, u_n (show 8 + 7 * y ≠ 0 by omega), u_n (show 8 + 7 * y ≠ 10 + 7 * n by omega), u_n (show 8 + 7 * y ≠ 9 + 7 * n by omega), u_n (show 8 + 7 * y ≠ 8 + 7 * n by omega), u_n (show 9 + 7 * y ≠ 0 by omega), u_n (show 9 + 7 * y ≠ 10 + 7 * n by omega), u_n (show 9 + 7 * y ≠ 9 + 7 * n by omega), u_n (show 9 + 7 * y ≠ 8 + 7 * n by omega), u_n (show 10 + 7 * y ≠ 0 by omega), u_n (show 10 + 7 * y ≠ 10 + 7 * n by omega), u_n (show 10 + 7 * y ≠ 9 + 7 * n by omega), u_n (show 10 + 7 * y ≠ 8 + 7 * n by omega)]
                exact d4 y (by omega)
          · rw [sh_u, sh_u, sh_u, sh_u, u_n (by omega), u_n (by omega), u_n (by omega), u_n (by omega)]
        · refine ⟨f7, i7, a6, f6, a7, n, nc, vp_updL nr n (va (i + 1)), flock, dogs, hunger, _, ?_, hR, y4, hadv, hfr, fun q => absurd q h7⟩
          rw [hB, if_neg (nI_ne0 (by omega) (by have := z.2.1; omega))]
      · -- an old name
        have fl1 : rf 0 3 (P (i + 1)) ≤ 20000 := rf_le (by decide) (by decide) hP1
        have fl2 : rf 0 3 (P (i + 1)) ≠ 0 := rf_nz (by decide)
        have lp : ∀ (r k gg : Nat), k + r = k0 → r + 1 < gg → f_X11_readFarm_L45 so pl va words gg (nI (i + 1)) (nI 0) R nr (nI n) (nI k) = some (nI (i + 1), nI (rf 0 3 (P (i + 1))), R, nr) := by
          intro r
          induction r with
          | zero =>
            intro k gg hk hg
            obtain ⟨gg, rfl⟩ : ∃ z, gg = z + 2 := ⟨gg - 2, by omega⟩
            have hk : k = k0 := by omega
            subst hk
            rw [hh k (gg + 1) q1, if_pos (lc_eq.mpr ((hsame k q1).mpr q3))]
            exact rL _ _ _ _ fl1 fl2
          | succ r ih =>
            intro k gg hk hg
            obtain ⟨gg, rfl⟩ : ∃ z, gg = z + 1 := ⟨gg - 1, by omega⟩
            rw [hh k gg (by omega), if_neg (fun q => q4 k (by omega) ((hsame k (by omega)).mp (lc_eq.mp q)))]
            exact ih (k + 1) gg (by omega) (by omega)
        refine bad (rf 0 3 (P (i + 1))) (i + 1) fl1 fl2 hi1 (by omega) ?_ ?_
        · obtain ⟨i', w1, w2⟩ := cF (rf 0 3 (P (i + 1))) fl1 fl2
          refine ⟨i', w1, (hcn _).mpr ?_⟩
          rw [e1, bd_s, if_neg (by rw [q2]; exact nI_m1 (by omega)), w2]
        · rw [hr, c2, bd_s, if_neg z10]
          unfold f_X11_readFarm_B43
          exact lp k0 0 FU (by omega) (by show k0 + 1 < 5000; omega)
/-- the second name of two, the first one being read -/
theorem two_tail (hT : TKS sg len N so pl va A P W U G E) (hW : HW words) (hi : i + 1 ≤ N) {R : Nat → Int32} {n : Nat} (hn : n ≤ 6) {nc nr : Nat → Int64} (hNM : NMR n nc nr) (hr0 : R 1000 = nI n) {l1 l2 x1 : Int32} {o k1 : Nat} {both : Bool} (hl1 : both = true → l1 = nI o ∧ (o = 74 ∨ o = 110)) (hl2 : l2 = if both then 1 else 0) (hf : f ≤ 20000) (hx : f = 0 → x1 = nI k1 ∧ k1 < n ∧ i + 1 < N) (hneg : ∀ k, both = true → f = 0 → k < n → ¬ R (1000 + (o + 6 * k1 + k)) ≤ 0 → R (1000 + (o + 6 * k1 + k)) ≠ 0) (hpos : ∀ k, both = true → f = 0 → k < n → R (1000 + (o + 6 * k1 + k)) ≤ 0 → R (1000 + (o + 6 * k1 + k)) = 0) :
    ∃ (f2 k2 f3 a3 : Nat) (tw : Int32), f_X7_oldFarm (nI (P (min (i + 1 + 1) N))) (W (min (i + 1 + 1) N)) (nI n) nc (nI f) = some (nI k2, nI f2) ∧ (k2 = 0 ∨ k2 < n) ∧ f2 ≤ 20000 ∧
      f_X11_takeTwo_B50 so pl va words R nr (nI (i + 1)) (nI f) l1 l2 x1 = some (tw, nI a3, nI f3) ∧
      ((k1 = k2 ∨ (both = true ∧ R (1000 + (o + 6 * k1 + k2)) ≠ 0)) → f3 = rf f2 3 (P (min (i + 1 + 1) N))) ∧ (¬ (k1 = k2 ∨ (both = true ∧ R (1000 + (o + 6 * k1 + k2)) ≠ 0)) → f3 = f2) ∧
      ADV N f (i + 1) f3 (min (min (i + 1 + 1) N + 1) N) a3 ∧ (f3 = 0 → tw = nI (6 * k1 + k2) ∧ k1 < n ∧ k2 < n ∧ k1 ≠ k2 ∧ (both = true → R (1000 + (o + 6 * k1 + k2)) = 0) ∧ i + 1 + 1 < N) := by
  have hN := hT.1
  have hP := t_P hT (show min (i + 1 + 1) N ≤ N by omega)
  by_cases h0 : f = 0
  · subst h0
    obtain ⟨hx1, hk1, hlt⟩ := hx rfl
    have hj : min (i + 1 + 1) N = i + 1 + 1 := by omega
    rw [hj] at hP ⊢
    obtain ⟨f2, k2, x2, e1, e2, e3, -, e5, e6⟩ := rd_farm hT hW (f := 0) (i := i + 1 + 1) (a := i + 1 + 1) ⟨by omega, by omega, fun _ => rfl⟩ (by decide) hn hNM hr0
    have b50 : f_X11_takeTwo_B50 so pl va words R nr (nI (i + 1)) (nI 0) l1 l2 x1 = f_X11_takeTwo_B86 so pl va words R nr (nI (i + 1 + 1)) (nI f2) l1 l2 x1 x2 := by
      unfold f_X11_takeTwo_B50 f_X11_takeTwo_B67
      rw [if_pos (show nI 0 ≤ 0 by decide), lt_r, ← nI_succ, if_pos (show nI 0 ≤ 0 by decide), e2, bd_s]
    have fin : ∀ f3, f3 ≤ 20000 → f3 ≠ 0 → ∀ y : Int32, f_X11_takeTwo_B131 so pl va words R nr (nI (i + 1 + 1)) (nI f3) x1 y = some ((6 * x1) + y, nI (i + 1 + 1), nI f3) := by
      intro f3 h1 h2 y
      unfold f_X11_takeTwo_B131 f_X11_takeTwo_B148
      rw [if_neg (nI_nle (by omega) (by omega)), lt_r, Int32.add_zero]
    by_cases h2 : f2 = 0
    · subst h2
      obtain ⟨g1, g2, g3⟩ := e6 rfl
      subst g2
      subst hx1
      have b126 : f_X11_takeTwo_B126 so pl va words R nr (nI (i + 1 + 1)) (nI 0) (nI k1) (nI k2) = some ((6 * nI k1) + nI k2, nI (i + 1 + 1), nI (rf 0 3 (P (i + 1 + 1)))) := by
        unfold f_X11_takeTwo_B126
        rw [t_wrg hT (by omega) (by decide) (x := 3) (k := 3) rfl, bd_s]
        exact fin _ (rf_le (by decide) (by decide) hP) (rf_nz (by decide)) _
      have hadv3 : ADV N 0 (i + 1) (rf 0 3 (P (i + 1 + 1))) (min (i + 1 + 1 + 1) N) (i + 1 + 1) := ⟨⟨by omega, by omega, fun q => absurd q (rf_nz (by decide))⟩, rf_le (by decide) (by decide) hP, fun q => absurd rfl q, by omega⟩
      by_cases hs : k1 = k2
      · refine ⟨0, k2, rf 0 3 (P (i + 1 + 1)), i + 1 + 1, (6 * nI k1) + nI k2, e1, e5, by decide, ?_, fun _ => rfl, fun q => absurd (Or.inl hs) q, hadv3, fun q => absurd q (rf_nz (by decide))⟩
        rw [b50]
        unfold f_X11_takeTwo_B86
        rw [if_pos (show nI 0 = 0 from rfl), if_pos (by rw [hs]), b126]
      · have hns : ¬ nI k1 = nI k2 := by rw [i_eq (by omega) (by omega)]; exact hs
        have b131 : f_X11_takeTwo_B131 so pl va words R nr (nI (i + 1 + 1)) (nI 0) (nI k1) (nI k2) = some (nI (6 * k1 + k2), nI (i + 1 + 1 + 1), nI 0) := by
          unfold f_X11_takeTwo_B131 f_X11_takeTwo_B148
          rw [if_pos (show nI 0 ≤ 0 by decide), lt_r, ← nI_succ, show (6 : Int32) = nI 6 from rfl, i_mul, i_add]
        have hadv0 : ADV N 0 (i + 1) 0 (min (i + 1 + 1 + 1) N) (i + 1 + 1 + 1) := ⟨⟨by omega, by omega, fun _ => by omega⟩, by decide, fun q => absurd rfl q, by omega⟩
        cases both with
        | false =>
          refine ⟨0, k2, 0, i + 1 + 1 + 1, nI (6 * k1 + k2), e1, e5, by decide, ?_, fun q => ?_, fun _ => rfl, hadv0, fun _ => ⟨rfl, hk1, g1, hs, fun q => absurd q (by decide), g3⟩⟩
          · rw [b50]
            unfold f_X11_takeTwo_B86
            rw [if_pos (show nI 0 = 0 from rfl), if_neg hns, if_pos (show l2 = 0 from hl2), b131]
          · rcases q with q | q
            · exact absurd q hs
            · exact absurd q.1 (by decide)
        | true =>
          obtain ⟨w1, w2⟩ := hl1 rfl
          have hl2 : l2 = 1 := hl2
          have hidx : (((1000 : Int32) + l1) + (6 * nI k1)) + nI k2 = nI (1000 + (o + 6 * k1 + k2)) := by
            rw [w1, show (1000 : Int32) = nI 1000 from rfl, show (6 : Int32) = nI 6 from rfl, i_mul, i_add, i_add, i_add]
            exact congrArg nI (by omega)
          have hb : f_X11_takeTwo_B86 so pl va words R nr (nI (i + 1 + 1)) (nI 0) l1 l2 (nI k1) (nI k2) = if R (1000 + (o + 6 * k1 + k2)) ≤ 0 then some (nI (6 * k1 + k2), nI (i + 1 + 1 + 1), nI 0) else some ((6 * nI k1) + nI k2, nI (i + 1 + 1), nI (rf 0 3 (P (i + 1 + 1)))) := by
            unfold f_X11_takeTwo_B86
            rw [if_pos (show nI 0 = 0 from rfl), if_neg hns, hl2, if_neg z10, hidx, g_nI (by omega) (by decide), ix_nI (by omega), b126, b131]
          by_cases hc : R (1000 + (o + 6 * k1 + k2)) ≤ 0
          · rw [if_pos hc] at hb
            have hz := hpos k2 rfl rfl g1 hc
            refine ⟨0, k2, 0, i + 1 + 1 + 1, nI (6 * k1 + k2), e1, e5, by decide, by rw [b50, hb], fun q => ?_, fun _ => rfl, hadv0, fun _ => ⟨rfl, hk1, g1, hs, fun _ => hz, g3⟩⟩
            rcases q with q | q
            · exact absurd q hs
            · exact absurd hz q.2
          · rw [if_neg hc] at hb
            exact ⟨0, k2, rf 0 3 (P (i + 1 + 1)), i + 1 + 1, (6 * nI k1) + nI k2, e1, e5, by decide, by rw [b50, hb], fun _ => rfl, fun q => absurd (Or.inr ⟨rfl, hneg k2 rfl rfl g1 hc⟩) q, hadv3, fun q => absurd q (rf_nz (by decide))⟩
    · refine ⟨f2, k2, f2, i + 1 + 1, (6 * x1) + x2, e1, e5, e3, ?_, fun _ => (rf_keep h2).symm, fun _ => rfl, ⟨⟨by omega, by omega, fun q => absurd q h2⟩, e3, fun q => absurd rfl q, by omega⟩, fun q => absurd q h2⟩
      rw [b50]
      unfold f_X11_takeTwo_B86
      rw [if_neg (nI_ne0 (by omega) (by omega))]
      exact fin f2 e3 h2 x2
  · obtain ⟨f2, k2, x2, e1, e2, e3, e4, e5, e6⟩ := rd_farm hT hW (f := f) (i := min (i + 1 + 1) N) (a := min (i + 1 + 1) N) ⟨by omega, by omega, fun _ => rfl⟩ hf hn hNM hr0
    have h2 := e4 h0
    subst h2
    refine ⟨f2, k2, f2, i + 1, (6 * x1) + (-1), e1, e5, hf, ?_, fun _ => (rf_keep h0).symm, fun _ => rfl, ⟨⟨by omega, hi, fun q => absurd q h0⟩, hf, fun _ => rfl, Nat.le_refl _⟩, fun q => absurd q h0⟩
    unfold f_X11_takeTwo_B50 f_X11_takeTwo_B67 f_X11_takeTwo_B86 f_X11_takeTwo_B131 f_X11_takeTwo_B148
    have hnle : ¬ nI f2 ≤ 0 := nI_nle (by omega) (by omega)
    rw [if_neg hnle, lt_r, Int32.add_zero, if_neg hnle, if_neg (nI_ne0 (by omega) (by omega)), if_neg hnle, lt_r, Int32.add_zero]
end LN
