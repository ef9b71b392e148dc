/-! PURE 41: lines: teeth, laws (src/t90.lean through gen/tmpl.py) -/
section LT
variable {sg : Nat → Int32} {len N : Nat} {so pl : Nat → Int32} {va : Nat → Int64} {A P : Nat → Nat} {W : Nat → Int64} {U G E : Nat → Int32} {words : Nat → Int64} {i a f : Nat}
theorem tooth_u (hT : TKS sg len N so pl va A P W U G E) (hi : i ≤ N) : U i = 0 ↔ (so i = 2 ∧ va i = 0) := by
  obtain ⟨-, -, -, hk, -⟩ := hT.2.1 i hi
  rcases hk with ⟨q1, -, q2, -⟩ | ⟨q1, -, q2, -⟩ | ⟨q1, -, ⟨v, v1, v2, v3⟩, -⟩ | ⟨q1, -, q2, -⟩ | ⟨q1, -, q2, -⟩
  · rw [q1, q2]; exact ⟨fun q => absurd q (by decide), fun q => absurd q.1 (by decide)⟩
  · rw [q1, q2]; exact ⟨fun q => absurd q (by decide), fun q => absurd q.1 (by decide)⟩
  · rw [q1, v2, v3]
    refine ⟨fun q => ⟨rfl, ?_⟩, fun q => ?_⟩
    · have q : nI v = nI 0 := q
      rw [i_eq (by omega) (by decide)] at q
      rw [q]; rfl
    · have q : lN v = lN 0 := q.2
      rw [lN_ne (by omega) (by decide)] at q
      rw [q]; rfl
  · rw [q1, q2]; exact ⟨fun q => absurd q (by decide), fun q => absurd q.1 (by decide)⟩
  · rw [q1, q2]; exact ⟨fun q => absurd q (by decide), fun q => absurd q.1 (by decide)⟩
theorem tooth_lp (hT : TKS sg len N so pl va A P W U G E) {n k1 : Nat} {nc nr : Nat → Int64} (hk1 : k1 < 6) (td tt x1 : Int32) : ∀ (r w gg hh f i a : Nat) (sc sr : Int32) (often R : Nat → Int32), w + r = 4 → r < gg → r < hh → SR N f i a → f ≤ 20000 → (f = 0 → x1 = nI k1) → (f = 0 → DO (sh R) often ∧ ∃ s, s ≤ 9 * w ∧ sc = nI s ∧ sr = nI s) →
    ∃ (f' i' a' : Nat) (often' R' : Nat → Int32),
      f_X7_readTooth_L39 sg (nI len) (nI n) nc gg (nI f) (nI (A (i))) (nI (P (i))) (W (i)) (U (i)) (G (i)) (E (i)) often td (nI k1) sc (nI (w + 1)) = f_X7_readTooth_B117 sg (nI len) (nI n) nc (nI f') (nI (A (i'))) (nI (P (i'))) (W (i')) (U (i')) (G (i')) (E (i')) often' td (nI k1) ∧
      f_X11_readTooth_L64 so pl va words nr hh (nI a) (nI f) R tt x1 sr (nI w) = f_X11_readTooth_B161 so pl va words nr (nI a') (nI f') R' tt x1 ∧ ADV N f a f' i' a' ∧ (∀ k, k < 1000 ∨ 2000 ≤ k → R' k = R k) ∧ (∀ k, ¬ (50 ≤ k ∧ k < 74) → sh R' k = sh R k) ∧ (f' = 0 → DO (sh R') often') := by
  intro r
  induction r with
  | zero =>
    intro w gg hh f i a sc sr often R hw hg hh' hS hf hx hI
    obtain ⟨gg, rfl⟩ : ∃ z, gg = z + 1 := ⟨gg - 1, by omega⟩
    obtain ⟨hh, rfl⟩ : ∃ z, hh = z + 1 := ⟨hh - 1, by omega⟩
    have hw : w = 4 := by omega
    subst hw
    refine ⟨f, i, a, often, R, ?_, ?_, ⟨hS, hf, fun _ => rfl, Nat.le_refl _⟩, fun _ _ => rfl, fun _ _ => rfl, fun q => (hI q).1⟩
    · show f_X7_readTooth_L39b _ _ _ _ _ _ _ _ _ _ _ _ _ _ _ _ _ = _
      unfold f_X7_readTooth_L39b
      rw [if_pos (show (4 : Int32) < nI (4 + 1) by decide)]
    · show f_X11_readTooth_L64b _ _ _ _ _ _ _ _ _ _ _ _ _ = _
      unfold f_X11_readTooth_L64b
      rw [if_pos (show (4 : Int32) ≤ nI 4 by decide)]
  | succ r ih =>
    intro w gg hh f i a sc sr often R hw hg hh' hS hf hx hI
    obtain ⟨gg, rfl⟩ : ∃ z, gg = z + 1 := ⟨gg - 1, by omega⟩
    obtain ⟨hh, rfl⟩ : ∃ z, hh = z + 1 := ⟨hh - 1, by omega⟩
    obtain ⟨s1, s2, s3⟩ := hS
    have hN := hT.1
    have hP := t_P hT s1
    have n4 : ¬ (4 : Int32) < nI (w + 1) := nI_nlt (a := 4) (b := w + 1) (by omega) (by decide)
    have n4' : ¬ (4 : Int32) ≤ nI w := nI_ge (b := 4) (by omega) (by decide)
    by_cases h0 : f = 0
    · have hai := s3 h0
      subst hai
      subst h0
      have hx1 := hx rfl
      subst hx1
      obtain ⟨hDO, s, hs, e1, e2⟩ := hI rfl
      subst e1
      subst e2
      -- the fault ahead of the number, of both
      obtain ⟨fx, hfx, hcl, hrf⟩ : ∃ fx, fx ≤ 20000 ∧ f_X7_readTooth_L39 sg (nI len) (nI n) nc (gg + 1) (nI 0) (nI (A (a))) (nI (P (a))) (W (a)) (U (a)) (G (a)) (E (a)) often td (nI k1) (nI s) (nI (w + 1)) = f_X7_readTooth_B87 (f_X7_readTooth_L39 sg (nI len) (nI n) nc gg) sg (nI len) (nI n) nc (nI fx) (nI (A (a))) (nI (P (a))) (W (a)) (U (a)) (G (a)) (E (a)) often td (nI k1) (nI s) (nI (w + 1)) ∧ f_X11_readTooth_L64 so pl va words nr (hh + 1) (nI a) (nI 0) R tt (nI k1) (nI s) (nI w) = f_X11_readTooth_B117 (f_X11_readTooth_L64 so pl va words nr hh) so pl va words nr (nI a) (nI fx) R tt (nI k1) (nI s) (nI w) := by
        have hc : f_X7_readTooth_L39 sg (nI len) (nI n) nc (gg + 1) (nI 0) (nI (A (a))) (nI (P (a))) (W (a)) (U (a)) (G (a)) (E (a)) often td (nI k1) (nI s) (nI (w + 1)) = if nI (w + 1) < 4 then f_X7_readTooth_B87 (f_X7_readTooth_L39 sg (nI len) (nI n) nc gg) sg (nI len) (nI n) nc (nI 0) (nI (A (a))) (nI (P (a))) (W (a)) (U (a)) (G (a)) (E (a)) often td (nI k1) (nI s) (nI (w + 1)) else if nI s ≤ 0 then (if U a = 0 then f_X7_readTooth_B87 (f_X7_readTooth_L39 sg (nI len) (nI n) nc gg) sg (nI len) (nI n) nc (nI (rf 0 4 (P a))) (nI (A (a))) (nI (P (a))) (W (a)) (U (a)) (G (a)) (E (a)) often td (nI k1) (nI s) (nI (w + 1)) else f_X7_readTooth_B87 (f_X7_readTooth_L39 sg (nI len) (nI n) nc gg) sg (nI len) (nI n) nc (nI 0) (nI (A (a))) (nI (P (a))) (W (a)) (U (a)) (G (a)) (E (a)) often td (nI k1) (nI s) (nI (w + 1))) else f_X7_readTooth_B87 (f_X7_readTooth_L39 sg (nI len) (nI n) nc gg) sg (nI len) (nI n) nc (nI 0) (nI (A (a))) (nI (P (a))) (W (a)) (U (a)) (G (a)) (E (a)) often td (nI k1) (nI s) (nI (w + 1)) := by
          show f_X7_readTooth_L39b _ _ _ _ _ _ _ _ _ _ _ _ _ _ _ _ _ = _
          unfold f_X7_readTooth_L39b f_X7_readTooth_B60 f_X7_readTooth_B65
          rw [if_neg n4, if_pos (show nI 0 = 0 from rfl), if_neg z10, ite_self, if_pos z00, t_ref hT s1 (by decide) (x := 4) (k := 4) rfl, bd_s]
        have hr : f_X11_readTooth_L64 so pl va words nr (hh + 1) (nI a) (nI 0) R tt (nI k1) (nI s) (nI w) = if nI w = 3 then (if nI s = 0 then (if so a = 2 then (if lg_cmp (va a) 0 = 0 then f_X11_readTooth_B117 (f_X11_readTooth_L64 so pl va words nr hh) so pl va words nr (nI a) (nI (rf 0 4 (P a))) R tt (nI k1) (nI s) (nI w) else f_X11_readTooth_B117 (f_X11_readTooth_L64 so pl va words nr hh) so pl va words nr (nI a) (nI 0) R tt (nI k1) (nI s) (nI w)) else f_X11_readTooth_B117 (f_X11_readTooth_L64 so pl va words nr hh) so pl va words nr (nI a) (nI 0) R tt (nI k1) (nI s) (nI w)) else f_X11_readTooth_B117 (f_X11_readTooth_L64 so pl va words nr hh) so pl va words nr (nI a) (nI 0) R tt (nI k1) (nI s) (nI w)) else f_X11_readTooth_B117 (f_X11_readTooth_L64 so pl va words nr hh) so pl va words nr (nI a) (nI 0) R tt (nI k1) (nI s) (nI w) := by
          show f_X11_readTooth_L64b _ _ _ _ _ _ _ _ _ _ _ _ _ = _
          unfold f_X11_readTooth_L64b
          rw [if_neg n4', if_pos (show nI 0 = 0 from rfl), g_nI (by omega) (by decide), g_nI (by omega) (by decide), ix_nI (by omega), t_wrg hT s2 (by decide) (x := 4) (k := 4) rfl, bd_s]
        by_cases hw3 : w = 3
        · subst hw3
          rw [if_neg (show ¬ nI (3 + 1) < 4 by decide)] at hc
          rw [if_pos (show nI 3 = 3 from rfl)] at hr
          by_cases hs0 : s = 0
          · subst hs0
            rw [if_pos (show nI 0 ≤ 0 by decide)] at hc
            rw [if_pos (show nI 0 = 0 from rfl)] at hr
            by_cases hu : U a = 0
            · obtain ⟨u1, u2⟩ := (tooth_u hT s1).mp hu
              rw [if_pos hu] at hc
              rw [if_pos u1, if_pos (lc_eq.mpr u2)] at hr
              exact ⟨rf 0 4 (P a), rf_le (by decide) (by decide) hP, hc, hr⟩
            · rw [if_neg hu] at hc
              by_cases u1 : so a = 2
              · rw [if_pos u1, if_neg (fun q => hu ((tooth_u hT s1).mpr ⟨u1, lc_eq.mp q⟩))] at hr
                exact ⟨0, by decide, hc, hr⟩
              · rw [if_neg u1] at hr
                exact ⟨0, by decide, hc, hr⟩
          · rw [if_neg (nI_nle (by omega) (by omega))] at hc
            rw [if_neg (nI_ne0 (by omega) (by omega))] at hr
            exact ⟨0, by decide, hc, hr⟩
        · rw [if_pos (show nI (w + 1) < 4 by rw [show (4 : Int32) = nI 4 from rfl, i_lt (by omega) (by decide)]; omega)] at hc
          rw [if_neg (show ¬ nI w = 3 by rw [show (3 : Int32) = nI 3 from rfl, i_eq (by omega) (by decide)]; exact hw3)] at hr
          exact ⟨0, by decide, hc, hr⟩
      obtain ⟨f1, i1, a1, vc, vr, x1, y1, z1, w1⟩ := rd_num hT (f := fx) (i := a) (a := a) ⟨s1, s2, fun _ => rfl⟩ hfx (x := 9) (m := 9) rfl (by decide)
      have hcl2 : f_X7_readTooth_L39 sg (nI len) (nI n) nc (gg + 1) (nI 0) (nI (A (a))) (nI (P (a))) (W (a)) (U (a)) (G (a)) (E (a)) often td (nI k1) (nI s) (nI (w + 1)) = f_X7_readTooth_L39 sg (nI len) (nI n) nc gg (nI f1) (nI (A (i1))) (nI (P (i1))) (W (i1)) (U (i1)) (G (i1)) (E (i1)) (upd often (4 * k1 + w) vc) td (nI k1) (nI s + vc) (nI (w + 1 + 1)) := by
        rw [hcl]
        unfold f_X7_readTooth_B87 f_X5_setOften
        have q1 : ((nI k1 * 4) + nI (w + 1)) - 1 = nI (4 * k1 + w) := by
          rw [show (4 : Int32) = nI 4 from rfl, show (1 : Int32) = nI 1 from rfl, i_mul, i_add, i_sub (by omega)]
          exact congrArg nI (by omega)
        rw [x1, bd_s]
        dsimp only
        rw [lt_r, q1, g_nI (by omega) (by decide), lt_r, bd_s, lt_r, ix_nI (by omega), ← nI_succ]
      have hrf2 : f_X11_readTooth_L64 so pl va words nr (hh + 1) (nI a) (nI 0) R tt (nI k1) (nI s) (nI w) = f_X11_readTooth_L64 so pl va words nr hh (nI a1) (nI f1) (upd R (1000 + (50 + 4 * k1 + w)) vr) tt (nI k1) (nI s + vr) (nI (w + 1)) := by
        rw [hrf]
        unfold f_X11_readTooth_B117
        have q1 : ((1050 : Int32) + (4 * nI k1)) + nI w = nI (1000 + (50 + 4 * k1 + w)) := by
          rw [show (1050 : Int32) = nI 1050 from rfl, show (4 : Int32) = nI 4 from rfl, i_mul, i_add, i_add]
          exact congrArg nI (by omega)
        rw [y1, bd_s]
        dsimp only
        rw [q1, g_nI (by omega) (by decide), lt_r, g_nI (by omega) (by decide), lt_r, lt_r, ix_nI (by omega), u_s, ← nI_succ]
      have hz : f1 = 0 → fx = 0 := z1.z
      obtain ⟨f2, i2, a2, of2, R2, x2, y2, z2, g1, g2, g3⟩ := ih (w + 1) gg hh f1 i1 a1 (nI s + vc) (nI s + vr) (upd often (4 * k1 + w) vc) (upd R (1000 + (50 + 4 * k1 + w)) vr) (by omega) (by omega) (by omega) z1.1 z1.2.1 (fun _ => rfl) (fun q => by
        obtain ⟨-, v, v1, v2, v3, -⟩ := w1 q
        refine ⟨?_, s + v, by omega, by rw [v2, i_add], by rw [v3, i_add]⟩
        rw [sh_u]
        intro f' k' hf' hk'
        by_cases hh2 : 4 * f' + k' = 4 * k1 + w
        · rw [hh2, u_s, show 50 + 4 * f' + k' = 50 + 4 * k1 + w by omega, u_s]
          exact ⟨by rw [v2, v3], v, v1, v3⟩
        · rw [u_n hh2, u_n (by omega)]
          exact hDO f' k' hf' hk')
      refine ⟨f2, i2, a2, of2, R2, by rw [hcl2, x2], by rw [hrf2, y2], ⟨z2.1, z2.2.1, fun q => absurd rfl q, by have := z1.2.2.2; have := z2.2.2.2; omega⟩, fun k hk => ?_, fun k hk => ?_, g3⟩
      · rw [g1 k hk, u_n (by omega)]
      · rw [g2 k hk, sh_u, u_n (by omega)]
    · refine ⟨f, i, a, often, R, ?_, ?_, ⟨⟨s1, s2, s3⟩, hf, fun _ => rfl, Nat.le_refl _⟩, fun _ _ => rfl, fun _ _ => rfl, fun q => absurd q h0⟩
      · show f_X7_readTooth_L39b _ _ _ _ _ _ _ _ _ _ _ _ _ _ _ _ _ = _
        unfold f_X7_readTooth_L39b
        rw [if_neg n4, if_neg (nI_ne0 (by omega) (by omega))]
      · show f_X11_readTooth_L64b _ _ _ _ _ _ _ _ _ _ _ _ _ = _
        unfold f_X11_readTooth_L64b
        rw [if_neg n4', if_neg (nI_ne0 (by omega) (by omega))]
theorem ln_tooth (hT : TKS sg len N so pl va A P W U G E) (hW : HW words) (hi : i < N) {R : Nat → Int32} {n : Nat} {nc nr : Nat → Int64} (hn : n ≤ 6) (hNM : NMR n nc nr) (hr0 : R 1000 = nI n) {often : Nat → Int32} (td : Int32) (hD : DO (sh R) often) :
    ∃ (f' i' b fb a' : Nat) (td' tt' : Int32) (often' R' : Nat → Int32),
      f_X7_readTooth sg (nI len) (nI n) nc (nI 0) (nI (A (i))) (nI (P (i))) (W (i)) (U (i)) (G (i)) (E (i)) often td = some (nI f', nI (A (i')), nI (P (i')), W (i'), U (i'), G (i'), E (i'), often', td') ∧
      f_X11_readTooth so pl va words nr (nI i) (nI 0) R td = some (nI b, nI fb, R', tt') ∧ f_X11_takeSign so pl va (nI b) (nI fb) 59 = some (nI a', nI f') ∧ ADV N 0 i f' i' a' ∧ (∀ k, k < 1000 ∨ 2000 ≤ k → R' k = R k) ∧
      (f' = 0 → i < i' ∧ DO (sh R') often' ∧ td' = tt' ∧ ∀ k, ¬ (50 ≤ k ∧ k < 74) → sh R' k = sh R k) := by
  have hN := hT.1
  have hnx := t_nx hT hi
  have hi1 : i + 1 ≤ N := hi
  have hj2 : min (i + 1 + 1) N ≤ N := by omega
  have hP1 := t_P hT hi1
  obtain ⟨f1, k1, x1, e1, e2, e3, -, e5, e6⟩ := rd_farm hT hW (f := 0) (i := i + 1) (a := i + 1) ⟨hi1, hi1, fun _ => rfl⟩ (by decide) hn hNM hr0
  have hk1 : k1 < 6 := by omega
  obtain ⟨fx, hfx, hx1, hx2, hx3⟩ : ∃ fx, fx ≤ 20000 ∧ (fx = 0 → f1 = 0) ∧ (f_X7_readTooth sg (nI len) (nI n) nc (nI 0) (nI (A (i))) (nI (P (i))) (W (i)) (U (i)) (G (i)) (E (i)) often td = f_X7_readTooth_B28 sg (nI len) (nI n) nc (nI fx) (nI (A (i + 1))) (nI (P (i + 1))) (W (i + 1)) (U (i + 1)) (G (i + 1)) (E (i + 1)) often td (nI k1)) ∧ (f_X11_readTooth so pl va words nr (nI i) (nI 0) R td = f_X11_readTooth_B39 so pl va words nr (nI (i + 1)) (nI fx) R td x1) := by
    have hc : f_X7_readTooth sg (nI len) (nI n) nc (nI 0) (nI (A (i))) (nI (P (i))) (W (i)) (U (i)) (G (i)) (E (i)) often td = if ((td >>> (nI k1 &&& 31)) &&& 1) = 1 then f_X7_readTooth_B28 sg (nI len) (nI n) nc (nI (rf f1 3 (P (i + 1)))) (nI (A (i + 1))) (nI (P (i + 1))) (W (i + 1)) (U (i + 1)) (G (i + 1)) (E (i + 1)) often td (nI k1) else f_X7_readTooth_B28 sg (nI len) (nI n) nc (nI f1) (nI (A (i + 1))) (nI (P (i + 1))) (W (i + 1)) (U (i + 1)) (G (i + 1)) (E (i + 1)) often td (nI k1) := by
      unfold f_X7_readTooth f_X5_hasTooth
      rw [hnx, bd_s]
      dsimp only
      rw [e1, bd_s]
      dsimp only
      by_cases hb : ((td >>> (nI k1 &&& 31)) &&& 1) = 1
      · rw [if_pos hb, if_pos hb, bd_s, if_neg z10, t_ref hT hi1 (by omega) (x := 3) (k := 3) rfl, bd_s]
      · rw [if_neg hb, if_neg hb, bd_s, if_pos z00]
    have hr : f_X11_readTooth so pl va words nr (nI i) (nI 0) R td = if nI f1 = 0 then (if ((td >>> (x1 &&& 31)) &&& 1) = 1 then f_X11_readTooth_B39 so pl va words nr (nI (i + 1)) (nI (rf f1 3 (P (i + 1)))) R td x1 else f_X11_readTooth_B39 so pl va words nr (nI (i + 1)) (nI f1) R td x1) else f_X11_readTooth_B39 so pl va words nr (nI (i + 1)) (nI f1) R td x1 := by
      unfold f_X11_readTooth
      rw [lt_r, ← nI_succ, e2, bd_s]
      dsimp only
      rw [t_wrg hT hi1 (by omega) (x := 3) (k := 3) rfl, bd_s]
    by_cases h0 : f1 = 0
    · obtain ⟨g1, g2, g3⟩ := e6 h0
      subst h0
      subst g2
      rw [if_pos (show nI 0 = 0 from rfl)] at hr
      by_cases hb : ((td >>> (nI k1 &&& 31)) &&& 1) = 1
      · rw [if_pos hb] at hc hr
        exact ⟨rf 0 3 (P (i + 1)), rf_le (by decide) (by decide) hP1, fun _ => rfl, hc, hr⟩
      · rw [if_neg hb] at hc hr
        exact ⟨0, by decide, fun _ => rfl, hc, hr⟩
    · rw [rf_keep h0, ite_self] at hc
      rw [if_neg (nI_ne0 (by omega) (by omega))] at hr
      exact ⟨f1, e3, fun q => absurd q h0, hc, hr⟩
  obtain ⟨a2, ha2, hle, hb39⟩ : ∃ a2, SR N fx (min (i + 1 + 1) N) a2 ∧ i ≤ a2 ∧ f_X11_readTooth_B39 so pl va words nr (nI (i + 1)) (nI fx) R td x1 = f_X11_readTooth_L64 so pl va words nr FU (nI a2) (nI fx) R td x1 0 0 := by
    unfold f_X11_readTooth_B39 f_X11_readTooth_B56
    by_cases h0 : fx = 0
    · have hlt := (e6 (hx1 h0)).2.2
      refine ⟨i + 1 + 1, ⟨by omega, by omega, fun _ => by omega⟩, by omega, ?_⟩
      rw [if_pos (show nI fx ≤ 0 by rw [h0]; decide), lt_r, ← nI_succ]
    · refine ⟨i + 1, ⟨by omega, by omega, fun q => absurd q h0⟩, by omega, ?_⟩
      rw [if_neg (nI_nle (by omega) (by omega)), lt_r, Int32.add_zero]
  obtain ⟨f3, i3, a3, of3, R3, x3, y3, z3, g1, g2, g3⟩ := tooth_lp (so := so) (pl := pl) (va := va) (words := words) hT (n := n) (nc := nc) (nr := nr) hk1 td td x1 4 0 FU FU fx (min (i + 1 + 1) N) a2 0 0 often R (by omega) (by decide) (by decide) ha2 hfx (fun q => (e6 (hx1 q)).2.1) (fun q => ⟨hD, 0, by decide, rfl, rfl⟩)
  obtain ⟨f5, i5, a5, x5, y5, z5, w5⟩ := rd_sign hT z3.1 z3.2.1 (c := 59) (by unfold isS; omega) (x := 59) rfl
  have hadv : ADV N 0 i f5 i5 a5 := ⟨z5.1, z5.2.1, fun q => absurd rfl q, by have := z3.2.2.2; have := z5.2.2.2; omega⟩
  have hcl : f_X7_readTooth sg (nI len) (nI n) nc (nI 0) (nI (A (i))) (nI (P (i))) (W (i)) (U (i)) (G (i)) (E (i)) often td = if nI f5 = 0 then some (nI f5, nI (A (i5)), nI (P (i5)), W (i5), U (i5), G (i5), E (i5), of3, td ||| (1 <<< (nI k1 &&& 31))) else some (nI f5, nI (A (i5)), nI (P (i5)), W (i5), U (i5), G (i5), E (i5), of3, td) := by
    rw [hx2]
    unfold f_X7_readTooth_B28
    rw [t_next hT hi1, bd_s]
    dsimp only
    have x3 : f_X7_readTooth_L39 sg (nI len) (nI n) nc FU (nI fx) (nI (A (min (i + 1 + 1) N))) (nI (P (min (i + 1 + 1) N))) (W (min (i + 1 + 1) N)) (U (min (i + 1 + 1) N)) (G (min (i + 1 + 1) N)) (E (min (i + 1 + 1) N)) often td (nI k1) 0 1 = _ := x3
    rw [x3]
    unfold f_X7_readTooth_B117 f_X5_addTooth
    rw [x5, bd_s]
    dsimp only
    rw [lt_r, bd_s]
  have hrf : f_X11_readTooth so pl va words nr (nI i) (nI 0) R td = if nI f3 ≤ 0 then some (nI a3, nI f3, R3, td ||| (1 <<< (x1 &&& 31))) else some (nI a3, nI f3, R3, td ||| 0) := by
    rw [hx3, hb39]
    have y3 : f_X11_readTooth_L64 so pl va words nr FU (nI a2) (nI fx) R td x1 0 0 = _ := y3
    rw [y3]
    rfl
  by_cases h3 : f3 = 0
  · have hx1' := (e6 (hx1 (z3.z h3))).2.1
    subst hx1'
    rw [if_pos (show nI f3 ≤ 0 by rw [h3]; decide)] at hrf
    by_cases h5 : f5 = 0
    · rw [if_pos (show nI f5 = 0 by rw [h5]; rfl)] at hcl
      refine ⟨f5, i5, a3, f3, a5, _, _, of3, R3, hcl, hrf, y5, hadv, g1, fun _ => ⟨?_, g3 h3, rfl, g2⟩⟩
      have hlt := (e6 (hx1 (z3.z h3))).2.2
      have q1 := z5.1.2.2 h5
      have q2 := z3.2.2.2
      have q3 := z5.2.2.2
      have q4 := ha2.2.2 (z3.z h3)
      omega
    · rw [if_neg (nI_ne0 (by omega) (by have := z5.2.1; omega))] at hcl
      exact ⟨f5, i5, a3, f3, a5, _, _, of3, R3, hcl, hrf, y5, hadv, g1, fun q => absurd q h5⟩
  · have h5 : f5 ≠ 0 := fun q => h3 (z5.z q)
    rw [if_neg (nI_nle (by omega) (by have := z3.2.1; omega))] at hrf
    rw [if_neg (nI_ne0 (by omega) (by have := z5.2.1; omega))] at hcl
    exact ⟨f5, i5, a3, f3, a5, _, _, of3, R3, hcl, hrf, y5, hadv, g1, fun q => absurd q h5⟩
/-- a law that was read, or none -/
def LD (feed : Bool) (o ar : Nat → Int32) (r5 fes : Int32) (fek fel fer : Nat → Int32) (c : Nat) : Prop :=
  (r5 = -1 ∧ fes = 0) ∨ ∃ p m n, r5 = nI p ∧ fes = nI m ∧ 1 ≤ m ∧ m ≤ 1000 ∧ WFs fek fel fer m ∧ XR feed fek fel fer m (m - 1) o ar (1100 + p) n ∧ o (1100 + p + n) = 0 ∧ p + n < c
theorem LD.fr {feed : Bool} {o ar o' ar' : Nat → Int32} {r5 fes : Int32} {fek fel fer : Nat → Int32} {c c' : Nat} (h : LD feed o ar r5 fes fek fel fer c) (hk : ∀ k, k < 1100 + c → o' k = o k ∧ ar' k = ar k) (hc : c ≤ c') : LD feed o' ar' r5 fes fek fel fer c' := by
  rcases h with h | ⟨p, m, n, h1, h2, h3, h4, h5, h6, h7, h8⟩
  · exact Or.inl h
  · exact Or.inr ⟨p, m, n, h1, h2, h3, h4, h5, h6.ext (EXT.rf _ _ _ _) (fun k hk2 => hk k (by omega)), by rw [(hk (1100 + p + n) (by omega)).1]; exact h7, by omega⟩
theorem ln_law (hT : TKS sg len N so pl va A P W U G E) (hW : HW words) {fw gw : Nat → Int32} (hF : HF fw gw) (hi : i < N) {feed : Bool} {w5 : Nat} (h5 : w5 = if feed then 5 else 6) (hw : W i = cw (if feed then 8 else 9)) {fe la : Nat} (hfe : la = fe ↔ feed = true) {R o ar ks ls rs : Nat → Int32} {c : Nat} {st of_ : Int32} (hc : c ≤ i) (hL : LD feed o ar (sh R w5) st ks ls rs c) :
    ∃ (f' i' b fb a' c' m' : Nat) (of' : Int32) (ks' ls' rs' o' ar' R' : Nat → Int32),
      f_X7_readLaw sg (nI len) fe (nI 0) (nI (A (i))) (nI (P (i))) (W (i)) (U (i)) (G (i)) (E (i)) ks ls rs st la = some (nI f', nI (A (i')), nI (P (i')), W (i'), U (i'), G (i'), E (i'), ks', ls', rs', nI m') ∧
      f_X11_readRule so pl va words fw gw (nI i) (nI 0) R o ar (nI c) of_ = some (nI b, nI fb, R', o', ar', nI c', of') ∧ f_X11_takeSign so pl va (nI b) (nI fb) 59 = some (nI a', nI f') ∧ ADV N 0 i f' i' a' ∧ (∀ k, k < 1000 ∨ 2000 ≤ k → R' k = R k) ∧ (∀ k, k < 1100 + c → o' k = o k ∧ ar' k = ar k) ∧ c ≤ c' ∧
      (f' = 0 → i < i' ∧ c' ≤ i' ∧ LD feed o' ar' (sh R' w5) (nI m') ks' ls' rs' c' ∧ ∀ k, k ≠ w5 → sh R' k = sh R k) := by
  have hN := hT.1
  have hnx := t_nx hT hi
  have hi1 : i + 1 ≤ N := hi
  have hP := t_P hT (show i ≤ N by omega)
  have hw5 : w5 = 5 ∨ w5 = 6 := by cases feed <;> simp [h5]
  have hag := expr_ag (fe := fe) (la := la) hT hW hF (fl := if feed then 1 else 0) rfl hfe
  have hr : f_X11_readRule so pl va words fw gw (nI i) (nI 0) R o ar (nI c) of_ = (if R (1000 + w5) < 0 then (bd_ (f_X11_all (f_X11_takePart RU) so pl va words (if feed then 1 else 0) fw gw (nI (i + 1)) (nI 0) o ar (nI c) 0) fun (m_at_2, m_fault_1, m_op_1, m_arg_1, m_codes_1) => (bd_ (f_X11_emit m_op_1 m_arg_1 m_codes_1 0 0) fun (m_op_2, m_arg_2, m_codes_2) => (some (m_at_2, m_fault_1, upd R (1000 + w5) (nI c), m_op_2, m_arg_2, m_codes_2, (if feed then (1 : Int32) else 0))))) else (bd_ (f_X11_wrong pl (nI i) (nI 0) 3) fun m_fault_2 => (some (nI i, m_fault_2, R, o, ar, nI c, (if feed then (1 : Int32) else 0))))) := by
    unfold f_X11_readRule f_X11_readRule_B26
    cases feed with
    | true =>
      have h5 : w5 = 5 := h5
      subst h5
      rw [t_isW1 hT hW (by omega) (f := 0) (by decide) (w := 8) (by decide) (x := 8) rfl rfl hw, bd_s]
      unfold g_z
      rw [if_pos (Or.inr rfl), if_neg z10, lt_r, show (1000 : Int32) + 5 = nI (1000 + 5) from rfl, g_nI (by decide) (by decide), ix_nI (by decide), lt_r, ← nI_succ, g_nI (by decide) (by decide), lt_r]
      rfl
    | false =>
      have h5 : w5 = 6 := h5
      subst h5
      rw [t_isW0 hT hW (by omega) (f := 0) (by decide) (w := 8) (by decide) (x := 8) rfl (fun q => absurd (cw_inj 9 (by decide) 8 (by decide) (hw.symm.trans q.2)) (by decide)), bd_s]
      unfold g_z
      rw [if_pos (Or.inl rfl), if_pos z00, lt_r, show (1000 : Int32) + 6 = nI (1000 + 6) from rfl, g_nI (by decide) (by decide), ix_nI (by decide), lt_r, ← nI_succ, g_nI (by decide) (by decide), lt_r]
      rfl
  rcases hL with ⟨h1, h2⟩ | ⟨p, m, n, h1, h2, h3, h4, h6, h7, h8, h9⟩
  · have h1 : R (1000 + w5) = -1 := h1
    subst h2
    have hp : PRE N 0 (i + 1) (i + 1) 0 c ks ls rs o ar := ⟨⟨by omega, by omega, fun _ => rfl⟩, by decide, by decide, by omega, fun _ => ⟨by omega, fun j hj => absurd hj (by omega)⟩, rfl, rfl⟩
    obtain ⟨r2, f2, i2, a2, m2, c2, ks2, ls2, rs2, o2, ar2, e1, e2, e3⟩ := hag _ _ _ _ _ _ _ _ _ _ hp
    dsimp only [cF, dF] at e1 e2
    obtain ⟨q1, q2, q3, q4, q5, q6⟩ := e3
    obtain ⟨f5, i5, a5, x5, y5, z5, w5'⟩ := rd_sign hT q1.1 q1.2.1 (c := 59) (by unfold isS; omega) (x := 59) rfl
    have ha2 := q1.1.2.1
    have hadv : ADV N 0 i f5 i5 a5 := ⟨z5.1, z5.2.1, fun q => absurd rfl q, by have := q1.2.2.2; have := z5.2.2.2; omega⟩
    refine ⟨f5, i5, a2, f2, a5, c2 + 1, m2, (if feed then (1 : Int32) else 0), ks2, ls2, rs2, upd o2 (1100 + c2) 0, upd ar2 (1100 + c2) 0, upd R (1000 + w5) (nI c), ?_, ?_, y5, hadv, fun k hk => u_n (by omega), fun k hk => ?_, by omega, fun q => ?_⟩
    · unfold f_X7_readLaw f_X7_readLaw_B12
      rw [if_pos (show (0 : Int32) ≤ 0 by decide), hnx, bd_s]
      dsimp only
      rw [show (0 : Int32) = nI 0 from rfl] at e1 ⊢
      rw [e1, bd_s]
      dsimp only
      rw [x5, bd_s]
    · rw [hr, if_pos (by rw [h1]; decide), e2, bd_s]
      dsimp only
      rw [emit_ok o2 ar2 (show c2 < 1100 by omega), bd_s]
    · rw [u_n (by omega), u_n (by omega)]
      exact q5 k hk
    · have h20 := z5.z q
      obtain ⟨u1, u2, u3, u4, u5, u6⟩ := q6 h20
      have hi5 := (w5' q).2
      have hia := q1.1.2.2 h20
      refine ⟨by omega, by omega, Or.inr ⟨c, m2, c2 - c, ?_, rfl, by omega, q2, u5, ?_, ?_, by omega⟩, fun k hk => ?_⟩
      · rw [sh_u, u_s]
      · exact u6.ext (EXT.rf _ _ _ _) (fun k hk => ⟨u_n (by omega), u_n (by omega)⟩)
      · rw [show 1100 + c + (c2 - c) = 1100 + c2 by omega, u_s]
      · rw [sh_u, u_n hk]
  · have h1 : R (1000 + w5) = nI p := h1
    subst h2
    have hb1 : rf 0 3 (P i) ≤ 20000 := rf_le (by decide) (by decide) hP
    have hb2 : rf 0 3 (P i) ≠ 0 := rf_nz (by decide)
    have hp : PRE N (rf 0 3 (P i)) (i + 1) (i + 1) m 0 ks ls rs o ar := ⟨⟨by omega, by omega, fun _ => rfl⟩, hb1, h4, by omega, fun q => absurd q hb2, rfl, rfl⟩
    obtain ⟨r2, f2, i2, a2, m2, c2, ks2, ls2, rs2, o2, ar2, e1, e2, e3⟩ := hag _ _ _ _ _ _ _ _ _ _ hp
    dsimp only [cF, dF] at e1 e2
    obtain ⟨q1, q2, q3, q4, q5, q6⟩ := e3
    obtain ⟨f5, i5, a5, x5, y5, z5, w5'⟩ := rd_sign hT q1.1 q1.2.1 (c := 59) (by unfold isS; omega) (x := 59) rfl
    have hf2 : f2 = rf 0 3 (P i) := q1.2.2.1 hb2
    have hf5 : f5 = rf 0 3 (P i) := (z5.2.2.1 (by rw [hf2]; exact hb2)).trans hf2
    have hp2 := Int32.le_refl 0
    refine ⟨rf 0 3 (P i), i5, i, rf 0 3 (P i), i, c, m2, (if feed then (1 : Int32) else 0), ks2, ls2, rs2, o, ar, R, ?_, ?_, ts_keep hT (by omega) hb1 hb2, ⟨⟨z5.1.1, by omega, fun q => absurd q hb2⟩, hb1, fun q => absurd rfl q, Nat.le_refl _⟩, fun _ _ => rfl, fun _ _ => ⟨rfl, rfl⟩, Nat.le_refl _, fun q => absurd q hb2⟩
    · unfold f_X7_readLaw f_X7_readLaw_B12
      rw [if_neg (show ¬ nI m ≤ 0 from nI_nle (by omega) (by omega)), t_ref hT (by omega) (by decide) (x := 3) (k := 3) rfl, bd_s, hnx, bd_s]
      dsimp only
      rw [e1, bd_s]
      dsimp only
      rw [x5, bd_s, hf5]
    · have hpb : p < 1000 := by omega
      rw [hr, if_neg (show ¬ R (1000 + w5) < 0 by rw [h1]; exact nI_pos (by omega)), t_wrg hT (by omega) (by decide) (x := 3) (k := 3) rfl, bd_s]
end LT
