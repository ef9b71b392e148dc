/-! PURE 30: names and facts (src/t79.lean through gen/tmpl.py) -/
theorem cw_inj : ∀ w, w < 16 → ∀ v, v < 16 → cw w = cw v → w = v := by decide +kernel
theorem nm0 {w : Int64} {j0 : Nat} (h0 : j0 < 13) (h : w = cw j0) : ∀ (r j gg : Nat), j + r = j0 → r < gg → f_X7_isName_L2 gg w (nI j) = some 0 := by
  intro r
  induction r with
  | zero =>
    intro j gg hj hg
    obtain ⟨gg, rfl⟩ : ∃ z, gg = z + 1 := ⟨gg - 1, by omega⟩
    have hj : j = j0 := by omega
    subst hj
    have h13 : ¬ (13 : Int32) ≤ nI j := by
      rw [show (13 : Int32) = nI 13 from rfl]
      exact nI_ge (by omega) (by decide)
    show f_X7_isName_L2b _ _ _ = _
    unfold f_X7_isName_L2b
    rw [if_neg h13, g_nI (by omega) (by decide), ix_nI (by omega), nNm_cw j h0, if_pos (lc_eq.mpr h)]
  | succ r ih =>
    intro j gg hj hg
    obtain ⟨gg, rfl⟩ : ∃ z, gg = z + 1 := ⟨gg - 1, by omega⟩
    have h13 : ¬ (13 : Int32) ≤ nI j := by
      rw [show (13 : Int32) = nI 13 from rfl]
      exact nI_ge (by omega) (by decide)
    show f_X7_isName_L2b _ _ _ = _
    unfold f_X7_isName_L2b
    rw [if_neg h13, g_nI (by omega) (by decide), ix_nI (by omega), nNm_cw j (by omega)]
    simp only [lt_]
    rw [← nI_succ, ih (j + 1) gg (by omega) (by omega)]
    split <;> rfl
theorem nm1 {w : Int64} (h : ∀ v, v < 13 → w ≠ cw v) : ∀ (r j gg : Nat), j + r = 13 → r < gg → f_X7_isName_L2 gg w (nI j) = some (if w = 0 then 0 else 1) := by
  intro r
  induction r with
  | zero =>
    intro j gg hj hg
    obtain ⟨gg, rfl⟩ : ∃ z, gg = z + 1 := ⟨gg - 1, by omega⟩
    have hj : j = 13 := by omega
    subst hj
    show f_X7_isName_L2b _ _ _ = _
    unfold f_X7_isName_L2b
    rw [if_pos (by decide)]
    by_cases e : w = 0
    · rw [if_pos (lc_eq.mpr e), if_pos e]
    · rw [if_neg (fun q => e (lc_eq.mp q)), if_neg e]
  | succ r ih =>
    intro j gg hj hg
    obtain ⟨gg, rfl⟩ : ∃ z, gg = z + 1 := ⟨gg - 1, by omega⟩
    have h13 : ¬ (13 : Int32) ≤ nI j := by
      rw [show (13 : Int32) = nI 13 from rfl]
      exact nI_ge (by omega) (by decide)
    show f_X7_isName_L2b _ _ _ = _
    unfold f_X7_isName_L2b
    rw [if_neg h13, g_nI (by omega) (by decide), ix_nI (by omega), nNm_cw j (by omega), if_neg (fun q => h j (by omega) (lc_eq.mp q))]
    simp only [lt_]
    rw [← nI_succ]
    exact ih (j + 1) gg (by omega) (by omega)
theorem rn0 {so : Nat → Int32} {va words : Nat → Int64} {at_ ft : Int32} : ∀ (r j gg : Nat), j + r = 13 → r < gg → f_X11_isName_L28 so va at_ ft words gg 0 (nI j) = some 0 := by
  intro r
  induction r with
  | zero =>
    intro j gg hj hg
    obtain ⟨gg, rfl⟩ : ∃ z, gg = z + 1 := ⟨gg - 1, by omega⟩
    have hj : j = 13 := by omega
    subst hj
    show f_X11_isName_L28b _ _ _ _ _ _ _ _ = _
    unfold f_X11_isName_L28b
    rw [if_pos (by decide)]
    rfl
  | succ r ih =>
    intro j gg hj hg
    obtain ⟨gg, rfl⟩ : ∃ z, gg = z + 1 := ⟨gg - 1, by omega⟩
    have h13 : ¬ (13 : Int32) ≤ nI j := by
      rw [show (13 : Int32) = nI 13 from rfl]
      exact nI_ge (by omega) (by decide)
    show f_X11_isName_L28b _ _ _ _ _ _ _ _ = _
    unfold f_X11_isName_L28b
    rw [if_neg h13, if_pos z00]
    unfold f_X11_isName_B61 f_X11_isName_B62
    simp only [lt_]
    rw [← nI_succ]
    exact ih (j + 1) gg (by omega) (by omega)
theorem rn1 {so : Nat → Int32} {va words : Nat → Int64} {a : Nat} {ft : Int32} (ha : a ≤ 1000) : ∀ (r j gg : Nat), j + r = 13 → r < gg → ((∀ w, j ≤ w → w < 13 → va a ≠ words w) → f_X11_isName_L28 so va (nI a) ft words gg 1 (nI j) = some 1) ∧ (∀ w, j ≤ w → w < 13 → va a = words w → f_X11_isName_L28 so va (nI a) ft words gg 1 (nI j) = some 0) := by
  intro r
  induction r with
  | zero =>
    intro j gg hj hg
    obtain ⟨gg, rfl⟩ : ∃ z, gg = z + 1 := ⟨gg - 1, by omega⟩
    have hj : j = 13 := by omega
    subst hj
    refine ⟨fun _ => ?_, fun w h1 h2 => by omega⟩
    show f_X11_isName_L28b _ _ _ _ _ _ _ _ = _
    unfold f_X11_isName_L28b
    rw [if_pos (by decide)]
    rfl
  | succ r ih =>
    intro j gg hj hg
    obtain ⟨gg, rfl⟩ : ∃ z, gg = z + 1 := ⟨gg - 1, by omega⟩
    have h13 : ¬ (13 : Int32) ≤ nI j := by
      rw [show (13 : Int32) = nI 13 from rfl]
      exact nI_ge (by omega) (by decide)
    obtain ⟨i1, i2⟩ := ih (j + 1) gg (by omega) (by omega)
    have hh : f_X11_isName_L28 so va (nI a) ft words (gg + 1) 1 (nI j) = if lg_cmp (va a) (words j) = 0 then f_X11_isName_L28 so va (nI a) ft words gg 0 (nI (j + 1)) else f_X11_isName_L28 so va (nI a) ft words gg 1 (nI (j + 1)) := by
      show f_X11_isName_L28b _ _ _ _ _ _ _ _ = _
      unfold f_X11_isName_L28b
      rw [if_neg h13, if_neg z10, g_nI (by omega) (by decide), g_nI (by omega) (by decide), ix_nI (by omega), ix_nI (by omega)]
      unfold f_X11_isName_B61 f_X11_isName_B62
      simp only [lt_]
      rw [← nI_succ]
    refine ⟨fun h => ?_, fun w h1 h2 h3 => ?_⟩
    · rw [hh, if_neg (fun q => h j (Nat.le_refl _) (by omega) (lc_eq.mp q))]
      exact i1 (fun w h1 h2 => h w (by omega) h2)
    · rw [hh]
      by_cases e : va a = words j
      · rw [if_pos (lc_eq.mpr e)]
        exact rn0 r (j + 1) gg (by omega) (by omega)
      · rw [if_neg (fun q => e (lc_eq.mp q))]
        refine i2 w ?_ h2 h3
        by_cases q : w = j
        · rw [q] at h3; exact absurd h3 e
        · omega
/-- the farms' names -/
def NMR (n : Nat) (nc nr : Nat → Int64) : Prop := ∀ k, k < n → ∃ l, l ≠ [] ∧ l.length ≤ 8 ∧ Lt l ∧ nc k = lN (en 256 96 l) ∧ nr k = lN (en 37 0 l)
theorem e_named {n : Nat} (hn : n ≤ 6) (nc : Nat → Int64) (w : Int64) : ∃ r, f_X5_named (nI n) nc w = some r ∧ ((r = -1 ∧ ∀ k, k < n → nc k ≠ w) ∨ ∃ k, k < n ∧ r = nI k ∧ nc k = w ∧ ∀ j, j < k → nc j ≠ w) := by
  have lp : ∀ (r k gg : Nat), k + r = n → r < gg → (∀ j, j < k → nc j ≠ w) → ∃ x, f_X5_named_L2 (nI n) nc gg w (nI k) = some x ∧ ((x = -1 ∧ ∀ k, k < n → nc k ≠ w) ∨ ∃ k, k < n ∧ x = nI k ∧ nc k = w ∧ ∀ j, j < k → nc j ≠ w) := by
    intro r
    induction r with
    | zero =>
      intro k gg hk hg h
      obtain ⟨gg, rfl⟩ : ∃ z, gg = z + 1 := ⟨gg - 1, by omega⟩
      have hk : k = n := by omega
      subst hk
      refine ⟨-1, ?_, Or.inl ⟨rfl, h⟩⟩
      show f_X5_named_L2b _ _ _ _ _ = _
      unfold f_X5_named_L2b
      rw [if_pos (nI_le (Nat.le_refl _) (by omega))]
    | succ r ih =>
      intro k gg hk hg h
      obtain ⟨gg, rfl⟩ : ∃ z, gg = z + 1 := ⟨gg - 1, by omega⟩
      have hh : f_X5_named_L2 (nI n) nc (gg + 1) w (nI k) = if lg_cmp (nc k) w = 0 then some (nI k) else f_X5_named_L2 (nI n) nc gg w (nI (k + 1)) := by
        show f_X5_named_L2b _ _ _ _ _ = _
        unfold f_X5_named_L2b
        rw [if_neg (nI_ge (by omega) (by omega)), g_nI (by omega) (by decide), ix_nI (by omega)]
        simp only [lt_]
        rw [← nI_succ]
      rw [hh]
      by_cases e : nc k = w
      · rw [if_pos (lc_eq.mpr e)]
        exact ⟨nI k, rfl, Or.inr ⟨k, by omega, rfl, e, h⟩⟩
      · rw [if_neg (fun q => e (lc_eq.mp q))]
        exact ih (k + 1) gg (by omega) (by omega) (fun j hj => by
          by_cases q : j = k
          · rw [q]; exact e
          · exact h j (by omega))
  exact lp n 0 FU (by omega) (by show n < 5000; omega) (fun j hj => absurd hj (by omega))
section RN
variable {sg : Nat → Int32} {len N : Nat} {so pl : Nat → Int32} {va : Nat → Int64} {A P : Nat → Nat} {W : Nat → Int64} {U G E : Nat → Int32} {words : Nat → Int64} {i a f : Nat}
theorem rd_isName (hT : TKS sg len N so pl va A P W U G E) (hW : HW words) (hi : i ≤ N) : (f_X7_isName (W i) = some 0 ∧ f_X11_isName so va (nI i) (nI 0) words = some 0) ∨ (f_X7_isName (W i) = some 1 ∧ f_X11_isName so va (nI i) (nI 0) words = some 1 ∧ i < N ∧ ∃ l, l ≠ [] ∧ l.length ≤ 8 ∧ Lt l ∧ va i = lN (en 37 0 l) ∧ W i = lN (en 256 96 l)) := by
  have hN := hT.1
  obtain ⟨-, -, -, hk, hz⟩ := hT.2.1 i hi
  have other : so i ≠ 1 → W i = 0 → f_X7_isName (W i) = some 0 ∧ f_X11_isName so va (nI i) (nI 0) words = some 0 := by
    intro h1 h2
    refine ⟨?_, ?_⟩
    · have := nm1 (w := W i) (fun v hv q => cw_nz (show v < 16 by omega) (q.symm.trans h2)) 13 0 FU (by decide) (by decide)
      rw [if_pos h2] at this
      exact this
    · unfold f_X11_isName
      rw [if_pos (show nI 0 = 0 from rfl), g_nI (by omega) (by decide), ix_nI (by omega), if_neg h1]
      exact rn0 13 0 FU (by decide) (by decide)
  rcases hk with ⟨q1, q2, -⟩ | ⟨q1, ⟨l, l1, l2, l3, l4, l5⟩, -⟩ | ⟨q1, q2, -⟩ | ⟨q1, q2, -⟩ | ⟨q1, q2, -⟩
  · exact Or.inl (other (by rw [q1]; decide) q2)
  · have hiN : i < N := by
      by_cases e : i = N
      · have := hz.mpr e
        rw [q1] at this
        exact absurd this z10
      · omega
    have hr : f_X11_isName so va (nI i) (nI 0) words = f_X11_isName_L28 so va (nI i) (nI 0) words FU 1 0 := by
      unfold f_X11_isName
      rw [if_pos (show nI 0 = 0 from rfl), g_nI (by omega) (by decide), ix_nI (by omega), if_pos q1]
      rfl
    obtain ⟨r1, r2⟩ := rn1 (so := so) (va := va) (words := words) (a := i) (ft := nI 0) (by omega) 13 0 FU (by decide) (by decide)
    have hsame : ∀ w, w < 13 → (va i = words w ↔ W i = cw w) := by
      intro w hw
      obtain ⟨w1, w2, w3⟩ := wdl_ok w (by omega)
      obtain ⟨s1, s2⟩ := en_same l3 w3 l2 w2
      rw [hW w (by omega), l4, l5, s1]
      exact s2.symm
    by_cases hex : ∃ w, w < 13 ∧ W i = cw w
    · obtain ⟨w, w1, w2⟩ := hex
      left
      refine ⟨nm0 w1 w2 w 0 FU (by omega) (by show w < 5000; omega), ?_⟩
      rw [hr]
      exact r2 w (Nat.zero_le _) w1 ((hsame w w1).mpr w2)
    · right
      have hno : ∀ w, w < 13 → W i ≠ cw w := fun w h1 h2 => hex ⟨w, h1, h2⟩
      refine ⟨?_, ?_, hiN, l, l1, l2, l3, l4, l5⟩
      · have := nm1 (w := W i) hno 13 0 FU (by decide) (by decide)
        rw [if_neg (by rw [l5]; exact en_pos l3 l1 l2)] at this
        exact this
      · rw [hr]
        exact r1 (fun w _ hw q => hno w hw ((hsame w hw).mp q))
  · exact Or.inl (other (by rw [q1]; decide) q2)
  · exact Or.inl (other (by rw [q1]; decide) q2)
  · exact Or.inl (other (by rw [q1]; decide) q2)
theorem cl_isName (w : Int64) : f_X7_isName w = some 0 ∨ f_X7_isName w = some 1 := by
  by_cases hex : ∃ v, v < 13 ∧ w = cw v
  · obtain ⟨v, v1, v2⟩ := hex
    exact Or.inl (nm0 v1 v2 v 0 FU (by omega) (by show v < 5000; omega))
  · have := nm1 (w := w) (fun v h1 h2 => hex ⟨v, h1, h2⟩) 13 0 FU (by decide) (by decide)
    by_cases e : w = 0
    · rw [if_pos e] at this; exact Or.inl this
    · rw [if_neg e] at this; exact Or.inr this
theorem rf_isName (a : Nat) (hf : f < 2 ^ 31) (h0 : f ≠ 0) : f_X11_isName so va (nI a) (nI f) words = some 0 := by
  unfold f_X11_isName
  rw [if_neg (nI_ne0 (by omega) hf)]
  exact rn0 13 0 FU (by decide) (by decide)
/-- a farm that was told -/
theorem rd_farm (hT : TKS sg len N so pl va A P W U G E) (hW : HW words) (hS : SR N f i a) (hf : f ≤ 20000) {n : Nat} (hn : n ≤ 6) {nc nr : Nat → Int64} (hNM : NMR n nc nr) {rows : Nat → Int32} (hr0 : rows 1000 = nI n) : ∃ f' k x, f_X7_oldFarm (nI (P i)) (W i) (nI n) nc (nI f) = some (nI k, nI f') ∧ f_X11_farmHere so pl va (nI a) words rows nr (nI f) = some (x, nI f') ∧ f' ≤ 20000 ∧ (f ≠ 0 → f' = f) ∧ (k = 0 ∨ k < n) ∧ (f' = 0 → k < n ∧ x = nI k ∧ i < N) := by
  obtain ⟨s1, s2, s3⟩ := hS
  have hN := hT.1
  have hP := t_P hT s1
  obtain ⟨r, e1, e2⟩ := e_named hn nc (W i)
  have hk : ∀ f1, ∃ k, f_X7_oldFarm_B46 (nI (P i)) (W i) (nI n) nc (nI f1) r = some (nI k, nI f1) ∧ (k = 0 ∨ k < n) ∧ ∀ k', r = nI k' → k' < 2 ^ 31 → k = k' := by
    intro f1
    unfold f_X7_oldFarm_B46
    rcases e2 with ⟨q1, -⟩ | ⟨k, q1, q2, -⟩
    · refine ⟨0, by rw [if_pos q1]; rfl, Or.inl rfl, fun k' h hk' => ?_⟩
      rw [q1] at h
      exact absurd h.symm (nI_m1 hk')
    · refine ⟨k, by rw [q2, if_neg (nI_m1 (by omega))], Or.inr q1, fun k' h hk' => ?_⟩
      rw [q2, i_eq (by omega) hk'] at h
      exact h
  by_cases h0 : f = 0
  · have hai := s3 h0
    subst hai
    subst h0
    rcases rd_isName hT hW s1 with ⟨c1, c2⟩ | ⟨c1, c2, c3, l, l1, l2, l3, l4, l5⟩
    · obtain ⟨k, k1, k2, -⟩ := hk (rf 0 1 (P a))
      refine ⟨rf 0 1 (P a), k, -1, ?_, ?_, rf_le hf (by decide) hP, fun q => absurd rfl q, k2, fun q => absurd q (rf_nz (by decide))⟩
      · unfold f_X7_oldFarm
        rw [e1, bd_s, c1, bd_s, if_pos z00, t_ref hT s1 (by omega) (x := 1) (k := 1) rfl, bd_s]
        exact k1
      · unfold f_X11_farmHere
        rw [c2, bd_s, if_pos z00, t_wrg hT s2 (by omega) (x := 1) (k := 1) rfl, bd_s]
    · have hsame : ∀ k, k < n → (nr k = va a ↔ nc k = W a) := by
        intro k hkn
        obtain ⟨m, m1, m2, m3, m4, m5⟩ := hNM k hkn
        obtain ⟨s1, s2⟩ := en_same m3 l3 m2 l2
        rw [m4, m5, l4, l5, s1]
        exact s2.symm
      have hh : ∀ k gg, k < n → f_X11_farmHere_L16 so pl va (nI a) words rows nr (gg + 1) (nI 0) (nI k) = if lg_cmp (nr k) (va a) = 0 then some (nI k, nI 0) else f_X11_farmHere_L16 so pl va (nI a) words rows nr gg (nI 0) (nI (k + 1)) := by
        intro k gg hkn
        show f_X11_farmHere_L16b _ _ _ _ _ _ _ _ _ _ = _
        unfold f_X11_farmHere_L16b
        rw [hr0, if_neg (nI_ge (by omega) (by omega)), g_nI (by omega) (by decide), g_nI (by omega) (by decide), ix_nI (by omega), ix_nI (by omega)]
        simp only [lt_]
        rw [← nI_succ]
      rcases e2 with ⟨q1, q2⟩ | ⟨k0, q1, q2, q3, q4⟩
      · obtain ⟨k, k1, k2, -⟩ := hk (rf 0 2 (P a))
        have lp : ∀ (r k gg : Nat), k + r = n → r < gg → f_X11_farmHere_L16 so pl va (nI a) words rows nr gg (nI 0) (nI k) = some (-1, nI (rf 0 2 (P a))) := by
          intro r
          induction r with
          | zero =>
            intro k gg hk hg
            obtain ⟨gg, rfl⟩ : ∃ z, gg = z + 1 := ⟨gg - 1, by omega⟩
            have hk : k = n := by omega
            subst hk
            show f_X11_farmHere_L16b _ _ _ _ _ _ _ _ _ _ = _
            unfold f_X11_farmHere_L16b
            rw [hr0, if_pos (nI_le (Nat.le_refl _) (by omega)), t_wrg hT s2 (by omega) (x := 2) (k := 2) rfl, bd_s]
          | succ r ih =>
            intro k gg hk hg
            obtain ⟨gg, rfl⟩ : ∃ z, gg = z + 1 := ⟨gg - 1, by omega⟩
            rw [hh k gg (by omega), if_neg (fun q => q2 k (by omega) ((hsame k (by omega)).mp (lc_eq.mp q)))]
            exact ih (k + 1) gg (by omega) (by omega)
        refine ⟨rf 0 2 (P a), k, -1, ?_, ?_, rf_le hf (by decide) hP, fun q => absurd rfl q, k2, fun q => absurd q (rf_nz (by decide))⟩
        · unfold f_X7_oldFarm
          rw [e1, bd_s, c1, bd_s, if_neg z10, if_pos q1, t_ref hT s1 (by omega) (x := 2) (k := 2) rfl, bd_s]
          exact k1
        · unfold f_X11_farmHere
          rw [c2, bd_s, if_neg z10]
          exact lp n 0 FU (by omega) (by show n < 5000; omega)
      · obtain ⟨k, k1, k2, k3⟩ := hk 0
        have hkk := k3 k0 q2 (by omega)
        subst hkk
        have lp : ∀ (r j gg : Nat), j + r = k → r < gg → f_X11_farmHere_L16 so pl va (nI a) words rows nr gg (nI 0) (nI j) = some (nI k, nI 0) := by
          intro r
          induction r with
          | zero =>
            intro j gg hj hg
            obtain ⟨gg, rfl⟩ : ∃ z, gg = z + 1 := ⟨gg - 1, by omega⟩
            have hj : j = k := by omega
            subst hj
            rw [hh j gg (by omega), if_pos (lc_eq.mpr ((hsame j q1).mpr q3))]
          | succ r ih =>
            intro j gg hj hg
            obtain ⟨gg, rfl⟩ : ∃ z, gg = z + 1 := ⟨gg - 1, by omega⟩
            rw [hh j gg (by omega), if_neg (fun q => q4 j (by omega) ((hsame j (by omega)).mp (lc_eq.mp q)))]
            exact ih (j + 1) gg (by omega) (by omega)
        refine ⟨0, k, nI k, ?_, ?_, hf, fun q => absurd rfl q, k2, fun _ => ⟨q1, rfl, c3⟩⟩
        · unfold f_X7_oldFarm
          rw [e1, bd_s, c1, bd_s, if_neg z10, q2, if_neg (nI_m1 (by omega))]
          rw [q2] at k1
          exact k1
        · unfold f_X11_farmHere
          rw [c2, bd_s, if_neg z10]
          exact lp k 0 FU (by omega) (by show k < 5000; omega)
  · obtain ⟨k, k1, k2, -⟩ := hk f
    refine ⟨f, k, -1, ?_, ?_, hf, fun _ => rfl, k2, fun q => absurd q h0⟩
    · unfold f_X7_oldFarm
      rw [t_ref hT s1 (by omega) (x := 1) (k := 1) rfl, t_ref hT s1 (by omega) (x := 2) (k := 2) rfl, rf_keep h0, rf_keep h0, e1, bd_s]
      rcases cl_isName (W i) with c | c
      · rw [c, bd_s, if_pos z00, bd_s]; exact k1
      · rw [c, bd_s, if_neg z10, bd_s]
        split <;> exact k1
    · unfold f_X11_farmHere
      rw [rf_isName a (by omega) h0, bd_s, if_pos z00, t_wrg hT s2 (by omega) (x := 1) (k := 1) rfl, bd_s, rf_keep h0]
/-! ## facts -/
def fh (p : Nat → Bool) : Nat → Int32
  | 0 => -1
  | k + 1 => if p k then nI k else fh p k
/-- the two numbers of a fact -/
def FA (feed : Bool) (k j : Nat) : Prop := if feed then k = j ∧ k ≤ 3 else (k = j ∧ k ≤ 2) ∨ (k = 4 ∧ j = 3) ∨ (k = 5 ∧ j = 4)
theorem fh_none {p : Nat → Bool} : ∀ {k : Nat}, (∀ j, j < k → p j = false) → fh p k = -1
  | 0, _ => rfl
  | k + 1, h => by
    show (if p k then nI k else fh p k) = -1
    rw [h k (by omega), if_neg (by decide)]
    exact fh_none (fun j hj => h j (by omega))
theorem fh_one {p : Nat → Bool} {j : Nat} : ∀ {k : Nat}, j < k → p j = true → (∀ i, i < k → i ≠ j → p i = false) → fh p k = nI j
  | 0, h, _, _ => by omega
  | k + 1, h, hj, hi => by
    show (if p k then nI k else fh p k) = nI j
    by_cases e : k = j
    · rw [e, hj, if_pos rfl]
    · rw [hi k (by omega) e, if_neg (by decide)]
      exact fh_one (by omega) hj (fun i h1 h2 => hi i (by omega) h2)
def fwl (k : Nat) : Nat := [1, 2, 13, 14].getD k 0
def gwl (k : Nat) : Nat := [1, 2, 13, 4, 15].getD k 0
def HF (fw gw : Nat → Int32) : Prop := (∀ k, k < 4 → fw k = nI (fwl k)) ∧ ∀ k, k < 5 → gw k = nI (gwl k)
theorem fwl_lt : ∀ k, k < 4 → fwl k < 16 := by decide
theorem gwl_lt : ∀ k, k < 5 → gwl k < 16 := by decide
theorem rd_factHere (hT : TKS sg len N so pl va A P W U G E) (hW : HW words) {fw gw : Nat → Int32} (hF : HF fw gw) (hi : i ≤ N) {fl : Int32} {feed : Bool} (hfl : fl = if feed then 1 else 0) : f_X11_factHere so va (nI i) (nI 0) words fl fw gw = some (if feed then fh (fun k => decide (W i = cw (fwl k))) 4 else fh (fun k => decide (W i = cw (gwl k))) 5) := by
  have hN := hT.1
  cases feed with
  | true =>
    have hfl : fl = 1 := hfl
    subst hfl
    have lp : ∀ (r k gg : Nat), k + r = 4 → r < gg → f_X11_factHere_L4 so va (nI i) (nI 0) words 1 fw gw gg (fh (fun k => decide (W i = cw (fwl k))) k) (nI k) = some (fh (fun k => decide (W i = cw (fwl k))) 4) := by
      intro r
      induction r with
      | zero =>
        intro k gg hk hg
        obtain ⟨gg, rfl⟩ : ∃ z, gg = z + 1 := ⟨gg - 1, by omega⟩
        have hk : k = 4 := by omega
        subst hk
        show f_X11_factHere_L4b _ _ _ _ _ _ _ _ _ _ _ = _
        unfold f_X11_factHere_L4b f_X11_factHere_B17
        rw [if_neg z10, if_pos (by decide)]
      | succ r ih =>
        intro k gg hk hg
        obtain ⟨gg, rfl⟩ : ∃ z, gg = z + 1 := ⟨gg - 1, by omega⟩
        have hi2 := ih (k + 1) gg (by omega) (by omega)
        have h4 : ¬ (4 : Int32) ≤ nI k := by
          rw [show (4 : Int32) = nI 4 from rfl]
          exact nI_ge (by omega) (by decide)
        have hs : fh (fun k => decide (W i = cw (fwl k))) (k + 1) = if decide (W i = cw (fwl k)) then nI k else fh (fun k => decide (W i = cw (fwl k))) k := rfl
        rw [hs] at hi2
        show f_X11_factHere_L4b _ _ _ _ _ _ _ _ _ _ _ = _
        unfold f_X11_factHere_L4b f_X11_factHere_B17
        rw [if_neg z10, if_neg h4, if_neg z10, g_nI (by omega) (by decide), ix_nI (by omega)]
        unfold f_X11_factHere_B43 f_X11_factHere_B54
        by_cases e : W i = cw (fwl k)
        · rw [t_isW1 hT hW hi (by decide) (fwl_lt k (by omega)) (hF.1 k (by omega)) rfl e, bd_s, if_neg z10]
          rw [decide_eq_true e] at hi2
          simp only [lt_]
          rw [← nI_succ]
          exact hi2
        · rw [t_isW0 hT hW hi (by decide) (fwl_lt k (by omega)) (hF.1 k (by omega)) (fun q => e q.2), bd_s, if_pos z00]
          rw [decide_eq_false e] at hi2
          simp only [lt_]
          rw [← nI_succ]
          exact hi2
    exact lp 4 0 FU (by decide) (by decide)
  | false =>
    have hfl : fl = 0 := hfl
    subst hfl
    have lp : ∀ (r k gg : Nat), k + r = 5 → r < gg → f_X11_factHere_L4 so va (nI i) (nI 0) words 0 fw gw gg (fh (fun k => decide (W i = cw (gwl k))) k) (nI k) = some (fh (fun k => decide (W i = cw (gwl k))) 5) := by
      intro r
      induction r with
      | zero =>
        intro k gg hk hg
        obtain ⟨gg, rfl⟩ : ∃ z, gg = z + 1 := ⟨gg - 1, by omega⟩
        have hk : k = 5 := by omega
        subst hk
        show f_X11_factHere_L4b _ _ _ _ _ _ _ _ _ _ _ = _
        unfold f_X11_factHere_L4b f_X11_factHere_B17
        rw [if_pos z00, if_pos (by decide)]
      | succ r ih =>
        intro k gg hk hg
        obtain ⟨gg, rfl⟩ : ∃ z, gg = z + 1 := ⟨gg - 1, by omega⟩
        have hi2 := ih (k + 1) gg (by omega) (by omega)
        have h4 : ¬ (5 : Int32) ≤ nI k := by
          rw [show (5 : Int32) = nI 5 from rfl]
          exact nI_ge (by omega) (by decide)
        have hs : fh (fun k => decide (W i = cw (gwl k))) (k + 1) = if decide (W i = cw (gwl k)) then nI k else fh (fun k => decide (W i = cw (gwl k))) k := rfl
        rw [hs] at hi2
        show f_X11_factHere_L4b _ _ _ _ _ _ _ _ _ _ _ = _
        unfold f_X11_factHere_L4b f_X11_factHere_B17
        rw [if_pos z00, if_neg h4, if_pos z00, g_nI (by omega) (by decide), ix_nI (by omega)]
        unfold f_X11_factHere_B43 f_X11_factHere_B54
        by_cases e : W i = cw (gwl k)
        · rw [t_isW1 hT hW hi (by decide) (gwl_lt k (by omega)) (hF.2 k (by omega)) rfl e, bd_s, if_neg z10]
          rw [decide_eq_true e] at hi2
          simp only [lt_]
          rw [← nI_succ]
          exact hi2
        · rw [t_isW0 hT hW hi (by decide) (gwl_lt k (by omega)) (hF.2 k (by omega)) (fun q => e q.2), bd_s, if_pos z00]
          rw [decide_eq_false e] at hi2
          simp only [lt_]
          rw [← nI_succ]
          exact hi2
    exact lp 5 0 FU (by decide) (by decide)
/-- the class's facts -/
theorem cl_fact (la fe : Nat) {feed : Bool} (hfe : la = fe ↔ feed = true) (w : Int64) : ∃ x, f_X7_factOf la fe w = some x ∧ ((x = -1 ∧ (if feed then fh (fun k => decide (w = cw (fwl k))) 4 else fh (fun k => decide (w = cw (gwl k))) 5) = -1) ∨ ∃ k j v, FA feed k j ∧ x = nI k ∧ v < 16 ∧ w = cw v ∧ (if feed then fh (fun k => decide (w = cw (fwl k))) 4 else fh (fun k => decide (w = cw (gwl k))) 5) = nI j) := by
  have ne : ∀ v u, v < 16 → u < 16 → v ≠ u → w = cw v → ¬ w = cw u := fun v u hv hu h h1 h2 => h (cw_inj v hv u hu (h1.symm.trans h2))
  cases feed with
  | true =>
    have hl : la = fe := hfe.mpr rfl
    simp only [if_true]
    have one : ∀ j, j < 4 → w = cw (fwl j) → fh (fun k => decide (w = cw (fwl k))) 4 = nI j := by
      intro j hj h
      refine fh_one hj (decide_eq_true h) (fun i hi hne => decide_eq_false ?_)
      have d : ∀ i, i < 4 → ∀ j, j < 4 → i ≠ j → fwl j ≠ fwl i := by decide
      exact ne _ _ (fwl_lt j hj) (fwl_lt i hi) (d i hi j hj hne) h
    unfold f_X7_factOf f_X7_factOf_B19 f_X7_factOf_B64 f_X7_factOf_B78
    rw [if_pos hl, c_flock, c_dogs, c_hunger, c_night, c_fence, c_lean]
    by_cases h1 : w = cw 1
    · rw [if_pos (lc_eq.mpr h1)]
      exact ⟨0, rfl, Or.inr ⟨0, 0, 1, by show 0 = 0 ∧ 0 ≤ 3; omega, rfl, by decide, h1, one 0 (by decide) h1⟩⟩
    rw [if_neg (fun q => h1 (lc_eq.mp q))]
    by_cases h2 : w = cw 2
    · rw [if_pos (lc_eq.mpr h2)]
      exact ⟨1, rfl, Or.inr ⟨1, 1, 2, by show 1 = 1 ∧ 1 ≤ 3; omega, rfl, by decide, h2, one 1 (by decide) h2⟩⟩
    rw [if_neg (fun q => h2 (lc_eq.mp q))]
    by_cases h3 : w = cw 13
    · rw [if_pos (lc_eq.mpr h3)]
      exact ⟨2, rfl, Or.inr ⟨2, 2, 13, by show 2 = 2 ∧ 2 ≤ 3; omega, rfl, by decide, h3, one 2 (by decide) h3⟩⟩
    rw [if_neg (fun q => h3 (lc_eq.mp q))]
    by_cases h4 : w = cw 14
    · rw [if_pos (lc_eq.mpr h4), if_neg z10]
      exact ⟨3, rfl, Or.inr ⟨3, 3, 14, by show 3 = 3 ∧ 3 ≤ 3; omega, rfl, by decide, h4, one 3 (by decide) h4⟩⟩
    rw [if_neg (fun q => h4 (lc_eq.mp q)), if_neg z10, if_neg z10]
    refine ⟨-1, by split <;> first | rfl | (split <;> rfl), Or.inl ⟨rfl, fh_none (fun j hj => decide_eq_false ?_)⟩⟩
    match j, hj with
    | 0, _ => exact h1
    | 1, _ => exact h2
    | 2, _ => exact h3
    | 3, _ => exact h4
    | j + 4, h => omega
  | false =>
    have hl : ¬ la = fe := fun q => by have := hfe.mp q; cases this
    simp only [Bool.false_eq_true, if_false]
    have one : ∀ j, j < 5 → w = cw (gwl j) → fh (fun k => decide (w = cw (gwl k))) 5 = nI j := by
      intro j hj h
      refine fh_one hj (decide_eq_true h) (fun i hi hne => decide_eq_false ?_)
      have d : ∀ i, i < 5 → ∀ j, j < 5 → i ≠ j → gwl j ≠ gwl i := by decide
      exact ne _ _ (gwl_lt j hj) (gwl_lt i hi) (d i hi j hj hne) h
    unfold f_X7_factOf f_X7_factOf_B19 f_X7_factOf_B64 f_X7_factOf_B78
    rw [if_neg hl, c_flock, c_dogs, c_hunger, c_night, c_fence, c_lean]
    by_cases h1 : w = cw 1
    · rw [if_pos (lc_eq.mpr h1)]
      exact ⟨0, rfl, Or.inr ⟨0, 0, 1, Or.inl ⟨rfl, by decide⟩, rfl, by decide, h1, one 0 (by decide) h1⟩⟩
    rw [if_neg (fun q => h1 (lc_eq.mp q))]
    by_cases h2 : w = cw 2
    · rw [if_pos (lc_eq.mpr h2)]
      exact ⟨1, rfl, Or.inr ⟨1, 1, 2, Or.inl ⟨rfl, by decide⟩, rfl, by decide, h2, one 1 (by decide) h2⟩⟩
    rw [if_neg (fun q => h2 (lc_eq.mp q))]
    by_cases h3 : w = cw 13
    · rw [if_pos (lc_eq.mpr h3)]
      exact ⟨2, rfl, Or.inr ⟨2, 2, 13, Or.inl ⟨rfl, by decide⟩, rfl, by decide, h3, one 2 (by decide) h3⟩⟩
    rw [if_neg (fun q => h3 (lc_eq.mp q)), if_pos z00, if_pos z00, if_pos z00]
    by_cases h4 : w = cw 4
    · have h5 : (if lg_cmp w (cw 14) = 0 then (if lg_cmp w (cw 4) = 0 then some (4 : Int32) else (if lg_cmp w (cw 15) = 0 then some 5 else some (-1))) else (if lg_cmp w (cw 4) = 0 then some 4 else (if lg_cmp w (cw 15) = 0 then some 5 else some (-1)))) = some 4 := by
        rw [if_pos (lc_eq.mpr h4)]
        split <;> rfl
      exact ⟨4, h5, Or.inr ⟨4, 3, 4, Or.inr (Or.inl ⟨rfl, rfl⟩), rfl, by decide, h4, one 3 (by decide) h4⟩⟩
    rw [if_neg (fun q => h4 (lc_eq.mp q))]
    by_cases h6 : w = cw 15
    · rw [if_pos (lc_eq.mpr h6)]
      exact ⟨5, by split <;> rfl, Or.inr ⟨5, 4, 15, Or.inr (Or.inr ⟨rfl, rfl⟩), rfl, by decide, h6, one 4 (by decide) h6⟩⟩
    rw [if_neg (fun q => h6 (lc_eq.mp q))]
    refine ⟨-1, by split <;> rfl, Or.inl ⟨rfl, fh_none (fun j hj => decide_eq_false ?_)⟩⟩
    match j, hj with
    | 0, _ => exact h1
    | 1, _ => exact h2
    | 2, _ => exact h3
    | 3, _ => exact h4
    | 4, _ => exact h6
    | j + 5, h => omega
end RN
