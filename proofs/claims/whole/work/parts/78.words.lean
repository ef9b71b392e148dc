/-! PURE 29: the reader's first words (src/t78.lean through gen/tmpl.py) -/
/-- a fault that is noted, if none is -/
def rf (f k p : Nat) : Nat := if f = 0 then k + 16 * p else f
theorem rf_nz {f k p : Nat} (h : 0 < k) : rf f k p ≠ 0 := by unfold rf; split <;> omega
theorem rf_keep {f k p : Nat} (h : f ≠ 0) : rf f k p = f := by unfold rf; rw [if_neg h]
theorem rf_le {f k p : Nat} (hf : f ≤ 20000) (hk : k ≤ 5) (hp : p ≤ 1000) : rf f k p ≤ 20000 := by unfold rf; split <;> omega
/-- where both stand: the class at token i, the reference at a -/
def SR (N f i a : Nat) : Prop := i ≤ N ∧ a ≤ N ∧ (f = 0 → a = i)
def ADV (N f a f' i' a' : Nat) : Prop := SR N f' i' a' ∧ f' ≤ 20000 ∧ (f ≠ 0 → f' = f) ∧ a ≤ a'
theorem ADV.tr {N f a f1 i1 a1 f2 i2 a2 : Nat} (h1 : ADV N f a f1 i1 a1) (h2 : ADV N f1 a1 f2 i2 a2) : ADV N f a f2 i2 a2 :=
  ⟨h2.1, h2.2.1, fun h => by rw [h2.2.2.1 (by rw [h1.2.2.1 h]; exact h), h1.2.2.1 h], Nat.le_trans h1.2.2.2 h2.2.2.2⟩
theorem ADV.z {N f a f' i' a' : Nat} (h : ADV N f a f' i' a') (h0 : f' = 0) : f = 0 := by
  by_cases q : f = 0
  · exact q
  · rw [h.2.2.1 q] at h0; exact h0
def wdl (w : Nat) : List Nat := [[13, 18, 1, 6], [11, 3, 15, 12, 6], [19, 7, 15, 4], [6, 12, 15, 23], [5, 3, 14, 5, 6], [20, 3, 1, 16], [5, 18, 1, 8, 19], [8, 20, 15, 15, 20], [4, 5, 5, 6], [15, 7], [20, 15, 14], [4, 14, 1], [18, 15], [18, 5, 7, 14, 21, 8], [20, 8, 7, 9, 14], [14, 1, 5, 12]].getD w []
def cw (w : Nat) : Int64 := lN (en 256 96 (wdl w))
theorem wdl_ok : ∀ w, w < 16 → wdl w ≠ [] ∧ (wdl w).length ≤ 8 ∧ Lt (wdl w) := by
  have h : ∀ w, w < 16 → wdl w ≠ [] ∧ (wdl w).length ≤ 8 ∧ ∀ d, d ∈ wdl w → 1 ≤ d ∧ d ≤ 26 := by decide +kernel
  exact h
theorem nNm_cw : ∀ w, w < 13 → nNm w = cw w := by decide +kernel
theorem c_hunger : (114853572732274 : Int64) = cw 13 := by decide +kernel
theorem c_night : (474214787188 : Int64) = cw 14 := by decide +kernel
theorem c_lean : (1818583406 : Int64) = cw 15 := by decide +kernel
theorem c_farm : (1717662317 : Int64) = cw 0 := by decide +kernel
theorem c_flock : (439905903467 : Int64) = cw 1 := by decide +kernel
theorem c_dogs : (1685022579 : Int64) = cw 2 := by decide +kernel
theorem c_wolf : (2003790950 : Int64) = cw 3 := by decide +kernel
theorem c_fence : (439788397413 : Int64) = cw 4 := by decide +kernel
theorem c_pact : (1885430644 : Int64) = cw 5 := by decide +kernel
theorem c_share : (495672455781 : Int64) = cw 6 := by decide +kernel
theorem c_tooth : (500085781608 : Int64) = cw 7 := by decide +kernel
theorem c_feed : (1717921124 : Int64) = cw 8 := by decide +kernel
theorem c_go : (26479 : Int64) = cw 9 := by decide +kernel
theorem c_not : (7237492 : Int64) = cw 10 := by decide +kernel
theorem c_and : (6385252 : Int64) = cw 11 := by decide +kernel
theorem c_or : (28530 : Int64) = cw 12 := by decide +kernel
theorem cw_nz {w : Nat} (hw : w < 16) : cw w ≠ 0 := by
  obtain ⟨h1, h2, h3⟩ := wdl_ok w hw
  exact en_pos h3 h1 h2
def HW (words : Nat → Int64) : Prop := ∀ w, w < 16 → words w = lN (en 37 0 (wdl w))
section RB
variable {sg : Nat → Int32} {len N : Nat} {so pl : Nat → Int32} {va : Nat → Int64} {A P : Nat → Nat} {W : Nat → Int64} {U G E : Nat → Int32} {words : Nat → Int64} {i a f : Nat}
theorem t_next (hT : TKS sg len N so pl va A P W U G E) (hi : i ≤ N) : f_X8_next sg (nI len) (nI (A (i))) (nI (P (i))) (W (i)) (U (i)) (G (i)) (E (i)) = some (nI (A (min (i + 1) N)), nI (P (min (i + 1) N)), W (min (i + 1) N), U (min (i + 1) N), G (min (i + 1) N), E (min (i + 1) N)) := hT.2.2 i hi _ _ _ _ _
theorem t_ref (hT : TKS sg len N so pl va A P W U G E) (hi : i ≤ N) (hf : f < 2 ^ 31) {x : Int32} {k : Nat} (hx : x = nI k) : f_X7_refuse (nI (P i)) (nI f) x = some (nI (rf f k (P i))) := by
  unfold f_X7_refuse rf
  rw [show (0 : Int32) = nI 0 from rfl, ifq hf (by decide), hx, show (16 : Int32) = nI 16 from rfl, i_mul, i_add]
  split <;> rfl
theorem t_wrg (hT : TKS sg len N so pl va A P W U G E) (ha : a ≤ N) (hf : f < 2 ^ 31) {x : Int32} {k : Nat} (hx : x = nI k) : f_X11_wrong pl (nI a) (nI f) x = some (nI (rf f k (P a))) := by
  have hN := hT.1
  unfold f_X11_wrong rf
  rw [show (0 : Int32) = nI 0 from rfl, ifq hf (by decide), g_nI (by omega) (by decide), ix_nI (by omega), (hT.2.1 a ha).1, hx, show (16 : Int32) = nI 16 from rfl, i_mul, i_add]
  split <;> rfl
theorem t_P (hT : TKS sg len N so pl va A P W U G E) (hi : i ≤ N) : P i ≤ 1000 := (hT.2.1 i hi).2.1
/-- the word at a token -/
theorem t_W (hT : TKS sg len N so pl va A P W U G E) (hi : i ≤ N) {w : Nat} (hw : w < 16) (h : W i = cw w) : so i = 1 ∧ i < N ∧ G i = 0 ∧ U i = -1 := by
  obtain ⟨-, -, -, hk, hz⟩ := hT.2.1 i hi
  have hnz := cw_nz hw
  rcases hk with ⟨-, q, -⟩ | ⟨q1, -, q3, q4, -⟩ | ⟨-, q, -⟩ | ⟨-, q, -⟩ | ⟨-, q, -⟩
  · exact absurd (h.symm.trans q) hnz
  · refine ⟨q1, ?_, q4, q3⟩
    by_cases e : i = N
    · have := hz.mpr e
      rw [q1] at this
      exact absurd this z10
    · omega
  · exact absurd (h.symm.trans q) hnz
  · exact absurd (h.symm.trans q) hnz
  · exact absurd (h.symm.trans q) hnz
theorem t_S (hT : TKS sg len N so pl va A P W U G E) (hi : i ≤ N) {c : Nat} (hc : isS c) (h : G i = nI c) : so i = 3 ∧ i < N ∧ W i = 0 ∧ U i = -1 := by
  obtain ⟨-, -, -, hk, hz⟩ := hT.2.1 i hi
  have hnz : ¬ nI c = 0 := nI_ne0 (by unfold isS at hc; omega) (by unfold isS at hc; omega)
  rcases hk with ⟨-, -, -, q, -⟩ | ⟨-, -, -, q, -⟩ | ⟨-, -, -, q, -⟩ | ⟨q1, q2, q3, -⟩ | ⟨-, -, -, q, -⟩
  · exact absurd (h.symm.trans q) hnz
  · exact absurd (h.symm.trans q) hnz
  · exact absurd (h.symm.trans q) hnz
  · refine ⟨q1, ?_, q2, q3⟩
    by_cases e : i = N
    · have := hz.mpr e
      rw [q1] at this
      exact absurd this (by decide)
    · omega
  · exact absurd (h.symm.trans q) hnz
theorem t_isW (hT : TKS sg len N so pl va A P W U G E) (hW : HW words) (ha : a ≤ N) (hf : f < 2 ^ 31) {x : Int32} {w : Nat} (hw : w < 16) (hx : x = nI w) : f_X11_isWord so va (nI a) (nI f) words x = some (if f = 0 ∧ W a = cw w then 1 else 0) := by
  have hN := hT.1
  obtain ⟨w1, w2, w3⟩ := wdl_ok w hw
  have hnz := cw_nz hw
  obtain ⟨-, -, -, hk, -⟩ := hT.2.1 a ha
  unfold f_X11_isWord
  rw [show (0 : Int32) = nI 0 from rfl, ifq hf (by decide)]
  by_cases h0 : f = 0
  · rw [if_pos h0, g_nI (by omega) (by decide), ix_nI (by omega), hx, g_nI (by omega) (by decide), g_nI (by omega) (by decide), ix_nI (by omega), hW w hw]
    have other : so a ≠ 1 → W a = 0 → (if so a = 1 then (if lg_cmp (va a) (lN (en 37 0 (wdl w))) = nI 0 then some 1 else some (nI 0)) else some (nI 0)) = some (if f = 0 ∧ W a = cw w then (1 : Int32) else nI 0) := by
      intro h1 h2
      rw [if_neg h1, if_neg (fun q => hnz (q.2.symm.trans h2))]
    rcases hk with ⟨q1, q2, -⟩ | ⟨q1, ⟨l, l1, l2, l3, l4, l5⟩, -⟩ | ⟨q1, q2, -⟩ | ⟨q1, q2, -⟩ | ⟨q1, q2, -⟩
    · exact other (by rw [q1]; decide) q2
    · obtain ⟨s1, s2⟩ := en_same l3 w3 l2 w2
      rw [if_pos q1, l4, l5]
      show (if lg_cmp (lN (en 37 0 l)) (lN (en 37 0 (wdl w))) = 0 then some 1 else some (nI 0)) = some (if f = 0 ∧ lN (en 256 96 l) = lN (en 256 96 (wdl w)) then (1 : Int32) else nI 0)
      by_cases e : l = wdl w
      · rw [if_pos (lc_eq.mpr (s1.mpr e)), if_pos ⟨h0, s2.mpr e⟩]
      · rw [if_neg (fun q => e (s1.mp (lc_eq.mp q))), if_neg (fun q => e (s2.mp q.2))]
    · exact other (by rw [q1]; decide) q2
    · exact other (by rw [q1]; decide) q2
    · exact other (by rw [q1]; decide) q2
  · rw [if_neg h0, if_neg (fun q => h0 q.1)]
theorem t_isS (hT : TKS sg len N so pl va A P W U G E) (ha : a ≤ N) (hf : f < 2 ^ 31) {x : Int32} {c : Nat} (hc : isS c) (hx : x = nI c) : f_X11_isSign so va (nI a) (nI f) x = some (if f = 0 ∧ G a = nI c then 1 else 0) := by
  have hN := hT.1
  have hc126 : c ≤ 126 := by unfold isS at hc; omega
  have hnz : ¬ nI c = 0 := nI_ne0 (by unfold isS at hc; omega) (by omega)
  obtain ⟨-, -, -, hk, -⟩ := hT.2.1 a ha
  unfold f_X11_isSign
  rw [show (0 : Int32) = nI 0 from rfl, ifq hf (by decide)]
  by_cases h0 : f = 0
  · rw [if_pos h0, g_nI (by omega) (by decide), ix_nI (by omega), hx, g_nI (by omega) (by decide), nI_l (by omega)]
    have other : so a ≠ 3 → G a = 0 → (if so a = 3 then (if lg_cmp (va a) (lN c) = nI 0 then some 1 else some (nI 0)) else some (nI 0)) = some (if f = 0 ∧ G a = nI c then (1 : Int32) else nI 0) := by
      intro h1 h2
      rw [if_neg h1, if_neg (fun q => hnz (q.2.symm.trans h2))]
    rcases hk with ⟨q1, -, -, q2, -⟩ | ⟨q1, -, -, q2, -⟩ | ⟨q1, -, -, q2, -⟩ | ⟨q1, -, -, ⟨d, d1, d2, d3⟩, -⟩ | ⟨q1, -, -, q2, -⟩
    · exact other (by rw [q1]; decide) q2
    · exact other (by rw [q1]; decide) q2
    · exact other (by rw [q1]; decide) q2
    · have hd : d ≤ 126 := by unfold isS at d1; omega
      rw [if_pos q1, d2, d3]
      show (if lg_cmp (lN d) (lN c) = 0 then some 1 else some (nI 0)) = some (if f = 0 ∧ nI d = nI c then (1 : Int32) else nI 0)
      by_cases e : d = c
      · rw [if_pos (lc_eq.mpr (by rw [e])), if_pos ⟨h0, by rw [e]⟩]
      · rw [if_neg (fun q => e ((lN_ne (by omega) (by omega)).mp (lc_eq.mp q))), if_neg (fun q => e (by have := q.2; rwa [i_eq (by omega) (by omega)] at this))]
    · exact other (by rw [q1]; decide) q2
  · rw [if_neg h0, if_neg (fun q => h0 q.1)]
theorem t_isW1 (hT : TKS sg len N so pl va A P W U G E) (hW : HW words) (ha : a ≤ N) (hf : f < 2 ^ 31) {x : Int32} {w : Nat} (hw : w < 16) (hx : x = nI w) (h0 : f = 0) (h : W a = cw w) : f_X11_isWord so va (nI a) (nI f) words x = some 1 := by
  rw [t_isW hT hW ha hf hw hx, if_pos (show f = 0 ∧ W a = cw w from ⟨h0, h⟩)]
theorem t_isW0 (hT : TKS sg len N so pl va A P W U G E) (hW : HW words) (ha : a ≤ N) (hf : f < 2 ^ 31) {x : Int32} {w : Nat} (hw : w < 16) (hx : x = nI w) (h : ¬ (f = 0 ∧ W a = cw w)) : f_X11_isWord so va (nI a) (nI f) words x = some 0 := by
  rw [t_isW hT hW ha hf hw hx, if_neg h]
theorem t_isS1 (hT : TKS sg len N so pl va A P W U G E) (ha : a ≤ N) (hf : f < 2 ^ 31) {x : Int32} {c : Nat} (hc : isS c) (hx : x = nI c) (h0 : f = 0) (h : G a = nI c) : f_X11_isSign so va (nI a) (nI f) x = some 1 := by
  rw [t_isS hT ha hf hc hx, if_pos (show f = 0 ∧ G a = nI c from ⟨h0, h⟩)]
theorem t_isS0 (hT : TKS sg len N so pl va A P W U G E) (ha : a ≤ N) (hf : f < 2 ^ 31) {x : Int32} {c : Nat} (hc : isS c) (hx : x = nI c) (h : ¬ (f = 0 ∧ G a = nI c)) : f_X11_isSign so va (nI a) (nI f) x = some 0 := by
  rw [t_isS hT ha hf hc hx, if_neg h]
/-- a sign that is due -/
theorem rd_sign (hT : TKS sg len N so pl va A P W U G E) (hS : SR N f i a) (hf : f ≤ 20000) {x : Int32} {c : Nat} (hc : isS c) (hx : x = nI c) : ∃ f' i' a', f_X7_readSign sg (nI len) (nI f) (nI (A (i))) (nI (P (i))) (W (i)) (U (i)) (G (i)) (E (i)) x = some (nI f', nI (A (i')), nI (P (i')), W (i'), U (i'), G (i'), E (i')) ∧ f_X11_takeSign so pl va (nI a) (nI f) x = some (nI a', nI f') ∧ ADV N f a f' i' a' ∧ (f' = 0 → G i = nI c ∧ i' = i + 1) := by
  obtain ⟨s1, s2, s3⟩ := hS
  have hP := t_P hT s1
  have hn := t_next hT s1
  unfold f_X7_readSign f_X11_takeSign f_X7_readSign_B16
  rw [hn, bd_s]
  by_cases hG : G i = nI c
  · rw [if_pos (show G i = x by rw [hx]; exact hG)]
    by_cases h0 : f = 0
    · have hai := s3 h0
      subst hai
      have hlt := (t_S hT s1 hc hG).2.1
      rw [t_isS1 hT s2 (by omega) hc hx h0 hG, bd_s, if_neg z10]
      refine ⟨f, min (a + 1) N, a + 1, rfl, by simp only [lt_]; rw [← nI_succ], ⟨⟨by omega, by omega, fun _ => by omega⟩, hf, fun _ => rfl, by omega⟩, fun _ => ⟨hG, by omega⟩⟩
    · rw [t_isS0 hT s2 (by omega) hc hx (fun q => h0 q.1), bd_s, if_pos z00, t_wrg hT s2 (by omega) (x := 1) (k := 1) rfl, bd_s, rf_keep h0]
      exact ⟨f, min (i + 1) N, a, rfl, rfl, ⟨⟨by omega, s2, fun q => absurd q h0⟩, hf, fun _ => rfl, Nat.le_refl _⟩, fun q => absurd q h0⟩
  · rw [if_neg (show ¬ G i = x by rw [hx]; exact hG), t_ref hT s1 (by omega) (x := 1) (k := 1) rfl, bd_s, bd_s]
    by_cases h0 : f = 0
    · have hai := s3 h0
      subst hai
      rw [t_isS0 hT s2 (by omega) hc hx (fun q => hG q.2), bd_s, if_pos z00, t_wrg hT s2 (by omega) (x := 1) (k := 1) rfl, bd_s]
      exact ⟨_, min (a + 1) N, a, rfl, rfl, ⟨⟨by omega, s2, fun q => absurd q (rf_nz (by decide))⟩, rf_le hf (by decide) hP, fun q => absurd h0 q, Nat.le_refl _⟩, fun q => absurd q (rf_nz (by decide))⟩
    · rw [t_isS0 hT s2 (by omega) hc hx (fun q => h0 q.1), bd_s, if_pos z00, t_wrg hT s2 (by omega) (x := 1) (k := 1) rfl, bd_s, rf_keep h0, rf_keep h0]
      exact ⟨f, min (i + 1) N, a, rfl, rfl, ⟨⟨by omega, s2, fun q => absurd q h0⟩, hf, fun _ => rfl, Nat.le_refl _⟩, fun q => absurd q h0⟩
/-- a word that is due -/
theorem rd_word (hT : TKS sg len N so pl va A P W U G E) (hW : HW words) (hS : SR N f i a) (hf : f ≤ 20000) {x : Int32} {y : Int64} {w : Nat} (hw : w < 16) (hx : x = nI w) (hy : y = cw w) : ∃ f' i' a', f_X7_readWord sg (nI len) (nI f) (nI (A (i))) (nI (P (i))) (W (i)) (U (i)) (G (i)) (E (i)) y = some (nI f', nI (A (i')), nI (P (i')), W (i'), U (i'), G (i'), E (i')) ∧ f_X11_takeWord so pl va words (nI a) (nI f) x = some (nI a', nI f') ∧ ADV N f a f' i' a' ∧ (f' = 0 → W i = cw w ∧ i' = i + 1) := by
  obtain ⟨s1, s2, s3⟩ := hS
  have hP := t_P hT s1
  have hn := t_next hT s1
  unfold f_X7_readWord f_X11_takeWord f_X7_readWord_B17 f_X11_hasWord
  rw [hn, bd_s, hy]
  by_cases hG : W i = cw w
  · rw [if_pos (lc_eq.mpr hG)]
    by_cases h0 : f = 0
    · have hai := s3 h0
      subst hai
      have hlt := (t_W hT s1 hw hG).2.1
      rw [t_isW1 hT hW s2 (by omega) hw hx h0 hG, bd_s, if_neg z10]
      simp only [lt_]
      unfold g_z
      rw [if_pos (Or.inr rfl), bd_s]
      refine ⟨f, min (a + 1) N, a + 1, rfl, ?_, ⟨⟨by omega, by omega, fun _ => by omega⟩, hf, fun _ => rfl, by omega⟩, fun _ => ⟨hG, by omega⟩⟩
      simp only
      rw [if_neg z10, ← nI_succ]
    · rw [t_isW0 hT hW s2 (by omega) hw hx (fun q => h0 q.1), bd_s, if_pos z00]
      simp only [lt_]
      unfold g_z
      rw [if_pos (Or.inl rfl), bd_s]
      simp only
      rw [if_pos trivial, Int32.add_zero, t_wrg hT s2 (by omega) (x := 1) (k := 1) rfl, bd_s, rf_keep h0]
      exact ⟨f, min (i + 1) N, a, rfl, rfl, ⟨⟨by omega, s2, fun q => absurd q h0⟩, hf, fun _ => rfl, Nat.le_refl _⟩, fun q => absurd q h0⟩
  · rw [if_neg (fun q => hG (lc_eq.mp q)), t_ref hT s1 (by omega) (x := 1) (k := 1) rfl, bd_s, bd_s]
    have hno : ¬ (f = 0 ∧ W a = cw w) := fun q => by
      have := s3 q.1
      rw [this] at q
      exact hG q.2
    rw [t_isW0 hT hW s2 (by omega) hw hx hno, bd_s, if_pos z00]
    simp only [lt_]
    unfold g_z
    rw [if_pos (Or.inl rfl), bd_s]
    simp only
    rw [if_pos trivial, Int32.add_zero, t_wrg hT s2 (by omega) (x := 1) (k := 1) rfl, bd_s]
    by_cases h0 : f = 0
    · have hai := s3 h0
      subst hai
      exact ⟨_, min (a + 1) N, a, rfl, rfl, ⟨⟨by omega, s2, fun q => absurd q (rf_nz (by decide))⟩, rf_le hf (by decide) hP, fun q => absurd h0 q, Nat.le_refl _⟩, fun q => absurd q (rf_nz (by decide))⟩
    · rw [rf_keep h0, rf_keep h0]
      exact ⟨f, min (i + 1) N, a, rfl, rfl, ⟨⟨by omega, s2, fun q => absurd q h0⟩, hf, fun _ => rfl, Nat.le_refl _⟩, fun q => absurd q h0⟩
/-- a number that is due -/
theorem rd_num (hT : TKS sg len N so pl va A P W U G E) (hS : SR N f i a) (hf : f ≤ 20000) {x : Int32} {m : Nat} (hx : x = nI m) (hm : m ≤ 9999) : ∃ f' i' a' vc vr, f_X7_readNumber sg (nI len) (nI f) (nI (A (i))) (nI (P (i))) (W (i)) (U (i)) (G (i)) (E (i)) x = some (vc, nI f', nI (A (i')), nI (P (i')), W (i'), U (i'), G (i'), E (i')) ∧ f_X11_takeNumber so pl va (nI a) (nI f) 0 x = some (vr, nI a', nI f') ∧ ADV N f a f' i' a' ∧ (f' = 0 → i' = i + 1 ∧ ∃ v, v ≤ m ∧ vc = nI v ∧ vr = nI v ∧ U i = nI v) := by
  obtain ⟨s1, s2, s3⟩ := hS
  have hN := hT.1
  have hP := t_P hT s1
  have hn := t_next hT s1
  obtain ⟨-, -, -, hk, hz⟩ := hT.2.1 i s1
  have fin : ∀ (f1 : Nat), f1 ≤ 20000 → f1 ≠ 0 → f_X11_takeNumber_B70 so pl va (nI a) (nI f1) = some (0, nI a, nI f1) := by
    intro f1 h1 h2
    unfold f_X11_takeNumber_B70
    rw [if_neg (nI_nle (by omega) (by omega))]
  have cls : ∀ (f1 : Nat) (v : Int32), f_X7_readNumber_B31 sg (nI len) (nI f1) (nI (A (i))) (nI (P (i))) (W (i)) (U (i)) (G (i)) (E (i)) v = some (v, nI f1, nI (A (min (i + 1) N)), nI (P (min (i + 1) N)), W (min (i + 1) N), U (min (i + 1) N), G (min (i + 1) N), E (min (i + 1) N)) := by
    intro f1 v
    unfold f_X7_readNumber_B31
    rw [hn, bd_s]
  by_cases h0 : f = 0
  · have hai := s3 h0
    subst hai
    subst h0
    have notnum : so a ≠ 2 → U a = -1 → ∃ f' i' a' vc vr, f_X7_readNumber sg (nI len) (nI 0) (nI (A (a))) (nI (P (a))) (W (a)) (U (a)) (G (a)) (E (a)) x = some (vc, nI f', nI (A (i')), nI (P (i')), W (i'), U (i'), G (i'), E (i')) ∧ f_X11_takeNumber so pl va (nI a) (nI 0) 0 x = some (vr, nI a', nI f') ∧ ADV N 0 a f' i' a' ∧ (f' = 0 → i' = a + 1 ∧ ∃ v, v ≤ m ∧ vc = nI v ∧ vr = nI v ∧ U a = nI v) := by
      intro h1 h2
      refine ⟨rf 0 1 (P a), min (a + 1) N, a, -1, 0, ?_, ?_, ⟨⟨by omega, s2, fun q => absurd q (rf_nz (by decide))⟩, rf_le hf (by decide) hP, fun q => absurd rfl q, Nat.le_refl _⟩, fun q => absurd q (rf_nz (by decide))⟩
      · unfold f_X7_readNumber
        rw [if_pos h2, t_ref hT s1 (by omega) (x := 1) (k := 1) rfl, bd_s, cls, h2]
      · unfold f_X11_takeNumber
        rw [if_pos (show nI 0 = 0 from rfl), g_nI (by omega) (by decide), ix_nI (by omega), if_neg h1, t_wrg hT s2 (by omega) (x := 1) (k := 1) rfl, bd_s]
        exact fin _ (rf_le hf (by decide) hP) (rf_nz (by decide))
    rcases hk with ⟨q1, -, q2, -⟩ | ⟨q1, -, q2, -⟩ | ⟨q1, -, ⟨v, v1, v2, v3⟩, -⟩ | ⟨q1, -, q2, -⟩ | ⟨q1, -, q2, -⟩
    · exact notnum (by rw [q1]; decide) q2
    · exact notnum (by rw [q1]; decide) q2
    · have hlt : a < N := by
        by_cases e : a = N
        · have := hz.mpr e
          rw [q1] at this
          exact absurd this (by decide)
        · omega
      have hnm : ¬ U a = -1 := by rw [v3]; exact nI_m1 (by omega)
      have hl0 : ¬ lg_cmp (va a) (Int32.toInt64 0) < 0 := by
        rw [v2, show Int32.toInt64 0 = lN 0 from rfl]
        intro q
        have := (lc_lt (show v < 2 ^ 63 by omega) (show 0 < 2 ^ 63 by decide)).1.mp q
        omega
      have hlm : (lg_cmp (va a) (Int32.toInt64 x) ≤ 0) ↔ v ≤ m := by
        rw [v2, hx, nI_l (by omega)]
        exact (lc_lt (show v < 2 ^ 63 by omega) (show m < 2 ^ 63 by omega)).2
      have hum : (U a ≤ x) ↔ v ≤ m := by
        rw [v3, hx, i_le (by omega) (by omega)]
      have hcls : f_X7_readNumber sg (nI len) (nI 0) (nI (A (a))) (nI (P (a))) (W (a)) (U (a)) (G (a)) (E (a)) x = if v ≤ m then some (nI v, nI 0, nI (A (min (a + 1) N)), nI (P (min (a + 1) N)), W (min (a + 1) N), U (min (a + 1) N), G (min (a + 1) N), E (min (a + 1) N)) else some (nI v, nI (rf 0 4 (P a)), nI (A (min (a + 1) N)), nI (P (min (a + 1) N)), W (min (a + 1) N), U (min (a + 1) N), G (min (a + 1) N), E (min (a + 1) N)) := by
        unfold f_X7_readNumber
        rw [if_neg hnm]
        by_cases hc : v ≤ m
        · rw [if_pos (hum.mpr hc), if_pos hc, cls, v3]
        · rw [if_neg (fun q => hc (hum.mp q)), if_neg hc, t_ref hT s1 (by omega) (x := 4) (k := 4) rfl, bd_s, cls, v3]
      have href : f_X11_takeNumber so pl va (nI a) (nI 0) 0 x = if v ≤ m then some (nI v, nI (a + 1), nI 0) else some (0, nI a, nI (rf 0 4 (P a))) := by
        unfold f_X11_takeNumber f_X11_takeNumber_B28
        rw [if_pos (show nI 0 = 0 from rfl), if_pos (show nI 0 = 0 from rfl), g_nI (by omega) (by decide), ix_nI (by omega), if_pos q1, g_nI (by omega) (by decide), if_neg hl0, g_nI (by omega) (by decide)]
        by_cases hc : v ≤ m
        · rw [if_pos (hlm.mpr hc), if_pos hc]
          unfold f_X11_takeNumber_B70
          rw [if_pos (by decide)]
          simp only [lt_]
          rw [← nI_succ, nI_pred, g_nI (by omega) (by decide), ix_nI (by omega), v2, lN_i]
        · rw [if_neg (fun q => hc (hlm.mp q)), if_neg hc]
          unfold f_X11_takeNumber_B65
          rw [t_wrg hT s2 (by omega) (x := 4) (k := 4) rfl, bd_s]
          exact fin _ (rf_le hf (by decide) hP) (rf_nz (by decide))
      rw [hcls, href]
      by_cases hc : v ≤ m
      · rw [if_pos hc, if_pos hc]
        exact ⟨0, min (a + 1) N, a + 1, nI v, nI v, rfl, rfl, ⟨⟨by omega, by omega, fun _ => by omega⟩, hf, fun _ => rfl, by omega⟩, fun _ => ⟨by omega, v, hc, rfl, rfl, v3⟩⟩
      · rw [if_neg hc, if_neg hc]
        exact ⟨rf 0 4 (P a), min (a + 1) N, a, nI v, 0, rfl, rfl, ⟨⟨by omega, s2, fun q => absurd q (rf_nz (by decide))⟩, rf_le hf (by decide) hP, fun q => absurd rfl q, Nat.le_refl _⟩, fun q => absurd q (rf_nz (by decide))⟩
    · exact notnum (by rw [q1]; decide) q2
    · exact notnum (by rw [q1]; decide) q2
  · have hfz : ¬ nI f = 0 := nI_ne0 (by omega) (by omega)
    have href : f_X11_takeNumber so pl va (nI a) (nI f) 0 x = some (0, nI a, nI f) := by
      unfold f_X11_takeNumber f_X11_takeNumber_B28
      rw [if_neg hfz, if_neg hfz]
      exact fin f hf h0
    have hc : ∃ vc, f_X7_readNumber sg (nI len) (nI f) (nI (A (i))) (nI (P (i))) (W (i)) (U (i)) (G (i)) (E (i)) x = some (vc, nI f, nI (A (min (i + 1) N)), nI (P (min (i + 1) N)), W (min (i + 1) N), U (min (i + 1) N), G (min (i + 1) N), E (min (i + 1) N)) := by
      unfold f_X7_readNumber
      rw [t_ref hT s1 (by omega) (x := 1) (k := 1) rfl, t_ref hT s1 (by omega) (x := 4) (k := 4) rfl, rf_keep h0, rf_keep h0]
      simp only [bd_s, cls]
      split
      · exact ⟨_, rfl⟩
      · split <;> exact ⟨_, rfl⟩
    obtain ⟨vc, hvc⟩ := hc
    exact ⟨f, min (i + 1) N, a, vc, 0, hvc, href, ⟨⟨by omega, s2, fun q => absurd q h0⟩, hf, fun _ => rfl, Nat.le_refl _⟩, fun q => absurd q h0⟩
end RB
