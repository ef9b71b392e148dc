/-! PURE 40: lines: fences, pacts, shares (src/t89.lean through gen/tmpl.py) -/
section LP2
variable {sg : Nat → Int32} {len N : Nat} {so pl : Nat → Int32} {va : Nat → Int64} {A P : Nat → Nat} {W : Nat → Int64} {U G E : Nat → Int32} {words : Nat → Int64} {i a f : Nat}
theorem d6 : ∀ k, k < 6 → ∀ e, e < 6 → nI (6 * k + e) / 6 = nI k ∧ nI (6 * k + e) - nI (6 * k + e) / 6 * 6 = nI e := by decide +kernel
theorem have_ok {o n : Nat} {T msk : Nat → Int32} {V : Nat → Nat → Int32 → Prop} (hX : DX o T n msk V) {k1 k2 : Nat} (h1 : k1 < 6) (h2 : k2 < 6) : ((((msk (ix (nI k1))) >>> (nI k2 &&& 31)) &&& 1) = 1) ↔ T (o + 6 * k1 + k2) ≠ 0 := by
  rw [ix_nI (by omega), (hX.1 k1 h1).bit (y := nI k2) rfl h2]
  exact decide_eq_true_iff
theorem takeTwo_P (hT : TKS sg len N so pl va A P W U G E) {R : Nat → Int32} {nr : Nat → Int64} {l1 x1 : Int32} {f1 : Nat} (e2 : f_X11_farmHere so pl va (nI (i + 1)) words R nr (nI 0) = some (x1, nI f1)) : f_X11_takeTwo so pl va words R nr (nI i) (nI 0) l1 1 = f_X11_takeTwo_B50 so pl va words R nr (nI (i + 1)) (nI f1) l1 1 x1 := by
  unfold f_X11_takeTwo
  rw [lt_r, ← nI_succ, e2, bd_s]
  dsimp only
  rw [if_neg z10, ite_self]
theorem ln_fence (hT : TKS sg len N so pl va A P W U G E) (hW : HW words) (hi : i < N) (hw : W i = cw 4) {R : Nat → Int32} {n : Nat} {nc nr : Nat → Int64} (hn : n ≤ 6) (hNM : NMR n nc nr) (hr0 : R 1000 = nI n) {fences : Int32} {fenced heights : Nat → Int32} (hX : DX 74 (sh R) n fenced (hV heights)) (hC : DC (sh R) fences) :
    ∃ (f' i' b fb a' : Nat) (fences' : Int32) (fenced' heights' R' : Nat → Int32),
      f_X7_readFence sg (nI len) (nI n) nc (nI 0) (nI (A (i))) (nI (P (i))) (W (i)) (U (i)) (G (i)) (E (i)) fences fenced heights = some (nI f', nI (A (i')), nI (P (i')), W (i'), U (i'), G (i'), E (i'), fences', fenced', heights') ∧
      f_X11_readPair so pl va words nr (nI i) (nI 0) R = some (nI b, nI fb, R') ∧ f_X11_takeSign so pl va (nI b) (nI fb) 59 = some (nI a', nI f') ∧ ADV N 0 i f' i' a' ∧ (∀ k, k < 1000 ∨ 2000 ≤ k → R' k = R k) ∧
      (f' = 0 → i < i' ∧ DX 74 (sh R') n fenced' (hV heights') ∧ DC (sh R') fences' ∧ ∀ k, ¬ (74 ≤ k ∧ k < 110) → sh R' k = sh R k) := by
  have hN := hT.1
  have hnx := t_nx hT hi
  have hi1 : i + 1 ≤ N := hi
  have hj2 : min (i + 1 + 1) N ≤ N := by omega
  obtain ⟨f1, k1, x1, e1, e2, e3, -, e5, e6⟩ := rd_farm hT hW (f := 0) (i := i + 1) (a := i + 1) ⟨hi1, hi1, fun _ => rfl⟩ (by decide) hn hNM hr0
  obtain ⟨f2, k2, f3, a3, tw, s1, s2, s3, s4, s5, s6, s7, s8⟩ := two_tail hT hW hi1 hn hNM hr0 (l1 := 74) (l2 := 1) (x1 := x1) (o := 74) (k1 := k1) (both := true) (f := f1) (fun _ => ⟨rfl, Or.inl rfl⟩) rfl e3 (fun q => by have := e6 q; exact ⟨this.2.1, this.1, this.2.2⟩) (fun k _ _ _ h q => h (by rw [q]; decide)) (fun k _ q hk h => by
    have hk1 := (e6 q).1
    rcases hX.2.1 k1 k (by omega) (by omega) with z | ⟨-, -, -, h', z1, z2, -⟩
    · exact z
    · have z2 : R (1000 + (74 + 6 * k1 + k)) = nI (h' + 1) := z2
      rw [z2] at h
      exact absurd h (nI_nle (by omega) (by omega)))
  have hk1 : k1 < 6 := by omega
  have hk2 : k2 < 6 := by omega
  -- the class up to its third word
  have hcl : f_X7_readFence sg (nI len) (nI n) nc (nI 0) (nI (A (i))) (nI (P (i))) (W (i)) (U (i)) (G (i)) (E (i)) fences fenced heights = f_X7_readFence_B46 sg (nI len) (nI n) nc (nI f3) (nI (A (min (i + 1 + 1) N))) (nI (P (min (i + 1 + 1) N))) (W (min (i + 1 + 1) N)) (U (min (i + 1 + 1) N)) (G (min (i + 1 + 1) N)) (E (min (i + 1 + 1) N)) fences fenced heights (nI k1) (nI k2) := by
    have b41 : f_X7_readFence_B41 sg (nI len) (nI n) nc (nI f2) (nI (A (min (i + 1 + 1) N))) (nI (P (min (i + 1 + 1) N))) (W (min (i + 1 + 1) N)) (U (min (i + 1 + 1) N)) (G (min (i + 1 + 1) N)) (E (min (i + 1 + 1) N)) fences fenced heights (nI k1) (nI k2) = f_X7_readFence_B46 sg (nI len) (nI n) nc (nI (rf f2 3 (P (min (i + 1 + 1) N)))) (nI (A (min (i + 1 + 1) N))) (nI (P (min (i + 1 + 1) N))) (W (min (i + 1 + 1) N)) (U (min (i + 1 + 1) N)) (G (min (i + 1 + 1) N)) (E (min (i + 1 + 1) N)) fences fenced heights (nI k1) (nI k2) := by
      unfold f_X7_readFence_B41
      rw [t_ref hT hj2 (by omega) (x := 3) (k := 3) rfl, bd_s]
    unfold f_X7_readFence
    rw [hnx, bd_s]
    dsimp only
    rw [e1, bd_s]
    dsimp only
    rw [t_next hT hi1, bd_s]
    dsimp only
    rw [s1, bd_s]
    dsimp only
    by_cases hk : k1 = k2
    · rw [if_pos (by rw [hk]), b41, s5 (Or.inl hk)]
    · rw [if_neg (by rw [i_eq (by omega) (by omega)]; exact hk)]
      unfold f_X5_haveFence
      rw [g_nI hk1 (by decide)]
      by_cases hb : sh R (74 + 6 * k1 + k2) ≠ 0
      · rw [if_pos ((have_ok hX hk1 hk2).mpr hb), bd_s, if_neg z10, b41, s5 (Or.inr ⟨rfl, hb⟩)]
      · rw [if_neg (fun q => hb ((have_ok hX hk1 hk2).mp q)), bd_s, if_pos z00, s6 (fun q => q.elim hk (fun z => hb z.2))]
  obtain ⟨f4, i4, a4, c4, r4, x4, y4, z4, w4⟩ := rd_num hT s7.1 s7.2.1 (x := 99) (m := 99) rfl (by decide)
  obtain ⟨f5, i5, a5, x5, y5, z5, w5⟩ := rd_sign hT z4.1 z4.2.1 (c := 59) (by unfold isS; omega) (x := 59) rfl
  have hcl2 : f_X7_readFence_B46 sg (nI len) (nI n) nc (nI f3) (nI (A (min (i + 1 + 1) N))) (nI (P (min (i + 1 + 1) N))) (W (min (i + 1 + 1) N)) (U (min (i + 1 + 1) N)) (G (min (i + 1 + 1) N)) (E (min (i + 1 + 1) N)) fences fenced heights (nI k1) (nI k2) = if nI f5 = 0 then (bd_ (f_X5_addFence fences fenced heights (nI k1) (nI k2) c4) fun (mt_fences_1, mt_fenced_1, mt_heights_1) => (some (nI f5, nI (A (i5)), nI (P (i5)), W (i5), U (i5), G (i5), E (i5), mt_fences_1, mt_fenced_1, mt_heights_1))) else some (nI f5, nI (A (i5)), nI (P (i5)), W (i5), U (i5), G (i5), E (i5), fences, fenced, heights) := by
    unfold f_X7_readFence_B46
    rw [t_next hT hj2, bd_s]
    dsimp only
    rw [x4, bd_s]
    dsimp only
    rw [x5, bd_s]
  have hrf : ∀ x, f_X11_readPair_B42 so pl va words nr (nI a4) (nI f4) R 74 tw (1 + r4) = x → f_X11_readPair so pl va words nr (nI i) (nI 0) R = x := by
    intro x hx
    unfold f_X11_readPair f_X11_readPair_B17
    rw [t_isW1 hT hW (by omega) (f := 0) (by decide) (w := 4) (by decide) (x := 4) rfl rfl hw, bd_s, if_neg z10, takeTwo_P hT e2, s4, bd_s]
    dsimp only
    rw [if_neg z10, y4, bd_s]
    exact hx
  have hadv : ADV N 0 i f5 i5 a5 := ⟨z5.1, z5.2.1, fun q => absurd rfl q, by have := s7.2.2.2; have := z4.2.2.2; have := z5.2.2.2; omega⟩
  by_cases h4 : f4 = 0
  · have h3 := z4.z h4
    obtain ⟨g1, g2, g3, g4, g5, g6⟩ := s8 h3
    obtain ⟨g7, v, v1, v2, v3, -⟩ := w4 h4
    have hz0 : sh R (74 + 6 * k1 + k2) = 0 := g5 rfl
    have hz1 : sh R (74 + 6 * k2 + k1) = 0 := by rw [← hX.2.2 k1 k2 hk1 hk2]; exact hz0
    have hz : (1 : Int32) + r4 = nI (v + 1) := by
      rw [v3, show (1 : Int32) = nI 1 from rfl, i_add]
      exact congrArg nI (by omega)
    have hB42 : f_X11_readPair_B42 so pl va words nr (nI a4) (nI f4) R 74 tw (1 + r4) = some (nI a4, nI f4, upd (upd R (1000 + (74 + 6 * k1 + k2)) (nI (v + 1))) (1000 + (74 + 6 * k2 + k1)) (nI (v + 1))) := by
      unfold f_X11_readPair_B42
      have q1 : ((1000 : Int32) + 74) + tw = nI (1000 + (74 + 6 * k1 + k2)) := by
        rw [g1, show (1000 : Int32) = nI 1000 from rfl, show (74 : Int32) = nI 74 from rfl, i_add, i_add]
        exact congrArg nI (by omega)
      have q2 : (((1000 : Int32) + 74) + (6 * (tw - tw / 6 * 6))) + (tw / 6) = nI (1000 + (74 + 6 * k2 + k1)) := by
        obtain ⟨u1, u2⟩ := d6 k1 hk1 k2 hk2
        rw [g1, u2, u1, show (1000 : Int32) = nI 1000 from rfl, show (74 : Int32) = nI 74 from rfl, show (6 : Int32) = nI 6 from rfl, i_mul, i_add, i_add, i_add]
        exact congrArg nI (by omega)
      rw [if_pos (by rw [h4]; rfl), q1, q2, g_nI (by omega) (by decide), lt_r, g_nI (by omega) (by decide), lt_r, hz, ix_nI (by omega), ix_nI (by omega)]
    have hfr : ∀ k, k < 1000 ∨ 2000 ≤ k → upd (upd R (1000 + (74 + 6 * k1 + k2)) (nI (v + 1))) (1000 + (74 + 6 * k2 + k1)) (nI (v + 1)) k = R k := by
      intro k hk
      rw [u_n (by omega), u_n (by omega)]
    by_cases h5 : f5 = 0
    · refine ⟨f5, i5, a4, f4, a5, fences + 1, upd (upd fenced k1 (fenced k1 ||| (1 <<< (nI k2 &&& 31)))) k2 (fenced k2 ||| (1 <<< (nI k1 &&& 31))), upd (upd heights (6 * k1 + k2) c4) (6 * k2 + k1) c4, _, ?_, hrf _ hB42, y5, hadv, hfr, fun _ => ⟨Nat.lt_of_lt_of_le (Nat.lt_succ_self i) (Nat.le_trans s7.2.2.2 (Nat.le_trans z4.2.2.2 (Nat.le_trans z5.2.2.2 (Nat.le_of_eq (z5.1.2.2 h5))))), ?_, ?_, fun k hk => ?_⟩⟩
      · rw [hcl, hcl2, if_pos (by rw [h5]; rfl)]
        unfold f_X5_addFence
        have q1 : (nI k1 * 6) + nI k2 = nI (6 * k1 + k2) := by
          rw [show (6 : Int32) = nI 6 from rfl, i_mul, i_add]
          exact congrArg nI (by omega)
        have q2 : (nI k2 * 6) + nI k1 = nI (6 * k2 + k1) := by
          rw [show (6 : Int32) = nI 6 from rfl, i_mul, i_add]
          exact congrArg nI (by omega)
        rw [q1, q2, g_nI hk1 (by decide), g_nI hk1 (by decide), lt_r, g_nI hk2 (by decide), g_nI hk2 (by decide), lt_r, g_nI (by omega) (by decide), lt_r, g_nI (by omega) (by decide), lt_r, lt_r, bd_s, ix_nI (by omega), ix_nI (by omega), ix_nI (by omega), ix_nI (by omega), u_n (show k2 ≠ k1 by omega)]
      · rw [sh_u, sh_u]
        refine hX.add g2 g3 hn g4 (nI_ne0 (by omega) (by omega)) ⟨v, v1, rfl, ?_⟩ ⟨v, v1, rfl, ?_⟩ (fun c e x n1 n2 hc he hx => ?_)
        · rw [u_n (by omega), u_s, v2]
        · rw [u_s, v2]
        · obtain ⟨h, p1, p2, p3⟩ := hx
          exact ⟨h, p1, p2, by rw [u_n (by omega), u_n (by omega)]; exact p3⟩
      · rw [sh_u, sh_u]
        exact hC.add hk1 hk2 g4 (nI_nle (by omega) (by omega)) hz0 hz1
      · rw [sh_u, sh_u, u_n (by omega), u_n (by omega)]
    · refine ⟨f5, i5, a4, f4, a5, fences, fenced, heights, _, ?_, hrf _ hB42, y5, hadv, hfr, fun q => absurd q h5⟩
      rw [hcl, hcl2, if_neg (nI_ne0 (by omega) (by have := z5.2.1; omega))]
  · have h5 : f5 ≠ 0 := fun q => h4 (z5.z q)
    refine ⟨f5, i5, a4, f4, a5, fences, fenced, heights, R, ?_, hrf _ ?_, y5, hadv, fun _ _ => rfl, fun q => absurd q h5⟩
    · rw [hcl, hcl2, if_neg (nI_ne0 (by omega) (by have := z5.2.1; omega))]
    · unfold f_X11_readPair_B42
      rw [if_neg (nI_ne0 (by omega) (by have := z4.2.1; omega))]
theorem ln_pact (hT : TKS sg len N so pl va A P W U G E) (hW : HW words) (hi : i < N) (hw : W i = cw 5) {R : Nat → Int32} {n : Nat} {nc nr : Nat → Int64} (hn : n ≤ 6) (hNM : NMR n nc nr) (hr0 : R 1000 = nI n) {pacts : Nat → Int32} (hX : DX 110 (sh R) n pacts (fun _ _ x => x = 1)) :
    ∃ (f' i' b fb a' : Nat) (pacts' R' : Nat → Int32),
      f_X7_readPact sg (nI len) (nI n) nc (nI 0) (nI (A (i))) (nI (P (i))) (W (i)) (U (i)) (G (i)) (E (i)) pacts = some (nI f', nI (A (i')), nI (P (i')), W (i'), U (i'), G (i'), E (i'), pacts') ∧
      f_X11_readPair so pl va words nr (nI i) (nI 0) R = some (nI b, nI fb, R') ∧ f_X11_takeSign so pl va (nI b) (nI fb) 59 = some (nI a', nI f') ∧ ADV N 0 i f' i' a' ∧ (∀ k, k < 1000 ∨ 2000 ≤ k → R' k = R k) ∧
      (f' = 0 → i < i' ∧ DX 110 (sh R') n pacts' (fun _ _ x => x = 1) ∧ ∀ k, ¬ (110 ≤ k ∧ k < 146) → sh R' k = sh R k) := by
  have hN := hT.1
  have hnx := t_nx hT hi
  have hi1 : i + 1 ≤ N := hi
  have hj2 : min (i + 1 + 1) N ≤ N := by omega
  obtain ⟨f1, k1, x1, e1, e2, e3, -, e5, e6⟩ := rd_farm hT hW (f := 0) (i := i + 1) (a := i + 1) ⟨hi1, hi1, fun _ => rfl⟩ (by decide) hn hNM hr0
  obtain ⟨f2, k2, f3, a3, tw, s1, s2, s3, s4, s5, s6, s7, s8⟩ := two_tail hT hW hi1 hn hNM hr0 (l1 := 110) (l2 := 1) (x1 := x1) (o := 110) (k1 := k1) (both := true) (f := f1) (fun _ => ⟨rfl, Or.inr rfl⟩) rfl e3 (fun q => by have := e6 q; exact ⟨this.2.1, this.1, this.2.2⟩) (fun k _ _ _ h q => h (by rw [q]; decide)) (fun k _ q hk h => by
    have hk1 := (e6 q).1
    rcases hX.2.1 k1 k (by omega) (by omega) with z | ⟨-, -, -, z2⟩
    · exact z
    · have z2 : R (1000 + (110 + 6 * k1 + k)) = 1 := z2
      rw [z2] at h
      exact absurd h (by decide))
  have hk1 : k1 < 6 := by omega
  have hk2 : k2 < 6 := by omega
  have hcl : f_X7_readPact sg (nI len) (nI n) nc (nI 0) (nI (A (i))) (nI (P (i))) (W (i)) (U (i)) (G (i)) (E (i)) pacts = f_X7_readPact_B46 sg (nI len) (nI n) nc (nI f3) (nI (A (min (i + 1 + 1) N))) (nI (P (min (i + 1 + 1) N))) (W (min (i + 1 + 1) N)) (U (min (i + 1 + 1) N)) (G (min (i + 1 + 1) N)) (E (min (i + 1 + 1) N)) pacts (nI k1) (nI k2) := by
    have b41 : f_X7_readPact_B41 sg (nI len) (nI n) nc (nI f2) (nI (A (min (i + 1 + 1) N))) (nI (P (min (i + 1 + 1) N))) (W (min (i + 1 + 1) N)) (U (min (i + 1 + 1) N)) (G (min (i + 1 + 1) N)) (E (min (i + 1 + 1) N)) pacts (nI k1) (nI k2) = f_X7_readPact_B46 sg (nI len) (nI n) nc (nI (rf f2 3 (P (min (i + 1 + 1) N)))) (nI (A (min (i + 1 + 1) N))) (nI (P (min (i + 1 + 1) N))) (W (min (i + 1 + 1) N)) (U (min (i + 1 + 1) N)) (G (min (i + 1 + 1) N)) (E (min (i + 1 + 1) N)) pacts (nI k1) (nI k2) := by
      unfold f_X7_readPact_B41
      rw [t_ref hT hj2 (by omega) (x := 3) (k := 3) rfl, bd_s]
    unfold f_X7_readPact
    rw [hnx, bd_s]
    dsimp only
    rw [e1, bd_s]
    dsimp only
    rw [t_next hT hi1, bd_s]
    dsimp only
    rw [s1, bd_s]
    dsimp only
    by_cases hk : k1 = k2
    · rw [if_pos (by rw [hk]), b41, s5 (Or.inl hk)]
    · rw [if_neg (by rw [i_eq (by omega) (by omega)]; exact hk)]
      unfold f_X5_havePact
      rw [g_nI hk1 (by decide)]
      by_cases hb : sh R (110 + 6 * k1 + k2) ≠ 0
      · rw [if_pos ((have_ok hX hk1 hk2).mpr hb), bd_s, if_neg z10, b41, s5 (Or.inr ⟨rfl, hb⟩)]
      · rw [if_neg (fun q => hb ((have_ok hX hk1 hk2).mp q)), bd_s, if_pos z00, s6 (fun q => q.elim hk (fun z => hb z.2))]
  obtain ⟨f5, i5, a5, x5, y5, z5, w5⟩ := rd_sign hT s7.1 s7.2.1 (c := 59) (by unfold isS; omega) (x := 59) rfl
  have hcl2 : f_X7_readPact_B46 sg (nI len) (nI n) nc (nI f3) (nI (A (min (i + 1 + 1) N))) (nI (P (min (i + 1 + 1) N))) (W (min (i + 1 + 1) N)) (U (min (i + 1 + 1) N)) (G (min (i + 1 + 1) N)) (E (min (i + 1 + 1) N)) pacts (nI k1) (nI k2) = if nI f5 = 0 then (bd_ (f_X5_addPact pacts (nI k1) (nI k2)) fun mt_pacts_1 => (some (nI f5, nI (A (i5)), nI (P (i5)), W (i5), U (i5), G (i5), E (i5), mt_pacts_1))) else some (nI f5, nI (A (i5)), nI (P (i5)), W (i5), U (i5), G (i5), E (i5), pacts) := by
    unfold f_X7_readPact_B46
    rw [t_next hT hj2, bd_s]
    dsimp only
    rw [x5, bd_s]
  have hnw : ¬ W i = cw 4 := fun q => absurd (cw_inj 5 (by decide) 4 (by decide) (hw.symm.trans q)) (by decide)
  have hrf : ∀ x, f_X11_readPair_B42 so pl va words nr (nI a3) (nI f3) R 110 tw 1 = x → f_X11_readPair so pl va words nr (nI i) (nI 0) R = x := by
    intro x hx
    unfold f_X11_readPair f_X11_readPair_B17
    rw [t_isW0 hT hW (by omega) (f := 0) (by decide) (w := 4) (by decide) (x := 4) rfl (fun q => hnw q.2), bd_s, if_pos z00, takeTwo_P hT e2, s4, bd_s]
    dsimp only
    rw [if_pos z00]
    exact hx
  have hadv : ADV N 0 i f5 i5 a5 := ⟨z5.1, z5.2.1, fun q => absurd rfl q, by have := s7.2.2.2; have := z5.2.2.2; omega⟩
  by_cases h3 : f3 = 0
  · obtain ⟨g1, g2, g3, g4, g5, g6⟩ := s8 h3
    have hB42 : f_X11_readPair_B42 so pl va words nr (nI a3) (nI f3) R 110 tw 1 = some (nI a3, nI f3, upd (upd R (1000 + (110 + 6 * k1 + k2)) 1) (1000 + (110 + 6 * k2 + k1)) 1) := by
      unfold f_X11_readPair_B42
      have q1 : ((1000 : Int32) + 110) + tw = nI (1000 + (110 + 6 * k1 + k2)) := by
        rw [g1, show (1000 : Int32) = nI 1000 from rfl, show (110 : Int32) = nI 110 from rfl, i_add, i_add]
        exact congrArg nI (by omega)
      have q2 : (((1000 : Int32) + 110) + (6 * (tw - tw / 6 * 6))) + (tw / 6) = nI (1000 + (110 + 6 * k2 + k1)) := by
        obtain ⟨u1, u2⟩ := d6 k1 hk1 k2 hk2
        rw [g1, u2, u1, show (1000 : Int32) = nI 1000 from rfl, show (110 : Int32) = nI 110 from rfl, show (6 : Int32) = nI 6 from rfl, i_mul, i_add, i_add, i_add]
        exact congrArg nI (by omega)
      rw [if_pos (by rw [h3]; rfl), q1, q2, g_nI (by omega) (by decide), lt_r, g_nI (by omega) (by decide), lt_r, ix_nI (by omega), ix_nI (by omega)]
    have hfr : ∀ k, k < 1000 ∨ 2000 ≤ k → upd (upd R (1000 + (110 + 6 * k1 + k2)) 1) (1000 + (110 + 6 * k2 + k1)) 1 k = R k := by
      intro k hk
      rw [u_n (by omega), u_n (by omega)]
    by_cases h5 : f5 = 0
    · refine ⟨f5, i5, a3, f3, a5, upd (upd pacts k1 (pacts k1 ||| (1 <<< (nI k2 &&& 31)))) k2 (pacts k2 ||| (1 <<< (nI k1 &&& 31))), _, ?_, hrf _ hB42, y5, hadv, hfr, fun _ => ⟨by have := (w5 h5).2; omega, ?_, fun k hk => ?_⟩⟩
      rotate_left
      · rw [sh_u, sh_u]
        exact hX.add g2 g3 hn g4 (by decide) rfl rfl (fun c e x n1 n2 hc he hx => hx)
      · rw [sh_u, sh_u, u_n (by omega), u_n (by omega)]
      · rw [hcl, hcl2, if_pos (by rw [h5]; rfl)]
        unfold f_X5_addPact
        rw [g_nI hk1 (by decide), g_nI hk1 (by decide), lt_r, g_nI hk2 (by decide), g_nI hk2 (by decide), lt_r, bd_s, ix_nI (by omega), ix_nI (by omega), u_n (show k2 ≠ k1 by omega)]
    · refine ⟨f5, i5, a3, f3, a5, pacts, _, ?_, hrf _ hB42, y5, hadv, hfr, fun q => absurd q h5⟩
      rw [hcl, hcl2, if_neg (nI_ne0 (by omega) (by have := z5.2.1; omega))]
  · have h5 : f5 ≠ 0 := fun q => h3 (z5.z q)
    refine ⟨f5, i5, a3, f3, a5, pacts, R, ?_, hrf _ ?_, y5, hadv, fun _ _ => rfl, fun q => absurd q h5⟩
    · rw [hcl, hcl2, if_neg (nI_ne0 (by omega) (by have := z5.2.1; omega))]
    · unfold f_X11_readPair_B42
      rw [if_neg (nI_ne0 (by omega) (by have := s7.2.1; omega))]
theorem ln_share (hT : TKS sg len N so pl va A P W U G E) (hW : HW words) (hi : i < N) {R : Nat → Int32} {n : Nat} {nc nr : Nat → Int64} (hn : n ≤ 6) (hNM : NMR n nc nr) (hr0 : R 1000 = nI n) {shares : Int32} {partner : Nat → Int32} (hD : DP (sh R) n partner shares) :
    ∃ (f' i' b fb a' : Nat) (shares' : Int32) (partner' R' : Nat → Int32),
      f_X7_readShare sg (nI len) (nI n) nc (nI 0) (nI (A (i))) (nI (P (i))) (W (i)) (U (i)) (G (i)) (E (i)) shares partner = some (nI f', nI (A (i')), nI (P (i')), W (i'), U (i'), G (i'), E (i'), shares', partner') ∧
      f_X11_readShare so pl va words nr (nI i) (nI 0) R = some (nI b, nI fb, R') ∧ f_X11_takeSign so pl va (nI b) (nI fb) 59 = some (nI a', nI f') ∧ ADV N 0 i f' i' a' ∧ (∀ k, k < 1000 ∨ 2000 ≤ k → R' k = R k) ∧
      (f' = 0 → i < i' ∧ DP (sh R') n partner' shares' ∧ ∀ k, ¬ (8 ≤ k ∧ k < 50 ∧ (k - 8) % 7 = 6) → sh R' k = sh R k) := by
  have hN := hT.1
  have hnx := t_nx hT hi
  have hi1 : i + 1 ≤ N := hi
  have hj2 : min (i + 1 + 1) N ≤ N := by omega
  have hP1 := t_P hT hi1
  obtain ⟨f1, k1, x1, e1, e2, e3, -, e5, e6⟩ := rd_farm hT hW (f := 0) (i := i + 1) (a := i + 1) ⟨hi1, hi1, fun _ => rfl⟩ (by decide) hn hNM hr0
  have hk1 : k1 < 6 := by omega
  have hpn := hD.1 k1 hk1
  have hpt : partner k1 = -1 ↔ sh R (14 + 7 * k1) = 0 := by
    rcases hpn with ⟨p1, p2⟩ | ⟨e, p0, p1, p2, p3⟩
    · rw [p1, p2]; exact ⟨fun _ => rfl, fun _ => rfl⟩
    · rw [p2, p3]
      exact ⟨fun q => absurd q (nI_m1 (by omega)), fun q => absurd q (nI_ne0 (by omega) (by omega))⟩
  have hple : sh R (14 + 7 * k1) ≤ 0 ↔ sh R (14 + 7 * k1) = 0 := by
    rcases hpn with ⟨p1, p2⟩ | ⟨e, p0, p1, p2, p3⟩
    · rw [p1]; exact ⟨fun _ => rfl, fun _ => by decide⟩
    · rw [p2]
      exact ⟨fun q => absurd q (nI_nle (by omega) (by omega)), fun q => absurd q (nI_ne0 (by omega) (by omega))⟩
  -- the fault behind the first name, of both
  obtain ⟨fx, hfx, hx1, hx2, hx3⟩ : ∃ fx, fx ≤ 20000 ∧ (fx = 0 → f1 = 0 ∧ sh R (14 + 7 * k1) = 0) ∧ (f_X7_readShare sg (nI len) (nI n) nc (nI 0) (nI (A (i))) (nI (P (i))) (W (i)) (U (i)) (G (i)) (E (i)) shares partner = f_X7_readShare_B30 sg (nI len) (nI n) nc (nI fx) (nI (A (i + 1))) (nI (P (i + 1))) (W (i + 1)) (U (i + 1)) (G (i + 1)) (E (i + 1)) shares partner (nI k1)) ∧ (f_X11_takeTwo so pl va words R nr (nI i) (nI 0) (-1) 0 = f_X11_takeTwo_B50 so pl va words R nr (nI (i + 1)) (nI fx) (-1) 0 x1) := by
    have hc : f_X7_readShare sg (nI len) (nI n) nc (nI 0) (nI (A (i))) (nI (P (i))) (W (i)) (U (i)) (G (i)) (E (i)) shares partner = if partner k1 = -1 then f_X7_readShare_B30 sg (nI len) (nI n) nc (nI f1) (nI (A (i + 1))) (nI (P (i + 1))) (W (i + 1)) (U (i + 1)) (G (i + 1)) (E (i + 1)) shares partner (nI k1) else f_X7_readShare_B30 sg (nI len) (nI n) nc (nI (rf f1 3 (P (i + 1)))) (nI (A (i + 1))) (nI (P (i + 1))) (W (i + 1)) (U (i + 1)) (G (i + 1)) (E (i + 1)) shares partner (nI k1) := by
      unfold f_X7_readShare
      rw [hnx, bd_s]
      dsimp only
      rw [e1, bd_s]
      dsimp only
      rw [g_nI hk1 (by decide), ix_nI (by omega), t_ref hT hi1 (by omega) (x := 3) (k := 3) rfl, bd_s]
    have hr : f_X11_takeTwo so pl va words R nr (nI i) (nI 0) (-1) 0 = (if nI f1 = 0 then (g_in ((1008 + (7 * x1)) + 6) 7000 (if (R (ix ((1008 + (7 * x1)) + 6))) ≤ 0 then (f_X11_takeTwo_B50 so pl va words R nr (nI (i + 1)) (nI f1) (-1) 0 x1) else (f_X11_takeTwo_B50 so pl va words R nr (nI (i + 1)) (nI (rf f1 3 (P (i + 1)))) (-1) 0 x1))) else (f_X11_takeTwo_B50 so pl va words R nr (nI (i + 1)) (nI f1) (-1) 0 x1)) := by
      unfold f_X11_takeTwo
      rw [lt_r, ← nI_succ, e2, bd_s]
      dsimp only
      rw [if_pos z00, t_wrg hT hi1 (by omega) (x := 3) (k := 3) rfl, bd_s]
    by_cases h0 : f1 = 0
    · obtain ⟨g1, g2, g3⟩ := e6 h0
      subst h0
      have hidx : (1008 + (7 * x1)) + 6 = nI (1000 + (14 + 7 * k1)) := by
        rw [g2, show (1008 : Int32) = nI 1008 from rfl, show (7 : Int32) = nI 7 from rfl, show (6 : Int32) = nI 6 from rfl, i_mul, i_add, i_add]
        exact congrArg nI (by omega)
      rw [if_pos (show nI 0 = 0 from rfl), hidx, g_nI (by omega) (by decide), ix_nI (by omega)] at hr
      by_cases hz : sh R (14 + 7 * k1) = 0
      · rw [if_pos (hpt.mpr hz)] at hc
        rw [if_pos (show R (1000 + (14 + 7 * k1)) ≤ 0 from hple.mpr hz)] at hr
        exact ⟨0, by decide, fun _ => ⟨rfl, hz⟩, hc, hr⟩
      · rw [if_neg (fun q => hz (hpt.mp q))] at hc
        rw [if_neg (show ¬ R (1000 + (14 + 7 * k1)) ≤ 0 from fun q => hz (hple.mp q))] at hr
        exact ⟨rf 0 3 (P (i + 1)), rf_le (by decide) (by decide) hP1, fun q => absurd q (rf_nz (by decide)), hc, hr⟩
    · rw [rf_keep h0, ite_self] at hc
      rw [if_neg (nI_ne0 (by omega) (by omega))] at hr
      exact ⟨f1, e3, fun q => absurd q h0, hc, hr⟩
  obtain ⟨f2, k2, f3, a3, tw, s1, s2, s3, s4, s5, s6, s7, s8⟩ := two_tail hT hW hi1 hn hNM hr0 (l1 := -1) (l2 := 0) (x1 := x1) (o := 0) (k1 := k1) (both := false) (f := fx) (fun q => absurd q (by decide)) rfl hfx (fun q => by have := e6 (hx1 q).1; exact ⟨this.2.1, this.1, this.2.2⟩) (fun k q => absurd q (by decide)) (fun k q => absurd q (by decide))
  have hk2 : k2 < 6 := by omega
  have hcl : f_X7_readShare sg (nI len) (nI n) nc (nI 0) (nI (A (i))) (nI (P (i))) (W (i)) (U (i)) (G (i)) (E (i)) shares partner = f_X7_readShare_B52 sg (nI len) (nI n) nc (nI f3) (nI (A (min (i + 1 + 1) N))) (nI (P (min (i + 1 + 1) N))) (W (min (i + 1 + 1) N)) (U (min (i + 1 + 1) N)) (G (min (i + 1 + 1) N)) (E (min (i + 1 + 1) N)) shares partner (nI k1) (nI k2) := by
    rw [hx2]
    unfold f_X7_readShare_B30
    rw [t_next hT hi1, bd_s]
    dsimp only
    rw [s1, bd_s]
    dsimp only
    by_cases hk : k1 = k2
    · rw [if_pos (by rw [hk]), t_ref hT hj2 (by omega) (x := 3) (k := 3) rfl, bd_s, s5 (Or.inl hk)]
    · rw [if_neg (by rw [i_eq (by omega) (by omega)]; exact hk), s6 (fun q => q.elim hk (fun z => absurd z.1 (by decide)))]
  obtain ⟨f5, i5, a5, x5, y5, z5, w5⟩ := rd_sign hT s7.1 s7.2.1 (c := 59) (by unfold isS; omega) (x := 59) rfl
  have hcl2 : f_X7_readShare_B52 sg (nI len) (nI n) nc (nI f3) (nI (A (min (i + 1 + 1) N))) (nI (P (min (i + 1 + 1) N))) (W (min (i + 1 + 1) N)) (U (min (i + 1 + 1) N)) (G (min (i + 1 + 1) N)) (E (min (i + 1 + 1) N)) shares partner (nI k1) (nI k2) = if nI f5 = 0 then (bd_ (f_X5_addShare shares partner (nI k1) (nI k2)) fun (mt_shares_1, mt_partner_1) => (some (nI f5, nI (A (i5)), nI (P (i5)), W (i5), U (i5), G (i5), E (i5), mt_shares_1, mt_partner_1))) else some (nI f5, nI (A (i5)), nI (P (i5)), W (i5), U (i5), G (i5), E (i5), shares, partner) := by
    unfold f_X7_readShare_B52
    rw [t_next hT hj2, bd_s]
    dsimp only
    rw [x5, bd_s]
  have hadv : ADV N 0 i f5 i5 a5 := ⟨z5.1, z5.2.1, fun q => absurd rfl q, by have := s7.2.2.2; have := z5.2.2.2; omega⟩
  by_cases h3 : f3 = 0
  · obtain ⟨g1, g2, g3, g4, g5, g6⟩ := s8 h3
    have hz := (hx1 (s7.z h3)).2
    have hR : f_X11_readShare so pl va words nr (nI i) (nI 0) R = some (nI a3, nI f3, upd R (1000 + (14 + 7 * k1)) (nI (k2 + 1))) := by
      unfold f_X11_readShare
      rw [hx3, s4, bd_s]
      dsimp only
      obtain ⟨u1, u2⟩ := d6 k1 hk1 k2 hk2
      have q1 : (1008 + (7 * (tw / 6))) + 6 = nI (1000 + (14 + 7 * k1)) := by
        rw [g1, u1, show (1008 : Int32) = nI 1008 from rfl, show (7 : Int32) = nI 7 from rfl, show (6 : Int32) = nI 6 from rfl, i_mul, i_add, i_add]
        exact congrArg nI (by omega)
      have q2 : 1 + (tw - tw / 6 * 6) = nI (k2 + 1) := by
        rw [g1, u2, show (1 : Int32) = nI 1 from rfl, i_add]
        exact congrArg nI (by omega)
      rw [if_pos (by rw [h3]; rfl), q1, q2, g_nI (by omega) (by decide), lt_r, ix_nI (by omega)]
    have hfr : ∀ k, k < 1000 ∨ 2000 ≤ k → upd R (1000 + (14 + 7 * k1)) (nI (k2 + 1)) k = R k := by
      intro k hk
      rw [u_n (by omega)]
    by_cases h5 : f5 = 0
    · refine ⟨f5, i5, a3, f3, a5, shares + 1, upd partner k1 (nI k2), _, ?_, hR, y5, hadv, hfr, fun _ => ⟨by have := (w5 h5).2; omega, ?_, fun k hk => ?_⟩⟩
      · rw [hcl, hcl2, if_pos (by rw [h5]; rfl)]
        unfold f_X5_addShare
        rw [g_nI hk1 (by decide), lt_r, lt_r, bd_s, ix_nI (by omega)]
      · rw [sh_u]
        exact hD.add g2 g3 hn hz
      · rw [sh_u, u_n (by omega)]
    · refine ⟨f5, i5, a3, f3, a5, shares, partner, _, ?_, hR, y5, hadv, hfr, fun q => absurd q h5⟩
      rw [hcl, hcl2, if_neg (nI_ne0 (by omega) (by have := z5.2.1; omega))]
  · have h5 : f5 ≠ 0 := fun q => h3 (z5.z q)
    refine ⟨f5, i5, a3, f3, a5, shares, partner, R, ?_, ?_, y5, hadv, fun _ _ => rfl, fun q => absurd q h5⟩
    · rw [hcl, hcl2, if_neg (nI_ne0 (by omega) (by have := z5.2.1; omega))]
    · unfold f_X11_readShare
      rw [hx3, s4, bd_s]
      dsimp only
      rw [if_neg (nI_ne0 (by omega) (by have := s7.2.1; omega))]
end LP2
