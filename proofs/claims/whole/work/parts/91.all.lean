/-! PURE 42: any line, all lines (src/t91.lean through gen/tmpl.py) -/
/-- what is read so far, of both -/
def DR (T o ar : Nat → Int32) (i c : Nat) (nr : Nat → Int64) (n : Nat) (fc sh_ : Int32) (nc : Nat → Int64) (fo do_ hu fd he pa pt of : Nat → Int32) (fek fel fer : Nat → Int32) (fes : Int32) (gok gol gor : Nat → Int32) (gos : Int32) : Prop :=
  DF T n nc nr fo do_ hu ∧ DP T n pt sh_ ∧ DO T of ∧ DX 74 T n fd (hV he) ∧ DX 110 T n pa (fun _ _ x => x = 1) ∧ DC T fc ∧ DZ T ∧ c ≤ i ∧ LD true o ar (T 5) fes fek fel fer c ∧ LD false o ar (T 6) gos gok gol gor c
section LA
variable {sg : Nat → Int32} {len N : Nat} {so pl : Nat → Int32} {va : Nat → Int64} {A P : Nat → Nat} {W : Nat → Int64} {U G E : Nat → Int32} {words : Nat → Int64} {i a f : Nat}
theorem t_E (hT : TKS sg len N so pl va A P W U G E) (hi : i < N) : E i = 0 ∧ so i ≠ 0 := by
  obtain ⟨-, -, -, hk, hz⟩ := hT.2.1 i (by omega)
  refine ⟨?_, fun q => by have := hz.mp q; omega⟩
  rcases hk with ⟨q1, -⟩ | ⟨-, -, -, -, q⟩ | ⟨-, -, -, -, q⟩ | ⟨-, -, -, -, q⟩ | ⟨-, -, -, -, q⟩
  · have := hz.mp q1; omega
  · exact q
  · exact q
  · exact q
  · exact q
theorem t_Ee (hT : TKS sg len N so pl va A P W U G E) : E N = 1 ∧ so N = 0 := by
  obtain ⟨-, -, -, hk, hz⟩ := hT.2.1 N (Nat.le_refl _)
  have h0 := hz.mpr rfl
  refine ⟨?_, h0⟩
  rcases hk with ⟨-, -, -, -, q⟩ | ⟨q, -⟩ | ⟨q, -⟩ | ⟨q, -⟩ | ⟨q, -⟩
  · exact q
  · rw [h0] at q; exact absurd q (by decide)
  · rw [h0] at q; exact absurd q (by decide)
  · rw [h0] at q; exact absurd q (by decide)
  · rw [h0] at q; exact absurd q (by decide)
theorem ln_any (hT : TKS sg len N so pl va A P W U G E) (hW : HW words) {fw gw : Nat → Int32} (hF : HF fw gw) {fe ga : Nat} (hfg : ga ≠ fe) (hi : i < N) {R o ar : Nat → Int32} {c : Nat} {nr : Nat → Int64} {n : Nat} {fc shc : Int32} {nc : Nat → Int64} {fo dg hu fd he pa pt of : Nat → Int32} {td : Int32} {fek fel fer : Nat → Int32} {fes : Int32} {gok gol gor : Nat → Int32} {gos : Int32} (hD : DR (sh R) o ar i c nr n fc shc nc fo dg hu fd he pa pt of fek fel fer fes gok gol gor gos) (lw : Nat) (ofl : Int32) :
    ∃ (f' i' b fb a' c' lw' : Nat) (ofl' tt' : Int32) (n' : Nat) (fc' shc' : Int32) (nc' : Nat → Int64) (fo' dg' hu' fd' he' pa' pt' of' : Nat → Int32) (td' : Int32) (fek' fel' fer' : Nat → Int32) (fes' : Int32) (gok' gol' gor' : Nat → Int32) (gos' : Int32) (nr' : Nat → Int64) (o' ar' R' : Nat → Int32),
      f_X7_readLine sg (nI len) lw (nI 0) (nI (A (i))) (nI (P (i))) (W (i)) (U (i)) (G (i)) (E (i)) (nI n) fc shc nc fo dg hu fd he pa pt of td fek fel fer fes gok gol gor gos fe ga = some (lw', nI f', nI (A (i')), nI (P (i')), W (i'), U (i'), G (i'), E (i'), nI n', fc', shc', nc', fo', dg', hu', fd', he', pa', pt', of', td', fek', fel', fer', fes', gok', gol', gor', gos') ∧
      f_X11_readLine so pl va words fw gw (nI i) (nI 0) R o ar (nI c) nr ofl td = some (nI b, nI fb, R', o', ar', nI c', nr', ofl', tt') ∧ f_X11_takeSign so pl va (nI b) (nI fb) 59 = some (nI a', nI f') ∧ ADV N 0 i f' i' a' ∧ (∀ k, k < 1000 ∨ 2000 ≤ k → R' k = R k) ∧ (∀ k, k < 1100 → o' k = o k ∧ ar' k = ar k) ∧
      (f' = 0 → i < i' ∧ td' = tt' ∧ DR (sh R') o' ar' i' c' nr' n' fc' shc' nc' fo' dg' hu' fd' he' pa' pt' of' fek' fel' fer' fes' gok' gol' gor' gos') := by
  obtain ⟨h1, h2, h3, h4, h5, h6, h7, h8, h9, h10⟩ := hD
  have hn : n ≤ 6 := h1.1
  have hr0 : R 1000 = nI n := h1.2.1
  have hNM := h1.2.2.1
  have hin : i ≤ N := by omega
  have hP := t_P hT hin
  have y0 : W i = cw 0 → f_X11_isWord so va (nI i) (nI 0) words 0 = some 1 := fun h => t_isW1 hT hW hin (f := 0) (by decide) (w := 0) (by decide) (x := 0) rfl rfl h
  have y4 : W i = cw 4 → f_X11_isWord so va (nI i) (nI 0) words 4 = some 1 := fun h => t_isW1 hT hW hin (f := 0) (by decide) (w := 4) (by decide) (x := 4) rfl rfl h
  have y5 : W i = cw 5 → f_X11_isWord so va (nI i) (nI 0) words 5 = some 1 := fun h => t_isW1 hT hW hin (f := 0) (by decide) (w := 5) (by decide) (x := 5) rfl rfl h
  have y6 : W i = cw 6 → f_X11_isWord so va (nI i) (nI 0) words 6 = some 1 := fun h => t_isW1 hT hW hin (f := 0) (by decide) (w := 6) (by decide) (x := 6) rfl rfl h
  have y7 : W i = cw 7 → f_X11_isWord so va (nI i) (nI 0) words 7 = some 1 := fun h => t_isW1 hT hW hin (f := 0) (by decide) (w := 7) (by decide) (x := 7) rfl rfl h
  have y8 : W i = cw 8 → f_X11_isWord so va (nI i) (nI 0) words 8 = some 1 := fun h => t_isW1 hT hW hin (f := 0) (by decide) (w := 8) (by decide) (x := 8) rfl rfl h
  have y9 : W i = cw 9 → f_X11_isWord so va (nI i) (nI 0) words 9 = some 1 := fun h => t_isW1 hT hW hin (f := 0) (by decide) (w := 9) (by decide) (x := 9) rfl rfl h
  have n0 : ¬ W i = cw 0 → f_X11_isWord so va (nI i) (nI 0) words 0 = some 0 := fun h => t_isW0 hT hW hin (f := 0) (by decide) (w := 0) (by decide) (x := 0) rfl (fun q => h q.2)
  have n4 : ¬ W i = cw 4 → f_X11_isWord so va (nI i) (nI 0) words 4 = some 0 := fun h => t_isW0 hT hW hin (f := 0) (by decide) (w := 4) (by decide) (x := 4) rfl (fun q => h q.2)
  have n5 : ¬ W i = cw 5 → f_X11_isWord so va (nI i) (nI 0) words 5 = some 0 := fun h => t_isW0 hT hW hin (f := 0) (by decide) (w := 5) (by decide) (x := 5) rfl (fun q => h q.2)
  have n6 : ¬ W i = cw 6 → f_X11_isWord so va (nI i) (nI 0) words 6 = some 0 := fun h => t_isW0 hT hW hin (f := 0) (by decide) (w := 6) (by decide) (x := 6) rfl (fun q => h q.2)
  have n7 : ¬ W i = cw 7 → f_X11_isWord so va (nI i) (nI 0) words 7 = some 0 := fun h => t_isW0 hT hW hin (f := 0) (by decide) (w := 7) (by decide) (x := 7) rfl (fun q => h q.2)
  have n8 : ¬ W i = cw 8 → f_X11_isWord so va (nI i) (nI 0) words 8 = some 0 := fun h => t_isW0 hT hW hin (f := 0) (by decide) (w := 8) (by decide) (x := 8) rfl (fun q => h q.2)
  have n9 : ¬ W i = cw 9 → f_X11_isWord so va (nI i) (nI 0) words 9 = some 0 := fun h => t_isW0 hT hW hin (f := 0) (by decide) (w := 9) (by decide) (x := 9) rfl (fun q => h q.2)
  unfold f_X7_readLine f_X11_readLine
  rw [c_farm, c_fence, c_pact, c_share, c_tooth, c_feed, c_go]
  by_cases w0 : W i = cw 0
  · obtain ⟨f1, i1, b1, fb1, a1, n1, nc1, nr1, fo1, dg1, hu1, R1, e1, e2, e3, e4, e5, e6⟩ := ln_farm hT hW hi h1
    refine ⟨f1, i1, b1, fb1, a1, c, lw, ofl, td, n1, fc, shc, nc1, fo1, dg1, hu1, fd, he, pa, pt, of, td, fek, fel, fer, fes, gok, gol, gor, gos, nr1, o, ar, R1, ?_, ?_, e3, e4, e5, fun _ _ => ⟨rfl, rfl⟩, fun q => ?_⟩
    · rw [if_pos (lc_eq.mpr w0), e1, bd_s]
    · rw [y0 w0, bd_s, if_neg z10, e2, bd_s]
    · obtain ⟨g1, g2, g3, g4⟩ := e6 q
      subst g2
      refine ⟨g1, rfl, g3, (h2.fr (fun k hk => g4 k (by omega) (by omega))).up, h3.fr (fun k hk => g4 k (by omega) (by omega)), (h4.fr (fun k hk => g4 k (by omega) (by omega))).up, (h5.fr (fun k hk => g4 k (by omega) (by omega))).up, h6.fr (fun k hk => g4 k (by omega) (by omega)), h7.fr (fun k hk => g4 k (by unfold zc at hk; omega) (by unfold zc at hk; omega)), by omega, ?_, ?_⟩
      · rw [g4 5 (by decide) (by decide)]; exact h9
      · rw [g4 6 (by decide) (by decide)]; exact h10
  rw [if_neg (fun q => w0 (lc_eq.mp q)), n0 w0, bd_s, if_pos z00]
  by_cases w4 : W i = cw 4
  · obtain ⟨f1, i1, b1, fb1, a1, fc1, fd1, he1, R1, e1, e2, e3, e4, e5, e6⟩ := ln_fence hT hW hi w4 hn hNM hr0 h4 h6
    refine ⟨f1, i1, b1, fb1, a1, c, lw, ofl, td, n, fc1, shc, nc, fo, dg, hu, fd1, he1, pa, pt, of, td, fek, fel, fer, fes, gok, gol, gor, gos, nr, o, ar, R1, ?_, ?_, e3, e4, e5, fun _ _ => ⟨rfl, rfl⟩, fun q => ?_⟩
    · rw [if_pos (lc_eq.mpr w4), e1, bd_s]
    · rw [y4 w4, bd_s, if_neg z10]
      unfold f_X11_readLine_B31
      rw [e2, bd_s]
    · obtain ⟨g1, g2, g3, g4⟩ := e6 q
      refine ⟨g1, rfl, h1.fr (fun k hk => g4 k (by omega)), h2.fr (fun k hk => g4 k (by omega)), h3.fr (fun k hk => g4 k (by omega)), g2, h5.fr (fun k hk => g4 k (by omega)), g3, h7.fr (fun k hk => g4 k (by unfold zc at hk; omega)), by omega, ?_, ?_⟩
      · rw [g4 5 (by decide)]; exact h9
      · rw [g4 6 (by decide)]; exact h10
  rw [if_neg (fun q => w4 (lc_eq.mp q)), n4 w4, bd_s, if_pos z00]
  by_cases w5 : W i = cw 5
  · obtain ⟨f1, i1, b1, fb1, a1, pa1, R1, e1, e2, e3, e4, e5, e6⟩ := ln_pact hT hW hi w5 hn hNM hr0 h5
    refine ⟨f1, i1, b1, fb1, a1, c, lw, ofl, td, n, fc, shc, nc, fo, dg, hu, fd, he, pa1, pt, of, td, fek, fel, fer, fes, gok, gol, gor, gos, nr, o, ar, R1, ?_, ?_, e3, e4, e5, fun _ _ => ⟨rfl, rfl⟩, fun q => ?_⟩
    · rw [if_pos (lc_eq.mpr w5), e1, bd_s]
    · rw [y5 w5, bd_s, if_neg z10]
      unfold f_X11_readLine_B31
      rw [e2, bd_s]
    · obtain ⟨g1, g2, g4⟩ := e6 q
      refine ⟨g1, rfl, h1.fr (fun k hk => g4 k (by omega)), h2.fr (fun k hk => g4 k (by omega)), h3.fr (fun k hk => g4 k (by omega)), h4.fr (fun k hk => g4 k (by omega)), g2, h6.fr (fun k hk => g4 k (by omega)), h7.fr (fun k hk => g4 k (by unfold zc at hk; omega)), by omega, ?_, ?_⟩
      · rw [g4 5 (by decide)]; exact h9
      · rw [g4 6 (by decide)]; exact h10
  rw [if_neg (fun q => w5 (lc_eq.mp q)), n5 w5, bd_s, if_pos z00]
  by_cases w6 : W i = cw 6
  · obtain ⟨f1, i1, b1, fb1, a1, shc1, pt1, R1, e1, e2, e3, e4, e5, e6⟩ := ln_share hT hW hi hn hNM hr0 h2
    refine ⟨f1, i1, b1, fb1, a1, c, lw, ofl, td, n, fc, shc1, nc, fo, dg, hu, fd, he, pa, pt1, of, td, fek, fel, fer, fes, gok, gol, gor, gos, nr, o, ar, R1, ?_, ?_, e3, e4, e5, fun _ _ => ⟨rfl, rfl⟩, fun q => ?_⟩
    · rw [if_pos (lc_eq.mpr w6), e1, bd_s]
    · rw [y6 w6, bd_s, if_neg z10, e2, bd_s]
    · obtain ⟨g1, g2, g4⟩ := e6 q
      refine ⟨g1, rfl, h1.fr (fun k hk => g4 k (by omega)), g2, h3.fr (fun k hk => g4 k (by omega)), h4.fr (fun k hk => g4 k (by omega)), h5.fr (fun k hk => g4 k (by omega)), h6.fr (fun k hk => g4 k (by omega)), h7.fr (fun k hk => g4 k (by unfold zc at hk; omega)), by omega, ?_, ?_⟩
      · rw [g4 5 (by decide)]; exact h9
      · rw [g4 6 (by decide)]; exact h10
  rw [if_neg (fun q => w6 (lc_eq.mp q)), n6 w6, bd_s, if_pos z00]
  by_cases w7 : W i = cw 7
  · obtain ⟨f1, i1, b1, fb1, a1, td1, tt1, of1, R1, e1, e2, e3, e4, e5, e6⟩ := ln_tooth hT hW hi hn hNM hr0 td h3
    refine ⟨f1, i1, b1, fb1, a1, c, lw, ofl, tt1, n, fc, shc, nc, fo, dg, hu, fd, he, pa, pt, of1, td1, fek, fel, fer, fes, gok, gol, gor, gos, nr, o, ar, R1, ?_, ?_, e3, e4, e5, fun _ _ => ⟨rfl, rfl⟩, fun q => ?_⟩
    · rw [if_pos (lc_eq.mpr w7), e1, bd_s]
    · rw [y7 w7, bd_s, if_neg z10, e2, bd_s]
    · obtain ⟨g1, g2, g3, g4⟩ := e6 q
      refine ⟨g1, g3, h1.fr (fun k hk => g4 k (by omega)), h2.fr (fun k hk => g4 k (by omega)), g2, h4.fr (fun k hk => g4 k (by omega)), h5.fr (fun k hk => g4 k (by omega)), h6.fr (fun k hk => g4 k (by omega)), h7.fr (fun k hk => g4 k (by unfold zc at hk; omega)), by omega, ?_, ?_⟩
      · rw [g4 5 (by decide)]; exact h9
      · rw [g4 6 (by decide)]; exact h10
  rw [if_neg (fun q => w7 (lc_eq.mp q)), n7 w7, bd_s, if_pos z00]
  by_cases w8 : W i = cw 8
  · obtain ⟨f1, i1, b1, fb1, a1, c1, m1, ofl1, ks1, ls1, rs1, o1, ar1, R1, e1, e2, e3, e4, e5, e7, e8, e6⟩ := ln_law hT hW hF hi (feed := true) (w5 := 5) rfl w8 (fe := fe) (la := fe) ⟨fun _ => rfl, fun _ => rfl⟩ (of_ := ofl) h8 h9
    refine ⟨f1, i1, b1, fb1, a1, c1, fe, ofl1, td, n, fc, shc, nc, fo, dg, hu, fd, he, pa, pt, of, td, ks1, ls1, rs1, nI m1, gok, gol, gor, gos, nr, o1, ar1, R1, ?_, ?_, e3, e4, e5, fun k hk => e7 k (by omega), fun q => ?_⟩
    · rw [if_pos (lc_eq.mpr w8), e1, bd_s]
    · rw [y8 w8, bd_s, if_neg z10]
      unfold f_X11_readLine_B88
      rw [e2, bd_s]
    · obtain ⟨g1, g2, g3, g4⟩ := e6 q
      refine ⟨g1, rfl, h1.fr (fun k hk => g4 k (by omega)), h2.fr (fun k hk => g4 k (by omega)), h3.fr (fun k hk => g4 k (by omega)), h4.fr (fun k hk => g4 k (by omega)), h5.fr (fun k hk => g4 k (by omega)), h6.fr (fun k hk => g4 k (by omega)), h7.fr (fun k hk => g4 k (by unfold zc at hk; omega)), g2, g3, ?_⟩
      rw [g4 6 (by decide)]; exact h10.fr e7 e8
  rw [if_neg (fun q => w8 (lc_eq.mp q)), n8 w8, bd_s, if_pos z00]
  by_cases w9 : W i = cw 9
  · obtain ⟨f1, i1, b1, fb1, a1, c1, m1, ofl1, ks1, ls1, rs1, o1, ar1, R1, e1, e2, e3, e4, e5, e7, e8, e6⟩ := ln_law hT hW hF hi (feed := false) (w5 := 6) rfl w9 (fe := fe) (la := ga) ⟨fun q => absurd q hfg, fun q => by cases q⟩ (of_ := ofl) h8 h10
    refine ⟨f1, i1, b1, fb1, a1, c1, ga, ofl1, td, n, fc, shc, nc, fo, dg, hu, fd, he, pa, pt, of, td, fek, fel, fer, fes, ks1, ls1, rs1, nI m1, nr, o1, ar1, R1, ?_, ?_, e3, e4, e5, fun k hk => e7 k (by omega), fun q => ?_⟩
    · rw [if_pos (lc_eq.mpr w9), e1, bd_s]
    · rw [y9 w9, bd_s, if_neg z10]
      unfold f_X11_readLine_B88
      rw [e2, bd_s]
    · obtain ⟨g1, g2, g3, g4⟩ := e6 q
      refine ⟨g1, rfl, h1.fr (fun k hk => g4 k (by omega)), h2.fr (fun k hk => g4 k (by omega)), h3.fr (fun k hk => g4 k (by omega)), h4.fr (fun k hk => g4 k (by omega)), h5.fr (fun k hk => g4 k (by omega)), h6.fr (fun k hk => g4 k (by omega)), h7.fr (fun k hk => g4 k (by unfold zc at hk; omega)), g2, ?_, g3⟩
      rw [g4 5 (by decide)]; exact h9.fr e7 e8
  rw [if_neg (fun q => w9 (lc_eq.mp q)), n9 w9, bd_s, if_pos z00]
  have b1 : rf 0 1 (P i) ≤ 20000 := rf_le (by decide) (by decide) hP
  have b2 : rf 0 1 (P i) ≠ 0 := rf_nz (by decide)
  refine ⟨rf 0 1 (P i), i, i, rf 0 1 (P i), i, c, lw, ofl, td, n, fc, shc, nc, fo, dg, hu, fd, he, pa, pt, of, td, fek, fel, fer, fes, gok, gol, gor, gos, nr, o, ar, R, ?_, ?_, ts_keep hT hin b1 b2, ⟨⟨hin, hin, fun q => absurd q b2⟩, b1, fun q => absurd rfl q, Nat.le_refl _⟩, fun _ _ => rfl, fun _ _ => ⟨rfl, rfl⟩, fun q => absurd q b2⟩
  · rw [t_ref hT hin (by decide) (x := 1) (k := 1) rfl, bd_s]
  · rw [t_wrg hT hin (by decide) (x := 1) (k := 1) rfl, bd_s]
/-- all lines -/
theorem ln_all (hT : TKS sg len N so pl va A P W U G E) (hW : HW words) {fw gw : Nat → Int32} (hF : HF fw gw) {fe ga : Nat} (hfg : ga ≠ fe) (tp : Nat → Int32) (th tz sz : Int32) (mk : Nat → Int32) : ∀ (m i gg hh l2 : Nat) (R o ar : Nat → Int32) (c : Nat) (nr : Nat → Int64) (n : Nat) (fc shc : Int32) (nc : Nat → Int64) (fo dg hu fd he pa pt of : Nat → Int32) (td : Int32) (fek fel fer : Nat → Int32) (fes : Int32) (gok gol gor : Nat → Int32) (gos : Int32) (lw : Nat) (ofl : Int32), N - i ≤ m → m < gg → m < hh → i ≤ N → l2 ≤ i → DR (sh R) o ar i c nr n fc shc nc fo dg hu fd he pa pt of fek fel fer fes gok gol gor gos →
    ∃ (f' i' a' c' lw' : Nat) (ofl' tt' : Int32) (n' : Nat) (fc' shc' : Int32) (nc' : Nat → Int64) (fo' dg' hu' fd' he' pa' pt' of' : Nat → Int32) (td' : Int32) (fek' fel' fer' : Nat → Int32) (fes' : Int32) (gok' gol' gor' : Nat → Int32) (gos' : Int32) (nr' : Nat → Int64) (o' ar' R' : Nat → Int32),
      f_X7_read_L23 sg (nI len) fe ga gg lw (nI 0) (nI (A (i))) (nI (P (i))) (W (i)) (U (i)) (G (i)) (E (i)) (nI n) fc shc nc fo dg hu fd he pa pt of td fek fel fer fes gok gol gor gos (nI l2) = f_X7_read_B57 sg (nI len) fe ga lw' (nI f') (nI (A (i'))) (nI (P (i'))) (W (i')) (U (i')) (G (i')) (E (i')) (nI n') fc' shc' nc' fo' dg' hu' fd' he' pa' pt' of' td' fek' fel' fer' fes' gok' gol' gor' gos' ∧
      f_X11_mountain_L79 tp words fw gw hh th tz sz so pl va (nI i) (nI 0) R o ar (nI c) nr ofl td mk = f_X11_mountain_B111 tp words fw gw th tz sz so pl va (nI a') (nI f') R' o' ar' (nI c') nr' ofl' tt' mk ∧
      f' ≤ 20000 ∧ i' ≤ N ∧ (∀ k, k < 1000 ∨ 2000 ≤ k → R' k = R k) ∧ (∀ k, k < 1100 → o' k = o k ∧ ar' k = ar k) ∧ (f' = 0 → DR (sh R') o' ar' i' c' nr' n' fc' shc' nc' fo' dg' hu' fd' he' pa' pt' of' fek' fel' fer' fes' gok' gol' gor' gos') := by
  have hN := hT.1
  have stop : ∀ (i gg hh l2 : Nat) (R o ar : Nat → Int32) (c : Nat) (nr : Nat → Int64) (n : Nat) (fc shc : Int32) (nc : Nat → Int64) (fo dg hu fd he pa pt of : Nat → Int32) (td : Int32) (fek fel fer : Nat → Int32) (fes : Int32) (gok gol gor : Nat → Int32) (gos : Int32) (lw : Nat) (ofl : Int32), i = N → DR (sh R) o ar i c nr n fc shc nc fo dg hu fd he pa pt of fek fel fer fes gok gol gor gos → f_X7_read_L23 sg (nI len) fe ga (gg + 1) lw (nI 0) (nI (A (i))) (nI (P (i))) (W (i)) (U (i)) (G (i)) (E (i)) (nI n) fc shc nc fo dg hu fd he pa pt of td fek fel fer fes gok gol gor gos (nI l2) = f_X7_read_B57 sg (nI len) fe ga lw (nI 0) (nI (A (i))) (nI (P (i))) (W (i)) (U (i)) (G (i)) (E (i)) (nI n) fc shc nc fo dg hu fd he pa pt of td fek fel fer fes gok gol gor gos ∧
      f_X11_mountain_L79 tp words fw gw (hh + 1) th tz sz so pl va (nI i) (nI 0) R o ar (nI c) nr ofl td mk = f_X11_mountain_B111 tp words fw gw th tz sz so pl va (nI i) (nI 0) R o ar (nI c) nr ofl td mk := by
    intro i gg hh l2 R o ar c nr n fc shc nc fo dg hu fd he pa pt of td fek fel fer fes gok gol gor gos lw ofl hi hD
    subst hi
    obtain ⟨u1, u2⟩ := t_Ee hT
    refine ⟨?_, ?_⟩
    · unfold f_X7_read_L23 f_X7_read_L23b
      rw [u1, if_neg z10, ite_self, ite_self]
    · unfold f_X11_mountain_L79 f_X11_mountain_L79b
      rw [if_pos (show nI 0 = 0 from rfl), g_nI (by omega) (by decide), ix_nI (by omega), if_pos u2]
  intro m
  induction m with
  | zero =>
    intro i gg hh l2 R o ar c nr n fc shc nc fo dg hu fd he pa pt of td fek fel fer fes gok gol gor gos lw ofl hm hg hh' hi hl hD
    obtain ⟨gg, rfl⟩ : ∃ z, gg = z + 1 := ⟨gg - 1, by omega⟩
    obtain ⟨hh, rfl⟩ : ∃ z, hh = z + 1 := ⟨hh - 1, by omega⟩
    obtain ⟨s1, s2⟩ := stop i gg hh l2 R o ar c nr n fc shc nc fo dg hu fd he pa pt of td fek fel fer fes gok gol gor gos lw ofl (by omega) hD
    exact ⟨0, i, i, c, lw, ofl, td, n, fc, shc, nc, fo, dg, hu, fd, he, pa, pt, of, td, fek, fel, fer, fes, gok, gol, gor, gos, nr, o, ar, R, s1, s2, by decide, hi, fun _ _ => rfl, fun _ _ => ⟨rfl, rfl⟩, fun _ => hD⟩
  | succ m ih =>
    intro i gg hh l2 R o ar c nr n fc shc nc fo dg hu fd he pa pt of td fek fel fer fes gok gol gor gos lw ofl hm hg hh' hi hl hD
    obtain ⟨gg, rfl⟩ : ∃ z, gg = z + 1 := ⟨gg - 1, by omega⟩
    obtain ⟨hh, rfl⟩ : ∃ z, hh = z + 1 := ⟨hh - 1, by omega⟩
    by_cases hiN : i = N
    · obtain ⟨s1, s2⟩ := stop i gg hh l2 R o ar c nr n fc shc nc fo dg hu fd he pa pt of td fek fel fer fes gok gol gor gos lw ofl hiN hD
      exact ⟨0, i, i, c, lw, ofl, td, n, fc, shc, nc, fo, dg, hu, fd, he, pa, pt, of, td, fek, fel, fer, fes, gok, gol, gor, gos, nr, o, ar, R, s1, s2, by decide, hi, fun _ _ => rfl, fun _ _ => ⟨rfl, rfl⟩, fun _ => hD⟩
    · have hlt : i < N := by omega
      obtain ⟨u1, u2⟩ := t_E hT hlt
      obtain ⟨f1, i1, b1, fb1, a1, c1, lw1, ofl1, tt1, n1, fc1, shc1, nc1, fo1, dg1, hu1, fd1, he1, pa1, pt1, of1, td1, fek1, fel1, fer1, fes1, gok1, gol1, gor1, gos1, nr1, o1, ar1, R1, e1, e2, e3, e4, e5, e6, e7⟩ := ln_any hT hW hF hfg hlt hD lw ofl
      have E1 : f_X7_read_L23 sg (nI len) fe ga (gg + 1) lw (nI 0) (nI (A (i))) (nI (P (i))) (W (i)) (U (i)) (G (i)) (E (i)) (nI n) fc shc nc fo dg hu fd he pa pt of td fek fel fer fes gok gol gor gos (nI l2) = f_X7_read_L23 sg (nI len) fe ga gg lw1 (nI f1) (nI (A (i1))) (nI (P (i1))) (W (i1)) (U (i1)) (G (i1)) (E (i1)) (nI n1) fc1 shc1 nc1 fo1 dg1 hu1 fd1 he1 pa1 pt1 of1 td1 fek1 fel1 fer1 fes1 gok1 gol1 gor1 gos1 (nI (l2 + 1)) := by
        show f_X7_read_L23b _ _ _ _ _ _ _ _ _ _ _ _ _ _ _ _ _ _ _ _ _ _ _ _ _ _ _ _ _ _ _ _ _ _ _ = _
        unfold f_X7_read_L23b
        rw [if_neg (show ¬ (1000 : Int32) ≤ nI l2 from nI_ge (show l2 < 1000 by omega) (by decide)), if_pos (show nI 0 = 0 from rfl), if_pos u1, e1, bd_s]
        dsimp only
        rw [lt_r, ← nI_succ]
      have E2 : f_X11_mountain_L79 tp words fw gw (hh + 1) th tz sz so pl va (nI i) (nI 0) R o ar (nI c) nr ofl td mk = f_X11_mountain_L79 tp words fw gw hh th tz sz so pl va (nI a1) (nI f1) R1 o1 ar1 (nI c1) nr1 ofl1 tt1 mk := by
        show f_X11_mountain_L79b _ _ _ _ _ _ _ _ _ _ _ _ _ _ _ _ _ _ _ _ _ = _
        unfold f_X11_mountain_L79b
        rw [if_pos (show nI 0 = 0 from rfl), g_nI (by omega) (by decide), ix_nI (by omega), if_neg u2, e2, bd_s]
        dsimp only
        rw [e3, bd_s]
      rw [E1, E2]
      by_cases h1 : f1 = 0
      · obtain ⟨g1, g2, g3⟩ := e7 h1
        have ha : a1 = i1 := e4.1.2.2 h1
        subst h1
        subst ha
        subst g2
        have hb := e4.1.1
        obtain ⟨f2, i2, a2, c2, lw2, ofl2, tt2, n2, fc2, shc2, nc2, fo2, dg2, hu2, fd2, he2, pa2, pt2, of2, td2, fek2, fel2, fer2, fes2, gok2, gol2, gor2, gos2, nr2, o2, ar2, R2, x1, x2, x3, x4, x5, x6, x7⟩ := ih a1 gg hh (l2 + 1) R1 o1 ar1 c1 nr1 n1 fc1 shc1 nc1 fo1 dg1 hu1 fd1 he1 pa1 pt1 of1 td1 fek1 fel1 fer1 fes1 gok1 gol1 gor1 gos1 lw1 ofl1 (by omega) (by omega) (by omega) hb (by omega) g3
        exact ⟨f2, i2, a2, c2, lw2, ofl2, tt2, n2, fc2, shc2, nc2, fo2, dg2, hu2, fd2, he2, pa2, pt2, of2, td2, fek2, fel2, fer2, fes2, gok2, gol2, gor2, gos2, nr2, o2, ar2, R2, x1, x2, x3, x4, fun k hk => by rw [x5 k hk, e5 k hk], fun k hk => by rw [(x6 k hk).1, (x6 k hk).2]; exact e6 k hk, x7⟩
      · obtain ⟨gg, rfl⟩ : ∃ z, gg = z + 1 := ⟨gg - 1, by omega⟩
        obtain ⟨hh, rfl⟩ : ∃ z, hh = z + 1 := ⟨hh - 1, by omega⟩
        have hne : ¬ nI f1 = 0 := nI_ne0 (by omega) (by have := e4.2.1; omega)
        refine ⟨f1, i1, a1, c1, lw1, ofl1, tt1, n1, fc1, shc1, nc1, fo1, dg1, hu1, fd1, he1, pa1, pt1, of1, td1, fek1, fel1, fer1, fes1, gok1, gol1, gor1, gos1, nr1, o1, ar1, R1, ?_, ?_, e4.2.1, e4.1.1, e5, e6, fun q => absurd q h1⟩
        · unfold f_X7_read_L23 f_X7_read_L23b
          rw [if_neg hne, ite_self]
        · unfold f_X11_mountain_L79 f_X11_mountain_L79b
          rw [if_neg hne]
end LA
