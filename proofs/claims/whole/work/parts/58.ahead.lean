/-! PURE 9: rows carried; looking ahead -/
/-- row a is carried to row b -/
def cr (R : Nat → Int32) (a b : Nat) : Nat → Int32 := fun k => if 1000 * b ≤ k ∧ k < 1000 * b + 1000 then R (k - 1000 * b + 1000 * a) else R k
def crj (R : Nat → Int32) (a b j : Nat) : Nat → Int32 := fun k => if 1000 * b ≤ k ∧ k < 1000 * b + j then R (k - 1000 * b + 1000 * a) else R k
theorem e_carry {a b : Nat} (ha : a ≤ 6) (hb : b ≤ 6) (hab : a ≠ b) (R : Nat → Int32) : f_X11_carry R (nI a) (nI b) = some (cr R a b) := by
  have lp : ∀ (r j g : Nat), j + r = 1000 → r < g → f_X11_carry_L2 g (crj R a b j) (nI a) (nI b) (nI j) = some (cr R a b) := by
    intro r
    induction r with
    | zero =>
      intro j g hj hg
      obtain ⟨g, rfl⟩ : ∃ z, g = z + 1 := ⟨g - 1, by omega⟩
      have hj : j = 1000 := by omega
      subst hj
      show f_X11_carry_L2b _ _ _ _ _ = _
      unfold f_X11_carry_L2b
      rw [if_pos (by decide)]
      rfl
    | succ r ih =>
      intro j g hj hg
      obtain ⟨g, rfl⟩ : ∃ z, g = z + 1 := ⟨g - 1, by omega⟩
      show f_X11_carry_L2b _ _ _ _ _ = _
      unfold f_X11_carry_L2b
      have h1 : ¬ (1000 : Int32) ≤ nI j := by
        rw [show (1000 : Int32) = nI 1000 from rfl]
        exact nI_ge (by omega) (by decide)
      have ea : (1000 * nI a) + nI j = nI (1000 * a + j) := by rw [show (1000 : Int32) = nI 1000 from rfl, i_mul, i_add]
      have eb : (1000 * nI b) + nI j = nI (1000 * b + j) := by rw [show (1000 : Int32) = nI 1000 from rfl, i_mul, i_add]
      rw [if_neg h1, ea, eb, g_nI (by omega) (by decide), g_nI (by omega) (by decide), ix_nI (by omega), ix_nI (by omega)]
      simp only [lt_]
      have hs : upd (crj R a b j) (1000 * b + j) (crj R a b j (1000 * a + j)) = crj R a b (j + 1) := by
        funext k
        by_cases hk : k = 1000 * b + j
        · subst hk
          rw [u_s]
          unfold crj
          rw [if_neg (by omega), if_pos (by omega)]
          congr 1
          omega
        · rw [u_n hk]
          unfold crj
          by_cases h2 : 1000 * b ≤ k ∧ k < 1000 * b + j
          · rw [if_pos h2, if_pos (by omega)]
          · rw [if_neg h2, if_neg (by omega)]
      rw [hs, ← nI_succ]
      exact ih (j + 1) g (by omega) (by omega)
  have h0 : crj R a b 0 = R := by
    funext k
    unfold crj
    rw [if_neg (by omega)]
  have := lp 1000 0 FU (by omega) (by decide)
  rw [h0] at this
  exact this
theorem cr_lo (R : Nat → Int32) {k : Nat} (hk : k < 6000) : cr R 0 6 k = R k := by
  unfold cr
  rw [if_neg (by omega)]
theorem cr_hi (R : Nat → Int32) {k : Nat} (hk : k < 1000) : cr R 0 6 (6000 + k) = R k := by
  unfold cr
  rw [if_pos (by omega), show 6000 + k - 1000 * 6 + 1000 * 0 = k by omega]
/-- after nights, what was put aside is as it was -/
theorem cr_back {R R2 : Nat → Int32} (hf : Fix (cr R 0 6) R2) : cr R2 6 0 = cr R 0 6 := by
  funext k
  unfold cr
  by_cases h : 1000 * 0 ≤ k ∧ k < 1000 * 0 + 1000
  · rw [if_pos h, if_neg (by omega), show k - 1000 * 0 + 1000 * 6 = 6000 + k by omega, hf (6000 + k) (ch_no (by omega)), cr_hi R (by omega)]
  · rw [if_neg h, hf k (ch_no (by omega))]
    rfl
theorem sub_4 (a b c d : Int32) : ((a - b) + c) - d = (a + c) - (b + d) := by
  simp only [Int32.sub_eq_add_neg, Int32.neg_add, Int32.add_assoc, Int32.add_comm]
  rw [← Int32.add_assoc c, Int32.add_comm c a, Int32.add_assoc]
section WL
variable {n : Nat} {op arg dogs fenced heights partner often : Nat → Int32} {fek fel fer : Nat → Int32} {fes : Int32} {gok gol gor : Nat → Int32} {gos : Int32} {ml : Int32} {levels : Nat → Int32} {R : Nat → Int32} {night : Int32} {g : Int64} {flock hunger lean fed taken pacts kept feuds : Nat → Int32} {bones fall : Int32} {X : Nat}
/-- rows that agree in the first row -/
def Low (R R' : Nat → Int32) : Prop := ∀ k, k < 1000 → R' k = R k
theorem RMo.low {R' : Nat → Int32} (h : RMo R n dogs fenced heights partner often) (hf : Low R R') : RMo R' n dogs fenced heights partner often := by
  obtain ⟨hn, h0, h1, h2, h3, h4, h5⟩ := h
  refine ⟨hn, ?_, fun f hx => ?_, fun f hx => ?_, fun f k hx hk => ?_, fun a ha => ?_, fun a e ha he => ?_⟩
  · rw [hf 0 (by omega)]; exact h0
  · rw [hf (9 + 7 * f) (by omega)]; exact h1 f hx
  · rw [hf (14 + 7 * f) (by omega)]; exact h2 f hx
  · rw [hf (50 + 4 * f + k) (by omega)]; exact h3 f k hx hk
  · refine (h4 a ha).cong fun e he => ?_
    show decide (R' (74 + 6 * a + e) ≠ 0) = decide (R (74 + 6 * a + e) ≠ 0)
    rw [hf (74 + 6 * a + e) (by omega)]
  · rw [hf (74 + 6 * a + e) (by omega)]; exact h5 a e ha he
theorem RLw.low {R' : Nat → Int32} (h : RLw R op arg fek fel fer fes gok gol gor gos) (hf : Low R R') : RLw R' op arg fek fel fer fes gok gol gor gos := by
  unfold RLw RLv
  rw [hf 0 (by omega), hf 5 (by omega), hf 6 (by omega)]
  exact h
theorem RVa.low {R' : Nat → Int32} (hn : n ≤ 6) (h : RVa R n night g flock hunger lean fed taken pacts) (hf : Low R R') : RVa R' n night g flock hunger lean fed taken pacts := by
  obtain ⟨h1, h2, h3, h4, h5, h6, h7, h8, h9⟩ := h
  refine ⟨?_, ?_, fun f hx => ?_, fun f hx => ?_, fun f hx => ?_, fun f hx => ?_, fun f hx => ?_, fun a ha => ?_, fun a e ha he => ?_⟩
  · rw [hf 1 (by omega)]; exact h1
  · rw [hf 2 (by omega)]; exact h2
  · rw [hf (8 + 7 * f) (by omega)]; exact h3 f hx
  · rw [hf (10 + 7 * f) (by omega)]; exact h4 f hx
  · rw [hf (11 + 7 * f) (by omega)]; exact h5 f hx
  · rw [hf (12 + 7 * f) (by omega)]; exact h6 f hx
  · rw [hf (13 + 7 * f) (by omega)]; exact h7 f hx
  · refine (h8 a ha).cong fun e he => ?_
    show decide (R' (110 + 6 * a + e) ≠ 0) = decide (R (110 + 6 * a + e) ≠ 0)
    rw [hf (110 + 6 * a + e) (by omega)]
  · rw [hf (110 + 6 * a + e) (by omega)]; exact h9 a e ha he
/-- the losses, gathered by the reference -/
theorem loss_loop {R2 : Nat → Int32} (hn : n ≤ 6) (hR0 : R2 0 = nI n) (mf mp best : Nat → Int32) : ∀ (r e gg : Nat), e + r = n → r < gg → ∀ (losses : Nat → Int32), (∀ f, f < e → losses f = (R2 (12 + 7 * f) + R2 (13 + 7 * f)) - (R2 (6000 + (12 + 7 * f)) + R2 (6000 + (13 + 7 * f)))) →
    ∃ losses', f_X11_findLosses_L14 op arg ml gg R2 mf mp best losses (nI e) = some (cr R2 6 0, mf, mp, best, losses') ∧ ∀ f, f < n → losses' f = (R2 (12 + 7 * f) + R2 (13 + 7 * f)) - (R2 (6000 + (12 + 7 * f)) + R2 (6000 + (13 + 7 * f))) := by
  intro r
  induction r with
  | zero =>
    intro e gg he hg losses hl
    obtain ⟨gg, rfl⟩ : ∃ z, gg = z + 1 := ⟨gg - 1, by omega⟩
    have he : e = n := by omega
    subst he
    refine ⟨losses, ?_, hl⟩
    show f_X11_findLosses_L14b _ _ _ _ _ _ _ _ _ _ = _
    unfold f_X11_findLosses_L14b
    rw [e_farms, bd_s, hR0, if_pos (nI_le (Nat.le_refl _) (by omega)), show (6 : Int32) = nI 6 from rfl, show (0 : Int32) = nI 0 from rfl, e_carry (by decide) (by decide) (by decide), bd_s]
  | succ r ih =>
    intro e gg he hg losses hl
    obtain ⟨gg, rfl⟩ : ∃ z, gg = z + 1 := ⟨gg - 1, by omega⟩
    have hen : e < n := by omega
    have o4 : f_X11_of R2 (nI e) 4 = some (R2 (12 + 7 * e)) := by
      rw [e_of (y := 4) (w := 4) rfl rfl (by omega) (by decide)]
      congr 2; omega
    have o5 : f_X11_of R2 (nI e) 5 = some (R2 (13 + 7 * e)) := by
      rw [e_of (y := 5) (w := 5) rfl rfl (by omega) (by decide)]
      congr 2; omega
    have e4 : (6008 + (7 * nI e)) + 4 = nI (6000 + (12 + 7 * e)) := by rw [show (6008 : Int32) = nI 6008 from rfl, show (7 : Int32) = nI 7 from rfl, show (4 : Int32) = nI 4 from rfl, i_mul, i_add, i_add]; congr 1; omega
    have e5 : (6008 + (7 * nI e)) + 5 = nI (6000 + (13 + 7 * e)) := by rw [show (6008 : Int32) = nI 6008 from rfl, show (7 : Int32) = nI 7 from rfl, show (5 : Int32) = nI 5 from rfl, i_mul, i_add, i_add]; congr 1; omega
    have hw : f_X11_findLosses_L14 op arg ml (gg + 1) R2 mf mp best losses (nI e) = f_X11_findLosses_L14 op arg ml gg R2 mf mp best (upd losses e ((R2 (12 + 7 * e) + R2 (13 + 7 * e)) - (R2 (6000 + (12 + 7 * e)) + R2 (6000 + (13 + 7 * e))))) (nI (e + 1)) := by
      show f_X11_findLosses_L14b _ _ _ _ _ _ _ _ _ _ = _
      unfold f_X11_findLosses_L14b
      rw [e_farms, bd_s, hR0, if_neg (nI_ge hen (by omega)), o4, o5]
      simp only [lt_, bd_s, e4, e5]
      rw [g_nI (by omega) (by decide), g_nI (by omega) (by decide), g_nI (by omega) (by decide), ix_nI (by omega), ix_nI (by omega), ix_nI (by omega), sub_4, ← nI_succ]
    rw [hw]
    refine ih (e + 1) gg (by omega) (by omega) _ (fun f hf => ?_)
    by_cases hfe : f = e
    · subst hfe; rw [u_s]
    · rw [u_n hfe]; exact hl f (by omega)
/-- nights ahead: the class's other valley, the reference's rows put aside -/
theorem e_look (hM : RMo R n dogs fenced heights partner often) (hL : RLw R op arg fek fel fer fes gok gol gor gos) (hE : RLe n ml levels) (hV : RVa R n night g flock hunger lean fed taken pacts) (hB : RBo false X R kept feuds bones fall) {M : Nat} (hMb : M ≤ 28) (hX : X < 2 ^ 29) (facts fv gv mf mp best losses : Nat → Int32) :
    ∃ (flock' lean' fed' taken' facts' fv' gv' kept' feuds' mf' mp' best' losses' : Nat → Int32) (night' : Int32) (g' : Int64) (bones' fall' : Int32),
      f_X9_run hunger pacts levels (nI n) dogs fenced heights partner fek fel fer fes gok gol gor gos night g flock lean fed taken facts fv gv kept feuds bones fall (nI M) = some (night', g', flock', lean', fed', taken', facts', fv', gv', kept', feuds', bones', fall') ∧
      f_X11_findLosses op arg ml R mf mp best losses (nI M) = some (cr R 0 6, mf', mp', best', losses') ∧ (∀ f, f < n → losses' f = (fed' f + taken' f) - (R (12 + 7 * f) + R (13 + 7 * f))) ∧ RBo false (X + 168) R kept' feuds' bones' fall' := by
  have hn := hM.1
  have hlow : Low R (cr R 0 6) := fun k hk => cr_lo R (by omega)
  have hB1 : RBo false X (cr R 0 6) kept feuds bones fall := ⟨hB.1, by rw [cr_lo R (by omega)]; exact hB.2.1, fun z => by cases z⟩
  obtain ⟨R2, flock', lean', fed', taken', facts', fv', gv', kept', feuds', mf', mp', best', night', g', bones', fall', a1, a2, a3, a4, a5⟩ := e_run hE M (by omega) M 0 FU FU (by omega) (by show M < 5000; omega) (by show M < 5000; omega) (hM.low hlow) (hL.low hlow) (hV.low hn hlow) hB1 (by omega) facts fv gv mf mp best
  have hR20 : R2 0 = nI n := by rw [a5 0 (ch_no (by omega)), cr_lo R (by omega)]; exact hM.2.1
  obtain ⟨losses', b1, b2⟩ := loss_loop (op := op) (arg := arg) (ml := ml) hn hR20 mf' mp' best' n 0 FU (by omega) (by show n < 5000; omega) losses (fun f hf => absurd hf (by omega))
  refine ⟨flock', lean', fed', taken', facts', fv', gv', kept', feuds', mf', mp', best', losses', night', g', bones', fall', a1, ?_, fun f hf => ?_, ?_⟩
  · unfold f_X11_findLosses f_X11_passes
    rw [show (0 : Int32) = nI 0 from rfl, show (6 : Int32) = nI 6 from rfl, e_carry (by decide) (by decide) (by decide), bd_s, a2, bd_s]
    simp only
    rw [b1, cr_back a5]
  · rw [b2 f hf, a3.2.2.2.2.2.1 f hf, a3.2.2.2.2.2.2.1 f hf, a5 (6000 + (12 + 7 * f)) (ch_no (by omega)), a5 (6000 + (13 + 7 * f)) (ch_no (by omega)), cr_hi R (by omega), cr_hi R (by omega)]
  · have h4 := a4.up (Y := X + 168) (by omega) (by omega)
    obtain ⟨C, hC, eC⟩ := hB.2.1
    exact ⟨h4.1, ⟨C, by omega, eC⟩, fun z => by cases z⟩
end WL
