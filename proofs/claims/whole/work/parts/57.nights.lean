/-! PURE 8: nights -/
section WN
variable {n : Nat} {hunger pacts : Nat → Int32} {β : Bool}
/-- the flocks grow, where the moon is new -/
theorem e_moon (op arg : Nat → Int32) (ml : Int32) (hn : n ≤ 6) : ∀ (r e g1 g2 : Nat), e + r = n → r < g1 → r < g2 → ∀ {R : Nat → Int32} {night : Int32} {g : Int64} {flock lean fed taken kept feuds : Nat → Int32} {bones fall : Int32} {X : Nat}, R 0 = nI n → (R 1 - R 1 / 28 * 28) = 0 → RVa R n night g flock hunger lean fed taken pacts → RBo β X R kept feuds bones fall →
    ∃ (R' flock' : Nat → Int32), f_X9_endNight_L22 (nI n) g1 night flock (nI e) = some (night, flock') ∧
      (∀ (kb : (Nat → Int32) → (Nat → Int32) → (Nat → Int32) → (Nat → Int32) → Int32 → Int32 → Option ((Nat → Int32) × (Nat → Int32) × (Nat → Int32) × (Nat → Int32))) (mf mp best : Nat → Int32) (l1 l2 : Int32), f_X11_passes_L49 kb op arg ml g2 R mf mp best l1 l2 (nI e) = kb R' mf mp best l1 (l2 + 1)) ∧
      RVa R' n night g flock' hunger lean fed taken pacts ∧ RBo β X R' kept feuds bones fall ∧ Fix R R' := by
  intro r
  induction r with
  | zero =>
    intro e g1 g2 he h1 h2 R night g flock lean fed taken kept feuds bones fall X hR0 hm hV hB
    obtain ⟨g1, rfl⟩ : ∃ z, g1 = z + 1 := ⟨g1 - 1, by omega⟩
    obtain ⟨g2, rfl⟩ : ∃ z, g2 = z + 1 := ⟨g2 - 1, by omega⟩
    have he : e = n := by omega
    subst he
    refine ⟨R, flock, ?_, fun kb mf mp best l1 l2 => ?_, hV, hB, Fix.rf R⟩
    · show f_X9_endNight_L22b _ _ _ _ _ = _
      unfold f_X9_endNight_L22b
      rw [if_pos (nI_le (Nat.le_refl _) (by omega))]
    · show f_X11_passes_L49b _ _ _ _ _ _ _ _ _ _ _ _ = _
      unfold f_X11_passes_L49b
      rw [e_farms, bd_s, hR0, if_pos (nI_le (Nat.le_refl _) (by omega))]
      rfl
  | succ r ih =>
    intro e g1 g2 he h1 h2 R night g flock lean fed taken kept feuds bones fall X hR0 hm hV hB
    obtain ⟨g1, rfl⟩ : ∃ z, g1 = z + 1 := ⟨g1 - 1, by omega⟩
    obtain ⟨g2, rfl⟩ : ∃ z, g2 = z + 1 := ⟨g2 - 1, by omega⟩
    have hen : e < n := by omega
    obtain ⟨ef, F, hF, eF⟩ := hV.2.2.1 e hen
    have hfl : flock e = nI F := ef.trans eF
    have hgi : ∀ {β : Type} {k : Option β}, g_in (nI e) 6 k = k := fun {β k} => g_nI (by omega) (by decide)
    have hix : ix (nI e) = e := ix_nI (by omega)
    have hdv : nI F + nI F / 10 = nI (F + F / 10) := by rw [show (10 : Int32) = nI 10 from rfl, pk_div (by omega) (by decide) (by decide), i_add]
    have o0 : f_X11_of R (nI e) 0 = some (nI F) := by rw [e_of (y := 0) (w := 0) rfl rfl (by omega) (by decide), Nat.add_zero, eF]
    have e8 : (8 + (7 * nI e)) + 0 = nI (8 + 7 * e) := by rw [show (8 : Int32) = nI 8 from rfl, show (7 : Int32) = nI 7 from rfl, show (0 : Int32) = nI 0 from rfl, i_mul, i_add, i_add, Nat.add_zero]
    have hV1 := hV.uF hn hen (F := min (F + F / 10) 9999) (by omega)
    have hB1 : RBo β X (upd R (8 + 7 * e) (nI (min (F + F / 10) 9999))) kept feuds bones fall := hB.oth (by omega)
    have hF1 : Fix R (upd R (8 + 7 * e) (nI (min (F + F / 10) 9999))) := Fix.up (ch_yes (by omega))
    obtain ⟨R', flock', a1, a2, a3, a4, a5⟩ := ih (e + 1) g1 g2 (by omega) (by omega) (by omega) (R := upd R (8 + 7 * e) (nI (min (F + F / 10) 9999))) (by rw [u_n (by omega)]; exact hR0) (by rw [u_n (by omega)]; exact hm) hV1 hB1
    refine ⟨R', flock', ?_, fun kb mf mp best l1 l2 => ?_, a3, a4, hF1.tr a5⟩
    · show f_X9_endNight_L22b _ _ _ _ _ = _
      unfold f_X9_endNight_L22b
      rw [if_neg (nI_ge hen (by omega))]
      simp only [hgi, hix, lt_, hfl, hdv]
      rw [show (9999 : Int32) = nI 9999 from rfl, ifl (by decide) (by omega)]
      have hmin : (if 9999 < F + F / 10 then nI 9999 else nI (F + F / 10)) = nI (min (F + F / 10) 9999) := by
        split
        · congr 1; omega
        · congr 1; omega
      rw [hmin, ← nI_succ]
      exact a1
    · show f_X11_passes_L49b _ _ _ _ _ _ _ _ _ _ _ _ = _
      unfold f_X11_passes_L49b
      rw [e_farms, bd_s, hR0, if_neg (nI_ge hen (by omega)), if_pos hm, o0, bd_s, bd_s]
      simp only [lt_, hdv, e8]
      rw [show (9999 : Int32) = nI 9999 from rfl, ife (by omega) (by decide)]
      have fin : ∀ z, z = min (F + F / 10) 9999 → f_X11_passes_B116 kb (f_X11_passes_L49 kb op arg ml g2) op arg ml R mf mp best l1 l2 (nI e) (nI z) (nI (8 + 7 * e)) = kb R' mf mp best l1 (l2 + 1) := by
        intro z hz
        subst hz
        unfold f_X11_passes_B116
        rw [g_nI (by omega) (by decide), ix_nI (by omega)]
        simp only [lt_]
        rw [← nI_succ]
        exact a2 kb mf mp best l1 l2
      split
      · exact fin _ (by omega)
      · exact fin _ (by omega)
/-- the end of a night -/
theorem e_end (op arg : Nat → Int32) (ml : Int32) (hn : n ≤ 6) {R : Nat → Int32} {night : Int32} {g : Int64} {flock lean fed taken kept feuds : Nat → Int32} {bones fall : Int32} {X : Nat} (hR0 : R 0 = nI n) (hV : RVa R n night g flock hunger lean fed taken pacts) (hB : RBo β X R kept feuds bones fall) :
    ∃ (R' flock' : Nat → Int32), f_X9_endNight (nI n) night flock = some (night + 1, flock') ∧
      (∀ (kb : (Nat → Int32) → (Nat → Int32) → (Nat → Int32) → (Nat → Int32) → Int32 → Int32 → Option ((Nat → Int32) × (Nat → Int32) × (Nat → Int32) × (Nat → Int32))) (mf mp best : Nat → Int32) (l1 l2 : Int32), f_X11_passes_L49 kb op arg ml FU (upd R 1 (R 1 + 1)) mf mp best l1 l2 0 = kb R' mf mp best l1 (l2 + 1)) ∧
      RVa R' n (night + 1) g flock' hunger lean fed taken pacts ∧ RBo β X R' kept feuds bones fall ∧ Fix R R' := by
  have hF1 : Fix R (upd R 1 (R 1 + 1)) := Fix.up (ch_yes (by omega))
  have hV1 : RVa (upd R 1 (R 1 + 1)) n (night + 1) g flock hunger lean fed taken pacts := by
    refine hV.cong hn hF1 (by rw [u_s, hV.1]) ?_ (fun f hf => ?_) (fun f hf => ?_) (fun f hf => ?_) (fun f hf => ?_)
    · rw [u_n (by omega)]; exact hV.2.1
    · rw [u_n (by omega)]; exact hV.2.2.1 f hf
    · rw [u_n (by omega)]; exact hV.2.2.2.2.1 f hf
    · rw [u_n (by omega)]; exact hV.2.2.2.2.2.1 f hf
    · rw [u_n (by omega)]; exact hV.2.2.2.2.2.2.1 f hf
  have hB1 : RBo β X (upd R 1 (R 1 + 1)) kept feuds bones fall := hB.oth (by omega)
  have hR1 : (upd R 1 (R 1 + 1)) 1 = night + 1 := by rw [u_s, hV.1]
  by_cases hm : ((night + 1) - (night + 1) / 28 * 28) = 0
  · obtain ⟨R', flock', a1, a2, a3, a4, a5⟩ := e_moon (β := β) (hunger := hunger) (pacts := pacts) op arg ml hn n 0 FU FU (by omega) (by show n < 5000; omega) (by show n < 5000; omega) (R := upd R 1 (R 1 + 1)) (by rw [u_n (by omega)]; exact hR0) (by rw [hR1]; exact hm) hV1 hB1
    refine ⟨R', flock', ?_, a2, a3, a4, hF1.tr a5⟩
    unfold f_X9_endNight
    simp only [lt_]
    rw [if_pos hm]
    exact a1
  · refine ⟨_, flock, ?_, fun kb mf mp best l1 l2 => ?_, hV1, hB1, hF1⟩
    · unfold f_X9_endNight
      simp only [lt_]
      rw [if_neg hm]
    · show f_X11_passes_L49b _ _ _ _ _ _ _ _ _ _ _ _ = _
      unfold f_X11_passes_L49b
      rw [e_farms, bd_s, hR1, if_neg hm]
      split <;> rfl
variable {op arg dogs fenced heights partner often : Nat → Int32} {fek fel fer : Nat → Int32} {fes : Int32} {gok gol gor : Nat → Int32} {gos : Int32} {ml : Int32} {levels : Nat → Int32}
/-- the wolves of a night, one after the other -/
theorem e_wolves (hE : RLe n ml levels) : ∀ (r e g1 g2 : Nat), e + r = n → r < g1 → r < g2 → ∀ {R : Nat → Int32} {night : Int32} {g : Int64} {flock lean fed taken kept feuds : Nat → Int32} {bones fall : Int32} {X : Nat}, RMo R n dogs fenced heights partner often → RLw R op arg fek fel fer fes gok gol gor gos → RVa R n night g flock hunger lean fed taken pacts → RBo β X R kept feuds bones fall → X + r < 2 ^ 30 → ∀ (facts fv gv mf mp best : Nat → Int32),
    ∃ (R' flock' lean' fed' taken' facts' fv' gv' kept' feuds' mf' mp' best' : Nat → Int32) (g' : Int64) (bones' fall' : Int32),
      (∀ kb l2 l3, f_X9_run_L10 kb hunger pacts levels (nI n) dogs fenced heights partner fek fel fer fes gok gol gor gos g1 night g flock lean fed taken facts fv gv kept feuds bones fall l2 l3 (nI e) = (bd_ (f_X9_endNight (nI n) night flock') fun q => kb q.1 g' q.2 lean' fed' taken' facts' fv' gv' kept' feuds' bones' fall' l2 (l3 + 1))) ∧
      (∀ kb l1 l2, f_X11_passes_L9 kb op arg ml g2 R mf mp best l1 l2 (nI e) = f_X11_passes_L49 kb op arg ml FU (upd R' 1 (R' 1 + 1)) mf' mp' best' l1 l2 0) ∧
      RVa R' n night g' flock' hunger lean' fed' taken' pacts ∧ RBo β (X + r) R' kept' feuds' bones' fall' ∧ Fix R R' := by
  intro r
  induction r with
  | zero =>
    intro e g1 g2 he h1 h2 R night g flock lean fed taken kept feuds bones fall X hM hL hV hB hX facts fv gv mf mp best
    obtain ⟨g1, rfl⟩ : ∃ z, g1 = z + 1 := ⟨g1 - 1, by omega⟩
    obtain ⟨g2, rfl⟩ : ∃ z, g2 = z + 1 := ⟨g2 - 1, by omega⟩
    have hn := hM.1
    have he : e = n := by omega
    subst he
    refine ⟨R, flock, lean, fed, taken, facts, fv, gv, kept, feuds, mf, mp, best, g, bones, fall, fun kb l2 l3 => ?_, fun kb l1 l2 => ?_, hV, hB, Fix.rf R⟩
    · show f_X9_run_L10b _ _ _ _ _ _ _ _ _ _ _ _ _ _ _ _ _ _ _ _ _ _ _ _ _ _ _ _ _ _ _ _ _ _ = _
      unfold f_X9_run_L10b
      rw [if_pos (nI_le (Nat.le_refl _) (by omega))]
      rfl
    · show f_X11_passes_L9b _ _ _ _ _ _ _ _ _ _ _ _ = _
      unfold f_X11_passes_L9b
      rw [e_farms, bd_s, hM.2.1, if_pos (nI_le (Nat.le_refl _) (by omega))]
      rfl
  | succ r ih =>
    intro e g1 g2 he h1 h2 R night g flock lean fed taken kept feuds bones fall X hM hL hV hB hX facts fv gv mf mp best
    obtain ⟨g1, rfl⟩ : ∃ z, g1 = z + 1 := ⟨g1 - 1, by omega⟩
    obtain ⟨g2, rfl⟩ : ∃ z, g2 = z + 1 := ⟨g2 - 1, by omega⟩
    have hn := hM.1
    have hen : e < n := by omega
    have hgi : ∀ {β : Type} {k : Option β}, g_in (nI e) 6 k = k := fun {β k} => g_nI (by omega) (by decide)
    have hix : ix (nI e) = e := ix_nI (by omega)
    have o2 : f_X11_of R (nI e) 2 = some (hunger e) := by
      rw [e_of (y := 2) (w := 2) rfl rfl (by omega) (by decide), (hV.2.2.2.1 e hen).1]
      congr 2; omega
    by_cases hh : hunger e ≤ 0
    · obtain ⟨R', flock', lean', fed', taken', facts', fv', gv', kept', feuds', mf', mp', best', g', bones', fall', a1, a2, a3, a4, a5⟩ := ih (e + 1) g1 g2 (by omega) (by omega) (by omega) hM hL hV hB (by omega) facts fv gv mf mp best
      refine ⟨R', flock', lean', fed', taken', facts', fv', gv', kept', feuds', mf', mp', best', g', bones', fall', fun kb l2 l3 => ?_, fun kb l1 l2 => ?_, a3, a4.up (by omega) (by omega), a5⟩
      · show f_X9_run_L10b _ _ _ _ _ _ _ _ _ _ _ _ _ _ _ _ _ _ _ _ _ _ _ _ _ _ _ _ _ _ _ _ _ _ = _
        unfold f_X9_run_L10b
        rw [if_neg (nI_ge hen (by omega)), hgi, hix, if_pos hh]
        unfold f_X9_run_B39
        simp only [lt_]
        rw [← nI_succ]
        exact a1 kb l2 l3
      · show f_X11_passes_L9b _ _ _ _ _ _ _ _ _ _ _ _ = _
        unfold f_X11_passes_L9b
        rw [e_farms, bd_s, hM.2.1, if_neg (nI_ge hen (by omega)), o2, bd_s, if_pos hh]
        unfold f_X11_passes_B31
        simp only [lt_]
        rw [← nI_succ]
        exact a2 kb l1 l2
    · obtain ⟨R1, flock1, lean1, fed1, taken1, facts1, fv1, gv1, kept1, feuds1, mf1, mp1, best1, g1', bones1, fall1, b1, b2, b3, b4, b5⟩ := e_wolf hM hV hB hL hE (by omega) hen facts fv gv mf mp best
      obtain ⟨R', flock', lean', fed', taken', facts', fv', gv', kept', feuds', mf', mp', best', g', bones', fall', a1, a2, a3, a4, a5⟩ := ih (e + 1) g1 g2 (by omega) (by omega) (by omega) (hM.fix b5) (hL.fix b5) b3 b4 (by omega) facts1 fv1 gv1 mf1 mp1 best1
      refine ⟨R', flock', lean', fed', taken', facts', fv', gv', kept', feuds', mf', mp', best', g', bones', fall', fun kb l2 l3 => ?_, fun kb l1 l2 => ?_, a3, a4.up (by omega) (by omega), b5.tr a5⟩
      · show f_X9_run_L10b _ _ _ _ _ _ _ _ _ _ _ _ _ _ _ _ _ _ _ _ _ _ _ _ _ _ _ _ _ _ _ _ _ _ = _
        unfold f_X9_run_L10b
        rw [if_neg (nI_ge hen (by omega)), hgi, hix, if_neg hh, b1, bd_s]
        simp only
        unfold f_X9_run_B39
        simp only [lt_]
        rw [← nI_succ]
        exact a1 kb l2 l3
      · show f_X11_passes_L9b _ _ _ _ _ _ _ _ _ _ _ _ = _
        unfold f_X11_passes_L9b
        rw [e_farms, bd_s, hM.2.1, if_neg (nI_ge hen (by omega)), o2, bd_s, if_neg hh, b2, bd_s]
        simp only
        unfold f_X11_passes_B31
        simp only [lt_]
        rw [← nI_succ]
        exact a2 kb l1 l2
/-- nights -/
theorem e_run (hE : RLe n ml levels) (M : Nat) (hMb : M < 2 ^ 31) : ∀ (r k g1 g2 : Nat), k + r = M → r < g1 → r < g2 → ∀ {R : Nat → Int32} {night : Int32} {g : Int64} {flock lean fed taken kept feuds : Nat → Int32} {bones fall : Int32} {X : Nat}, RMo R n dogs fenced heights partner often → RLw R op arg fek fel fer fes gok gol gor gos → RVa R n night g flock hunger lean fed taken pacts → RBo β X R kept feuds bones fall → X + 6 * r < 2 ^ 30 → ∀ (facts fv gv mf mp best : Nat → Int32),
    ∃ (R' flock' lean' fed' taken' facts' fv' gv' kept' feuds' mf' mp' best' : Nat → Int32) (night' : Int32) (g' : Int64) (bones' fall' : Int32),
      f_X9_run_L2 hunger pacts levels (nI n) dogs fenced heights partner fek fel fer fes gok gol gor gos g1 night g flock lean fed taken facts fv gv kept feuds bones fall (nI M) (nI k) = some (night', g', flock', lean', fed', taken', facts', fv', gv', kept', feuds', bones', fall') ∧
      f_X11_passes_L2 op arg ml g2 R mf mp best (nI M) (nI k) = some (R', mf', mp', best') ∧
      RVa R' n night' g' flock' hunger lean' fed' taken' pacts ∧ RBo β (X + 6 * r) R' kept' feuds' bones' fall' ∧ Fix R R' := by
  intro r
  induction r with
  | zero =>
    intro k g1 g2 he h1 h2 R night g flock lean fed taken kept feuds bones fall X hM hL hV hB hX facts fv gv mf mp best
    obtain ⟨g1, rfl⟩ : ∃ z, g1 = z + 1 := ⟨g1 - 1, by omega⟩
    obtain ⟨g2, rfl⟩ : ∃ z, g2 = z + 1 := ⟨g2 - 1, by omega⟩
    have he : k = M := by omega
    subst he
    refine ⟨R, flock, lean, fed, taken, facts, fv, gv, kept, feuds, mf, mp, best, night, g, bones, fall, ?_, ?_, hV, hB, Fix.rf R⟩
    · show f_X9_run_L2b _ _ _ _ _ _ _ _ _ _ _ _ _ _ _ _ _ _ _ _ _ _ _ _ _ _ _ _ _ _ _ _ = _
      unfold f_X9_run_L2b
      rw [if_pos (nI_le (Nat.le_refl _) (by omega))]
    · show f_X11_passes_L2b _ _ _ _ _ _ _ _ _ _ = _
      unfold f_X11_passes_L2b
      rw [if_pos (nI_le (Nat.le_refl _) (by omega))]
  | succ r ih =>
    intro k g1 g2 he h1 h2 R night g flock lean fed taken kept feuds bones fall X hM hL hV hB hX facts fv gv mf mp best
    obtain ⟨g1, rfl⟩ : ∃ z, g1 = z + 1 := ⟨g1 - 1, by omega⟩
    obtain ⟨g2, rfl⟩ : ∃ z, g2 = z + 1 := ⟨g2 - 1, by omega⟩
    have hn := hM.1
    obtain ⟨R1, flock1, lean1, fed1, taken1, facts1, fv1, gv1, kept1, feuds1, mf1, mp1, best1, g1', bones1, fall1, b1, b2, b3, b4, b5⟩ := e_wolves (op := op) (arg := arg) (fek := fek) (fel := fel) (fer := fer) (fes := fes) (gok := gok) (gol := gol) (gor := gor) (gos := gos) hE n 0 FU FU (by omega) (by show n < 5000; omega) (by show n < 5000; omega) hM hL hV hB (by omega) facts fv gv mf mp best
    have hM1 := hM.fix b5
    obtain ⟨R2, flock2, c1, c2, c3, c4, c5⟩ := e_end (β := β) (hunger := hunger) (pacts := pacts) op arg ml hn hM1.2.1 b3 (b4.up (Y := X + 6) (by omega) (by omega))
    obtain ⟨R', flock', lean', fed', taken', facts', fv', gv', kept', feuds', mf', mp', best', night', g', bones', fall', a1, a2, a3, a4, a5⟩ := ih (k + 1) g1 g2 (by omega) (by omega) (by omega) (hM1.fix c5) ((hL.fix b5).fix c5) c3 c4 (by omega) facts1 fv1 gv1 mf1 mp1 best1
    refine ⟨R', flock', lean', fed', taken', facts', fv', gv', kept', feuds', mf', mp', best', night', g', bones', fall', ?_, ?_, a3, a4.up (by omega) (by omega), (b5.tr c5).tr a5⟩
    · show f_X9_run_L2b _ _ _ _ _ _ _ _ _ _ _ _ _ _ _ _ _ _ _ _ _ _ _ _ _ _ _ _ _ _ _ _ = _
      unfold f_X9_run_L2b
      rw [if_neg (nI_ge (by omega) hMb), show (0 : Int32) = nI 0 from rfl, b1, c1, bd_s]
      simp only
      rw [← nI_succ]
      exact a1
    · show f_X11_passes_L2b _ _ _ _ _ _ _ _ _ _ = _
      unfold f_X11_passes_L2b
      rw [if_neg (nI_ge (by omega) hMb), show (0 : Int32) = nI 0 from rfl, b2]
      rw [c2, ← nI_succ]
      exact a2
end WN
