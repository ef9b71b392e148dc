/-! PURE 11: seed, bite, nights, loss -/
/-- the bites -/
def RBi (R bites : Nat → Int32) (bitten : Int32) : Prop := ∃ b, b ≤ 8 ∧ bitten = nI b ∧ R 4 = nI b ∧ ∀ k, k < b → ∃ w, 1 ≤ w ∧ w ≤ 4 ∧ bites k = nI w ∧ R (182 + k) = nI w
section WT
variable {n : Nat} {op arg dogs fenced heights partner often : Nat → Int32} {fek fel fer : Nat → Int32} {fes : Int32} {gok gol gor : Nat → Int32} {gos : Int32} {ml : Int32} {levels : Nat → Int32} {R : Nat → Int32} {night : Int32} {g : Int64} {flock hunger lean fed taken pacts kept feuds bites : Nat → Int32} {bones fall bitten : Int32} {X : Nat} {th gn jn : Int32}
theorem op_seed (hn : n ≤ 6) (hV : RVa R n night g flock hunger lean fed taken pacts) (x : Int32) :
    (f_X10_seed g gn jn x = some (0, g, gn, jn) ∧ f_X11_seed th R x = some (0, 0, R)) ∨ ∃ a, a < 2 ^ 31 ∧ f_X10_seed g gn jn x = some (1, lN a, 0, 0) ∧ f_X11_seed th R x = some (1, 0, upd R 2 (nI a)) ∧ RVa (upd R 2 (nI a)) n night (lN a) flock hunger lean fed taken pacts := by
  unfold f_X10_seed f_X11_seed
  rcases e_within (x := x) (a := 0) (b := 9999) (by decide) (by decide) with ⟨h3, h4⟩ | ⟨k, k1, k2, rfl, h3⟩
  · have h3 : f_X11_within x 0 9999 = some 0 := h3
    have h4 : x < 0 ∨ (¬ x < 0 ∧ 9999 < x) := h4
    left
    refine ⟨?_, by rw [h3, bd_s, if_pos z00]⟩
    rcases h4 with h4 | ⟨h4, h5⟩
    · rw [if_pos h4]
    · rw [if_neg h4, if_neg (fa_of_lt h5).2.1]
  · have h3 : f_X11_within (nI k) 0 9999 = some 1 := h3
    have q1 : ¬ nI k < 0 := nI_pos (by omega)
    have q2 : nI k ≤ 9999 := nI_le k2 (by decide)
    right
    refine ⟨k, by omega, ?_, ?_, hV.uG hn (by omega)⟩
    · rw [if_neg q1, if_pos q2, nI_l (by omega)]
      rfl
    · rw [h3, bd_s, if_neg z10]
      rfl
theorem op_bite (hI : RBi R bites bitten) (x : Int32) : ∃ (o bitten' : Int32) (bites' R' : Nat → Int32), f_X10_bite bites bitten x = some (o, bites', bitten') ∧ f_X11_bite th R x = some (o, 0, R') ∧ RBi R' bites' bitten' ∧ (∀ k, k ≠ 4 → ¬ (182 ≤ k ∧ k < 190) → R' k = R k) := by
  obtain ⟨b, hb, e1, e2, h3⟩ := hI
  unfold f_X10_bite f_X11_bite
  by_cases hx : x = 0
  · refine ⟨0, 0, bites, upd R 4 0, by rw [if_pos hx], ?_, ⟨0, by omega, rfl, u_s _ _ _, fun k hk => absurd hk (by omega)⟩, fun k h1 _ => u_n h1⟩
    simp only [lt_]
    rw [if_pos hx]
  · have same : ∃ (o bitten' : Int32) (bites' R' : Nat → Int32), some ((-1 : Int32), bites, bitten) = some (o, bites', bitten') ∧ some ((-1 : Int32), (0 : Int32), R) = some (o, 0, R') ∧ RBi R' bites' bitten' ∧ (∀ k, k ≠ 4 → ¬ (182 ≤ k ∧ k < 190) → R' k = R k) := ⟨-1, bitten, bites, R, rfl, rfl, ⟨b, hb, e1, e2, h3⟩, fun _ _ _ => rfl⟩
    simp only [lt_]
    rw [if_neg hx, if_neg hx]
    rcases e_within (x := x) (a := 1) (b := 4) (by decide) (by decide) with ⟨h4, h5⟩ | ⟨k, k1, k2, rfl, h4⟩
    · have h4 : f_X11_within x 1 4 = some 0 := h4
      rw [h4, bd_s, if_pos z00]
      by_cases hx0 : x < 0
      · rw [if_pos hx0]; exact same
      · have hx4 : 4 < x := by
          rcases h5 with h5 | ⟨-, h5⟩
          · exfalso
            rw [Int32.lt_iff_toInt_lt] at h5 hx0
            rw [nI_toInt (by decide)] at h5
            have z : (0 : Int32).toInt = 0 := rfl
            have : x.toInt = (0 : Int32).toInt := by omega
            exact hx (Int32.toInt_inj.mp this)
          · exact h5
        rw [if_neg hx0, if_pos hx4]; exact same
    · have h4 : f_X11_within (nI k) 1 4 = some 1 := h4
      have q1 : ¬ nI k < 0 := nI_pos (by omega)
      have q2 : ¬ 4 < nI k := nI_nlt (a := 4) (b := k) k2 (by decide)
      rw [h4, bd_s, if_neg z10, if_neg q1, if_neg q2, e1, e2]
      by_cases h8 : b = 8
      · have q3 : ¬ nI b < 8 := by rw [h8]; decide
        have q4 : nI b = 8 := by rw [h8]; rfl
        rw [if_neg q3, if_pos q4, ← e1]; exact same
      · have q3 : nI b < 8 := nI_lt (b := 8) (by omega) (by decide)
        have q4 : ¬ nI b = 8 := by
          rw [show (8 : Int32) = nI 8 from rfl, i_eq (by omega) (by decide)]
          exact h8
        have e5 : 182 + nI b = nI (182 + b) := by rw [show (182 : Int32) = nI 182 from rfl, i_add]
        rw [if_pos q3, if_neg q4, g_nI (by omega) (by decide), ix_nI (by omega), e5, g_nI (by omega) (by decide), ix_nI (by omega), u_n (show 4 ≠ 182 + b by omega), e2, ← nI_succ]
        refine ⟨_, _, _, _, rfl, rfl, ⟨b + 1, by omega, rfl, u_s _ _ _, fun j hj => ?_⟩, fun j h1 h2 => ?_⟩
        · by_cases hjb : j = b
          · subst hjb
            exact ⟨k, k1, k2, u_s _ _ _, by rw [u_n (by omega), u_s]⟩
          · obtain ⟨w, w1, w2, w3, w4⟩ := h3 j (by omega)
            exact ⟨w, w1, w2, by rw [u_n hjb]; exact w3, by rw [u_n (by omega), u_n (by omega)]; exact w4⟩
        · rw [u_n h1, u_n (by omega)]
theorem op_nights (hM : RMo R n dogs fenced heights partner often) (hL : RLw R op arg fek fel fer fes gok gol gor gos) (hE : RLe n ml levels) (hV : RVa R n night g flock hunger lean fed taken pacts) (hB : RBo true X R kept feuds bones fall) (hX : X < 2 ^ 29) (facts fv gv mf mp best : Nat → Int32) (x : Int32) :
    (f_X10_nights hunger pacts levels (nI n) dogs fenced heights partner fek fel fer fes gok gol gor gos night g flock lean fed taken facts fv gv kept feuds bones fall gn jn x = some (-1, night, g, flock, lean, fed, taken, facts, fv, gv, kept, feuds, bones, fall, gn, jn) ∧ f_X11_nights op arg ml th R mf mp best x = some (-1, 0, R, mf, mp, best)) ∨
    ∃ (R' flock' lean' fed' taken' facts' fv' gv' kept' feuds' mf' mp' best' : Nat → Int32) (night' : Int32) (g' : Int64) (bones' fall' : Int32),
      f_X10_nights hunger pacts levels (nI n) dogs fenced heights partner fek fel fer fes gok gol gor gos night g flock lean fed taken facts fv gv kept feuds bones fall gn jn x = some (night', night', g', flock', lean', fed', taken', facts', fv', gv', kept', feuds', bones', fall', 0, 0) ∧
      f_X11_nights op arg ml th R mf mp best x = some (night', 0, R', mf', mp', best') ∧ RVa R' n night' g' flock' hunger lean' fed' taken' pacts ∧ RBo true (X + 6000) R' kept' feuds' bones' fall' ∧ Fix R R' := by
  unfold f_X10_nights f_X11_nights
  rcases e_within (x := x) (a := 1) (b := 1000) (by decide) (by decide) with ⟨h3, h4⟩ | ⟨k, k1, k2, rfl, h3⟩
  · have h3 : f_X11_within x 1 1000 = some 0 := h3
    have h4 : x < 1 ∨ (¬ x < 1 ∧ 1000 < x) := h4
    left
    refine ⟨?_, by rw [h3, bd_s, if_pos z00]⟩
    rcases h4 with h4 | ⟨h4, h5⟩
    · rw [if_pos h4]
    · rw [if_neg h4, if_neg (fa_of_lt h5).2.1]
  · have h3 : f_X11_within (nI k) 1 1000 = some 1 := h3
    have q1 : ¬ nI k < 1 := nI_nlt (b := 1) k1 (by omega)
    have q2 : nI k ≤ 1000 := nI_le (b := 1000) k2 (by decide)
    right
    obtain ⟨R', flock', lean', fed', taken', facts', fv', gv', kept', feuds', mf', mp', best', night', g', bones', fall', a1, a2, a3, a4, a5⟩ := e_run hE k (by omega) k 0 FU FU (by omega) (by show k < 5000; omega) (by show k < 5000; omega) hM hL hV hB (by omega) facts fv gv mf mp best
    refine ⟨R', flock', lean', fed', taken', facts', fv', gv', kept', feuds', mf', mp', best', night', g', bones', fall', ?_, ?_, a3, a4.up (by omega) (by omega), a5⟩
    · rw [if_neg q1, if_pos q2]
      unfold f_X9_run
      rw [show (0 : Int32) = nI 0 from rfl, a1, bd_s]
      rfl
    · rw [h3, bd_s, if_neg z10]
      unfold f_X11_passes
      rw [show (0 : Int32) = nI 0 from rfl, a2, bd_s]
      simp only
      rw [← a3.1]
end WT
