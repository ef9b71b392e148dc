/-! PURE 12: loss -/
theorem cpy6 (f g : Nat → Int32) {k : Nat} (hk : k < 6) : va_cpy f g 0 0 6 k = f k := by
  unfold va_cpy
  rw [if_pos (by omega)]
  congr 1
  omega
section WX
variable {n : Nat} {op arg dogs fenced heights partner often : Nat → Int32} {fek fel fer : Nat → Int32} {fes : Int32} {gok gol gor : Nat → Int32} {gos : Int32} {ml : Int32} {levels : Nat → Int32} {R : Nat → Int32} {night : Int32} {g : Int64} {flock hunger lean fed taken pacts kept feuds : Nat → Int32} {bones fall : Int32} {X : Nat} {th : Int32}
/-- the copy is as good as the valley -/
theorem RVa.copy (hn : n ≤ 6) (h : RVa R n night g flock hunger lean fed taken pacts) (a1 a2 a3 a4 a5 a6 : Nat → Int32) : RVa R n night g (va_cpy flock a1 0 0 6) (va_cpy hunger a2 0 0 6) (va_cpy lean a3 0 0 6) (va_cpy fed a4 0 0 6) (va_cpy taken a5 0 0 6) (va_cpy pacts a6 0 0 6) := by
  obtain ⟨h1, h2, h3, h4, h5, h6, h7, h8, h9⟩ := h
  refine ⟨h1, h2, fun f hf => ?_, fun f hf => ?_, fun f hf => ?_, fun f hf => ?_, fun f hf => ?_, fun a ha => ?_, h9⟩
  · rw [cpy6 _ _ (by omega)]; exact h3 f hf
  · rw [cpy6 _ _ (by omega)]; exact h4 f hf
  · rw [cpy6 _ _ (by omega)]; exact h5 f hf
  · rw [cpy6 _ _ (by omega)]; exact h6 f hf
  · rw [cpy6 _ _ (by omega)]; exact h7 f hf
  · rw [cpy6 _ _ (by omega)]; exact h8 a ha
theorem RLe.copy (hn : n ≤ 6) (h : RLe n ml levels) (a : Nat → Int32) : RLe n ml (va_cpy levels a 0 0 6) := by
  rcases h with ⟨h1, h2⟩ | ⟨h1, h2⟩
  · exact Or.inl ⟨h1, fun f hf => by rw [cpy6 _ _ (by omega)]; exact h2 f hf⟩
  · exact Or.inr ⟨h1, fun f hf => by rw [cpy6 _ _ (by omega)]; exact h2 f hf⟩
/-- one more hungry mouth, or none -/
theorem RVa.hungry (hn : n ≤ 6) (h : RVa R n night g flock hunger lean fed taken pacts) {f H : Nat} (hf : f < n) (hH : H ≤ 100) : RVa (upd R (10 + 7 * f) (nI H)) n night g flock (upd hunger f (nI H)) lean fed taken pacts := by
  obtain ⟨h1, h2, h3, h4, h5, h6, h7, h8, h9⟩ := h
  refine ⟨?_, ?_, fun x hx => ?_, fun x hx => ?_, fun x hx => ?_, fun x hx => ?_, fun x hx => ?_, fun a ha => ?_, fun a e ha he => ?_⟩
  · rw [u_n (by omega)]; exact h1
  · rw [u_n (by omega)]; exact h2
  · rw [u_n (by omega)]; exact h3 x hx
  · by_cases e : x = f
    · subst e; rw [u_s, u_s]; exact ⟨rfl, H, hH, rfl⟩
    · rw [u_n e, u_n (by omega)]; exact h4 x hx
  · rw [u_n (by omega)]; exact h5 x hx
  · rw [u_n (by omega)]; exact h6 x hx
  · rw [u_n (by omega)]; exact h7 x hx
  · refine (h8 a ha).cong fun e he => ?_
    show decide (upd R (10 + 7 * f) (nI H) (110 + 6 * a + e) ≠ 0) = decide (R (110 + 6 * a + e) ≠ 0)
    rw [u_n (by omega)]
  · rw [u_n (by omega)]; exact h9 a e ha he
/-- loss -/
theorem op_loss (hM : RMo R n dogs fenced heights partner often) (hL : RLw R op arg fek fel fer fes gok gol gor gos) (hE : RLe n ml levels) (hV : RVa R n night g flock hunger lean fed taken pacts) (hB : RBo false X R kept feuds bones fall) (hX : X < 2 ^ 29) (ahm mt : Nat) (ahn : Int32) (ahg : Int64) (b1 b2 b3 b4 b5 b6 b7 facts fv gv mf mp best losses : Nat → Int32) (x z : Int32) :
    (f_X10_loss night g flock hunger lean fed taken pacts levels (nI n) dogs fenced heights partner fek fel fer fes gok gol gor gos ahm ahn ahg b1 b2 b3 b4 b5 b6 b7 facts kept feuds bones fall fv gv mt x z = some (-1, ahm, ahn, ahg, b1, b2, b3, b4, b5, b6, b7, facts, kept, feuds, bones, fall, fv, gv) ∧ f_X11_loss op arg ml th R mf mp best losses x z = some (-1, 0, R, mf, mp, best, losses)) ∨
    ∃ (o : Int32) (ahn' : Int32) (ahg' : Int64) (c1 c2 c3 c4 c5 c6 c7 facts' kept' feuds' fv' gv' mf' mp' best' losses' : Nat → Int32) (bones' fall' : Int32),
      f_X10_loss night g flock hunger lean fed taken pacts levels (nI n) dogs fenced heights partner fek fel fer fes gok gol gor gos ahm ahn ahg b1 b2 b3 b4 b5 b6 b7 facts kept feuds bones fall fv gv mt x z = some (o, mt, ahn', ahg', c1, c2, c3, c4, c5, c6, c7, facts', kept', feuds', bones', fall', fv', gv') ∧
      f_X11_loss op arg ml th R mf mp best losses x z = some (o, 0, cr R 0 6, mf', mp', best', losses') ∧ RBo false (X + 168) R kept' feuds' bones' fall' := by
  have hn := hM.1
  unfold f_X10_loss f_X11_loss
  rcases e_isFarm hn hM.2.1 x with ⟨h1, h2⟩ | ⟨f, hf, rfl, h1, h2⟩
  · left; exact ⟨by rw [h1, bd_s, if_pos z00], by rw [h2, bd_s, if_pos z00]⟩
  · rcases e_within (x := z) (a := 1) (b := 28) (by decide) (by decide) with ⟨h3, h4⟩ | ⟨M, k1, k2, rfl, h3⟩
    · have h3 : f_X11_within z 1 28 = some 0 := h3
      have h4 : z < 1 ∨ (¬ z < 1 ∧ 28 < z) := h4
      left
      refine ⟨?_, ?_⟩
      · have ha : f_X10_isAhead z = some 0 := by
          unfold f_X10_isAhead
          rcases h4 with h4 | ⟨h4, h5⟩
          · rw [if_pos h4]
          · rw [if_neg h4, if_pos h5]
        rw [h1, bd_s, if_neg z10, ha, bd_s, if_pos z00]
      · have hb : f_X11_areNights z = some 0 := by
          unfold f_X11_areNights
          rw [h3, bd_s]
          unfold g_z
          rw [if_pos (Or.inl rfl)]
        rw [h2, bd_s, if_neg z10, hb, bd_s, if_pos z00]
    · have h3 : f_X11_within (nI M) 1 28 = some 1 := h3
      have ha : f_X10_isAhead (nI M) = some 1 := by
        unfold f_X10_isAhead
        have q1 : ¬ nI M < 1 := nI_nlt (b := 1) k1 (by omega)
        have q2 : ¬ 28 < nI M := nI_nlt (a := 28) k2 (by decide)
        rw [if_neg q1, if_neg q2]
      have hb : f_X11_areNights (nI M) = some 1 := by
        unfold f_X11_areNights
        rw [h3, bd_s]
        unfold g_z
        rw [if_pos (Or.inr rfl)]
      right
      have hgi : ∀ {β : Type} {k : Option β}, g_in (nI f) 6 k = k := fun {β k} => g_nI (by omega) (by decide)
      have hix : ix (nI f) = f := ix_nI (by omega)
      have hV1 := hV.copy hn b1 b2 b3 b4 b5 b6
      obtain ⟨eh, H, hH, eH⟩ := hV1.2.2.2.1 f hf
      have hup : upd (va_cpy hunger b2 0 0 6) f ((va_cpy hunger b2 0 0 6) f + 0) = va_cpy hunger b2 0 0 6 := fa_upd_same (by simp)
      obtain ⟨flock', lean', fed', taken', facts', fv', gv', kept', feuds', mf', mp', best', losses', night', g', bones', fall', a1, a2, a3, a4⟩ := e_look hM hL (hE.copy hn b7) hV1 hB k2 hX facts fv gv mf mp best losses
      refine ⟨(fed' f + taken' f) - (fed f + taken f), night', g', flock', va_cpy hunger b2 0 0 6, lean', fed', taken', va_cpy pacts b6 0 0 6, va_cpy levels b7 0 0 6, facts', kept', feuds', fv', gv', mf', mp', best', losses', bones', fall', ?_, ?_, a4⟩
      · rw [h1, bd_s, if_neg z10, ha, bd_s, if_neg z10]
        unfold f_X10_lossIf f_X9_copyFrom
        simp only [lt_, bd_s, hgi, hix]
        rw [hup, a1, bd_s]
        unfold f_X9_goneFrom
        simp only [hgi, hix, bd_s]
      · rw [h2, bd_s, if_neg z10, hb, bd_s, if_neg z10, a2, bd_s]
        simp only
        rw [hgi, hix, a3 f hf, ← hV.2.2.2.2.2.1 f hf, ← hV.2.2.2.2.2.2.1 f hf]
end WX
