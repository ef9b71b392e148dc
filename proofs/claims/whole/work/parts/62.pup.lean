/-! PURE 13: pup -/
section WP
variable {n : Nat} {op arg dogs fenced heights partner often : Nat → Int32} {fek fel fer : Nat → Int32} {fes : Int32} {gok gol gor : Nat → Int32} {gos : Int32} {ml : Int32} {levels : Nat → Int32} {R : Nat → Int32} {night : Int32} {g : Int64} {flock hunger lean fed taken pacts kept feuds : Nat → Int32} {bones fall : Int32} {X : Nat} {th : Int32}
/-- the loss, were one more hungry: Q is R with that hunger -/
theorem e_lossIf {Q : Nat → Int32} {f H' M : Nat} {z : Int32} (hM : RMo Q n dogs fenced heights partner often) (hL : RLw Q op arg fek fel fer fes gok gol gor gos) (hE : RLe n ml levels) (hf : f < n) (hz : hunger f + z = nI H') (hV : RVa Q n night g flock (upd hunger f (nI H')) lean fed taken pacts) (hB : RBo false X Q kept feuds bones fall) (hMb : M ≤ 28) (hX : X < 2 ^ 29) (ahn : Int32) (ahg : Int64) (b1 b2 b3 b4 b5 b6 b7 facts fv gv mf mp best losses : Nat → Int32) :
    ∃ (o ahn' : Int32) (ahg' : Int64) (c1 c2 c3 c4 c5 c6 c7 facts' kept' feuds' fv' gv' mf' mp' best' losses' : Nat → Int32) (bones' fall' : Int32),
      f_X10_lossIf night g flock hunger lean fed taken pacts levels (nI n) dogs fenced heights partner fek fel fer fes gok gol gor gos ahn ahg b1 b2 b3 b4 b5 b6 b7 facts kept feuds bones fall fv gv (nI f) (nI M) z = some (o, ahn', ahg', c1, c2, c3, c4, c5, c6, c7, facts', kept', feuds', bones', fall', fv', gv') ∧
      f_X11_findLosses op arg ml Q mf mp best losses (nI M) = some (cr Q 0 6, mf', mp', best', losses') ∧ losses' f = o ∧ RBo false (X + 168) Q kept' feuds' bones' fall' := by
  have hn := hM.1
  have hgi : ∀ {β : Type} {k : Option β}, g_in (nI f) 6 k = k := fun {β k} => g_nI (by omega) (by decide)
  have hix : ix (nI f) = f := ix_nI (by omega)
  have hV1 := hV.copy hn b1 b2 b3 b4 b5 b6
  have hup : upd (va_cpy hunger b2 0 0 6) f ((va_cpy hunger b2 0 0 6) f + z) = va_cpy (upd hunger f (nI H')) b2 0 0 6 := by
    rw [cpy6 _ _ (by omega), hz]
    funext k
    by_cases hk : k = f
    · subst hk; rw [u_s, cpy6 _ _ (by omega), u_s]
    · rw [u_n hk]
      unfold va_cpy
      by_cases h6 : 0 ≤ k ∧ k < 0 + 6
      · rw [if_pos h6, if_pos h6, u_n (by omega)]
      · rw [if_neg h6, if_neg h6]
  obtain ⟨flock', lean', fed', taken', facts', fv', gv', kept', feuds', mf', mp', best', losses', night', g', bones', fall', a1, a2, a3, a4⟩ := e_look hM hL (hE.copy hn b7) hV1 hB hMb hX facts fv gv mf mp best losses
  refine ⟨(fed' f + taken' f) - (fed f + taken f), night', g', flock', va_cpy (upd hunger f (nI H')) b2 0 0 6, lean', fed', taken', va_cpy pacts b6 0 0 6, va_cpy levels b7 0 0 6, facts', kept', feuds', fv', gv', mf', mp', best', losses', bones', fall', ?_, a2, ?_, a4⟩
  · unfold f_X10_lossIf f_X9_copyFrom
    simp only [lt_, bd_s, hgi, hix]
    rw [hup, a1, bd_s]
    unfold f_X9_goneFrom
    simp only [hgi, hix, bd_s]
  · rw [a3 f hf, ← hV.2.2.2.2.2.1 f hf, ← hV.2.2.2.2.2.2.1 f hf]
theorem op_pup (hM : RMo R n dogs fenced heights partner often) (hL : RLw R op arg fek fel fer fes gok gol gor gos) (hE : RLe n ml levels) (hV : RVa R n night g flock hunger lean fed taken pacts) (hB : RBo false X R kept feuds bones fall) (hX : X + 168 < 2 ^ 29) (ahm mt : Nat) (ahn : Int32) (ahg : Int64) (b1 b2 b3 b4 b5 b6 b7 facts fv gv mf mp best losses : Nat → Int32) (x z : Int32) :
    (f_X10_pup night g flock hunger lean fed taken pacts levels (nI n) dogs fenced heights partner fek fel fer fes gok gol gor gos ahm ahn ahg b1 b2 b3 b4 b5 b6 b7 facts kept feuds bones fall fv gv mt x z = some (none, ahm, ahn, ahg, b1, b2, b3, b4, b5, b6, b7, facts, kept, feuds, bones, fall, fv, gv) ∧ f_X11_pup op arg ml th R mf mp best losses x z = some (0, 1, R, mf, mp, best, losses)) ∨
    ∃ (o : Int32) (ahn' : Int32) (ahg' : Int64) (R' c1 c2 c3 c4 c5 c6 c7 facts' kept' feuds' fv' gv' mf' mp' best' losses' : Nat → Int32) (bones' fall' : Int32),
      f_X10_pup night g flock hunger lean fed taken pacts levels (nI n) dogs fenced heights partner fek fel fer fes gok gol gor gos ahm ahn ahg b1 b2 b3 b4 b5 b6 b7 facts kept feuds bones fall fv gv mt x z = some (some o, mt, ahn', ahg', c1, c2, c3, c4, c5, c6, c7, facts', kept', feuds', bones', fall', fv', gv') ∧
      f_X11_pup op arg ml th R mf mp best losses x z = some (o, 0, R', mf', mp', best', losses') ∧ (∀ k, k < 6000 → R' k = R k) ∧ RBo false (X + 336) R kept' feuds' bones' fall' := by
  have hn := hM.1
  have thr : f_X11_pup_B31 op arg ml th R mf mp best losses x z = some (0, 1, R, mf, mp, best, losses) := by
    unfold f_X11_pup_B31 f_X11_pup_B32
    rw [if_neg (by decide)]
  unfold f_X10_pup f_X11_pup f_X10_pup_B29
  rcases e_isFarm hn hM.2.1 x with ⟨h1, h2⟩ | ⟨f, hf, rfl, h1, h2⟩
  · left; exact ⟨by rw [h1, bd_s, if_pos z00], by rw [h2, bd_s, if_pos z00]; exact thr⟩
  · rcases e_within (x := z) (a := 1) (b := 28) (by decide) (by decide) with ⟨h3, h4⟩ | ⟨M, k1, k2, rfl, h3⟩
    · have h3 : f_X11_within z 1 28 = some 0 := h3
      have h4 : z < 1 ∨ (¬ z < 1 ∧ 28 < z) := h4
      left
      refine ⟨?_, ?_⟩
      · have ha : f_X10_isAhead z = some 0 := by
          unfold f_X10_isAhead
          rcases h4 with h4 | ⟨h4, h5⟩
          · rw [if_pos h4]
          · rw [if_neg h4, if_pos h5]
        rw [h1, bd_s, if_neg z10, ha, bd_s, if_pos z00]
      · have hb : f_X11_areNights z = some 0 := by
          unfold f_X11_areNights
          rw [h3, bd_s]
          unfold g_z
          rw [if_pos (Or.inl rfl)]
        rw [h2, bd_s, if_neg z10, hb, bd_s, if_pos z00]
        exact thr
    · have h3 : f_X11_within (nI M) 1 28 = some 1 := h3
      have ha : f_X10_isAhead (nI M) = some 1 := by
        unfold f_X10_isAhead
        have q1 : ¬ nI M < 1 := nI_nlt (b := 1) k1 (by omega)
        have q2 : ¬ 28 < nI M := nI_nlt (a := 28) k2 (by decide)
        rw [if_neg q1, if_neg q2]
      have hb : f_X11_areNights (nI M) = some 1 := by
        unfold f_X11_areNights
        rw [h3, bd_s]
        unfold g_z
        rw [if_pos (Or.inr rfl)]
      have hgi : ∀ {β : Type} {k : Option β}, g_in (nI f) 6 k = k := fun {β k} => g_nI (by omega) (by decide)
      have hix : ix (nI f) = f := ix_nI (by omega)
      obtain ⟨eh, H, hH, eH⟩ := hV.2.2.2.1 f hf
      have hhf : hunger f = nI H := eh.trans eH
      have o2 : f_X11_of R (nI f) 2 = some (nI H) := by
        rw [e_of (y := 2) (w := 2) rfl rfl (by omega) (by decide), ← eH]
        congr 2; omega
      by_cases h99 : 99 ≤ H
      · left
        have q1 : ¬ nI H < 99 := nI_nlt (b := 99) h99 (by omega)
        have q2 : 99 ≤ nI H := nI_le (a := 99) h99 (by omega)
        refine ⟨?_, ?_⟩
        · rw [h1, bd_s, if_neg z10, ha, bd_s, if_neg z10, hgi, hix, hhf, if_neg q1]
        · rw [h2, bd_s, if_neg z10, hb, bd_s, if_neg z10, o2, bd_s, if_pos q2]
          exact thr
      · right
        have q1 : nI H < 99 := nI_lt (b := 99) (by omega) (by decide)
        have q2 : ¬ 99 ≤ nI H := nI_ge (b := 99) (by omega) (by decide)
        have hself : upd hunger f (nI H) = hunger := fa_upd_same hhf
        obtain ⟨o1, n1, g1, c1, c2, c3, c4, c5, c6, c7, fa1, ke1, fe1, fv1, gv1, mf1, mp1, be1, lo1, bo1, fl1, a1, a2, a3, a4⟩ := e_lossIf (hunger := hunger) (Q := R) (f := f) (H' := H) (z := 0) hM hL hE hf (by rw [hhf]; simp) (by rw [hself]; exact hV) hB k2 (by omega) ahn ahg b1 b2 b3 b4 b5 b6 b7 facts fv gv mf mp best losses
        have hlow : Low R (cr R 0 6) := fun k hk => cr_lo R (by omega)
        have hV2 := (hV.low hn hlow).hungry hn hf (H := H + 1) (by omega)
        have hM2 : RMo (upd (cr R 0 6) (10 + 7 * f) (nI (H + 1))) n dogs fenced heights partner often := by
          obtain ⟨_, m0, m1, m2, m3, m4, m5⟩ := hM.low hlow
          refine ⟨hn, ?_, fun y hy => ?_, fun y hy => ?_, fun y k hy hk => ?_, fun a ha => ?_, fun a e ha he => ?_⟩
          · rw [u_n (by omega)]; exact m0
          · rw [u_n (by omega)]; exact m1 y hy
          · rw [u_n (by omega)]; exact m2 y hy
          · rw [u_n (by omega)]; exact m3 y k hy hk
          · refine (m4 a ha).cong fun e he => ?_
            show decide (upd (cr R 0 6) (10 + 7 * f) (nI (H + 1)) (74 + 6 * a + e) ≠ 0) = decide (cr R 0 6 (74 + 6 * a + e) ≠ 0)
            rw [u_n (by omega)]
          · rw [u_n (by omega)]; exact m5 a e ha he
        have hL2 : RLw (upd (cr R 0 6) (10 + 7 * f) (nI (H + 1))) op arg fek fel fer fes gok gol gor gos := by
          have := hL.low hlow
          unfold RLw RLv at this ⊢
          rw [u_n (show 0 ≠ 10 + 7 * f by omega), u_n (show 5 ≠ 10 + 7 * f by omega), u_n (show 6 ≠ 10 + 7 * f by omega)]
          exact this
        have hB2 : RBo false (X + 168) (upd (cr R 0 6) (10 + 7 * f) (nI (H + 1))) ke1 fe1 bo1 fl1 := ⟨a4.1, by rw [u_n (by omega), cr_lo R (by omega)]; exact a4.2.1, fun q => by cases q⟩
        obtain ⟨o3, n3, g3, d1, d2, d3, d4, d5, d6, d7, fa3, ke3, fe3, fv3, gv3, mf3, mp3, be3, lo3, bo3, fl3, e1, e2, e3, e4⟩ := e_lossIf (hunger := hunger) (f := f) (H' := H + 1) (z := 1) hM2 hL2 hE hf (by rw [hhf, ← nI_succ]) hV2 hB2 k2 (by omega) n1 g1 c1 c2 c3 c4 c5 c6 c7 fa1 fv1 gv1 mf1 mp1 be1 lo1
        have rU : f_X11_adds (cr R 0 6) (nI f) 2 1 = some (upd (cr R 0 6) (10 + 7 * f) (nI (H + 1))) := by
          rw [e_adds (y := 2) (w := 2) rfl rfl (by omega) (by decide), show 8 + 7 * f + 2 = 10 + 7 * f by omega, cr_lo R (by omega), eH, ← nI_succ]
        have rD : ∃ R', f_X11_adds (cr (upd (cr R 0 6) (10 + 7 * f) (nI (H + 1))) 0 6) (nI f) 2 (-1) = some R' ∧ ∀ k, k < 6000 → R' k = R k := by
          refine ⟨_, e_adds (y := 2) (w := 2) rfl rfl (by omega) (by decide), fun k hk => ?_⟩
          rw [show 8 + 7 * f + 2 = 10 + 7 * f by omega, cr_lo _ (by omega), u_s]
          by_cases hkk : k = 10 + 7 * f
          · subst hkk
            rw [u_s, eH, ← Int32.sub_eq_add_neg, nI_pred]
          · rw [u_n hkk, cr_lo _ hk, u_n hkk, cr_lo _ hk]
        obtain ⟨R', rD1, rD2⟩ := rD
        refine ⟨o1 - o3, n3, g3, R', d1, d2, d3, d4, d5, d6, d7, fa3, ke3, fe3, fv3, gv3, mf3, mp3, be3, lo3, bo3, fl3, ?_, ?_, rD2, ?_⟩
        · rw [h1, bd_s, if_neg z10, ha, bd_s, if_neg z10, hgi, hix, hhf, if_pos q1, a1, bd_s]
          simp only
          rw [e1, bd_s]
        · rw [h2, bd_s, if_neg z10, hb, bd_s, if_neg z10, o2, bd_s, if_neg q2]
          unfold f_X11_pup_B32
          rw [if_pos (by decide), a2, bd_s]
          simp only [lt_]
          rw [hgi, hix, rU, bd_s, e2, bd_s]
          simp only
          rw [rD1, bd_s, hgi, a3, e3]
        · obtain ⟨C, hC, eC⟩ := hB.2.1
          obtain ⟨D, hD, eD⟩ := e4.1
          exact ⟨⟨D, by omega, eD⟩, ⟨C, by omega, eC⟩, fun q => by cases q⟩
end WP
