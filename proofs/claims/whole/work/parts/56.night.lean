/-! PURE 7: a wolf's night, and nights -/
section WG
variable {R op arg : Nat → Int32} {n : Nat} {dogs fenced heights partner often : Nat → Int32} {night : Int32} {g : Int64} {flock hunger lean fed taken pacts : Nat → Int32} {fek fel fer : Nat → Int32} {fes : Int32} {gok gol gor : Nat → Int32} {gos : Int32} {ml : Int32} {levels : Nat → Int32} {β : Bool} {X : Nat} {kept feuds : Nat → Int32} {bones fall : Int32}
theorem e_wolf (hM : RMo R n dogs fenced heights partner often) (hV : RVa R n night g flock hunger lean fed taken pacts) (hB : RBo β X R kept feuds bones fall) (hLw : RLw R op arg fek fel fer fes gok gol gor gos) (hE : RLe n ml levels) (hX : X < 2 ^ 30) {w : Nat} (hw : w < n) (facts fv gv mf mp best : Nat → Int32) :
    ∃ (R' flock' lean' fed' taken' facts' fv' gv' kept' feuds' mf' mp' best' : Nat → Int32) (g' : Int64) (bones' fall' : Int32),
      f_X9_runWolf night hunger pacts levels (nI n) dogs fenced heights partner fek fel fer fes gok gol gor gos g flock lean fed taken facts fv gv kept feuds bones fall (nI w) = some (g', flock', lean', fed', taken', facts', fv', gv', kept', feuds', bones', fall') ∧
      f_X11_hunts op arg ml R mf mp best (nI w) = some (R', mf', mp', best') ∧ RVa R' n night g' flock' hunger lean' fed' taken' pacts ∧ RBo β (X + 1) R' kept' feuds' bones' fall' ∧ Fix R R' := by
  have hn := hM.1
  have hgi : ∀ {k : Nat} {β : Type} {z : Option β}, k < n → g_in (nI k) 6 z = z := fun {k β z} hk => g_nI (by omega) (by decide)
  have hix : ∀ {k : Nat}, k < n → ix (nI k) = k := fun {k} hk => ix_nI (by omega)
  obtain ⟨h, hh, cH, rH⟩ := e_home hM hw
  rw [← hV.1] at cH
  obtain ⟨eh, H, hH, eH⟩ := hV.2.2.2.1 w hw
  have hhw : hunger w = nI H := eh.trans eH
  obtain ⟨ef, F, hF, eF⟩ := hV.2.2.1 h hh
  have hfl : flock h = nI F := ef.trans eF
  obtain ⟨d, facts1, fv1, mf1, mp1, hdF, hdH, cF, rF⟩ := e_fed hM hV hLw hE hh eF hF hH facts fv mf mp
  have o2 : f_X11_of R (nI w) 2 = some (nI H) := by
    rw [e_of (y := 2) (w := 2) rfl rfl (by omega) (by decide), ← eH]
    congr 2; omega
  have rA : f_X11_adds R (nI h) 0 (-(nI d)) = some (upd R (8 + 7 * h) (nI (F - d))) := by
    rw [e_adds (y := 0) (w := 0) rfl rfl (by omega) (by decide), Nat.add_zero, eF, nI_neg hdF]
  have rB : f_X11_adds (upd R (8 + 7 * h) (nI (F - d))) (nI h) 4 (nI d) = some (upd (upd R (8 + 7 * h) (nI (F - d))) (12 + 7 * h) (fed h + nI d)) := by
    rw [e_adds (y := 4) (w := 4) rfl rfl (by omega) (by decide), show 8 + 7 * h + 4 = 12 + 7 * h by omega, u_n (by omega), ← hV.2.2.2.2.2.1 h hh]
  have hV2 := (hV.uF hn hh (F := F - d) (by omega)).uE hn hh (v := fed h + nI d)
  have hF2 : Fix R (upd (upd R (8 + 7 * h) (nI (F - d))) (12 + 7 * h) (fed h + nI d)) := (Fix.up (ch_yes (by omega))).tr (Fix.up (ch_yes (by omega)))
  have hB2 : RBo β X (upd (upd R (8 + 7 * h) (nI (F - d))) (12 + 7 * h) (fed h + nI d)) kept feuds bones fall := (hB.oth (by omega)).oth (by omega)
  have hM2 := hM.fix hF2
  have hL2 := hLw.fix hF2
  have cS : nI F - nI d = nI (F - d) := i_sub hdF
  have cL : nI H - nI d = nI (H - d) := i_sub hdH
  generalize upd (upd R (8 + 7 * h) (nI (F - d))) (12 + 7 * h) (fed h + nI d) = R2 at rB hV2 hF2 hB2 hM2 hL2
  have cls : f_X9_runWolf night hunger pacts levels (nI n) dogs fenced heights partner fek fel fer fes gok gol gor gos g flock lean fed taken facts fv gv kept feuds bones fall (nI w) =
      (if nI (H - d) ≤ 0 then (f_X9_runWolf_B78 night hunger pacts levels (nI n) dogs fenced heights partner fek fel fer fes gok gol gor gos g (upd flock h (nI (F - d))) lean (upd fed h (fed h + nI d)) taken facts1 fv1 gv kept feuds bones fall (nI w) (nI h) (nI d) (nI (H - d)) (-1)) else (bd_ (f_X9_bestAround (upd flock h (nI (F - d))) pacts (nI n) dogs fenced heights gok gol gor gos facts1 gv (nI h) (nI (H - d)) (lean w)) fun q => (bd_ (f_X9_oneOf g q.1) fun u => (f_X9_runWolf_B78 night hunger pacts levels (nI n) dogs fenced heights partner fek fel fer fes gok gol gor gos u.2 (upd flock h (nI (F - d))) lean (upd fed h (fed h + nI d)) taken q.2.1 fv1 q.2.2 kept feuds bones fall (nI w) (nI h) (nI d) (nI (H - d)) u.1)))) := by
    unfold f_X9_runWolf
    rw [cH, bd_s, hgi hw, hix hw, hhw, cF, bd_s]
    simp only [hgi hh, hgi hw, hix hh, hix hw, lt_, hfl, cS, hhw, cL]
  have ref : f_X11_hunts op arg ml R mf mp best (nI w) = (if nI (H - d) ≤ 0 then (f_X11_hunts_B61 op arg ml R2 mf1 mp1 best (nI w) (nI H) (nI h) (nI d) (nI (H - d)) (-1)) else (bd_ (f_X11_goesTo op arg R2 mf1 mp1 best (nI w) (nI h) (nI (H - d))) fun q => (f_X11_hunts_B61 op arg ml q.2.1 q.2.2.1 q.2.2.2.1 q.2.2.2.2 (nI w) (nI H) (nI h) (nI d) (nI (H - d)) q.1))) := by
    unfold f_X11_hunts
    rw [o2, bd_s, rH, bd_s, rF, bd_s]
    simp only
    rw [rA, bd_s, rB, bd_s]
    simp only [lt_, cL]
  by_cases hz : H - d = 0
  · have hle : nI (H - d) ≤ 0 := by rw [hz]; decide
    obtain ⟨R', flock', lean', taken', kept', feuds', bones', fall', a1, a2, a3, a4, a5⟩ := e_there (op := op) (arg := arg) (ml := ml) (levels := levels) (fek := fek) (fel := fel) (fer := fer) (fes := fes) (gok := gok) (gol := gol) (gor := gor) (gos := gos) hM2 hV2 hB2 hX hw hh (L := H - d) (by omega) (Or.inl rfl) (nI d) facts1 fv1 gv mf1 mp1 best
    refine ⟨R', flock', lean', _, taken', facts1, fv1, gv, kept', feuds', mf1, mp1, best, g, bones', fall', ?_, ?_, a3, a4, hF2.tr a5⟩
    · rw [cls, if_pos hle]; exact a1
    · rw [ref, if_pos hle, ← hhw]; exact a2
  · have hle : ¬ nI (H - d) ≤ 0 := nI_nle (by omega) (by omega)
    obtain ⟨a, ha, eg, eR2⟩ := hV2.2.1
    obtain ⟨bits, to, a', facts2, gv2, mf2, mp2, best2, ha', hto, g1, g2, g3⟩ := e_goes hM2 hV2 hL2 (w := w) (h := h) hw hh eg eR2 ha (nI (H - d)) facts1 gv mf1 mp1 best
    have hF3 : Fix R2 (upd R2 2 (nI a')) := Fix.up (ch_yes (by omega))
    obtain ⟨R', flock', lean', taken', kept', feuds', bones', fall', a1, a2, a3, a4, a5⟩ := e_there (op := op) (arg := arg) (ml := ml) (levels := levels) (fek := fek) (fel := fel) (fer := fer) (fes := fes) (gok := gok) (gol := gol) (gor := gor) (gos := gos) (hM2.fix hF3) (hV2.uG hn ha') (hB2.oth (by omega)) hX hw hh (L := H - d) (by omega) hto (nI d) facts2 fv1 gv2 mf2 mp2 best2
    refine ⟨R', flock', lean', _, taken', facts2, fv1, gv2, kept', feuds', mf2, mp2, best2, lN a', bones', fall', ?_, ?_, a3, a4, (hF2.tr hF3).tr a5⟩
    · rw [cls, if_neg hle, hV2.2.2.2.2.1 w hw, g1, bd_s]
      simp only
      rw [g2, bd_s]
      exact a1
    · rw [ref, if_neg hle, g3, bd_s, ← hhw]
      exact a2
end WG
