/-! PURE 6: a wolf's night -/
theorem RBo.up {β : Bool} {X Y : Nat} {R kept feuds : Nat → Int32} {bones fall : Int32} (h : RBo β X R kept feuds bones fall) (hXY : X ≤ Y) (hY : Y < 2 ^ 31) : RBo β Y R kept feuds bones fall := by
  obtain ⟨⟨B, hB, e⟩, ⟨C, hC, e'⟩, h3⟩ := h
  refine ⟨⟨B, by omega, e⟩, ⟨C, by omega, e'⟩, fun hb => ?_⟩
  obtain ⟨e1, e2, e3, e4⟩ := h3 hb
  refine ⟨e1, fun D hD hDY => e2 D hD ?_, e3, e4⟩
  rw [e', i_eq (by omega) (by omega)] at hD
  omega
/-- a feud is written -/
theorem e_feud {β : Bool} {X : Nat} {R kept feuds : Nat → Int32} {bones fall : Int32} (hB : RBo β X R kept feuds bones fall) {h t : Nat} (hh : h < 6) (ht : t < 6) (hne : t ≠ h) (hz : ∀ m, m ≤ 6 → R 0 = nI m → h < m ∧ t < m) :
    ∃ (feuds' : Nat → Int32) (fall' : Int32), f_X0_addFeud feuds fall (nI h) (nI t) = some (feuds', fall') ∧
      RBo β X (upd (upd R (146 + 6 * h + t) (R (146 + 6 * h + t) + 1)) (146 + 6 * t + h) ((upd R (146 + 6 * h + t) (R (146 + 6 * h + t) + 1)) (146 + 6 * t + h) + 1)) kept feuds' bones fall' := by
  have hij : 6 * h + t ≠ 6 * t + h := by omega
  refine ⟨upd (upd feuds (6 * h + t) (feuds (6 * h + t) + 1)) (6 * t + h) ((upd feuds (6 * h + t) (feuds (6 * h + t) + 1)) (6 * t + h) + 1), fall + 1, ?_, ?_⟩
  · unfold f_X0_addFeud
    rw [show (6 : Int32) = nI 6 from rfl, i_mul, i_mul, i_add, i_add, Nat.mul_comm h 6, Nat.mul_comm t 6]
    simp only [g_nI (show 6 * h + t < 36 by omega) (show 36 < 2 ^ 31 by decide), g_nI (show 6 * t + h < 36 by omega) (show 36 < 2 ^ 31 by decide), ix_nI (show 6 * h + t < 2 ^ 31 by omega), ix_nI (show 6 * t + h < 2 ^ 31 by omega), lt_]
  · obtain ⟨h1, h2, h3⟩ := hB
    refine ⟨h1, by rw [u_n (by omega), u_n (by omega)]; exact h2, fun hb => ?_⟩
    obtain ⟨e1, e2, e3, e4⟩ := h3 hb
    have fz : FzO (upd (upd R (146 + 6 * h + t) (R (146 + 6 * h + t) + 1)) (146 + 6 * t + h) ((upd R (146 + 6 * h + t) (R (146 + 6 * h + t) + 1)) (146 + 6 * t + h) + 1)) := by
      intro m f e hm h0 hf hf6 he
      rw [u_n (by omega), u_n (by omega)] at h0
      have := hz m hm h0
      rw [u_n (by omega), u_n (by omega)]
      exact e4.2 m f e hm h0 hf hf6 he
    refine ⟨by rw [u_n (by omega), u_n (by omega)]; exact e1, fun B hB hX j hj => ?_, fun j hj => ?_, ?_⟩
    · rw [u_n (by omega), u_n (by omega)] at hB
      rw [u_n (by omega), u_n (by omega)]; exact e2 B hB hX j hj
    · by_cases j2 : j = 6 * t + h
      · subst j2
        rw [u_s, show 146 + (6 * t + h) = 146 + 6 * t + h by omega, u_s, u_n (show 6 * t + h ≠ 6 * h + t by omega), u_n (show 146 + 6 * t + h ≠ 146 + 6 * h + t by omega), e3 _ (by omega)]
        congr 2; omega
      · rw [u_n j2, u_n (show 146 + j ≠ 146 + 6 * t + h by omega)]
        by_cases j1 : j = 6 * h + t
        · subst j1
          rw [u_s, show 146 + (6 * h + t) = 146 + 6 * h + t by omega, u_s, e3 _ (by omega)]
          congr 2; omega
        · rw [u_n j1, u_n (show 146 + j ≠ 146 + 6 * h + t by omega)]
          exact e3 j hj
    · rcases (lowF_one h hh t ht).resolve_left hne with ⟨a1, a2⟩ | ⟨a1, a2⟩
      · rw [fsum_no a2, fsum_in lowF_nd a1, e4.1]; exact ⟨rfl, fz⟩
      · rw [fsum_in lowF_nd a2, fsum_no a1, e4.1]; exact ⟨rfl, fz⟩
theorem clip1_c {F : Nat} (hF : F ≤ 9999) (w : Int32) : (if nI F < (if w < 0 then 0 else w) then nI F else (if w < 0 then 0 else w)) = nI (if w < 0 then 0 else min w.toInt.toNat F) := by
  by_cases hw : w < 0
  · rw [if_pos hw, if_pos hw, show (0 : Int32) = nI 0 from rfl, ifl (by omega) (by decide), if_neg (by omega)]
  · obtain ⟨k, hk, rfl⟩ := (w_two w).resolve_left hw
    rw [if_neg hw, if_neg hw, ifl (by omega) hk, nI_toInt hk]
    split
    · congr 1; omega
    · congr 1; omega
theorem nI_neg {a b : Nat} (h : b ≤ a) : nI a + -(nI b) = nI (a - b) := by rw [← Int32.sub_eq_add_neg, i_sub h]
section WF
variable {R op arg : Nat → Int32} {n : Nat} {dogs fenced heights partner often : Nat → Int32} {night : Int32} {g : Int64} {flock hunger lean fed taken pacts : Nat → Int32} {fek fel fer : Nat → Int32} {fes : Int32} {gok gol gor : Nat → Int32} {gos : Int32} {ml : Int32} {levels : Nat → Int32} {β : Bool} {X : Nat} {kept feuds : Nat → Int32} {bones fall : Int32}
/-- the end of a wolf's night: lean nights, and a feud -/
theorem e_lean (hn : n ≤ 6) (h0 : R 0 = nI n) (hV : RVa R n night g flock hunger lean fed taken pacts) (hB : RBo β X R kept feuds bones fall) {w h : Nat} (hw : w < n) (hh : h < n) {to v : Int32} (hto : to = -1 ∨ ∃ t, t < n ∧ t ≠ h ∧ to = nI t) (facts fv gv mf mp best : Nat → Int32) :
    ∃ (R' lean' feuds' : Nat → Int32) (fall' : Int32),
      f_X9_runWolf_B175 night hunger pacts levels (nI n) dogs fenced heights partner fek fel fer fes gok gol gor gos g flock lean fed taken facts fv gv kept feuds bones fall (nI w) (nI h) to v (nI w) = some (g, flock, lean', fed, taken, facts, fv, gv, kept, feuds', bones, fall') ∧
      f_X11_hunts_B106 op arg ml R mf mp best (nI w) (nI h) to v = some (R', mf, mp, best) ∧ RVa R' n night g flock hunger lean' fed taken pacts ∧ RBo β X R' kept feuds' bones fall' ∧ Fix R R' := by
  have hgi : ∀ {β : Type} {k : Option β}, g_in (nI w) 6 k = k := fun {β k} => g_nI (by omega) (by decide)
  have hix : ix (nI w) = w := ix_nI (by omega)
  have e3 : (8 + (7 * nI w)) + 3 = nI (11 + 7 * w) := by rw [show (8 : Int32) = nI 8 from rfl, show (7 : Int32) = nI 7 from rfl, show (3 : Int32) = nI 3 from rfl, i_mul, i_add, i_add]; congr 1; omega
  have last : ∀ (Q : Nat → Int32) (x : Int32), f_X11_hunts_B162 op arg ml Q mf mp best (nI w) x = some (upd Q (11 + 7 * w) x, mf, mp, best) := by
    intro Q x
    unfold f_X11_hunts_B162
    rw [e3, g_nI (by omega) (by decide), ix_nI (by omega)]
    rfl
  have plain : RVa (upd R (11 + 7 * w) v) n night g flock hunger (upd lean w v) fed taken pacts ∧ RBo β X (upd R (11 + 7 * w) v) kept feuds bones fall ∧ Fix R (upd R (11 + 7 * w) v) := ⟨hV.uL hn hw, hB.oth (by omega), Fix.up (ch_yes (by omega))⟩
  rcases hto with rfl | ⟨t, ht, hne, rfl⟩
  · refine ⟨_, _, feuds, fall, ?_, ?_, plain.1, plain.2.1, plain.2.2⟩
    · unfold f_X9_runWolf_B175
      rw [hgi, hix]
      simp [lt_]
    · unfold f_X11_hunts_B106
      rw [if_pos (by decide)]
      exact last R v
  · have ht1 : ¬ nI t = -1 := nI_m1 (by omega)
    have ht0 : ¬ nI t < 0 := nI_pos (by omega)
    by_cases h3 : v < 3
    · refine ⟨_, _, feuds, fall, ?_, ?_, plain.1, plain.2.1, plain.2.2⟩
      · unfold f_X9_runWolf_B175
        simp only [hgi, hix, lt_, if_neg ht1, u_s, if_pos h3]
      · unfold f_X11_hunts_B106
        rw [if_neg ht0, if_pos h3]
        exact last R v
    · obtain ⟨feuds', fall', hf, hB'⟩ := e_feud hB (h := h) (t := t) (by omega) (by omega) hne (fun m hm e => by rw [h0, i_eq (by omega) (by omega)] at e; omega)
      have e1 : (146 + (6 * nI h)) + nI t = nI (146 + 6 * h + t) := by rw [show (146 : Int32) = nI 146 from rfl, show (6 : Int32) = nI 6 from rfl, i_mul, i_add, i_add]
      have e2 : (146 + (6 * nI t)) + nI h = nI (146 + 6 * t + h) := by rw [show (146 : Int32) = nI 146 from rfl, show (6 : Int32) = nI 6 from rfl, i_mul, i_add, i_add]
      have hV1 := (hV.oth hn (k := 146 + 6 * h + t) (v := R (146 + 6 * h + t) + 1) (Or.inr (by omega)) (ch_yes (by omega)))
      have hV2 := (hV1.oth hn (k := 146 + 6 * t + h) (v := (upd R (146 + 6 * h + t) (R (146 + 6 * h + t) + 1)) (146 + 6 * t + h) + 1) (Or.inr (by omega)) (ch_yes (by omega)))
      refine ⟨_, upd lean w 0, feuds', fall', ?_, ?_, hV2.uL hn hw (v := 0), hB'.oth (by omega), ((Fix.up (ch_yes (by omega))).tr (Fix.up (ch_yes (by omega)))).tr (Fix.up (ch_yes (by omega)))⟩
      · unfold f_X9_runWolf_B175
        simp only [hgi, hix, lt_, if_neg ht1, u_s, if_neg h3, hf, bd_s, fa_upd_twice]
      · unfold f_X11_hunts_B106
        rw [if_neg ht0, if_neg h3, e1, e2]
        simp only [g_nI (show 146 + 6 * h + t < 7000 by omega) (show 7000 < 2 ^ 31 by decide), g_nI (show 146 + 6 * t + h < 7000 by omega) (show 7000 < 2 ^ 31 by decide), ix_nI (show 146 + 6 * h + t < 2 ^ 31 by omega), ix_nI (show 146 + 6 * t + h < 2 ^ 31 by omega), lt_]
        exact last _ 0
/-- lean nights: how many -/
theorem e_eaten (hn : n ≤ 6) (h0 : R 0 = nI n) (hV : RVa R n night g flock hunger lean fed taken pacts) (hB : RBo β X R kept feuds bones fall) {w h : Nat} (hw : w < n) (hh : h < n) {to : Int32} (hto : to = -1 ∨ ∃ t, t < n ∧ t ≠ h ∧ to = nI t) (x y z : Int32) (hz : z = x + y) (facts fv gv mf mp best : Nat → Int32) :
    ∃ (R' lean' feuds' : Nat → Int32) (fall' : Int32),
      f_X9_runWolf_B145 night hunger pacts levels (nI n) dogs fenced heights partner fek fel fer fes gok gol gor gos g flock lean fed taken facts fv gv kept feuds bones fall (nI w) (nI h) z to = some (g, flock, lean', fed, taken, facts, fv, gv, kept, feuds', bones, fall') ∧
      f_X11_hunts_B81 op arg ml R mf mp best (nI w) (hunger w) (nI h) x to y = some (R', mf, mp, best) ∧ RVa R' n night g flock hunger lean' fed taken pacts ∧ RBo β X R' kept feuds' bones fall' ∧ Fix R R' := by
  have hgi : ∀ {β : Type} {k : Option β}, g_in (nI w) 6 k = k := fun {β k} => g_nI (by omega) (by decide)
  have hix : ix (nI w) = w := ix_nI (by omega)
  subst hz
  by_cases hc : hunger w ≤ 2 * (x + y)
  · obtain ⟨R', lean', feuds', fall', a1, a2, a3⟩ := e_lean (op := op) (arg := arg) (ml := ml) (levels := levels) (dogs := dogs) (fenced := fenced) (heights := heights) (partner := partner) (fek := fek) (fel := fel) (fer := fer) (fes := fes) (gok := gok) (gol := gol) (gor := gor) (gos := gos) hn h0 hV hB hw hh hto (v := 0) facts fv gv mf mp best
    refine ⟨R', lean', feuds', fall', ?_, ?_, a3⟩
    · unfold f_X9_runWolf_B145
      rw [hgi, hix, if_pos hc]; exact a1
    · unfold f_X11_hunts_B81
      rw [if_pos hc]; exact a2
  · obtain ⟨R', lean', feuds', fall', a1, a2, a3⟩ := e_lean (op := op) (arg := arg) (ml := ml) (levels := levels) (dogs := dogs) (fenced := fenced) (heights := heights) (partner := partner) (fek := fek) (fel := fel) (fer := fer) (fes := fes) (gok := gok) (gol := gol) (gor := gor) (gos := gos) hn h0 hV hB hw hh hto (v := lean w + 1) facts fv gv mf mp best
    refine ⟨R', lean', feuds', fall', ?_, ?_, a3⟩
    · unfold f_X9_runWolf_B145
      rw [hgi, hix, if_neg hc, hgi]; exact a1
    · unfold f_X11_hunts_B81
      have o3 : f_X11_of R (nI w) 3 = some (lean w) := by
        rw [e_of (y := 3) (w := 3) rfl rfl (by omega) (by decide), hV.2.2.2.2.1 w hw]
        congr 2; omega
      rw [if_neg hc, o3, bd_s]; exact a2
/-- the second half of a wolf's night: from where she goes on -/
theorem e_there (hM : RMo R n dogs fenced heights partner often) (hV : RVa R n night g flock hunger lean fed taken pacts) (hB : RBo β X R kept feuds bones fall) (hX : X < 2 ^ 30) {w h L : Nat} (hw : w < n) (hh : h < n) (hL : L ≤ 100) {to : Int32} (hto : to = -1 ∨ ∃ t, t < n ∧ t ≠ h ∧ to = nI t) (x : Int32) (facts fv gv mf mp best : Nat → Int32) :
    ∃ (R' flock' lean' taken' kept' feuds' : Nat → Int32) (bones' fall' : Int32),
      f_X9_runWolf_B78 night hunger pacts levels (nI n) dogs fenced heights partner fek fel fer fes gok gol gor gos g flock lean fed taken facts fv gv kept feuds bones fall (nI w) (nI h) x (nI L) to = some (g, flock', lean', fed, taken', facts, fv, gv, kept', feuds', bones', fall') ∧
      f_X11_hunts_B61 op arg ml R mf mp best (nI w) (hunger w) (nI h) x (nI L) to = some (R', mf, mp, best) ∧ RVa R' n night g flock' hunger lean' fed taken' pacts ∧ RBo β (X + 1) R' kept' feuds' bones' fall' ∧ Fix R R' := by
  have hn := hM.1
  rcases hto with rfl | ⟨t, ht, hne, rfl⟩
  · obtain ⟨R', lean', feuds', fall', a1, a2, a3, a4, a5⟩ := e_eaten (op := op) (arg := arg) (ml := ml) (levels := levels) (dogs := dogs) (fenced := fenced) (heights := heights) (partner := partner) (fek := fek) (fel := fel) (fer := fer) (fes := fes) (gok := gok) (gol := gol) (gor := gor) (gos := gos) hn hM.2.1 hV hB hw hh (Or.inl rfl) x 0 x (by simp) facts fv gv mf mp best
    refine ⟨R', flock, lean', taken, kept, feuds', bones, fall', ?_, ?_, a3, a4.up (by omega) (by omega), a5⟩
    · unfold f_X9_runWolf_B78
      rw [if_pos rfl]; exact a1
    · unfold f_X11_hunts_B61
      rw [if_neg (by decide)]; exact a2
  · have ht1 : ¬ nI t = -1 := nI_m1 (by omega)
    have hgi : ∀ {β : Type} {k : Option β}, g_in (nI t) 6 k = k := fun {β k} => g_nI (by omega) (by decide)
    have hix : ix (nI t) = t := ix_nI (by omega)
    obtain ⟨ef, F, hF, eF⟩ := hV.2.2.1 t ht
    obtain ⟨ed, -⟩ := hM.2.2.1 t ht
    have hfl : flock t = nI F := ef.trans eF
    obtain ⟨q, hqF, hq⟩ : ∃ q, q ≤ F ∧ ∀ v : Int32, v = ((nI L + 1) / 2) - (dogs t) → (if v < 0 then 0 else min v.toInt.toNat F) = q := by
      refine ⟨(if ((nI L + 1) / 2) - (dogs t) < 0 then 0 else min (((nI L + 1) / 2) - (dogs t)).toInt.toNat F), ?_, fun v e => by rw [e]⟩
      split
      · exact Nat.zero_le _
      · omega
    have cT : f_X9_takenAt flock dogs (nI t) (nI L) = some (nI q) := by
      unfold f_X9_takenAt
      simp only [hgi, hix, lt_, hfl]
      rw [clip1_c hF, hq _ rfl]
    have o0 : f_X11_of R (nI t) 0 = some (nI F) := by rw [e_of (y := 0) (w := 0) rfl rfl (by omega) (by decide), Nat.add_zero, eF]
    have o1 : f_X11_of R (nI t) 1 = some (dogs t) := by
      rw [e_of (y := 1) (w := 1) rfl rfl (by omega) (by decide), ed]
      congr 2; omega
    have rT : f_X11_takes R (nI w) (nI t) (nI L) = f_X11_takes_B45 R (nI w) (nI t) (nI q) := by
      unfold f_X11_takes
      rw [o1, bd_s]
      simp only [lt_]
      generalize hv : ((nI L + 1) / 2) - (dogs t) = v
      have hq2 := hq v hv.symm
      rcases w_two v with hneg | ⟨k, hk, rfl⟩
      · have hn0 : ¬ 0 ≤ v := by
          rw [Int32.le_iff_toInt_le]
          rw [Int32.lt_iff_toInt_lt] at hneg
          omega
        rw [if_pos hneg] at hq2
        rw [if_neg hn0, ← hq2]
        rfl
      · rw [if_neg (nI_pos hk), nI_toInt hk] at hq2
        rw [if_pos (nI_pos' hk), o0, bd_s, ife hk (by omega), bd_s]
        have hq3 : min k F = q := by
          rw [← hq2]
          congr 1
        split
        · rw [show k = q by omega]
        · rw [show F = q by omega]
    -- the two cells of the flock
    have hV1 := hV.uF hn ht (F := F - q) (by omega)
    have hV2 := hV1.uT hn ht (v := taken t + nI q)
    have hB2 : RBo β X (upd (upd R (8 + 7 * t) (nI (F - q))) (13 + 7 * t) (taken t + nI q)) kept feuds bones fall := (hB.oth (by omega)).oth (by omega)
    have hF2 : Fix R (upd (upd R (8 + 7 * t) (nI (F - q))) (13 + 7 * t) (taken t + nI q)) := (Fix.up (ch_yes (by omega))).tr (Fix.up (ch_yes (by omega)))
    have rA : f_X11_adds R (nI t) 0 (-(nI q)) = some (upd R (8 + 7 * t) (nI (F - q))) := by
      rw [e_adds (y := 0) (w := 0) rfl rfl (by omega) (by decide), Nat.add_zero, eF, nI_neg hqF]
    have rB : f_X11_adds (upd R (8 + 7 * t) (nI (F - q))) (nI t) 5 (nI q) = some (upd (upd R (8 + 7 * t) (nI (F - q))) (13 + 7 * t) (taken t + nI q)) := by
      rw [e_adds (y := 5) (w := 5) rfl rfl (by omega) (by decide), show 8 + 7 * t + 5 = 13 + 7 * t by omega, u_n (by omega), ← hV.2.2.2.2.2.2.1 t ht]
    have cS : nI F - nI q = nI (F - q) := i_sub hqF
    by_cases hq0 : q = 0
    · obtain ⟨R', lean', feuds', fall', a1, a2, a3, a4, a5⟩ := e_eaten (op := op) (arg := arg) (ml := ml) (levels := levels) (dogs := dogs) (fenced := fenced) (heights := heights) (partner := partner) (fek := fek) (fel := fel) (fer := fer) (fes := fes) (gok := gok) (gol := gol) (gor := gor) (gos := gos) hn (by rw [u_n (by omega), u_n (by omega)]; exact hM.2.1) hV2 hB2 hw hh (Or.inr ⟨t, ht, hne, rfl⟩) x (nI q) (x + nI q) rfl facts fv gv mf mp best
      have hle : nI q ≤ 0 := by rw [hq0]; decide
      refine ⟨R', _, lean', _, kept, feuds', bones, fall', ?_, ?_, a3, a4.up (by omega) (by omega), hF2.tr a5⟩
      · unfold f_X9_runWolf_B78
        rw [if_neg ht1, cT, bd_s]
        simp only [hgi, hix, lt_, hfl, cS]
        rw [if_pos hle]; exact a1
      · unfold f_X11_hunts_B61
        rw [if_pos (nI_pos' (by omega)), rT]
        unfold f_X11_takes_B45
        rw [rA, bd_s, rB, bd_s, if_pos hle, bd_s]
        exact a2
    · have hle : ¬ nI q ≤ 0 := nI_nle (by omega) (by omega)
      obtain ⟨kept', R3, bones', b1, b2, b3, b4, b5⟩ := e_bone hB2 hX (nI t) (nI w) (nI q)
      have hnt : (upd (upd R (8 + 7 * t) (nI (F - q))) (13 + 7 * t) (taken t + nI q)) 1 = night := by rw [u_n (by omega), u_n (by omega), hV.1]
      rw [hnt] at b1
      have hV3 : RVa R3 n night g (upd flock t (nI (F - q))) hunger lean fed (upd taken t (taken t + nI q)) pacts := by
        refine hV2.cong hn b4 ?_ ?_ (fun f hf => ?_) (fun f hf => ?_) (fun f hf => ?_) (fun f hf => ?_)
        · rw [b5 1 (by omega) (by omega)]; exact hV2.1
        · rw [b5 2 (by omega) (by omega)]; exact hV2.2.1
        · rw [b5 (8 + 7 * f) (by omega) (by omega)]; exact hV2.2.2.1 f hf
        · rw [b5 (11 + 7 * f) (by omega) (by omega)]; exact hV2.2.2.2.2.1 f hf
        · rw [b5 (12 + 7 * f) (by omega) (by omega)]; exact hV2.2.2.2.2.2.1 f hf
        · rw [b5 (13 + 7 * f) (by omega) (by omega)]; exact hV2.2.2.2.2.2.2.1 f hf
      obtain ⟨R', lean', feuds', fall', a1, a2, a3, a4, a5⟩ := e_eaten (op := op) (arg := arg) (ml := ml) (levels := levels) (dogs := dogs) (fenced := fenced) (heights := heights) (partner := partner) (fek := fek) (fel := fel) (fer := fer) (fes := fes) (gok := gok) (gol := gol) (gor := gor) (gos := gos) hn (by rw [b5 0 (by omega) (by omega), u_n (by omega), u_n (by omega)]; exact hM.2.1) hV3 b3 hw hh (Or.inr ⟨t, ht, hne, rfl⟩) x (nI q) (x + nI q) rfl facts fv gv mf mp best
      refine ⟨R', _, lean', _, kept', feuds', bones', fall', ?_, ?_, a3, a4, (hF2.tr b4).tr a5⟩
      · unfold f_X9_runWolf_B78
        rw [if_neg ht1, cT, bd_s]
        simp only [hgi, hix, lt_, hfl, cS]
        rw [if_neg hle, b1, bd_s]; exact a1
      · unfold f_X11_hunts_B61
        rw [if_pos (nI_pos' (by omega)), rT]
        unfold f_X11_takes_B45
        rw [rA, bd_s, rB, bd_s, if_neg hle]
        rw [b2, bd_s]
        exact a2
end WF
