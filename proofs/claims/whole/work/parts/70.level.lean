/-! PURE 21: level, rests, rest (src/t70.lean through gen/tmpl.py) -/
/-- the game's memory: forgotten, or right -/
def GC (op arg R : Nat → Int32) (n : Nat) (losses known found : Nat → Int32) (fm gn gf : Int32) : Prop := gn = 0 ∨ ∃ (M : Nat) (lo : Nat → Nat → Int32), 1 ≤ M ∧ M ≤ 28 ∧ gn = nI M ∧ n ≤ 4 ∧ gf = nI n ∧ LoOK op arg R n M lo ∧ CK n losses known lo ∧ (fm = -1 ∨ FO n lo found fm)
theorem e_areNights (x : Int32) : (f_X10_isAhead x = some 0 ∧ f_X11_areNights x = some 0) ∨ ∃ M, 1 ≤ M ∧ M ≤ 28 ∧ x = nI M ∧ f_X10_isAhead x = some 1 ∧ f_X11_areNights x = some 1 := by
  rcases e_within (x := x) (a := 1) (b := 28) (by decide) (by decide) with ⟨h3, h4⟩ | ⟨M, k1, k2, rfl, h3⟩
  · have h3 : f_X11_within x 1 28 = some 0 := h3
    have h4 : x < 1 ∨ (¬ x < 1 ∧ 28 < x) := h4
    left
    refine ⟨?_, ?_⟩
    · unfold f_X10_isAhead
      rcases h4 with h4 | ⟨h4, h5⟩
      · rw [if_pos h4]
      · rw [if_neg h4, if_pos h5]
    · unfold f_X11_areNights
      rw [h3, bd_s]
      unfold g_z
      rw [if_pos (Or.inl rfl)]
  · have h3 : f_X11_within (nI M) 1 28 = some 1 := h3
    right
    refine ⟨M, k1, k2, rfl, ?_, ?_⟩
    · unfold f_X10_isAhead
      have q1 : ¬ nI M < 1 := nI_nlt (b := 1) k1 (by omega)
      have q2 : ¬ 28 < nI M := nI_nlt (a := 28) k2 (by decide)
      rw [if_neg q1, if_neg q2]
    · unfold f_X11_areNights
      rw [h3, bd_s]
      unfold g_z
      rw [if_pos (Or.inr rfl)]
theorem e_readyG {op arg R : Nat → Int32} {n : Nat} (hn : n ≤ 6) (hR0 : R 0 = nI n) {losses known found : Nat → Int32} {fm gn gf : Int32} (hG : GC op arg R n losses known found fm gn gf) (x : Int32) :
    (f_X6_isReady_g 4 (nI n) known fm gn gf x = some (0, known, fm, gn, gf) ∧ f_X11_isGame R x = some 0) ∨ ∃ (M : Nat) (lo : Nat → Nat → Int32) (known' : Nat → Int32) (fm' : Int32), 1 ≤ M ∧ M ≤ 28 ∧ x = nI M ∧ n ≤ 4 ∧ f_X6_isReady_g 4 (nI n) known fm gn gf x = some (1, known', fm', nI M, nI n) ∧ f_X11_isGame R x = some 1 ∧ LoOK op arg R n M lo ∧ CK n losses known' lo ∧ (fm' = -1 ∨ FO n lo found fm') := by
  unfold f_X6_isReady_g f_X11_isGame
  rcases e_areNights x with ⟨h1, h2⟩ | ⟨M, m1, m2, rfl, h1, h2⟩
  · left; exact ⟨by rw [h1, bd_s, if_pos z00], by rw [h2, bd_s, if_pos z00]⟩
  · rw [h1, h2, bd_s, bd_s, if_neg z10, if_neg z10, e_farms, bd_s, hR0]
    by_cases h4 : n ≤ 4
    · have q1 : nI n ≤ 4 := nI_le (b := 4) h4 (by decide)
      have q2 : ¬ 4 < nI n := nI_nlt (a := 4) h4 (by decide)
      right
      rw [if_pos q1, if_neg q2]
      have fresh : gn ≠ nI M → ∃ (M_1 : Nat) (lo : Nat → Nat → Int32) (known' : Nat → Int32) (fm' : Int32), 1 ≤ M_1 ∧ M_1 ≤ 28 ∧ nI M = nI M_1 ∧ n ≤ 4 ∧ (if gn = nI M then some ((1 : Int32), known, fm, gn, gf) else lt_ (fl_ known 256 0) fun ga_known_1 => some (1, ga_known_1, -1, nI M, nI n)) = some (1, known', fm', nI M_1, nI n) ∧ (some 1 : Option Int32) = some 1 ∧ LoOK op arg R n M_1 lo ∧ CK n losses known' lo ∧ (fm' = -1 ∨ FO n lo found fm') := by
        intro hne
        refine ⟨M, fun r f => Lo op arg R M (nI r) f, fl_ known 256 0, -1, m1, m2, rfl, h4, ?_, rfl, fun _ _ _ _ => rfl, fun r hr hk => ?_, Or.inl rfl⟩
        · rw [if_neg hne]
          rfl
        · have h256 := p4 n (by omega)
          exfalso
          apply hk
          unfold fl_
          rw [if_pos (by omega)]
      rcases hG with h0 | ⟨M', lo, k1, k2, k3, -, k5, k6, k7, k8⟩
      · exact fresh (by rw [h0]; intro q; exact nI_ne0 (by omega) (by omega) q.symm)
      · by_cases hMM : gn = nI M
        · have : M' = M := by
            rw [k3, i_eq (by omega) (by omega)] at hMM
            exact hMM
          subst this
          exact ⟨M', lo, known, fm, m1, m2, rfl, h4, by rw [if_pos hMM, k3, k5], rfl, k6, k7, k8⟩
        · exact fresh hMM
    · have q1 : ¬ nI n ≤ 4 := nI_ge (b := n) (a := 4) (by omega) (by omega)
      have q2 : 4 < nI n := nI_lt (a := 4) (by omega) (by omega)
      left
      rw [if_neg q1, if_pos q2]
      exact ⟨rfl, rfl⟩
theorem gameRows_e {R : Nat → Int32} {n : Nat} (hn : n ≤ 4) (hR0 : R 0 = nI n) : f_X11_gameRows R = some (nI (4 ^ n)) := by
  unfold f_X11_gameRows
  rw [e_farms, bd_s, hR0, rows_g n (by omega)]
section WH
variable {n : Nat} {op arg dogs fenced heights partner often : Nat → Int32} {fek fel fer : Nat → Int32} {fes : Int32} {gok gol gor : Nat → Int32} {gos : Int32} {ml : Int32} {levels : Nat → Int32} {R : Nat → Int32} {night : Int32} {g : Int64} {flock hunger lean fed taken pacts kept feuds : Nat → Int32} {bones fall : Int32} {X : Nat} {th : Int32}
theorem fg22 {R2 : Nat → Int32} (hn : n ≤ 4) (hR0 : R2 0 = nI n) {row : Nat} (hr : row < 256) (kb : (Nat → Int32) → (Nat → Int32) → (Nat → Int32) → Int32 → (Nat → Int32) → (Nat → Int32) → (Nat → Int32) → Int32 → Int32 → Option ((Nat → Int32) × (Nat → Int32) × (Nat → Int32) × Int32 × (Nat → Int32) × (Nat → Int32) × (Nat → Int32))) (mf mp best losses l0 : Nat → Int32) (lv m : Int32) :
    ∀ (r e gg : Nat) (lossOf : Nat → Int32), e + r = n → r < gg → (∀ f, f < e → lossOf (4 * row + f) = losses f) → (∀ k, (k < 4 * row ∨ 4 * row + 4 ≤ k) → lossOf k = l0 k) →
      ∃ lossOf', f_X11_findGame_L22 kb op arg gg R2 mf mp lv best losses lossOf m (nI row) (nI e) = kb R2 mf mp lv best losses lossOf' m (nI (row + 1)) ∧ (∀ f, f < n → lossOf' (4 * row + f) = losses f) ∧ ∀ k, (k < 4 * row ∨ 4 * row + 4 ≤ k) → lossOf' k = l0 k := by
  intro r
  induction r with
  | zero =>
    intro e gg lossOf he hg h1 h2
    obtain ⟨gg, rfl⟩ : ∃ z, gg = z + 1 := ⟨gg - 1, by omega⟩
    have he : e = n := by omega
    subst he
    refine ⟨lossOf, ?_, h1, h2⟩
    show f_X11_findGame_L22b _ _ _ _ _ _ _ _ _ _ _ _ _ _ = _
    unfold f_X11_findGame_L22b
    rw [e_farms, bd_s, hR0, if_pos (nI_le (Nat.le_refl _) (by omega))]
    simp only [lt_]
    rw [← nI_succ]
  | succ r ih =>
    intro e gg lossOf he hg h1 h2
    obtain ⟨gg, rfl⟩ : ∃ z, gg = z + 1 := ⟨gg - 1, by omega⟩
    have e1 : (4 * nI row) + nI e = nI (4 * row + e) := by rw [show (4 : Int32) = nI 4 from rfl, i_mul, i_add]
    obtain ⟨lossOf', a1, a2, a3⟩ := ih (e + 1) gg (upd lossOf (4 * row + e) (losses e)) (by omega) (by omega) (fun f hf => by
      by_cases h : f = e
      · rw [h, u_s]
      · rw [u_n (by omega)]; exact h1 f (by omega)) (fun k hk => by rw [u_n (by omega)]; exact h2 k hk)
    refine ⟨lossOf', ?_, a2, a3⟩
    show f_X11_findGame_L22b _ _ _ _ _ _ _ _ _ _ _ _ _ _ = _
    unfold f_X11_findGame_L22b
    rw [e_farms, bd_s, hR0, if_neg (nI_ge (by omega) (by omega)), e1, g_nI (by omega) (by decide), g_nI (by omega) (by decide), ix_nI (by omega), ix_nI (by omega)]
    simp only [lt_]
    rw [← nI_succ]
    exact a1
theorem fg_loop (hM : RMo R n dogs fenced heights partner often) (hL : RLw R op arg fek fel fer fes gok gol gor gos) (hV : RVa R n night g flock hunger lean fed taken pacts) (hn4 : n ≤ 4) {M : Nat} (hMb : M ≤ 28) (hX : X < 2 ^ 29) (hR3 : ∃ B, B ≤ X ∧ R 3 = nI B) {lo : Nat → Nat → Int32} (hlo : LoOK op arg R n M lo) : ∀ (r e gg : Nat) (R2 mf mp best losses lossOf : Nat → Int32) (lv : Int32), e + r = 4 ^ n → r < gg → (∀ k, k < 6000 → R2 k = R k) → (∀ i f, i < e → f < n → lossOf (4 * i + f) = lo i f) →
    ∃ (R' mf' mp' best' losses' lossOf' : Nat → Int32), f_X11_findGame_L2 op arg gg R2 mf mp lv best losses lossOf (nI M) (nI e) = some (R', mf', mp', -1, best', losses', lossOf') ∧ (∀ k, k < 6000 → R' k = R k) ∧ (∀ i f, i < 4 ^ n → f < n → lossOf' (4 * i + f) = lo i f) := by
  have h256 := p4 n (by omega)
  intro r
  induction r with
  | zero =>
    intro e gg R2 mf mp best losses lossOf lv he hg hlow hl
    obtain ⟨gg, rfl⟩ : ∃ z, gg = z + 1 := ⟨gg - 1, by omega⟩
    have he : e = 4 ^ n := by omega
    subst he
    refine ⟨R2, mf, mp, best, losses, lossOf, ?_, hlow, hl⟩
    show f_X11_findGame_L2b _ _ _ _ _ _ _ _ _ _ _ _ = _
    unfold f_X11_findGame_L2b
    rw [gameRows_e hn4 (by rw [hlow 0 (by omega)]; exact hM.2.1), bd_s, if_pos (nI_le (Nat.le_refl _) (by omega))]
  | succ r ih =>
    intro e gg R2 mf mp best losses lossOf lv he hg hlow hl
    obtain ⟨gg, rfl⟩ : ∃ z, gg = z + 1 := ⟨gg - 1, by omega⟩
    have hR20 : R2 0 = nI n := by rw [hlow 0 (by omega)]; exact hM.2.1
    have hE : RLe n (nI e) (fun f => nI (lvl e f)) := Or.inr ⟨nI_pos (by omega), fun f hf => ⟨lvl e f, by have := lvl_lt e f; omega, rfl, w_lv e (by omega) f (by omega)⟩⟩
    obtain ⟨mf1, mp1, best1, losses1, a1, a2⟩ := lo_ref hM hL hE hV hR3 hMb hX (R2 := R2) (fun k hk => hlow k (by omega)) mf mp best losses
    have hlow1 : ∀ k, k < 6000 → cr R2 0 6 k = R k := fun k hk => by rw [cr_lo R2 hk, hlow k hk]
    obtain ⟨lossOf1, b1, b2, b3⟩ := fg22 (op := op) (arg := arg) (R2 := cr R2 0 6) hn4 (by rw [hlow1 0 (by omega)]; exact hM.2.1) (row := e) (by omega) (f_X11_findGame_L2 op arg gg) mf1 mp1 best1 losses1 lossOf (nI e) (nI M) n 0 FU lossOf (by omega) (by show n < 5000; omega) (fun f hf => absurd hf (by omega)) (fun _ _ => rfl)
    obtain ⟨R', mf', mp', best', losses', lossOf', c1, c2, c3⟩ := ih (e + 1) gg (cr R2 0 6) mf1 mp1 best1 losses1 lossOf1 (nI e) (by omega) (by omega) hlow1 (fun i f hi hf => by
      by_cases h : i = e
      · rw [h, b2 f hf, a2 f hf]; exact hlo e f (by omega) hf
      · rw [b3 _ (by omega)]; exact hl i f (by omega) hf)
    refine ⟨R', mf', mp', best', losses', lossOf', ?_, c2, c3⟩
    show f_X11_findGame_L2b _ _ _ _ _ _ _ _ _ _ _ _ = _
    unfold f_X11_findGame_L2b
    rw [gameRows_e hn4 hR20, bd_s, if_neg (nI_ge (by omega) (by omega)), a1, bd_s]
    exact b1.trans c1
theorem e_findGame (hM : RMo R n dogs fenced heights partner often) (hL : RLw R op arg fek fel fer fes gok gol gor gos) (hV : RVa R n night g flock hunger lean fed taken pacts) (hn4 : n ≤ 4) {M : Nat} (hMb : M ≤ 28) (hX : X < 2 ^ 29) (hR3 : ∃ B, B ≤ X ∧ R 3 = nI B) {lo : Nat → Nat → Int32} (hlo : LoOK op arg R n M lo) (mf mp best losses lossOf : Nat → Int32) (lv : Int32) :
    ∃ (R' mf' mp' best' losses' lossOf' : Nat → Int32), f_X11_findGame op arg R mf mp lv best losses lossOf (nI M) = some (R', mf', mp', -1, best', losses', lossOf') ∧ (∀ k, k < 6000 → R' k = R k) ∧ (∀ i f, i < 4 ^ n → f < n → lossOf' (4 * i + f) = lo i f) := by
  have h256 := p4 n (by omega)
  exact fg_loop hM hL hV hn4 hMb hX hR3 hlo (4 ^ n) 0 FU R mf mp best losses lossOf lv (by omega) (by show 4 ^ n < 5000; omega) (fun _ _ => rfl) (fun i f hi => absurd hi (by omega))
/-- level -/
theorem op_level (hM : RMo R n dogs fenced heights partner often) (hL : RLw R op arg fek fel fer fes gok gol gor gos) (hV : RVa R n night g flock hunger lean fed taken pacts) (hX : X + 43008 < 2 ^ 29) (hR3 : ∃ B, B ≤ X ∧ R 3 = nI B) {losses known found : Nat → Int32} {fm gn gf : Int32} (hG : GC op arg R n losses known found fm gn gf) (am : Nat) (an : Int32) (ag : Int64) (af ah al ae ak ap av afa ke fe : Nat → Int32) (bo fl : Int32) (fv gv : Nat → Int32) (hbo : ∃ B, B ≤ X ∧ bo = nI B) (mt : Nat) (mf mp best mlo : Nat → Int32) (x y z : Int32) :
    ∃ (am' : Nat) (an' bo' fl' : Int32) (ag' : Int64) (af' ah' al' ae' ak' ap' av' afa' ke' fe' fv' gv' : Nat → Int32) (o fm' gn' gf' : Int32) (losses' known' R' mf' mp' best' mlo' : Nat → Int32), f_X10_level 4 night g flock hunger lean fed taken pacts levels (nI n) dogs fenced heights partner fek fel fer fes gok gol gor gos losses known fm gn gf am an ag af ah al ae ak ap av afa ke fe bo fl fv gv mt x y z = some (o, losses', known', fm', gn', gf', am', an', ag', af', ah', al', ae', ak', ap', av', afa', ke', fe', bo', fl', fv', gv') ∧ f_X11_level op arg th R mf mp (-1) best mlo x y z = some (o, 0, R', mf', mp', -1, best', mlo') ∧ (∀ k, k < 6000 → R' k = R k) ∧ GC op arg R n losses' known' found fm' gn' gf' ∧ ∃ B, B ≤ X + 43008 ∧ bo' = nI B := by
  have hn := hM.1
  obtain ⟨B0, hB0, eB0⟩ := hbo
  have hboX : ∃ B, B ≤ X + 43008 ∧ bo = nI B := ⟨B0, by omega, eB0⟩
  unfold f_X10_level f_X11_level
  rcases e_isFarm hn hM.2.1 y with ⟨h1, h2⟩ | ⟨f, hf, rfl, h1, h2⟩
  · refine ⟨am, an, bo, fl, ag, af, ah, al, ae, ak, ap, av, afa, ke, fe, fv, gv, -1, fm, gn, gf, losses, known, R, mf, mp, best, mlo, by rw [h1, bd_s, if_pos z00], ?_, fun _ _ => rfl, hG, hboX⟩
    rcases e_readyG hn hM.2.1 hG z with ⟨-, r2⟩ | ⟨M, lo, known', fm', m1, m2, rfl, n4, -, r2, -⟩
    · rw [r2, bd_s, if_pos z00]
    · rw [r2, bd_s, if_neg z10, h2, bd_s, if_pos z00]
  · rcases e_readyG hn hM.2.1 hG z with ⟨r1, r2⟩ | ⟨M, lo, known', fm', m1, m2, rfl, n4, r1, r2, hlo, hK, hF⟩
    · exact ⟨am, an, bo, fl, ag, af, ah, al, ae, ak, ap, av, afa, ke, fe, fv, gv, -1, fm, gn, gf, losses, known, R, mf, mp, best, mlo, by rw [h1, bd_s, if_neg z10, r1, bd_s]; rfl, by rw [r2, bd_s, if_pos z00], fun _ _ => rfl, hG, hboX⟩
    · have h256 := p4 n (by omega)
      have hG' : ∀ l k, CK n l k lo → GC op arg R n l k found fm' (nI M) (nI n) := fun l k h => Or.inr ⟨M, lo, m1, m2, rfl, n4, rfl, hlo, h, hF⟩
      rcases e_isRow n4 x with ⟨q1, q2⟩ | ⟨row, hrow, rfl, q1⟩
      · refine ⟨am, an, bo, fl, ag, af, ah, al, ae, ak, ap, av, afa, ke, fe, fv, gv, -1, fm', nI M, nI n, losses, known', R, mf, mp, best, mlo, ?_, ?_, fun _ _ => rfl, hG' _ _ hK, hboX⟩
        · rw [h1, bd_s, if_neg z10, r1, bd_s]
          simp only
          rw [if_neg z10, q1, bd_s, if_pos z00]
        · rw [r2, bd_s, if_neg z10, h2, bd_s, if_neg z10, gameRows_e n4 hM.2.1, bd_s]
          rcases q2 with q2 | ⟨k, k1, k2, rfl⟩
          · rw [if_pos q2]
          · rw [if_neg (nI_pos k1), if_neg (nI_nlt k2 k1)]
      · obtain ⟨am', an', bo', fl', ag', af', ah', al', ae', ak', ap', av', afa', ke', fe', fv', gv', losses', known2, a1, a2, a3, a4, a5⟩ := look_g hM hL hV n4 m2 (by omega) hR3 hlo hrow hK am an ag af ah al ae ak ap av afa ke fe bo fl fv gv ⟨B0, hB0, eB0⟩ mt
        have hE : RLe n (nI row) (fun f => nI (lvl row f)) := Or.inr ⟨nI_pos (by omega), fun f hf => ⟨lvl row f, by have := lvl_lt row f; omega, rfl, w_lv row (by omega) f (by omega)⟩⟩
        obtain ⟨mf1, mp1, best1, mlo1, b1, b2⟩ := lo_ref hM hL hE hV hR3 m2 (by omega) (R2 := R) (fun k hk => rfl) mf mp best mlo
        obtain ⟨B', hB', eB'⟩ := a5
        refine ⟨am', an', bo', fl', ag', af', ah', al', ae', ak', ap', av', afa', ke', fe', fv', gv', lo row f, fm', nI M, nI n, losses', known2, cr R 0 6, mf1, mp1, best1, mlo1, ?_, ?_, fun k hk => cr_lo R hk, hG' _ _ a2, B', by omega, eB'⟩
        · rw [h1, bd_s, if_neg z10, r1, bd_s]
          simp only
          rw [if_neg z10, q1, bd_s, if_neg z10, a1, bd_s]
          simp only
          rw [e_lossIn (by omega) (by omega), bd_s, a2 row hrow a3 f hf]
        · rw [r2, bd_s, if_neg z10, h2, bd_s, if_neg z10, gameRows_e n4 hM.2.1, bd_s, if_neg (nI_pos (by omega)), if_pos (nI_lt hrow (by omega)), b1, bd_s]
          simp only
          rw [g_nI (by omega) (by decide), ix_nI (by omega), b2 f hf, hlo row f hrow hf]
theorem rests_loop {R2 lossOf : Nat → Int32} {lo : Nat → Nat → Int32} (hn : n ≤ 4) (hR0 : R2 0 = nI n) (hl : ∀ r f, r < 4 ^ n → f < n → lossOf (4 * r + f) = lo r f) (mf mp best losses : Nat → Int32) (lv : Int32) : ∀ (r e gg : Nat), e + r = 4 ^ n → r < gg →
    f_X11_rests_L24 op arg gg 0 R2 mf mp lv best losses lossOf (nI (rl lo n e).length) (nI e) = some (nI (rl lo n (4 ^ n)).length, 0, R2, mf, mp, lv, best, losses, lossOf) := by
  have h256 := p4 n (by omega)
  intro r
  induction r with
  | zero =>
    intro e gg he hg
    obtain ⟨gg, rfl⟩ : ∃ z, gg = z + 1 := ⟨gg - 1, by omega⟩
    have he : e = 4 ^ n := by omega
    subst he
    show f_X11_rests_L24b _ _ _ _ _ _ _ _ _ _ _ _ _ = _
    unfold f_X11_rests_L24b
    rw [gameRows_e hn hR0, bd_s, if_pos (nI_le (Nat.le_refl _) (by omega))]
  | succ r ih =>
    intro e gg he hg
    obtain ⟨gg, rfl⟩ : ∃ z, gg = z + 1 := ⟨gg - 1, by omega⟩
    have hi := ih (e + 1) gg (by omega) (by omega)
    have hs : rl lo n (e + 1) = if rT lo e n then rl lo n e ++ [e] else rl lo n e := rfl
    have hst := e_isRest (row := e) hn hR0 (by omega) hl
    show f_X11_rests_L24b _ _ _ _ _ _ _ _ _ _ _ _ _ = _
    unfold f_X11_rests_L24b
    rw [gameRows_e hn hR0, bd_s, if_neg (nI_ge (by omega) (by omega)), hst, bd_s]
    simp only [f_X11_rests_B46, lt_]
    cases ht : rT lo e n with
    | false =>
      rw [ht] at hs
      have hs : rl lo n (e + 1) = rl lo n e := hs
      rw [hs] at hi
      rw [if_pos (by rfl), Int32.add_zero, ← nI_succ]
      exact hi
    | true =>
      rw [ht] at hs
      have hs : rl lo n (e + 1) = rl lo n e ++ [e] := hs
      rw [hs, List.length_append, List.length_singleton] at hi
      rw [if_neg (by decide), ← nI_succ, ← nI_succ]
      exact hi
theorem rest_loop {R2 lossOf : Nat → Int32} {lo : Nat → Nat → Int32} (hn : n ≤ 4) (hR0 : R2 0 = nI n) (hl : ∀ r f, r < 4 ^ n → f < n → lossOf (4 * r + f) = lo r f) (mf mp best losses : Nat → Int32) (lv : Int32) {I : Nat} (hI : I < 2 ^ 31) : ∀ (r e gg : Nat), e + r = 4 ^ n → r < gg → (rl lo n e).length ≤ I →
    f_X11_rest_L29 op arg gg 0 R2 mf mp lv best losses lossOf (nI I) (nI (rl lo n e).length) (nI e) = some (((rl lo n (4 ^ n))[I]?).elim (-1) nI, 0, R2, mf, mp, lv, best, losses, lossOf) := by
  have h256 := p4 n (by omega)
  intro r
  induction r with
  | zero =>
    intro e gg he hg hlen
    obtain ⟨gg, rfl⟩ : ∃ z, gg = z + 1 := ⟨gg - 1, by omega⟩
    have he : e = 4 ^ n := by omega
    subst he
    show f_X11_rest_L29b _ _ _ _ _ _ _ _ _ _ _ _ _ _ = _
    unfold f_X11_rest_L29b
    rw [gameRows_e hn hR0, bd_s, if_pos (nI_le (Nat.le_refl _) (by omega)), List.getElem?_eq_none hlen]
    rfl
  | succ r ih =>
    intro e gg he hg hlen
    obtain ⟨gg, rfl⟩ : ∃ z, gg = z + 1 := ⟨gg - 1, by omega⟩
    have hs : rl lo n (e + 1) = if rT lo e n then rl lo n e ++ [e] else rl lo n e := rfl
    have hst := e_isRest (row := e) hn hR0 (by omega) hl
    have hle := rl_len lo n e
    show f_X11_rest_L29b _ _ _ _ _ _ _ _ _ _ _ _ _ _ = _
    unfold f_X11_rest_L29b
    rw [gameRows_e hn hR0, bd_s, if_neg (nI_ge (by omega) (by omega)), hst, bd_s]
    simp only [f_X11_rest_B58, lt_]
    cases ht : rT lo e n with
    | false =>
      rw [ht] at hs
      have hs : rl lo n (e + 1) = rl lo n e := hs
      have hi := ih (e + 1) gg (by omega) (by omega) (by rw [hs]; exact hlen)
      rw [hs] at hi
      rw [if_pos (by rfl), ← nI_succ]
      exact hi
    | true =>
      rw [ht] at hs
      have hs : rl lo n (e + 1) = rl lo n e ++ [e] := hs
      rw [if_neg (by decide)]
      by_cases hc : (rl lo n e).length = I
      · rw [if_pos (by rw [hc])]
        have hp := (rl_pre lo n (e + 1) (4 ^ n) (by omega) I (by rw [hs, List.length_append, List.length_singleton]; omega)).1
        rw [hp, hs, ← hc, List.getElem?_append_right (Nat.le_refl _), Nat.sub_self]
        rfl
      · have hi := ih (e + 1) gg (by omega) (by omega) (by rw [hs, List.length_append, List.length_singleton]; omega)
        rw [hs, List.length_append, List.length_singleton] at hi
        rw [if_neg (by rw [i_eq (by omega) hI]; exact hc), ← nI_succ, ← nI_succ]
        exact hi
/-- rests -/
theorem op_rests (hM : RMo R n dogs fenced heights partner often) (hL : RLw R op arg fek fel fer fes gok gol gor gos) (hV : RVa R n night g flock hunger lean fed taken pacts) (hX : X + 43008 < 2 ^ 29) (hR3 : ∃ B, B ≤ X ∧ R 3 = nI B) {losses known found : Nat → Int32} {fm gn gf : Int32} (hG : GC op arg R n losses known found fm gn gf) (am : Nat) (an : Int32) (ag : Int64) (af ah al ae ak ap av afa ke fe : Nat → Int32) (bo fl : Int32) (fv gv : Nat → Int32) (hbo : ∃ B, B ≤ X ∧ bo = nI B) (mt : Nat) (mf mp best mlo lossOf : Nat → Int32) (x : Int32) :
    ∃ (am' : Nat) (an' bo' fl' : Int32) (ag' : Int64) (af' ah' al' ae' ak' ap' av' afa' ke' fe' fv' gv' : Nat → Int32) (o fm' gn' gf' : Int32) (losses' known' found' R' mf' mp' best' mlo' lossOf' : Nat → Int32), f_X10_rests 4 night g flock hunger lean fed taken pacts levels (nI n) dogs fenced heights partner fek fel fer fes gok gol gor gos losses known found fm gn gf am an ag af ah al ae ak ap av afa ke fe bo fl fv gv mt x = some (o, losses', known', found', fm', gn', gf', am', an', ag', af', ah', al', ae', ak', ap', av', afa', ke', fe', bo', fl', fv', gv') ∧ f_X11_rests op arg th R mf mp (-1) best mlo lossOf x = some (o, 0, R', mf', mp', -1, best', mlo', lossOf') ∧ (∀ k, k < 6000 → R' k = R k) ∧ GC op arg R n losses' known' found' fm' gn' gf' ∧ ∃ B, B ≤ X + 43008 ∧ bo' = nI B := by
  have hn := hM.1
  obtain ⟨B0, hB0, eB0⟩ := hbo
  have hboX : ∃ B, B ≤ X + 43008 ∧ bo = nI B := ⟨B0, by omega, eB0⟩
  unfold f_X10_rests f_X11_rests
  rcases e_readyG hn hM.2.1 hG x with ⟨r1, r2⟩ | ⟨M, lo, known', fm', m1, m2, rfl, n4, r1, r2, hlo, hK, hF⟩
  · exact ⟨am, an, bo, fl, ag, af, ah, al, ae, ak, ap, av, afa, ke, fe, fv, gv, -1, fm, gn, gf, losses, known, found, R, mf, mp, best, mlo, lossOf, by rw [r1, bd_s]; rfl, by rw [r2, bd_s, if_pos z00], fun _ _ => rfl, hG, hboX⟩
  · have h256 := p4 n (by omega)
    obtain ⟨am', an', bo', fl', ag', af', ah', al', ae', ak', ap', av', afa', ke', fe', fv', gv', losses', known2, found', a1, a2, a3, a5⟩ := e_findAll hM hL hV n4 m2 hR3 hlo hK hF am an ag af ah al ae ak ap av afa ke fe bo fl fv gv (by omega) ⟨B0, hB0, eB0⟩ mt
    obtain ⟨R', mf', mp', best', mlo', lossOf', b1, b2, b3⟩ := e_findGame hM hL hV n4 m2 (by omega) hR3 hlo mf mp best mlo lossOf (-1)
    refine ⟨am', an', bo', fl', ag', af', ah', al', ae', ak', ap', av', afa', ke', fe', fv', gv', nI (rl lo n (4 ^ n)).length, nI (rl lo n (4 ^ n)).length, nI M, nI n, losses', known2, found', R', mf', mp', best', mlo', lossOf', ?_, ?_, b2, Or.inr ⟨M, lo, m1, m2, rfl, n4, rfl, hlo, a2, Or.inr ⟨rfl, a3⟩⟩, a5⟩
    · rw [r1, bd_s]
      simp only
      rw [if_neg z10, a1, bd_s]
    · rw [r2, bd_s, if_neg z10, b1, bd_s]
      exact rests_loop (op := op) (arg := arg) n4 (by rw [b2 0 (by omega)]; exact hM.2.1) b3 mf' mp' best' mlo' (-1) (4 ^ n) 0 FU (by omega) (by show 4 ^ n < 5000; omega)
theorem e_foundAt {lo : Nat → Nat → Int32} (hn : n ≤ 4) {found : Nat → Int32} (h : ∀ i x, (rl lo n (4 ^ n))[i]? = some x → found i = nI x) {I : Nat} (hI : I < 2 ^ 31) : f_X6_foundAt_g found (nI (rl lo n (4 ^ n)).length) (nI I) = some (((rl lo n (4 ^ n))[I]?).elim (-1) nI) := by
  have h256 := p4 n (by omega)
  have hle := rl_len lo n (4 ^ n)
  unfold f_X6_foundAt_g
  rw [if_neg (nI_pos hI)]
  by_cases hc : (rl lo n (4 ^ n)).length ≤ I
  · rw [if_pos (nI_le hc hI), List.getElem?_eq_none hc]
    rfl
  · rw [if_neg (nI_ge (by omega) (by omega)), g_nI (by omega) (by decide), ix_nI hI]
    have hx : (rl lo n (4 ^ n))[I]? = some (rl lo n (4 ^ n))[I] := List.getElem?_eq_getElem (by omega)
    rw [h I _ hx, hx]
    rfl
/-- rest -/
theorem op_rest (hM : RMo R n dogs fenced heights partner often) (hL : RLw R op arg fek fel fer fes gok gol gor gos) (hV : RVa R n night g flock hunger lean fed taken pacts) (hX : X + 43008 < 2 ^ 29) (hR3 : ∃ B, B ≤ X ∧ R 3 = nI B) {losses known found : Nat → Int32} {fm gn gf : Int32} (hG : GC op arg R n losses known found fm gn gf) (am : Nat) (an : Int32) (ag : Int64) (af ah al ae ak ap av afa ke fe : Nat → Int32) (bo fl : Int32) (fv gv : Nat → Int32) (hbo : ∃ B, B ≤ X ∧ bo = nI B) (mt : Nat) (mf mp best mlo lossOf : Nat → Int32) (x y : Int32) :
    ∃ (am' : Nat) (an' bo' fl' : Int32) (ag' : Int64) (af' ah' al' ae' ak' ap' av' afa' ke' fe' fv' gv' : Nat → Int32) (o fm' gn' gf' : Int32) (losses' known' found' R' mf' mp' best' mlo' lossOf' : Nat → Int32), f_X10_rest 4 night g flock hunger lean fed taken pacts levels (nI n) dogs fenced heights partner fek fel fer fes gok gol gor gos losses known found fm gn gf am an ag af ah al ae ak ap av afa ke fe bo fl fv gv mt x y = some (o, losses', known', found', fm', gn', gf', am', an', ag', af', ah', al', ae', ak', ap', av', afa', ke', fe', bo', fl', fv', gv') ∧ f_X11_rest op arg th R mf mp (-1) best mlo lossOf x y = some (o, 0, R', mf', mp', -1, best', mlo', lossOf') ∧ (∀ k, k < 6000 → R' k = R k) ∧ GC op arg R n losses' known' found' fm' gn' gf' ∧ ∃ B, B ≤ X + 43008 ∧ bo' = nI B := by
  have hn := hM.1
  obtain ⟨B0, hB0, eB0⟩ := hbo
  have hboX : ∃ B, B ≤ X + 43008 ∧ bo = nI B := ⟨B0, by omega, eB0⟩
  unfold f_X10_rest f_X11_rest
  rcases e_readyG hn hM.2.1 hG x with ⟨r1, r2⟩ | ⟨M, lo, known', fm', m1, m2, rfl, n4, r1, r2, hlo, hK, hF⟩
  · exact ⟨am, an, bo, fl, ag, af, ah, al, ae, ak, ap, av, afa, ke, fe, fv, gv, -1, fm, gn, gf, losses, known, found, R, mf, mp, best, mlo, lossOf, by rw [r1, bd_s]; rfl, by rw [r2, bd_s, if_pos z00], fun _ _ => rfl, hG, hboX⟩
  · have h256 := p4 n (by omega)
    obtain ⟨am', an', bo', fl', ag', af', ah', al', ae', ak', ap', av', afa', ke', fe', fv', gv', losses', known2, found', a1, a2, a3, a5⟩ := e_findAll hM hL hV n4 m2 hR3 hlo hK hF am an ag af ah al ae ak ap av afa ke fe bo fl fv gv (by omega) ⟨B0, hB0, eB0⟩ mt
    rcases w_two y with hy | ⟨I, hI, rfl⟩
    · have hy0 : ¬ 0 ≤ y := (fa_of_lt hy).2.1
      refine ⟨am', an', bo', fl', ag', af', ah', al', ae', ak', ap', av', afa', ke', fe', fv', gv', -1, nI (rl lo n (4 ^ n)).length, nI M, nI n, losses', known2, found', R, mf, mp, best, mlo, lossOf, ?_, ?_, fun _ _ => rfl, Or.inr ⟨M, lo, m1, m2, rfl, n4, rfl, hlo, a2, Or.inr ⟨rfl, a3⟩⟩, a5⟩
      · rw [r1, bd_s]
        simp only
        rw [if_neg z10, a1, bd_s]
        simp only
        unfold f_X6_foundAt_g
        rw [if_pos hy, bd_s]
      · rw [r2, bd_s, if_neg z10, if_neg hy0]
    · obtain ⟨R', mf', mp', best', mlo', lossOf', b1, b2, b3⟩ := e_findGame hM hL hV n4 m2 (by omega) hR3 hlo mf mp best mlo lossOf (-1)
      refine ⟨am', an', bo', fl', ag', af', ah', al', ae', ak', ap', av', afa', ke', fe', fv', gv', ((rl lo n (4 ^ n))[I]?).elim (-1) nI, nI (rl lo n (4 ^ n)).length, nI M, nI n, losses', known2, found', R', mf', mp', best', mlo', lossOf', ?_, ?_, b2, Or.inr ⟨M, lo, m1, m2, rfl, n4, rfl, hlo, a2, Or.inr ⟨rfl, a3⟩⟩, a5⟩
      · rw [r1, bd_s]
        simp only
        rw [if_neg z10, a1, bd_s]
        simp only
        rw [e_foundAt n4 a3 hI, bd_s]
      · rw [r2, bd_s, if_neg z10, if_pos (nI_pos' hI), b1, bd_s]
        exact rest_loop (op := op) (arg := arg) n4 (by rw [b2 0 (by omega)]; exact hM.2.1) b3 mf' mp' best' mlo' (-1) hI (4 ^ n) 0 FU (by omega) (by show 4 ^ n < 5000; omega) (Nat.zero_le _)
end WH
