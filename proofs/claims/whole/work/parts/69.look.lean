/-! PURE 20: the game's rows, looked at (src/t69.lean through gen/tmpl.py) -/
def CK (n : Nat) (losses known : Nat → Int32) (lo : Nat → Nat → Int32) : Prop := ∀ r, r < 4 ^ n → known r ≠ 0 → ∀ f, f < n → losses (6 * r + f) = lo r f
def LoOK (op arg R : Nat → Int32) (n M : Nat) (lo : Nat → Nat → Int32) : Prop := ∀ r f, r < 4 ^ n → f < n → Lo op arg R M (nI r) f = lo r f
def FO (n : Nat) (lo : Nat → Nat → Int32) (found : Nat → Int32) (fm : Int32) : Prop := fm = nI (rl lo n (4 ^ n)).length ∧ ∀ i x, (rl lo n (4 ^ n))[i]? = some x → found i = nI x
theorem rows_g : ∀ n, n < 5 → (1 : Int32) <<< ((2 * nI n) &&& 31) = nI (4 ^ n) := by decide +kernel
theorem e_isRow {n : Nat} (hn : n ≤ 4) (x : Int32) : (f_X1_isRow (nI n) x = some 0 ∧ (x < 0 ∨ ∃ k, k < 2 ^ 31 ∧ 4 ^ n ≤ k ∧ x = nI k)) ∨ ∃ k, k < 4 ^ n ∧ x = nI k ∧ f_X1_isRow (nI n) x = some 1 := by
  have h256 := p4 n (by omega)
  unfold f_X1_isRow f_X1_rows f_X6_farms_g
  rw [bd_s, bd_s, rows_g n (by omega)]
  rcases w_two x with h | ⟨k, hk, rfl⟩
  · left; rw [if_pos h]; exact ⟨rfl, Or.inl h⟩
  · rw [if_neg (nI_pos hk)]
    by_cases h : 4 ^ n ≤ k
    · left; rw [if_pos (nI_le h hk)]; exact ⟨rfl, Or.inr ⟨k, hk, h, rfl⟩⟩
    · right; exact ⟨k, by omega, rfl, by rw [if_neg (nI_ge (by omega) (by omega))]⟩
theorem e_arrange {n row : Nat} (hn : n ≤ 4) (hr : row < 256) : ∀ (r e gg : Nat) (lv : Nat → Int32), e + r = n → r < gg → (∀ f, f < e → lv f = nI (lvl row f)) → ∃ lv', f_X1_arrange_L2 (nI n) gg lv (nI row) (nI e) = some lv' ∧ ∀ f, f < n → lv' f = nI (lvl row f) := by
  intro r
  induction r with
  | zero =>
    intro e gg lv he hg hl
    obtain ⟨gg, rfl⟩ : ∃ z, gg = z + 1 := ⟨gg - 1, by omega⟩
    have he : e = n := by omega
    subst he
    refine ⟨lv, ?_, hl⟩
    show f_X1_arrange_L2b _ _ _ _ _ = _
    unfold f_X1_arrange_L2b f_X6_farms_g
    rw [bd_s, if_pos (nI_le (Nat.le_refl _) (by omega))]
  | succ r ih =>
    intro e gg lv he hg hl
    obtain ⟨gg, rfl⟩ : ∃ z, gg = z + 1 := ⟨gg - 1, by omega⟩
    obtain ⟨lv', a1, a2⟩ := ih (e + 1) gg (upd lv e (nI (lvl row e))) (by omega) (by omega) (fun f hf => by
      by_cases h : f = e
      · rw [h, u_s]
      · rw [u_n h]; exact hl f (by omega))
    refine ⟨lv', ?_, a2⟩
    show f_X1_arrange_L2b _ _ _ _ _ = _
    unfold f_X1_arrange_L2b f_X6_farms_g
    rw [bd_s, if_neg (nI_ge (by omega) (by omega)), g_nI (by omega) (by decide), ix_nI (by omega)]
    simp only [lt_]
    rw [w_sh row hr e (by omega), ← nI_succ]
    exact a1
section WG
variable {n : Nat} {op arg dogs fenced heights partner often : Nat → Int32} {fek fel fer : Nat → Int32} {fes : Int32} {gok gol gor : Nat → Int32} {gos : Int32} {ml : Int32} {levels : Nat → Int32} {R : Nat → Int32} {night : Int32} {g : Int64} {flock hunger lean fed taken pacts kept feuds : Nat → Int32} {bones fall : Int32} {X : Nat} {th : Int32}
theorem look60 {M row : Nat} (hn : n ≤ 4) (hr : row < 256) (known l0 : Nat → Int32) (am : Nat) (an : Int32) (ag : Int64) (af ah al ae ak ap av afa ke fe : Nat → Int32) (bo fl : Int32) (fv gv : Nat → Int32) (mt : Nat) : ∀ (r e gg : Nat) (losses : Nat → Int32), e + r = n → r < gg → (∀ f, f < e → losses (6 * row + f) = (ae f + ak f) - (fed f + taken f)) → (∀ k, (k < 6 * row ∨ 6 * row + 6 ≤ k) → losses k = l0 k) →
    ∃ losses', f_X6_lookAt_g_L60 (nI M) (nI n) night g flock hunger lean fed taken pacts levels (nI n) dogs fenced heights partner fek fel fer fes gok gol gor gos mt gg losses known am an ag af ah al ae ak ap av afa ke fe bo fl fv gv (nI row) (nI e) = some (losses', upd known row 1, am, an, ag, af, ah, al, ae, ak, ap, av, afa, ke, fe, bo, fl, fv, gv) ∧ (∀ f, f < n → losses' (6 * row + f) = (ae f + ak f) - (fed f + taken f)) ∧ ∀ k, (k < 6 * row ∨ 6 * row + 6 ≤ k) → losses' k = l0 k := by
  intro r
  induction r with
  | zero =>
    intro e gg losses he hg h1 h2
    obtain ⟨gg, rfl⟩ : ∃ z, gg = z + 1 := ⟨gg - 1, by omega⟩
    have he : e = n := by omega
    subst he
    refine ⟨losses, ?_, h1, h2⟩
    unfold f_X6_lookAt_g_L60 f_X6_lookAt_g_L60b
    rw [if_pos (nI_le (Nat.le_refl _) (by omega)), g_nI (by omega) (by decide), ix_nI (by omega)]
    rfl
  | succ r ih =>
    intro e gg losses he hg h1 h2
    obtain ⟨gg, rfl⟩ : ∃ z, gg = z + 1 := ⟨gg - 1, by omega⟩
    have e1 : (nI row * 6) + nI e = nI (6 * row + e) := by rw [show (6 : Int32) = nI 6 from rfl, i_mul, i_add, Nat.mul_comm]
    obtain ⟨losses', a1, a2, a3⟩ := ih (e + 1) gg (upd losses (6 * row + e) ((ae e + ak e) - (fed e + taken e))) (by omega) (by omega) (fun f hf => by
      by_cases h : f = e
      · rw [h, u_s]
      · rw [u_n (by omega)]; exact h1 f (by omega)) (fun k hk => by rw [u_n (by omega)]; exact h2 k hk)
    refine ⟨losses', ?_, a2, a3⟩
    unfold f_X6_lookAt_g_L60 f_X6_lookAt_g_L60b
    rw [if_neg (nI_ge (by omega) (by omega))]
    unfold f_X9_goneFrom
    simp only [g_nI (show e < 6 by omega) (show 6 < 2 ^ 31 by decide), ix_nI (show e < 2 ^ 31 by omega), bd_s, e1]
    rw [g_nI (by omega) (by decide), ix_nI (by omega)]
    simp only [lt_]
    rw [← nI_succ]
    exact a1
/-- one row is looked at -/
theorem look_g (hM : RMo R n dogs fenced heights partner often) (hL : RLw R op arg fek fel fer fes gok gol gor gos) (hV : RVa R n night g flock hunger lean fed taken pacts) (hn4 : n ≤ 4) {M : Nat} (hMb : M ≤ 28) (hX : X < 2 ^ 29) (hR3 : ∃ B, B ≤ X ∧ R 3 = nI B) {lo : Nat → Nat → Int32} (hlo : LoOK op arg R n M lo) {row : Nat} (hrow : row < 4 ^ n) {losses known : Nat → Int32} (hK : CK n losses known lo) (am : Nat) (an : Int32) (ag : Int64) (af ah al ae ak ap av afa ke fe : Nat → Int32) (bo fl : Int32) (fv gv : Nat → Int32) (hbo : ∃ B, B ≤ X ∧ bo = nI B) (mt : Nat) :
    ∃ (am' : Nat) (an' bo' fl' : Int32) (ag' : Int64) (af' ah' al' ae' ak' ap' av' afa' ke' fe' fv' gv' : Nat → Int32) (losses' known' : Nat → Int32), f_X6_lookAt_g (nI M) (nI n) night g flock hunger lean fed taken pacts levels (nI n) dogs fenced heights partner fek fel fer fes gok gol gor gos losses known am an ag af ah al ae ak ap av afa ke fe bo fl fv gv mt (nI row) = some (losses', known', am', an', ag', af', ah', al', ae', ak', ap', av', afa', ke', fe', bo', fl', fv', gv') ∧ CK n losses' known' lo ∧ known' row ≠ 0 ∧ (∀ r, known r ≠ 0 → known' r ≠ 0) ∧ ∃ B, B ≤ X + 168 ∧ bo' = nI B := by
  have hn := hM.1
  have h256 := p4 n (by omega)
  have h2 : ¬ (256 : Int32) ≤ nI row := by
    rw [show (256 : Int32) = nI 256 from rfl]
    exact nI_ge (by omega) (by decide)
  unfold f_X6_lookAt_g
  rw [if_neg (nI_pos (by omega)), if_neg h2, g_nI (by omega) (by decide), ix_nI (by omega)]
  by_cases hk : known row = 0
  · rw [if_pos hk]
    obtain ⟨lv', l1, l2⟩ := e_arrange (n := n) (row := row) hn4 (by omega) n 0 FU (va_cpy levels av 0 0 6) (by omega) (by show n < 5000; omega) (fun f hf => absurd hf (by omega))
    have hE : RLe n (nI row) lv' := Or.inr ⟨nI_pos (by omega), fun f hf => ⟨lvl row f, by have := lvl_lt row f; omega, l2 f hf, w_lv row (by omega) f (by omega)⟩⟩
    obtain ⟨x1, x2, x3, x4, x5, x6, x7, x8, x9, x10, x11, x12, x13, a1, a2, a3⟩ := lo_cls hM hL hE (hV.copy hn af ah al ae ak ap) hR3 hbo hMb hX afa fv gv ke fe fl
    obtain ⟨losses', b1, b2, b3⟩ := look60 (M := M) (row := row) (night := night) (g := g) (flock := flock) (hunger := hunger) (lean := lean) (fed := fed) (taken := taken) (pacts := pacts) (levels := levels) (dogs := dogs) (fenced := fenced) (heights := heights) (partner := partner) (fek := fek) (fel := fel) (fer := fer) (fes := fes) (gok := gok) (gol := gol) (gor := gor) (gos := gos) hn4 (by omega) known losses mt x10 x11 x1 (va_cpy hunger ah 0 0 6) x2 x3 x4 (va_cpy pacts ap 0 0 6) lv' x5 x8 x9 x12 x13 x6 x7 mt n 0 FU losses (by omega) (by show n < 5000; omega) (fun f hf => absurd hf (by omega)) (fun _ _ => rfl)
    refine ⟨mt, x10, x12, x13, x11, x1, va_cpy hunger ah 0 0 6, x2, x3, x4, va_cpy pacts ap 0 0 6, lv', x5, x8, x9, x6, x7, losses', upd known row 1, ?_, fun r hr hkr f hf => ?_, by rw [u_s]; decide, fun r hr => ?_, a3⟩
    · unfold f_X9_copyFrom
      simp only [lt_, bd_s]
      unfold f_X1_arrange
      rw [show (0 : Int32) = nI 0 from rfl, l1, bd_s, a1, bd_s]
      exact b1
    · by_cases e : r = row
      · subst e
        rw [b2 f hf, ← hlo r f hr hf, ← a2 f hf, hV.2.2.2.2.2.1 f hf, hV.2.2.2.2.2.2.1 f hf]
      · rw [u_n e] at hkr
        rw [b3 _ (by omega)]
        exact hK r hr hkr f hf
    · by_cases e : r = row
      · subst e; rw [u_s]; decide
      · rw [u_n e]; exact hr
  · rw [if_neg hk]
    obtain ⟨B, hB, eB⟩ := hbo
    exact ⟨am, an, bo, fl, ag, af, ah, al, ae, ak, ap, av, afa, ke, fe, fv, gv, losses, known, rfl, hK, hk, fun _ h => h, B, by omega, eB⟩
/-- all rows are looked at -/
theorem fa_look (hM : RMo R n dogs fenced heights partner often) (hL : RLw R op arg fek fel fer fes gok gol gor gos) (hV : RVa R n night g flock hunger lean fed taken pacts) (hn4 : n ≤ 4) {M : Nat} (hMb : M ≤ 28) (hR3 : ∃ B, B ≤ X ∧ R 3 = nI B) {lo : Nat → Nat → Int32} (hlo : LoOK op arg R n M lo) (found : Nat → Int32) (fm : Int32) (mt : Nat) : ∀ (r e gg Y : Nat) (losses known : Nat → Int32) (am : Nat) (an : Int32) (ag : Int64) (af ah al ae ak ap av afa ke fe : Nat → Int32) (bo fl : Int32) (fv gv : Nat → Int32), e + r = 4 ^ n → r < gg → X ≤ Y → Y + 168 * r < 2 ^ 29 → CK n losses known lo → (∀ i, i < e → known i ≠ 0) → (∃ B, B ≤ Y ∧ bo = nI B) →
    ∃ (am' : Nat) (an' bo' fl' : Int32) (ag' : Int64) (af' ah' al' ae' ak' ap' av' afa' ke' fe' fv' gv' : Nat → Int32) (losses' known' : Nat → Int32), f_X6_findAll_g_L28 (nI M) (nI n) night g flock hunger lean fed taken pacts levels (nI n) dogs fenced heights partner fek fel fer fes gok gol gor gos mt gg losses known found fm am an ag af ah al ae ak ap av afa ke fe bo fl fv gv (nI (4 ^ n)) (nI e) = f_X6_findAll_g_L59 (nI M) (nI n) night g flock hunger lean fed taken pacts levels (nI n) dogs fenced heights partner fek fel fer fes gok gol gor gos mt FU losses' known' found 0 am' an' ag' af' ah' al' ae' ak' ap' av' afa' ke' fe' bo' fl' fv' gv' (nI (4 ^ n)) 0 ∧ CK n losses' known' lo ∧ (∀ i, i < 4 ^ n → known' i ≠ 0) ∧ ∃ B, B ≤ Y + 168 * r ∧ bo' = nI B := by
  have hn := hM.1
  have h256 := p4 n (by omega)
  intro r
  induction r with
  | zero =>
    intro e gg Y losses known am an ag af ah al ae ak ap av afa ke fe bo fl fv gv he hg hXY hY hK hk hbo
    obtain ⟨gg, rfl⟩ : ∃ z, gg = z + 1 := ⟨gg - 1, by omega⟩
    have he : e = 4 ^ n := by omega
    subst he
    refine ⟨am, an, bo, fl, ag, af, ah, al, ae, ak, ap, av, afa, ke, fe, fv, gv, losses, known, ?_, hK, hk, hbo⟩
    conv => lhs; unfold f_X6_findAll_g_L28 f_X6_findAll_g_L28b
    rw [if_pos (nI_le (Nat.le_refl _) (by omega))]
  | succ r ih =>
    intro e gg Y losses known am an ag af ah al ae ak ap av afa ke fe bo fl fv gv he hg hXY hY hK hk hbo
    obtain ⟨gg, rfl⟩ : ∃ z, gg = z + 1 := ⟨gg - 1, by omega⟩
    have hrow : e < 4 ^ n := by omega
    have hisr : f_X1_isRow (nI n) (nI e) = some 1 := by
      rcases e_isRow hn4 (nI e) with ⟨-, h | ⟨k, hk1, hk2, hk3⟩⟩ | ⟨-, -, -, h⟩
      · exact absurd h (nI_pos (by omega))
      · rw [i_eq (by omega) (by omega)] at hk3; omega
      · exact h
    obtain ⟨B3, hB3, eB3⟩ := hR3
    obtain ⟨am1, an1, bo1, fl1, ag1, af1, ah1, al1, ae1, ak1, ap1, av1, afa1, ke1, fe1, fv1, gv1, l1, k1, a1, a2, a3, a4, a5⟩ := look_g (X := Y) hM hL hV hn4 hMb (by omega) ⟨B3, by omega, eB3⟩ hlo hrow hK am an ag af ah al ae ak ap av afa ke fe bo fl fv gv hbo mt
    obtain ⟨am', an', bo', fl', ag', af', ah', al', ae', ak', ap', av', afa', ke', fe', fv', gv', l', k', b1, b2, b3, b4⟩ := ih (e + 1) gg (Y + 168) l1 k1 am1 an1 ag1 af1 ah1 al1 ae1 ak1 ap1 av1 afa1 ke1 fe1 bo1 fl1 fv1 gv1 (by omega) (by omega) (by omega) (by omega) a2 (fun i hi => by
      by_cases h : i = e
      · rw [h]; exact a3
      · exact a4 i (hk i (by omega))) a5
    refine ⟨am', an', bo', fl', ag', af', ah', al', ae', ak', ap', av', afa', ke', fe', fv', gv', l', k', ?_, b2, b3, ?_⟩
    · conv => lhs; unfold f_X6_findAll_g_L28 f_X6_findAll_g_L28b
      rw [if_neg (nI_ge (by omega) (by omega)), hisr, bd_s, if_neg z10, a1, bd_s]
      simp only [f_X6_findAll_g_B46, lt_]
      rw [← nI_succ]
      exact b1
    · obtain ⟨B, hB, eB⟩ := b4
      exact ⟨B, by omega, eB⟩
/-- those at rest are found -/
theorem fa_find (hn4 : n ≤ 4) {M : Nat} {lo : Nat → Nat → Int32} {losses known : Nat → Int32} (hl : ∀ r f, r < 4 ^ n → f < n → losses (6 * r + f) = lo r f) (am : Nat) (an : Int32) (ag : Int64) (af ah al ae ak ap av afa ke fe : Nat → Int32) (bo fl : Int32) (fv gv : Nat → Int32) (mt : Nat) : ∀ (r e gg : Nat) (found : Nat → Int32), e + r = 4 ^ n → r < gg → (∀ i x, (rl lo n e)[i]? = some x → found i = nI x) →
    ∃ found', f_X6_findAll_g_L59 (nI M) (nI n) night g flock hunger lean fed taken pacts levels (nI n) dogs fenced heights partner fek fel fer fes gok gol gor gos mt gg losses known found (nI (rl lo n e).length) am an ag af ah al ae ak ap av afa ke fe bo fl fv gv (nI (4 ^ n)) (nI e) = some (nI (rl lo n (4 ^ n)).length, losses, known, found', nI (rl lo n (4 ^ n)).length, am, an, ag, af, ah, al, ae, ak, ap, av, afa, ke, fe, bo, fl, fv, gv) ∧ ∀ i x, (rl lo n (4 ^ n))[i]? = some x → found' i = nI x := by
  have h256 := p4 n (by omega)
  intro r
  induction r with
  | zero =>
    intro e gg found he hg hf
    obtain ⟨gg, rfl⟩ : ∃ z, gg = z + 1 := ⟨gg - 1, by omega⟩
    have he : e = 4 ^ n := by omega
    subst he
    refine ⟨found, ?_, hf⟩
    unfold f_X6_findAll_g_L59 f_X6_findAll_g_L59b
    rw [if_pos (nI_le (Nat.le_refl _) (by omega))]
  | succ r ih =>
    intro e gg found he hg hf
    obtain ⟨gg, rfl⟩ : ∃ z, gg = z + 1 := ⟨gg - 1, by omega⟩
    have hrow : e < 4 ^ n := by omega
    have hisr : f_X1_isRow (nI n) (nI e) = some 1 := by
      rcases e_isRow hn4 (nI e) with ⟨-, h | ⟨k, hk1, hk2, hk3⟩⟩ | ⟨-, -, -, h⟩
      · exact absurd h (nI_pos (by omega))
      · rw [i_eq (by omega) (by omega)] at hk3; omega
      · exact h
    have hs : rl lo n (e + 1) = if rT lo e n then rl lo n e ++ [e] else rl lo n e := rfl
    have hlen := rl_len lo n e
    have hst := e_stays hn4 hrow hl
    cases ht : rT lo e n with
    | false =>
      rw [ht] at hst hs
      have hs : rl lo n (e + 1) = rl lo n e := hs
      obtain ⟨found', a1, a2⟩ := ih (e + 1) gg found (by omega) (by omega) (by rw [hs]; exact hf)
      refine ⟨found', ?_, a2⟩
      rw [hs] at a1
      unfold f_X6_findAll_g_L59 f_X6_findAll_g_L59b
      rw [if_neg (nI_ge (by omega) (by omega)), hisr, bd_s, if_neg z10, hst, bd_s, if_pos (by rfl)]
      simp only [f_X6_findAll_g_B100, lt_]
      rw [← nI_succ]
      exact a1
    | true =>
      rw [ht] at hst hs
      have hs : rl lo n (e + 1) = rl lo n e ++ [e] := hs
      obtain ⟨found', a1, a2⟩ := ih (e + 1) gg (upd found (rl lo n e).length (nI e)) (by omega) (by omega) (by
        intro i x hx
        rw [hs] at hx
        by_cases hi : i < (rl lo n e).length
        · rw [List.getElem?_append_left hi] at hx
          rw [u_n (by omega)]
          exact hf i x hx
        · rw [List.getElem?_append_right (by omega)] at hx
          have hi0 : i - (rl lo n e).length = 0 := by
            have := (List.getElem?_eq_some_iff.mp hx).1
            simp at this
            omega
          rw [hi0] at hx
          cases hx
          rw [show i = (rl lo n e).length by omega, u_s])
      refine ⟨found', ?_, a2⟩
      rw [hs, List.length_append, List.length_singleton] at a1
      unfold f_X6_findAll_g_L59 f_X6_findAll_g_L59b
      rw [if_neg (nI_ge (by omega) (by omega)), hisr, bd_s, if_neg z10, hst, bd_s, if_neg (by decide), g_nI (by omega) (by decide), ix_nI (by omega)]
      simp only [f_X6_findAll_g_B100, lt_]
      rw [← nI_succ, ← nI_succ]
      exact a1
theorem e_findAll (hM : RMo R n dogs fenced heights partner often) (hL : RLw R op arg fek fel fer fes gok gol gor gos) (hV : RVa R n night g flock hunger lean fed taken pacts) (hn4 : n ≤ 4) {M : Nat} (hMb : M ≤ 28) (hR3 : ∃ B, B ≤ X ∧ R 3 = nI B) {lo : Nat → Nat → Int32} (hlo : LoOK op arg R n M lo) {losses known found : Nat → Int32} {fm : Int32} (hK : CK n losses known lo) (hF : fm = -1 ∨ FO n lo found fm) (am : Nat) (an : Int32) (ag : Int64) (af ah al ae ak ap av afa ke fe : Nat → Int32) (bo fl : Int32) (fv gv : Nat → Int32) (hX : X + 168 * 256 < 2 ^ 29) (hbo : ∃ B, B ≤ X ∧ bo = nI B) (mt : Nat) :
    ∃ (am' : Nat) (an' bo' fl' : Int32) (ag' : Int64) (af' ah' al' ae' ak' ap' av' afa' ke' fe' fv' gv' : Nat → Int32) (losses' known' found' : Nat → Int32), f_X6_findAll_g (nI M) (nI n) night g flock hunger lean fed taken pacts levels (nI n) dogs fenced heights partner fek fel fer fes gok gol gor gos losses known found fm am an ag af ah al ae ak ap av afa ke fe bo fl fv gv mt = some (nI (rl lo n (4 ^ n)).length, losses', known', found', nI (rl lo n (4 ^ n)).length, am', an', ag', af', ah', al', ae', ak', ap', av', afa', ke', fe', bo', fl', fv', gv') ∧ CK n losses' known' lo ∧ (∀ i x, (rl lo n (4 ^ n))[i]? = some x → found' i = nI x) ∧ ∃ B, B ≤ X + 168 * 256 ∧ bo' = nI B := by
  have hn := hM.1
  have h256 := p4 n (by omega)
  have hlen := rl_len lo n (4 ^ n)
  unfold f_X6_findAll_g
  rcases hF with rfl | ⟨rfl, hf⟩
  · rw [if_pos rfl]
    unfold f_X1_rows f_X6_farms_g
    obtain ⟨am', an', bo', fl', ag', af', ah', al', ae', ak', ap', av', afa', ke', fe', fv', gv', l', k', a1, a2, a3, a4⟩ := fa_look hM hL hV hn4 hMb hR3 hlo found (-1) mt (4 ^ n) 0 FU X losses known am an ag af ah al ae ak ap av afa ke fe bo fl fv gv (by omega) (by show 4 ^ n < 5000; omega) (Nat.le_refl _) (by omega) hK (fun i hi => absurd hi (by omega)) hbo
    obtain ⟨found', b1, b2⟩ := fa_find (M := M) (night := night) (g := g) (flock := flock) (hunger := hunger) (lean := lean) (fed := fed) (taken := taken) (pacts := pacts) (levels := levels) (dogs := dogs) (fenced := fenced) (heights := heights) (partner := partner) (fek := fek) (fel := fel) (fer := fer) (fes := fes) (gok := gok) (gol := gol) (gor := gor) (gos := gos) (lo := lo) (losses := l') (known := k') hn4 (fun r f hr hf => a2 r hr (a3 r hr) f hf) am' an' ag' af' ah' al' ae' ak' ap' av' afa' ke' fe' bo' fl' fv' gv' mt (4 ^ n) 0 FU found (by omega) (by show 4 ^ n < 5000; omega) (fun i x hx => by cases hx)
    refine ⟨am', an', bo', fl', ag', af', ah', al', ae', ak', ap', av', afa', ke', fe', fv', gv', l', k', found', ?_, a2, b2, ?_⟩
    · rw [bd_s, bd_s, rows_g n (by omega), show (256 : Int32) = nI 256 from rfl, ifl (by decide) (by omega), if_neg (by omega)]
      simp only [lt_]
      exact a1.trans b1
    · obtain ⟨B, hB, eB⟩ := a4
      have h4 : 168 * 4 ^ n ≤ 168 * 256 := Nat.mul_le_mul_left _ h256
      exact ⟨B, by omega, eB⟩
  · rw [if_neg (nI_m1 (by omega))]
    obtain ⟨B, hB, eB⟩ := hbo
    exact ⟨am, an, bo, fl, ag, af, ah, al, ae, ak, ap, av, afa, ke, fe, fv, gv, losses, known, found, rfl, hK, hf, B, by omega, eB⟩
end WG
