/-! PURE 22: played (src/t71.lean through gen/tmpl.py) -/
def cz (b : Nat → Int32) : Nat → Nat
  | 0 => 0
  | k + 1 => cz b k + (if b k = 0 then 1 else 0)
theorem cz_up {b : Nat → Int32} {row : Nat} (h : b row = 0) : ∀ k, cz (upd b row 1) k + (if row < k then 1 else 0) = cz b k
  | 0 => rfl
  | k + 1 => by
    have ih := cz_up h k
    show cz (upd b row 1) k + (if upd b row 1 k = 0 then 1 else 0) + (if row < k + 1 then 1 else 0) = cz b k + (if b k = 0 then 1 else 0)
    by_cases e : k = row
    · subst e
      rw [u_s, if_neg z10, if_pos (Nat.lt_succ_self _), if_pos h]
      rw [if_neg (Nat.lt_irrefl _)] at ih
      omega
    · rw [u_n e]
      by_cases hl : row < k
      · rw [if_pos hl] at ih
        rw [if_pos (show row < k + 1 by omega)]
        omega
      · rw [if_neg hl] at ih
        rw [if_neg (show ¬ row < k + 1 by omega)]
        omega
theorem cz_all {b : Nat → Int32} : ∀ {k : Nat}, (∀ i, i < k → b i = 0) → cz b k = k
  | 0, _ => rfl
  | k + 1, h => by
    show cz b k + (if b k = 0 then 1 else 0) = k + 1
    rw [cz_all (fun i hi => h i (by omega)), if_pos (h k (by omega))]
/-- the row after the first farms of a round -/
def rd (lo : Nat → Nat → Int32) (row : Nat) : Nat → Nat
  | 0 => row
  | k + 1 => wN (rd lo row k) k (best_ lo (rd lo row k) k)
theorem rd_lt {lo : Nat → Nat → Int32} {n row : Nat} (hn : n ≤ 4) (hr : row < 4 ^ n) : ∀ k, k ≤ n → rd lo row k < 4 ^ n
  | 0, _ => hr
  | k + 1, h => w_lt n (by omega) _ (rd_lt hn hr k (by omega)) k (by omega) _ (bS_lt lo _ k 4 (Nat.le_refl _))
section WP
variable {n : Nat} {op arg dogs fenced heights partner often : Nat → Int32} {fek fel fer : Nat → Int32} {fes : Int32} {gok gol gor : Nat → Int32} {gos : Int32} {ml : Int32} {levels : Nat → Int32} {R : Nat → Int32} {night : Int32} {g : Int64} {flock hunger lean fed taken pacts kept feuds : Nat → Int32} {bones fall : Int32} {X : Nat} {th : Int32}
/-- the four levels of a farm are looked at, and answered -/
theorem pl49 (hM : RMo R n dogs fenced heights partner often) (hL : RLw R op arg fek fel fer fes gok gol gor gos) (hV : RVa R n night g flock hunger lean fed taken pacts) (hn4 : n ≤ 4) {M : Nat} (hMb : M ≤ 28) (hR3 : ∃ B, B ≤ X ∧ R 3 = nI B) {lo : Nat → Nat → Int32} (hlo : LoOK op arg R n M lo) (kb17 : (Nat → Int32) → (Nat → Int32) → (Nat → Int32) → Int32 → Nat → Int32 → Int64 → (Nat → Int32) → (Nat → Int32) → (Nat → Int32) → (Nat → Int32) → (Nat → Int32) → (Nat → Int32) → (Nat → Int32) → (Nat → Int32) → (Nat → Int32) → (Nat → Int32) → Int32 → Int32 → (Nat → Int32) → (Nat → Int32) → Int32 → Int32 → Option (Int32 × (Nat → Int32) × (Nat → Int32) × (Nat → Int32) × Int32 × Nat × Int32 × Int64 × (Nat → Int32) × (Nat → Int32) × (Nat → Int32) × (Nat → Int32) × (Nat → Int32) × (Nat → Int32) × (Nat → Int32) × (Nat → Int32) × (Nat → Int32) × (Nat → Int32) × Int32 × Int32 × (Nat → Int32) × (Nat → Int32))) (kb37 : (Nat → Int32) → (Nat → Int32) → (Nat → Int32) → Int32 → Nat → Int32 → Int64 → (Nat → Int32) → (Nat → Int32) → (Nat → Int32) → (Nat → Int32) → (Nat → Int32) → (Nat → Int32) → (Nat → Int32) → (Nat → Int32) → (Nat → Int32) → (Nat → Int32) → Int32 → Int32 → (Nat → Int32) → (Nat → Int32) → Int32 → Int32 → Int32 → Int32 → Option (Int32 × (Nat → Int32) × (Nat → Int32) × (Nat → Int32) × Int32 × Nat × Int32 × Int64 × (Nat → Int32) × (Nat → Int32) × (Nat → Int32) × (Nat → Int32) × (Nat → Int32) × (Nat → Int32) × (Nat → Int32) × (Nat → Int32) × (Nat → Int32) × (Nat → Int32) × Int32 × Int32 × (Nat → Int32) × (Nat → Int32)))
    (been : Nat → Int32) (rest l3 l4 : Int32) (mt : Nat) {row f : Nat} (hrow : row < 4 ^ n) (hf : f < n) : ∀ (r e gg Y : Nat) (losses known : Nat → Int32) (am : Nat) (an : Int32) (ag : Int64) (af ah al ae ak ap av afa ke fe : Nat → Int32) (bo fl : Int32) (fv gv : Nat → Int32), e + r = 4 → r < gg → X ≤ Y → Y + 168 * r < 2 ^ 29 → CK n losses known lo → (∀ k, k < e → known (wN row f k) ≠ 0) → (∃ B, B ≤ Y ∧ bo = nI B) →
    ∃ (am' : Nat) (an' bo' fl' : Int32) (ag' : Int64) (af' ah' al' ae' ak' ap' av' afa' ke' fe' fv' gv' : Nat → Int32) (losses' known' : Nat → Int32), f_X1_playFrom_L49 kb17 kb37 (nI M) (nI n) night g flock hunger lean fed taken pacts levels (nI n) dogs fenced heights partner fek fel fer fes gok gol gor gos mt gg losses known been rest am an ag af ah al ae ak ap av afa ke fe bo fl fv gv (nI row) l3 l4 (nI f) (nI e) = kb37 losses' known' been rest am' an' ag' af' ah' al' ae' ak' ap' av' afa' ke' fe' bo' fl' fv' gv' (nI (wN row f (best_ lo row f))) l3 l4 (nI (f + 1)) ∧ CK n losses' known' lo ∧ ∃ B, B ≤ Y + 168 * r ∧ bo' = nI B := by
  have h256 := p4 n (by omega)
  intro r
  induction r with
  | zero =>
    intro e gg Y losses known am an ag af ah al ae ak ap av afa ke fe bo fl fv gv he hg hXY hY hK hk hbo
    obtain ⟨gg, rfl⟩ : ∃ z, gg = z + 1 := ⟨gg - 1, by omega⟩
    have he : e = 4 := by omega
    subst he
    have hw : ∀ k, k < 4 → wN row f k < 4 ^ n := fun k hk => w_lt n (by omega) row hrow f hf k hk
    have ha := e_answer (losses := losses) (lo := lo) (row := row) (f := f) (by omega) (by omega) (fun k hk => by have := hw k hk; omega) (fun k hk2 => hK _ (hw k hk2) (hk k hk2) f hf)
    refine ⟨am, an, bo, fl, ag, af, ah, al, ae, ak, ap, av, afa, ke, fe, fv, gv, losses, known, ?_, hK, hbo⟩
    conv => lhs; unfold f_X1_playFrom_L49 f_X1_playFrom_L49b
    rw [if_pos (by decide), ha, bd_s]
    simp only [lt_]
    rw [← nI_succ]
  | succ r ih =>
    intro e gg Y losses known am an ag af ah al ae ak ap av afa ke fe bo fl fv gv he hg hXY hY hK hk hbo
    obtain ⟨gg, rfl⟩ : ∃ z, gg = z + 1 := ⟨gg - 1, by omega⟩
    have h4 : ¬ (4 : Int32) ≤ nI e := by
      rw [show (4 : Int32) = nI 4 from rfl]
      exact nI_ge (by omega) (by decide)
    have hw := w_lt n (by omega) row hrow f hf e (by omega)
    obtain ⟨B3, hB3, eB3⟩ := hR3
    obtain ⟨am1, an1, bo1, fl1, ag1, af1, ah1, al1, ae1, ak1, ap1, av1, afa1, ke1, fe1, fv1, gv1, l1, k1, a1, a2, a3, a4, a5⟩ := look_g (X := Y) hM hL hV hn4 hMb (by omega) ⟨B3, by omega, eB3⟩ hlo hw hK am an ag af ah al ae ak ap av afa ke fe bo fl fv gv hbo mt
    obtain ⟨am', an', bo', fl', ag', af', ah', al', ae', ak', ap', av', afa', ke', fe', fv', gv', l', k', b1, b2, b4⟩ := ih (e + 1) gg (Y + 168) l1 k1 am1 an1 ag1 af1 ah1 al1 ae1 ak1 ap1 av1 afa1 ke1 fe1 bo1 fl1 fv1 gv1 (by omega) (by omega) (by omega) (by omega) a2 (fun i hi => by
      by_cases h : i = e
      · rw [h]; exact a3
      · exact a4 _ (hk i (by omega))) a5
    refine ⟨am', an', bo', fl', ag', af', ah', al', ae', ak', ap', av', afa', ke', fe', fv', gv', l', k', ?_, b2, ?_⟩
    · conv => lhs; unfold f_X1_playFrom_L49 f_X1_playFrom_L49b
      rw [if_neg h4, w_c row (by omega) f (by omega) e (by omega), bd_s, a1, bd_s]
      simp only [lt_]
      rw [← nI_succ]
      exact b1
    · obtain ⟨B, hB, eB⟩ := b4
      exact ⟨B, by omega, eB⟩
set_option maxRecDepth 100000 in
/-- a round -/
theorem pl37 (hM : RMo R n dogs fenced heights partner often) (hL : RLw R op arg fek fel fer fes gok gol gor gos) (hV : RVa R n night g flock hunger lean fed taken pacts) (hn4 : n ≤ 4) {M : Nat} (hMb : M ≤ 28) (hR3 : ∃ B, B ≤ X ∧ R 3 = nI B) {lo : Nat → Nat → Int32} (hlo : LoOK op arg R n M lo) (kb17 : (Nat → Int32) → (Nat → Int32) → (Nat → Int32) → Int32 → Nat → Int32 → Int64 → (Nat → Int32) → (Nat → Int32) → (Nat → Int32) → (Nat → Int32) → (Nat → Int32) → (Nat → Int32) → (Nat → Int32) → (Nat → Int32) → (Nat → Int32) → (Nat → Int32) → Int32 → Int32 → (Nat → Int32) → (Nat → Int32) → Int32 → Int32 → Option (Int32 × (Nat → Int32) × (Nat → Int32) × (Nat → Int32) × Int32 × Nat × Int32 × Int64 × (Nat → Int32) × (Nat → Int32) × (Nat → Int32) × (Nat → Int32) × (Nat → Int32) × (Nat → Int32) × (Nat → Int32) × (Nat → Int32) × (Nat → Int32) × (Nat → Int32) × Int32 × Int32 × (Nat → Int32) × (Nat → Int32)))
    (been : Nat → Int32) (rest l3 l4 : Int32) (mt : Nat) {row : Nat} (hrow : row < 4 ^ n) : ∀ (r f gg Y : Nat) (losses known : Nat → Int32) (am : Nat) (an : Int32) (ag : Int64) (af ah al ae ak ap av afa ke fe : Nat → Int32) (bo fl : Int32) (fv gv : Nat → Int32), f + r = n → r < gg → X ≤ Y → Y + 672 * r < 2 ^ 29 → CK n losses known lo → (∃ B, B ≤ Y ∧ bo = nI B) →
    ∃ (am' : Nat) (an' bo' fl' : Int32) (ag' : Int64) (af' ah' al' ae' ak' ap' av' afa' ke' fe' fv' gv' : Nat → Int32) (losses' known' : Nat → Int32), f_X1_playFrom_L37 kb17 (nI M) (nI n) night g flock hunger lean fed taken pacts levels (nI n) dogs fenced heights partner fek fel fer fes gok gol gor gos mt gg losses known been rest am an ag af ah al ae ak ap av afa ke fe bo fl fv gv (nI (rd lo row f)) l3 l4 (nI f) = (if nI (rd lo row n) = l4 then some (l3, losses', known', been, nI (rd lo row n), am', an', ag', af', ah', al', ae', ak', ap', av', afa', ke', fe', bo', fl', fv', gv') else g_in (nI (rd lo row n)) 256 (if been (ix (nI (rd lo row n))) = 0 then lt_ (l3 + 1) fun l3_1 => kb17 losses' known' been rest am' an' ag' af' ah' al' ae' ak' ap' av' afa' ke' fe' bo' fl' fv' gv' (nI (rd lo row n)) l3_1 else some (l3, losses', known', been, rest, am', an', ag', af', ah', al', ae', ak', ap', av', afa', ke', fe', bo', fl', fv', gv'))) ∧ CK n losses' known' lo ∧ ∃ B, B ≤ Y + 672 * r ∧ bo' = nI B := by
  have h256 := p4 n (by omega)
  intro r
  induction r with
  | zero =>
    intro f gg Y losses known am an ag af ah al ae ak ap av afa ke fe bo fl fv gv he hg hXY hY hK hbo
    obtain ⟨gg, rfl⟩ : ∃ z, gg = z + 1 := ⟨gg - 1, by omega⟩
    have he : f = n := by omega
    subst he
    refine ⟨am, an, bo, fl, ag, af, ah, al, ae, ak, ap, av, afa, ke, fe, fv, gv, losses, known, ?_, hK, hbo⟩
    conv => lhs; unfold f_X1_playFrom_L37 f_X1_playFrom_L37b f_X6_farms_g
    rw [bd_s, if_pos (nI_le (Nat.le_refl _) (by omega))]
  | succ r ih =>
    intro f gg Y losses known am an ag af ah al ae ak ap av afa ke fe bo fl fv gv he hg hXY hY hK hbo
    obtain ⟨gg, rfl⟩ : ∃ z, gg = z + 1 := ⟨gg - 1, by omega⟩
    have hY4 : Y + 168 * 4 < 2 ^ 29 := by omega
    obtain ⟨am1, an1, bo1, fl1, ag1, af1, ah1, al1, ae1, ak1, ap1, av1, afa1, ke1, fe1, fv1, gv1, l1, k1, a1, a2, a3⟩ := pl49 hM hL hV hn4 hMb hR3 hlo kb17 (f_X1_playFrom_L37 kb17 (nI M) (nI n) night g flock hunger lean fed taken pacts levels (nI n) dogs fenced heights partner fek fel fer fes gok gol gor gos mt gg) been rest l3 l4 mt (rd_lt (lo := lo) hn4 hrow f (by omega)) (f := f) (by omega) 4 0 FU Y losses known am an ag af ah al ae ak ap av afa ke fe bo fl fv gv (by omega) (by decide) hXY hY4 hK (fun k hk => absurd hk (by omega)) hbo
    obtain ⟨am', an', bo', fl', ag', af', ah', al', ae', ak', ap', av', afa', ke', fe', fv', gv', l', k', b1, b2, b4⟩ := ih (f + 1) gg (Y + 672) l1 k1 am1 an1 ag1 af1 ah1 al1 ae1 ak1 ap1 av1 afa1 ke1 fe1 bo1 fl1 fv1 gv1 (by omega) (by omega) (by omega) (by omega) a2 (by obtain ⟨B, hB, eB⟩ := a3; exact ⟨B, by omega, eB⟩)
    refine ⟨am', an', bo', fl', ag', af', ah', al', ae', ak', ap', av', afa', ke', fe', fv', gv', l', k', ?_, b2, ?_⟩
    · conv => lhs; unfold f_X1_playFrom_L37 f_X1_playFrom_L37b f_X6_farms_g
      rw [bd_s, if_neg (nI_ge (by omega) (by omega))]
      exact a1.trans b1
    · obtain ⟨B, hB, eB⟩ := b4
      exact ⟨B, by omega, eB⟩
/-- a round, by the reference -/
theorem rf89 {R2 lossOf was : Nat → Int32} {lo : Nat → Nat → Int32} (hn4 : n ≤ 4) (hR0 : R2 0 = nI n) (hl : ∀ r f, r < 4 ^ n → f < n → lossOf (4 * r + f) = lo r f) (mf mp best losses : Nat → Int32) (lv l3 l5 l6 : Int32) (kb : Int32 → (Nat → Int32) → (Nat → Int32) → (Nat → Int32) → Int32 → (Nat → Int32) → (Nat → Int32) → (Nat → Int32) → (Nat → Int32) → Int32 → Int32 → Int32 → Option (Int32 × Int32 × (Nat → Int32) × (Nat → Int32) × (Nat → Int32) × Int32 × (Nat → Int32) × (Nat → Int32) × (Nat → Int32) × (Nat → Int32))) {row : Nat} (hrow : row < 4 ^ n) : ∀ (r f gg : Nat), f + r = n → r < gg →
    f_X11_played_L89 kb op arg gg 0 R2 mf mp lv best losses lossOf was l3 (nI (rd lo row f)) l5 l6 (nI f) = (lt_ (l5 + 1) fun l5_1 => (if nI (rd lo row n) = l6 then (if l3 = 0 then (some (nI (rd lo row n), 0, R2, mf, mp, lv, best, losses, lossOf, was)) else (some (l5_1, 0, R2, mf, mp, lv, best, losses, lossOf, was))) else (g_in (nI (rd lo row n)) 256 (if (was (ix (nI (rd lo row n)))) = 0 then (g_in (nI (rd lo row n)) 256 (lt_ (upd was (ix (nI (rd lo row n))) (vp_nar .boolean 1)) fun m_wasThere_1 => (kb 0 R2 mf mp lv best losses lossOf m_wasThere_1 l3 (nI (rd lo row n)) l5_1))) else (if l3 = 0 then (some ((-1), 0, R2, mf, mp, lv, best, losses, lossOf, was)) else (some (l5_1, 0, R2, mf, mp, lv, best, losses, lossOf, was))))))) := by
  have h256 := p4 n (by omega)
  intro r
  induction r with
  | zero =>
    intro f gg he hg
    obtain ⟨gg, rfl⟩ : ∃ z, gg = z + 1 := ⟨gg - 1, by omega⟩
    have he : f = n := by omega
    subst he
    conv => lhs; unfold f_X11_played_L89 f_X11_played_L89b
    rw [e_farms, bd_s, hR0, if_pos (nI_le (Nat.le_refl _) (by omega))]
  | succ r ih =>
    intro f gg he hg
    obtain ⟨gg, rfl⟩ : ∃ z, gg = z + 1 := ⟨gg - 1, by omega⟩
    have hlt := rd_lt (lo := lo) hn4 hrow f (by omega)
    have hw : ∀ k, k < 4 → wN (rd lo row f) f k < 4 ^ n := fun k hk => w_lt n (by omega) _ hlt f (by omega) k hk
    have ha := e_bestLevel (lossOf := lossOf) (lo := lo) (row := rd lo row f) (f := f) (by omega) (by omega) (fun k hk => by have := hw k hk; omega) (fun k hk => hl _ _ (hw k hk) (by omega))
    have hb : best_ lo (rd lo row f) f < 4 := bS_lt lo (rd lo row f) f 4 (Nat.le_refl _)
    conv => lhs; unfold f_X11_played_L89 f_X11_played_L89b
    rw [e_farms, bd_s, hR0, if_neg (nI_ge (by omega) (by omega)), ha, bd_s, w_m (by omega) (by omega) hb, bd_s]
    have hi := ih (f + 1) gg (by omega) (by omega)
    have h1 : lt_ (nI f + 1) (fun l7_1 => f_X11_played_L89 kb op arg gg 0 R2 mf mp lv best losses lossOf was l3 (nI (wN (rd lo row f) f (best_ lo (rd lo row f) f))) l5 l6 l7_1) = f_X11_played_L89 kb op arg gg 0 R2 mf mp lv best losses lossOf was l3 (nI (rd lo row (f + 1))) l5 l6 (nI (f + 1)) := by
      unfold lt_
      rw [← nI_succ]
      rfl
    exact h1.trans hi
theorem nar_1 : vp_nar .boolean 1 = 1 := by decide
theorem nar_0 : vp_nar .boolean 0 = 0 := by decide
/-- round after round -/
theorem pl17 (hM : RMo R n dogs fenced heights partner often) (hL : RLw R op arg fek fel fer fes gok gol gor gos) (hV : RVa R n night g flock hunger lean fed taken pacts) (hn4 : n ≤ 4) {M : Nat} (hMb : M ≤ 28) (hR3 : ∃ B, B ≤ X ∧ R 3 = nI B) {lo : Nat → Nat → Int32} (hlo : LoOK op arg R n M lo) (mt : Nat) {R2 lossOf : Nat → Int32} (hR0 : R2 0 = nI n) (hl : ∀ r f, r < 4 ^ n → f < n → lossOf (4 * r + f) = lo r f) (mf mp best mlo : Nat → Int32) (lv what : Int32) :
    ∀ (u g1 g2 Y rho row : Nat) (losses known been was : Nat → Int32) (am : Nat) (an : Int32) (ag : Int64) (af ah al ae ak ap av afa ke fe : Nat → Int32) (bo fl : Int32) (fv gv : Nat → Int32), cz been 256 ≤ u → rho + cz been 256 = 257 → 1 ≤ rho → u < g1 → u < g2 → row < 4 ^ n → been row = 0 → (∀ k, k < 256 → (was k = 0 ↔ (been k = 0 ∧ k ≠ row))) → X ≤ Y → Y + 2688 * u < 2 ^ 29 → CK n losses known lo → (∃ B, B ≤ Y ∧ bo = nI B) →
    ∃ (am' : Nat) (an' bo' fl' : Int32) (ag' : Int64) (af' ah' al' ae' ak' ap' av' afa' ke' fe' fv' gv' : Nat → Int32) (rho' rest' : Int32) (losses' known' been' was' : Nat → Int32), f_X1_playFrom_L17 (nI M) (nI n) night g flock hunger lean fed taken pacts levels (nI n) dogs fenced heights partner fek fel fer fes gok gol gor gos mt g1 losses known been (-1) am an ag af ah al ae ak ap av afa ke fe bo fl fv gv (nI row) (nI rho) = some (rho', losses', known', been', rest', am', an', ag', af', ah', al', ae', ak', ap', av', afa', ke', fe', bo', fl', fv', gv') ∧ f_X11_played_L82 op arg g2 0 R2 mf mp lv best mlo lossOf was what (nI row) (nI (rho - 1)) = some ((if what = 0 then rest' else rho'), 0, R2, mf, mp, lv, best, mlo, lossOf, was') ∧ CK n losses' known' lo ∧ ∃ B, B ≤ Y + 2688 * u ∧ bo' = nI B := by
  have h256 := p4 n (by omega)
  intro u
  induction u with
  | zero =>
    intro g1 g2 Y rho row losses known been was am an ag af ah al ae ak ap av afa ke fe bo fl fv gv hu hc hrho h1 h2 hrow hb hw hXY hY hK hbo
    exfalso
    have := cz_up hb 256
    rw [if_pos (by omega)] at this
    omega
  | succ u ih =>
    intro g1 g2 Y rho row losses known been was am an ag af ah al ae ak ap av afa ke fe bo fl fv gv hu hc hrho h1 h2 hrow hb hw hXY hY hK hbo
    obtain ⟨g1, rfl⟩ : ∃ z, g1 = z + 1 := ⟨g1 - 1, by omega⟩
    obtain ⟨g2, rfl⟩ : ∃ z, g2 = z + 1 := ⟨g2 - 1, by omega⟩
    have hcz := cz_up hb 256
    rw [if_pos (by omega)] at hcz
    have h257 : ¬ (257 : Int32) < nI rho := by
      rw [show (257 : Int32) = nI 257 from rfl]
      exact nI_nlt (by omega) (by decide)
    have hend := rd_lt (lo := lo) hn4 hrow n (Nat.le_refl _)
    have hrr : lt_ (nI (rho - 1) + 1) (fun x : Int32 => x) = nI rho := by
      unfold lt_
      rw [← nI_succ, show rho - 1 + 1 = rho by omega]
    have hrr : nI (rho - 1) + 1 = nI rho := hrr
    obtain ⟨am1, an1, bo1, fl1, ag1, af1, ah1, al1, ae1, ak1, ap1, av1, afa1, ke1, fe1, fv1, gv1, l1, k1, a1, a2, a3⟩ := pl37 hM hL hV hn4 hMb hR3 hlo (f_X1_playFrom_L17 (nI M) (nI n) night g flock hunger lean fed taken pacts levels (nI n) dogs fenced heights partner fek fel fer fes gok gol gor gos mt g1) (upd been row 1) (-1) (nI rho) (nI row) mt hrow n 0 FU Y losses known am an ag af ah al ae ak ap av afa ke fe bo fl fv gv (by omega) (by show n < 5000; omega) hXY (by omega) hK hbo
    have hr := rf89 (op := op) (arg := arg) (was := was) hn4 hR0 hl mf mp best mlo lv what (nI (rho - 1)) (nI row) (f_X11_played_L82 op arg g2) hrow n 0 FU (by omega) (by show n < 5000; omega)
    rw [ix_nI (show rd lo row n < 2 ^ 31 by omega)] at a1 hr
    simp only [lt_, nar_1] at a1 hr
    rw [hrr] at hr
    have hcl : f_X1_playFrom_L17 (nI M) (nI n) night g flock hunger lean fed taken pacts levels (nI n) dogs fenced heights partner fek fel fer fes gok gol gor gos mt (g1 + 1) losses known been (-1) am an ag af ah al ae ak ap av afa ke fe bo fl fv gv (nI row) (nI rho) = f_X1_playFrom_L37 (f_X1_playFrom_L17 (nI M) (nI n) night g flock hunger lean fed taken pacts levels (nI n) dogs fenced heights partner fek fel fer fes gok gol gor gos mt g1) (nI M) (nI n) night g flock hunger lean fed taken pacts levels (nI n) dogs fenced heights partner fek fel fer fes gok gol gor gos mt FU losses known (upd been row 1) (-1) am an ag af ah al ae ak ap av afa ke fe bo fl fv gv (nI (rd lo row 0)) (nI rho) (nI row) (nI 0) := by
      conv => lhs; unfold f_X1_playFrom_L17 f_X1_playFrom_L17b
      rw [if_neg h257, g_nI (by omega) (by decide), ix_nI (by omega)]
      rfl
    have hrf : f_X11_played_L82 op arg (g2 + 1) 0 R2 mf mp lv best mlo lossOf was what (nI row) (nI (rho - 1)) = f_X11_played_L89 (f_X11_played_L82 op arg g2) op arg FU 0 R2 mf mp lv best mlo lossOf was what (nI (rd lo row 0)) (nI (rho - 1)) (nI row) (nI 0) := rfl
    rw [hcl, hrf, a1, hr]
    by_cases hsame : rd lo row n = row
    · rw [if_pos (by rw [hsame]), if_pos (by rw [hsame])]
      refine ⟨am1, an1, bo1, fl1, ag1, af1, ah1, al1, ae1, ak1, ap1, av1, afa1, ke1, fe1, fv1, gv1, nI rho, nI (rd lo row n), l1, k1, upd been row 1, was, rfl, ?_, a2, ?_⟩
      · by_cases hw0 : what = 0
        · rw [if_pos hw0, if_pos hw0]
        · rw [if_neg hw0, if_neg hw0]
      · obtain ⟨B, hB, eB⟩ := a3
        exact ⟨B, by omega, eB⟩
    · have hne : ¬ nI (rd lo row n) = nI row := by
        rw [i_eq (by omega) (by omega)]
        exact hsame
      rw [if_neg hne, if_neg hne, g_nI (by omega) (by decide), g_nI (by omega) (by decide), g_nI (by omega) (by decide), u_n hsame]
      by_cases hbn : been (rd lo row n) = 0
      · have hwn : was (rd lo row n) = 0 := (hw _ (by omega)).mpr ⟨hbn, hsame⟩
        rw [if_pos hbn, if_pos hwn, ← nI_succ]
        obtain ⟨am', an', bo', fl', ag', af', ah', al', ae', ak', ap', av', afa', ke', fe', fv', gv', rho', rest', l', k', be', wa', b1, b2, b3, b4⟩ := ih g1 g2 (Y + 2688) (rho + 1) (rd lo row n) l1 k1 (upd been row 1) (upd was (rd lo row n) 1) am1 an1 ag1 af1 ah1 al1 ae1 ak1 ap1 av1 afa1 ke1 fe1 bo1 fl1 fv1 gv1 (by omega) (by omega) (by omega) (by omega) (by omega) hend (by rw [u_n hsame]; exact hbn) (fun k hk => by
          by_cases k1 : k = rd lo row n
          · subst k1
            rw [u_s]
            exact ⟨fun h => absurd h z10, fun h => absurd rfl h.2⟩
          · rw [u_n k1]
            by_cases k2 : k = row
            · subst k2
              rw [u_s]
              exact ⟨fun h => absurd rfl ((hw k hk).mp h).2, fun h => absurd h.1 z10⟩
            · rw [u_n k2]
              exact ⟨fun h => ⟨((hw k hk).mp h).1, k1⟩, fun h => (hw k hk).mpr ⟨h.1, k2⟩⟩) (by omega) (by omega) a2 (by obtain ⟨B, hB, eB⟩ := a3; exact ⟨B, by omega, eB⟩)
        rw [show rho + 1 - 1 = rho by omega] at b2
        refine ⟨am', an', bo', fl', ag', af', ah', al', ae', ak', ap', av', afa', ke', fe', fv', gv', rho', rest', l', k', be', wa', b1, b2, b3, ?_⟩
        obtain ⟨B, hB, eB⟩ := b4
        exact ⟨B, by omega, eB⟩
      · have hwn : ¬ was (rd lo row n) = 0 := fun h => hbn ((hw _ (by omega)).mp h).1
        rw [if_neg hbn, if_neg hwn]
        refine ⟨am1, an1, bo1, fl1, ag1, af1, ah1, al1, ae1, ak1, ap1, av1, afa1, ke1, fe1, fv1, gv1, nI rho, -1, l1, k1, upd been row 1, was, rfl, ?_, a2, ?_⟩
        · by_cases hw0 : what = 0
          · rw [if_pos hw0, if_pos hw0]
          · rw [if_neg hw0, if_neg hw0]
        · obtain ⟨B, hB, eB⟩ := a3
          exact ⟨B, by omega, eB⟩
/-- the reference's marks of where the rows were, at first -/
theorem was_loop {R2 lossOf : Nat → Int32} (mf mp best losses : Nat → Int32) (lv l3 : Int32) {row : Nat} (hrow : row < 256) : ∀ (r e gg : Nat) (was : Nat → Int32), e + r = 256 → r < gg → (∀ k, k < e → was k = if k = row then 1 else 0) →
    ∃ was', f_X11_played_L44 op arg gg 0 R2 mf mp lv best losses lossOf was (nI row) l3 (nI e) = f_X11_played_L82 op arg FU 0 R2 mf mp lv best losses lossOf was' l3 (nI row) 0 ∧ ∀ k, k < 256 → was' k = if k = row then 1 else 0 := by
  intro r
  induction r with
  | zero =>
    intro e gg was he hg hw
    obtain ⟨gg, rfl⟩ : ∃ z, gg = z + 1 := ⟨gg - 1, by omega⟩
    have he : e = 256 := by omega
    subst he
    refine ⟨was, ?_, hw⟩
    show f_X11_played_L44b _ _ _ _ _ _ _ _ _ _ _ _ _ _ _ = _
    unfold f_X11_played_L44b
    rw [if_pos (by decide)]
  | succ r ih =>
    intro e gg was he hg hw
    obtain ⟨gg, rfl⟩ : ∃ z, gg = z + 1 := ⟨gg - 1, by omega⟩
    obtain ⟨was', a1, a2⟩ := ih (e + 1) gg (upd was e (if e = row then 1 else 0)) (by omega) (by omega) (fun k hk => by
      by_cases h : k = e
      · rw [h, u_s]
      · rw [u_n h]; exact hw k (by omega))
    refine ⟨was', ?_, a2⟩
    have h2 : ¬ (256 : Int32) ≤ nI e := by
      rw [show (256 : Int32) = nI 256 from rfl]
      exact nI_ge (by omega) (by decide)
    show f_X11_played_L44b _ _ _ _ _ _ _ _ _ _ _ _ _ _ _ = _
    unfold f_X11_played_L44b
    rw [if_neg h2]
    simp only [f_X11_played_B69, lt_, nar_1, nar_0]
    rw [g_nI (by omega) (by decide), g_nI (by omega) (by decide), ix_nI (by omega), ← nI_succ, ifq (by omega) (by omega)]
    by_cases h : e = row
    · rw [if_pos h] at a1
      rw [if_pos h]; exact a1
    · rw [if_neg h] at a1
      rw [if_neg h]; exact a1
/-- played -/
theorem op_played (hM : RMo R n dogs fenced heights partner often) (hL : RLw R op arg fek fel fer fes gok gol gor gos) (hV : RVa R n night g flock hunger lean fed taken pacts) (hX : X + 690000 < 2 ^ 29) (hR3 : ∃ B, B ≤ X ∧ R 3 = nI B) {losses known found been was : Nat → Int32} {fm gn gf rest : Int32} (hG : GC op arg R n losses known found fm gn gf) (am : Nat) (an : Int32) (ag : Int64) (af ah al ae ak ap av afa ke fe : Nat → Int32) (bo fl : Int32) (fv gv : Nat → Int32) (hbo : ∃ B, B ≤ X ∧ bo = nI B) (mt : Nat) (mf mp best mlo lossOf : Nat → Int32) (x y z : Int32) :
    ∃ (am' : Nat) (an' bo' fl' : Int32) (ag' : Int64) (af' ah' al' ae' ak' ap' av' afa' ke' fe' fv' gv' : Nat → Int32) (o fm' gn' gf' rest' : Int32) (losses' known' been' R' mf' mp' best' mlo' lossOf' was' : Nat → Int32), f_X10_played 4 night g flock hunger lean fed taken pacts levels (nI n) dogs fenced heights partner fek fel fer fes gok gol gor gos losses known fm gn gf been rest am an ag af ah al ae ak ap av afa ke fe bo fl fv gv mt x y z = some (o, losses', known', fm', gn', gf', been', rest', am', an', ag', af', ah', al', ae', ak', ap', av', afa', ke', fe', bo', fl', fv', gv') ∧ f_X11_played op arg th R mf mp (-1) best mlo lossOf was x y z = some (o, 0, R', mf', mp', -1, best', mlo', lossOf', was') ∧ (∀ k, k < 6000 → R' k = R k) ∧ GC op arg R n losses' known' found fm' gn' gf' ∧ ∃ B, B ≤ X + 690000 ∧ bo' = nI B := by
  have hn := hM.1
  obtain ⟨B0, hB0, eB0⟩ := hbo
  have hboX : ∃ B, B ≤ X + 690000 ∧ bo = nI B := ⟨B0, by omega, eB0⟩
  unfold f_X10_played f_X11_played
  rcases e_within (x := z) (a := 0) (b := 1) (by decide) (by decide) with ⟨h3, h4⟩ | ⟨k, k1, k2, rfl, h3⟩
  · have h3 : f_X11_within z 0 1 = some 0 := h3
    have h4 : z < 0 ∨ (¬ z < 0 ∧ 1 < z) := h4
    refine ⟨am, an, bo, fl, ag, af, ah, al, ae, ak, ap, av, afa, ke, fe, fv, gv, -1, fm, gn, gf, rest, losses, known, been, R, mf, mp, best, mlo, lossOf, was, ?_, ?_, fun _ _ => rfl, hG, hboX⟩
    · rcases h4 with h4 | ⟨h4, h5⟩
      · rw [if_pos h4]
      · rw [if_neg h4, if_pos h5]
    · rcases e_readyG hn hM.2.1 hG y with ⟨-, r2⟩ | ⟨M, lo, known', fm', m1, m2, rfl, n4, -, r2, -⟩
      · rw [r2, bd_s, if_pos z00]
      · rw [r2, bd_s, if_neg z10, gameRows_e n4 hM.2.1, bd_s, h3, bd_s, if_pos z00]
        split
        · rfl
        · split <;> rfl
  · have h3 : f_X11_within (nI k) 0 1 = some 1 := h3
    have q1 : ¬ nI k < 0 := nI_pos (by omega)
    have q2 : ¬ 1 < nI k := nI_nlt (a := 1) (b := k) k2 (by decide)
    rw [if_neg q1, if_neg q2]
    rcases e_readyG hn hM.2.1 hG y with ⟨r1, r2⟩ | ⟨M, lo, known', fm', m1, m2, rfl, n4, r1, r2, hlo, hK, hF⟩
    · exact ⟨am, an, bo, fl, ag, af, ah, al, ae, ak, ap, av, afa, ke, fe, fv, gv, -1, fm, gn, gf, rest, losses, known, been, R, mf, mp, best, mlo, lossOf, was, by rw [r1, bd_s]; rfl, by rw [r2, bd_s, if_pos z00], fun _ _ => rfl, hG, hboX⟩
    · have h256 := p4 n (by omega)
      have hG' : ∀ l k, CK n l k lo → GC op arg R n l k found fm' (nI M) (nI n) := fun l k h => Or.inr ⟨M, lo, m1, m2, rfl, n4, rfl, hlo, h, hF⟩
      rcases e_isRow n4 x with ⟨p1, p2⟩ | ⟨row, hrow, rfl, p1⟩
      · refine ⟨am, an, bo, fl, ag, af, ah, al, ae, ak, ap, av, afa, ke, fe, fv, gv, -1, fm', nI M, nI n, rest, losses, known', been, R, mf, mp, best, mlo, lossOf, was, ?_, ?_, fun _ _ => rfl, hG' _ _ hK, hboX⟩
        · rw [r1, bd_s]
          simp only
          rw [if_neg z10, p1, bd_s, if_pos z00]
        · rw [r2, bd_s, if_neg z10, gameRows_e n4 hM.2.1, bd_s]
          rcases p2 with p2 | ⟨k, k1, k2, rfl⟩
          · rw [if_pos p2]
          · rw [if_neg (nI_pos k1), if_pos (nI_le k2 k1)]
      · obtain ⟨R', mf', mp', best', mlo', lossOf', b1, b2, b3⟩ := e_findGame hM hL hV n4 m2 (by omega) hR3 hlo mf mp best mlo lossOf (-1)
        obtain ⟨was1, c1, c2⟩ := was_loop (op := op) (arg := arg) (R2 := R') (lossOf := lossOf') mf' mp' best' mlo' (-1) (nI k) (row := row) (by omega) 256 0 FU was (by omega) (by decide) (fun k hk => absurd hk (by omega))
        have hz : ∀ i, i < 256 → fl_ been 256 0 i = 0 := fun i hi => by
          unfold fl_
          rw [if_pos hi]
        have hcz := cz_all hz
        obtain ⟨am', an', bo', fl', ag', af', ah', al', ae', ak', ap', av', afa', ke', fe', fv', gv', rho', rest', l', k', be', wa', d1, d2, d3, d4⟩ := pl17 (levels := levels) hM hL hV n4 m2 hR3 hlo mt (R2 := R') (by rw [b2 0 (by omega)]; exact hM.2.1) b3 mf' mp' best' mlo' (-1) (nI k) 256 FU FU X 1 row losses known' (fl_ been 256 0) was1 am an ag af ah al ae ak ap av afa ke fe bo fl fv gv (by omega) (by omega) (by omega) (by decide) (by decide) hrow (hz _ (by omega)) (fun j hj => by
          rw [hz j hj, c2 j hj]
          by_cases e : j = row
          · rw [if_pos e]
            exact ⟨fun h => absurd h z10, fun h => absurd e h.2⟩
          · rw [if_neg e]
            exact ⟨fun _ => ⟨rfl, e⟩, fun _ => rfl⟩) (Nat.le_refl _) (by omega) hK ⟨B0, hB0, eB0⟩
        refine ⟨am', an', bo', fl', ag', af', ah', al', ae', ak', ap', av', afa', ke', fe', fv', gv', (if nI k = 0 then rest' else rho'), fm', nI M, nI n, rest', l', k', be', R', mf', mp', best', mlo', lossOf', wa', ?_, ?_, b2, hG' _ _ d3, ?_⟩
        · rw [r1, bd_s]
          simp only
          rw [if_neg z10, p1, bd_s, if_neg z10]
          unfold f_X1_playFrom
          simp only [lt_]
          rw [show nI 1 = (1 : Int32) from rfl] at d1
          rw [d1, bd_s]
          simp only
          by_cases hk0 : nI k = 0
          · rw [if_pos hk0, if_pos hk0]
          · rw [if_neg hk0, if_neg hk0]
        · rw [r2, bd_s, if_neg z10, if_neg (nI_pos (by omega)), gameRows_e n4 hM.2.1, bd_s, if_neg (nI_ge hrow (by omega)), h3, bd_s, if_neg z10, b1, bd_s]
          exact c1.trans d2
        · obtain ⟨B, hB, eB⟩ := d4
          exact ⟨B, by omega, eB⟩
end WP
