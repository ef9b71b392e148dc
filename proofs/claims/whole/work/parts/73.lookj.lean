/-! PURE 24: the rows of groups, looked at (src/t73.lean through gen/tmpl.py) -/
/-- the reference's rows, the pacts being those of the groups -/
def Rp (R : Nat → Int32) (n : Nat) (g : Nat → Nat) : Nat → Int32 := fun k => if 110 ≤ k ∧ k < 146 ∧ (k - 110) / 6 < n ∧ (k - 110) % 6 < n then (if (k - 110) / 6 ≠ (k - 110) % 6 ∧ g ((k - 110) / 6) = g ((k - 110) % 6) then 1 else 0) else R k
theorem Rp_o {R : Nat → Int32} {n : Nat} {g : Nat → Nat} {k : Nat} (h : k < 110 ∨ 146 ≤ k) : Rp R n g k = R k := by
  unfold Rp
  rw [if_neg (by omega)]
theorem Rp_i {R : Nat → Int32} {n : Nat} {g : Nat → Nat} {a e : Nat} (hn : n ≤ 6) (ha : a < n) (he : e < n) : Rp R n g (110 + 6 * a + e) = if a ≠ e ∧ g a = g e then 1 else 0 := by
  unfold Rp
  have h1 : (110 + 6 * a + e - 110) / 6 = a := by omega
  have h2 : (110 + 6 * a + e - 110) % 6 = e := by omega
  rw [h1, h2, if_pos ⟨by omega, by omega, ha, he⟩]
theorem Rp_e {R : Nat → Int32} {n : Nat} {g : Nat → Nat} {a e : Nat} (he : e < 6) (hne : n ≤ e) : Rp R n g (110 + 6 * a + e) = R (110 + 6 * a + e) := by
  unfold Rp
  have h2 : (110 + 6 * a + e - 110) % 6 = e := by omega
  rw [h2, if_neg (fun q => by omega)]
theorem arr_in {n row a : Nat} (hn : n ≤ 5) (ha : a < n) {groups : Nat → Int32} (hg : ∀ f, f < n → groups f = nI (sp n row f)) (kb : (Nat → Int32) → (Nat → Int32) → Int32 → Option ((Nat → Int32) × (Nat → Int32))) (pac : Nat → Int32) : ∀ (r e gg m : Nat), e + r = n → r < gg → m < 2 ^ e → (∀ i, i < 6 → m.testBit i = decide (i < e ∧ i ≠ a ∧ sp n row i = sp n row a)) →
    ∃ m', m' < 64 ∧ (∀ i, i < 6 → m'.testBit i = decide (i < n ∧ i ≠ a ∧ sp n row i = sp n row a)) ∧ f_X2_arrange_L21 kb (nI n) gg groups pac (nI a) (nI m) (nI e) = kb groups (upd pac a (nI m')) (nI (a + 1)) := by
  intro r
  induction r with
  | zero =>
    intro e gg m he hgg hm hb
    obtain ⟨gg, rfl⟩ : ∃ z, gg = z + 1 := ⟨gg - 1, by omega⟩
    have he : e = n := by omega
    subst he
    refine ⟨m, Nat.lt_of_lt_of_le hm (pow_64 e (by omega)), hb, ?_⟩
    show f_X2_arrange_L21b _ _ _ _ _ _ _ _ = _
    unfold f_X2_arrange_L21b f_X6_farms_j
    rw [bd_s, if_pos (nI_le (Nat.le_refl _) (by omega)), g_nI (by omega) (by decide), ix_nI (by omega)]
    simp only [lt_]
    rw [← nI_succ]
  | succ r ih =>
    intro e gg m he hgg hm hb
    obtain ⟨gg, rfl⟩ : ∃ z, gg = z + 1 := ⟨gg - 1, by omega⟩
    have hm1 : m < 2 ^ (e + 1) := Nat.lt_trans hm (Nat.pow_lt_pow_right (by decide) (Nat.lt_succ_self e))
    have skip : (e = a ∨ sp n row e ≠ sp n row a) → ∀ i, i < 6 → m.testBit i = decide (i < e + 1 ∧ i ≠ a ∧ sp n row i = sp n row a) := by
      intro h i hi
      rw [hb i hi]
      by_cases q : i = e
      · subst q
        rcases h with h | h
        · simp [h]
        · simp [h]
      · exact decide_eq_decide.mpr ⟨fun h => ⟨by omega, h.2⟩, fun h => ⟨by omega, h.2⟩⟩
    show ∃ m', m' < 64 ∧ _ ∧ f_X2_arrange_L21b _ _ _ _ _ _ _ _ = _
    unfold f_X2_arrange_L21b f_X6_farms_j
    rw [bd_s, if_neg (nI_ge (by omega) (by omega)), ifq (by omega) (by omega)]
    simp only [f_X2_arrange_B61, lt_]
    rw [← nI_succ]
    by_cases hea : e = a
    · rw [if_pos hea]
      exact ih (e + 1) gg m (by omega) (by omega) hm1 (skip (Or.inl hea))
    · have hse := sp_le n row e (by omega)
      have hsa := sp_le n row a ha
      rw [if_neg hea, g_nI (by omega) (by decide), g_nI (by omega) (by decide), ix_nI (by omega), ix_nI (by omega), hg e (by omega), hg a ha, ifq (by omega) (by omega)]
      by_cases hs : sp n row e = sp n row a
      · obtain ⟨s1, s2⟩ := sel_add e (by omega) m hm
        rw [if_pos hs, mk_one e (by omega), fa_or]
        refine ih (e + 1) gg (m ||| 2 ^ e) (by omega) (by omega) s2 (fun i hi => ?_)
        rw [Nat.testBit_or, hb i hi, Nat.testBit_two_pow]
        by_cases q : e = i
        · subst q
          simp [hea, hs]
        · rw [show decide (e = i) = false from decide_eq_false q, Bool.or_false]
          exact decide_eq_decide.mpr ⟨fun h => ⟨by omega, h.2⟩, fun h => ⟨by omega, h.2⟩⟩
      · rw [if_neg hs]
        exact ih (e + 1) gg m (by omega) (by omega) hm1 (skip (Or.inr hs))
theorem e_arrJ {n row : Nat} (hn : n ≤ 5) (hr : row < 2 ^ 31) (groups pac : Nat → Int32) : ∃ groups' pac', f_X2_arrange (nI n) groups pac (nI row) = some (groups', pac') ∧ ∀ a, a < n → Mk (pac' a) (fun e => decide (e < n ∧ e ≠ a ∧ sp n row e = sp n row a)) := by
  obtain ⟨groups', a1, a2⟩ := e_split hn hr groups
  have lp : ∀ (r a gg : Nat) (pac : Nat → Int32), a + r = n → r < gg → (∀ b, b < a → Mk (pac b) (fun e => decide (e < n ∧ e ≠ b ∧ sp n row e = sp n row b))) → ∃ pac', f_X2_arrange_L7 (nI n) gg groups' pac (nI a) = some (groups', pac') ∧ ∀ b, b < n → Mk (pac' b) (fun e => decide (e < n ∧ e ≠ b ∧ sp n row e = sp n row b)) := by
    intro r
    induction r with
    | zero =>
      intro a gg pac ha hgg hp
      obtain ⟨gg, rfl⟩ : ∃ z, gg = z + 1 := ⟨gg - 1, by omega⟩
      have ha : a = n := by omega
      subst ha
      refine ⟨pac, ?_, hp⟩
      show f_X2_arrange_L7b _ _ _ _ _ = _
      unfold f_X2_arrange_L7b f_X6_farms_j
      rw [bd_s, if_pos (nI_le (Nat.le_refl _) (by omega))]
    | succ r ih =>
      intro a gg pac ha hgg hp
      obtain ⟨gg, rfl⟩ : ∃ z, gg = z + 1 := ⟨gg - 1, by omega⟩
      obtain ⟨m, hm, hb, b1⟩ := arr_in (n := n) (row := row) (a := a) hn (by omega) a2 (f_X2_arrange_L7 (nI n) gg) pac n 0 FU 0 (by omega) (by show n < 5000; omega) (by decide) (fun i hi => by simp)
      obtain ⟨pac', c1, c2⟩ := ih (a + 1) gg (upd pac a (nI m)) (by omega) (by omega) (fun b hbl => by
        by_cases q : b = a
        · rw [q, u_s]; exact ⟨m, hm, rfl, hb⟩
        · rw [u_n q]; exact hp b (by omega))
      refine ⟨pac', ?_, c2⟩
      show f_X2_arrange_L7b _ _ _ _ _ = _
      unfold f_X2_arrange_L7b f_X6_farms_j
      rw [bd_s, if_neg (nI_ge (by omega) (by omega))]
      exact b1.trans c1
  obtain ⟨pac', c1, c2⟩ := lp n 0 FU pac (by omega) (by show n < 5000; omega) (fun b hb => absurd hb (by omega))
  refine ⟨groups', pac', ?_, c2⟩
  unfold f_X2_arrange
  rw [a1, bd_s]
  exact c1
def fr (lo : Nat → Nat → Int32) (n : Nat) : Nat → List Nat
  | 0 => []
  | k + 1 => if vB n k && fB lo n k (2 ^ n) then fr lo n k ++ [k] else fr lo n k
theorem fr_len (lo : Nat → Nat → Int32) (n : Nat) : ∀ k, (fr lo n k).length ≤ k
  | 0 => Nat.le_refl _
  | k + 1 => by
    show (if vB n k && fB lo n k (2 ^ n) then fr lo n k ++ [k] else fr lo n k).length ≤ k + 1
    have := fr_len lo n k
    split
    · rw [List.length_append]; simp; omega
    · omega
theorem fr_mem (lo : Nat → Nat → Int32) (n : Nat) : ∀ k x, x ∈ fr lo n k → x < k ∧ vB n x = true
  | 0, x, h => by cases h
  | k + 1, x, h => by
    have h : x ∈ (if vB n k && fB lo n k (2 ^ n) then fr lo n k ++ [k] else fr lo n k) := h
    split at h
    · next c =>
      rcases List.mem_append.mp h with h | h
      · have := fr_mem lo n k x h; exact ⟨by omega, this.2⟩
      · rw [List.mem_singleton.mp h]
        rw [Bool.and_eq_true] at c
        exact ⟨by omega, c.1⟩
    · have := fr_mem lo n k x h; exact ⟨by omega, this.2⟩
def CKJ (n : Nat) (losses known : Nat → Int32) (lo : Nat → Nat → Int32) : Prop := ∀ r, r < fac n → known r ≠ 0 → ∀ f, f < n → losses (6 * r + f) = lo r f
def LoOKJ (op arg R : Nat → Int32) (n M : Nat) (lo : Nat → Nat → Int32) : Prop := ∀ r f, r < fac n → f < n → Lo op arg (Rp R n (sp n r)) M (-1) f = lo r f
def FOJ (n : Nat) (lo : Nat → Nat → Int32) (found : Nat → Int32) (fm : Int32) : Prop := fm = nI (fr lo n (fac n)).length ∧ ∀ i x, (fr lo n (fac n))[i]? = some x → found i = nI x
section WJ
variable {n : Nat} {op arg dogs fenced heights partner often : Nat → Int32} {fek fel fer : Nat → Int32} {fes : Int32} {gok gol gor : Nat → Int32} {gos : Int32} {ml : Int32} {levels : Nat → Int32} {R : Nat → Int32} {night : Int32} {g : Int64} {flock hunger lean fed taken pacts kept feuds : Nat → Int32} {bones fall : Int32} {X : Nat} {th : Int32}
theorem RMo.pac {R' : Nat → Int32} (hM : RMo R n dogs fenced heights partner often) (h : ∀ k, (k < 110 ∨ 146 ≤ k) → k < 1000 → R' k = R k) : RMo R' n dogs fenced heights partner often := by
  obtain ⟨hn, h0, h1, h2, h3, h4, h5⟩ := hM
  refine ⟨hn, ?_, fun f hx => ?_, fun f hx => ?_, fun f k hx hk => ?_, fun a ha => ?_, fun a e ha he => ?_⟩
  · rw [h 0 (by omega) (by omega)]; exact h0
  · rw [h (9 + 7 * f) (by omega) (by omega)]; exact h1 f hx
  · rw [h (14 + 7 * f) (by omega) (by omega)]; exact h2 f hx
  · rw [h (50 + 4 * f + k) (by omega) (by omega)]; exact h3 f k hx hk
  · refine (h4 a ha).cong fun e he => ?_
    show decide (R' (74 + 6 * a + e) ≠ 0) = decide (R (74 + 6 * a + e) ≠ 0)
    rw [h (74 + 6 * a + e) (by omega) (by omega)]
  · rw [h (74 + 6 * a + e) (by omega) (by omega)]; exact h5 a e ha he
theorem RLw.pac {R' : Nat → Int32} (hL : RLw R op arg fek fel fer fes gok gol gor gos) (h : ∀ k, (k < 110 ∨ 146 ≤ k) → k < 1000 → R' k = R k) : RLw R' op arg fek fel fer fes gok gol gor gos := by
  unfold RLw RLv at hL ⊢
  rw [h 0 (by omega) (by omega), h 5 (by omega) (by omega), h 6 (by omega) (by omega)]
  exact hL
theorem RVa.rowJ {row : Nat} {pac : Nat → Int32} (hn : n ≤ 5) (hV : RVa R n night g flock hunger lean fed taken pacts) (hp : ∀ a, a < n → Mk (pac a) (fun e => decide (e < n ∧ e ≠ a ∧ sp n row e = sp n row a))) : RVa (Rp R n (sp n row)) n night g flock hunger lean fed taken pac := by
  obtain ⟨h1, h2, h3, h4, h5, h6, h7, h8, h9⟩ := hV
  refine ⟨?_, ?_, fun f hf => ?_, fun f hf => ?_, fun f hf => ?_, fun f hf => ?_, fun f hf => ?_, fun a ha => ?_, fun a e ha he => ?_⟩
  · rw [Rp_o (by omega)]; exact h1
  · rw [Rp_o (by omega)]; exact h2
  · rw [Rp_o (by omega)]; exact h3 f hf
  · rw [Rp_o (by omega)]; exact h4 f hf
  · rw [Rp_o (by omega)]; exact h5 f hf
  · rw [Rp_o (by omega)]; exact h6 f hf
  · rw [Rp_o (by omega)]; exact h7 f hf
  · refine (hp a ha).cong fun e he => ?_
    show decide (Rp R n (sp n row) (110 + 6 * a + e) ≠ 0) = decide (e < n ∧ e ≠ a ∧ sp n row e = sp n row a)
    by_cases hen : e < n
    · rw [Rp_i (by omega) ha hen]
      by_cases c : a ≠ e ∧ sp n row a = sp n row e
      · rw [if_pos c]
        simp [hen, c.2, Ne.symm c.1]
      · rw [if_neg c]
        simp only [ne_eq, not_true_eq_false, decide_false]
        symm
        rw [decide_eq_false_iff_not]
        exact fun q => c ⟨fun z => q.2.1 z.symm, q.2.2.symm⟩
    · rw [Rp_e he (by omega)]
      have h0 : R (110 + 6 * a + e) = 0 := by
        rcases h9 a e ha he with h | ⟨h, -⟩
        · exact h
        · omega
      rw [h0]
      simp [hen]
  · by_cases hen : e < n
    · rw [Rp_i (by omega) ha hen]
      by_cases c : a ≠ e ∧ sp n row a = sp n row e
      · rw [if_pos c]; exact Or.inr ⟨hen, fun z => c.1 z.symm, rfl⟩
      · rw [if_neg c]; exact Or.inl rfl
    · rw [Rp_e he (by omega)]; exact h9 a e ha he
theorem look60J {M row : Nat} (hn : n ≤ 5) (hr : row < 120) (known l0 groups : Nat → Int32) (am : Nat) (an : Int32) (ag : Int64) (af ah al ae ak ap av afa ke fe : Nat → Int32) (bo fl : Int32) (fv gv : Nat → Int32) (mt : Nat) : ∀ (r e gg : Nat) (losses : Nat → Int32), e + r = n → r < gg → (∀ f, f < e → losses (6 * row + f) = (ae f + ak f) - (fed f + taken f)) → (∀ k, (k < 6 * row ∨ 6 * row + 6 ≤ k) → losses k = l0 k) →
    ∃ losses', f_X6_lookAt_j_L60 (nI M) (nI n) night g flock hunger lean fed taken pacts levels (nI n) dogs fenced heights partner fek fel fer fes gok gol gor gos mt gg losses known groups am an ag af ah al ae ak ap av afa ke fe bo fl fv gv (nI row) (nI e) = some (losses', upd known row 1, groups, am, an, ag, af, ah, al, ae, ak, ap, av, afa, ke, fe, bo, fl, fv, gv) ∧ (∀ f, f < n → losses' (6 * row + f) = (ae f + ak f) - (fed f + taken f)) ∧ ∀ k, (k < 6 * row ∨ 6 * row + 6 ≤ k) → losses' k = l0 k := by
  intro r
  induction r with
  | zero =>
    intro e gg losses he hg h1 h2
    obtain ⟨gg, rfl⟩ : ∃ z, gg = z + 1 := ⟨gg - 1, by omega⟩
    have he : e = n := by omega
    subst he
    refine ⟨losses, ?_, h1, h2⟩
    unfold f_X6_lookAt_j_L60 f_X6_lookAt_j_L60b
    rw [if_pos (nI_le (Nat.le_refl _) (by omega)), g_nI (by omega) (by decide), ix_nI (by omega)]
    rfl
  | succ r ih =>
    intro e gg losses he hg h1 h2
    obtain ⟨gg, rfl⟩ : ∃ z, gg = z + 1 := ⟨gg - 1, by omega⟩
    have e1 : (nI row * 6) + nI e = nI (6 * row + e) := by rw [show (6 : Int32) = nI 6 from rfl, i_mul, i_add, Nat.mul_comm]
    obtain ⟨losses', a1, a2, a3⟩ := ih (e + 1) gg (upd losses (6 * row + e) ((ae e + ak e) - (fed e + taken e))) (by omega) (by omega) (fun f hf => by
      by_cases h : f = e
      · rw [h, u_s]
      · rw [u_n (by omega)]; exact h1 f (by omega)) (fun k hk => by rw [u_n (by omega)]; exact h2 k hk)
    refine ⟨losses', ?_, a2, a3⟩
    unfold f_X6_lookAt_j_L60 f_X6_lookAt_j_L60b
    rw [if_neg (nI_ge (by omega) (by omega))]
    unfold f_X9_goneFrom
    simp only [g_nI (show e < 6 by omega) (show 6 < 2 ^ 31 by decide), ix_nI (show e < 2 ^ 31 by omega), bd_s, e1]
    rw [g_nI (by omega) (by decide), ix_nI (by omega)]
    simp only [lt_]
    rw [← nI_succ]
    exact a1
/-- one row is looked at -/
theorem look_j (hM : RMo R n dogs fenced heights partner often) (hL : RLw R op arg fek fel fer fes gok gol gor gos) (hV : RVa R n night g flock hunger lean fed taken pacts) (hE : RLe n (-1) levels) (hn5 : n ≤ 5) {M : Nat} (hMb : M ≤ 28) (hX : X < 2 ^ 29) (hR3 : ∃ B, B ≤ X ∧ R 3 = nI B) {lo : Nat → Nat → Int32} (hlo : LoOKJ op arg R n M lo) {row : Nat} (hrow : row < fac n) {losses known : Nat → Int32} (hK : CKJ n losses known lo) (groups : Nat → Int32) (am : Nat) (an : Int32) (ag : Int64) (af ah al ae ak ap av afa ke fe : Nat → Int32) (bo fl : Int32) (fv gv : Nat → Int32) (hbo : ∃ B, B ≤ X ∧ bo = nI B) (mt : Nat) :
    ∃ (am' : Nat) (an' bo' fl' : Int32) (ag' : Int64) (af' ah' al' ae' ak' ap' av' afa' ke' fe' fv' gv' : Nat → Int32) (losses' known' groups' : Nat → Int32), f_X6_lookAt_j (nI M) (nI n) night g flock hunger lean fed taken pacts levels (nI n) dogs fenced heights partner fek fel fer fes gok gol gor gos losses known groups am an ag af ah al ae ak ap av afa ke fe bo fl fv gv mt (nI row) = some (losses', known', groups', am', an', ag', af', ah', al', ae', ak', ap', av', afa', ke', fe', bo', fl', fv', gv') ∧ CKJ n losses' known' lo ∧ known' row ≠ 0 ∧ (∀ r, known r ≠ 0 → known' r ≠ 0) ∧ ∃ B, B ≤ X + 168 ∧ bo' = nI B := by
  have hn := hM.1
  have h120 := fac_5 n (by omega)
  have h2 : ¬ (120 : Int32) ≤ nI row := by
    rw [show (120 : Int32) = nI 120 from rfl]
    exact nI_ge (by omega) (by decide)
  unfold f_X6_lookAt_j
  rw [if_neg (nI_pos (by omega)), if_neg h2, g_nI (by omega) (by decide), ix_nI (by omega)]
  by_cases hk : known row = 0
  · rw [if_pos hk]
    obtain ⟨groups', pac', l1, l2⟩ := e_arrJ (n := n) (row := row) hn5 (by omega) groups (va_cpy pacts ap 0 0 6)
    have hfr : ∀ k, (k < 110 ∨ 146 ≤ k) → k < 1000 → Rp R n (sp n row) k = R k := fun k h _ => Rp_o h
    obtain ⟨x1, x2, x3, x4, x5, x6, x7, x8, x9, x10, x11, x12, x13, a1, a2, a3⟩ := lo_cls (hM.pac hfr) (hL.pac hfr) (hE.copy hn av) ((hV.copy hn af ah al ae ak ap).rowJ hn5 l2) (by rw [Rp_o (by omega)]; exact hR3) hbo hMb hX afa fv gv ke fe fl
    obtain ⟨losses', b1, b2, b3⟩ := look60J (M := M) (row := row) (night := night) (g := g) (flock := flock) (hunger := hunger) (lean := lean) (fed := fed) (taken := taken) (pacts := pacts) (levels := levels) (dogs := dogs) (fenced := fenced) (heights := heights) (partner := partner) (fek := fek) (fel := fel) (fer := fer) (fes := fes) (gok := gok) (gol := gol) (gor := gor) (gos := gos) hn5 (by omega) known losses groups' mt x10 x11 x1 (va_cpy hunger ah 0 0 6) x2 x3 x4 pac' (va_cpy levels av 0 0 6) x5 x8 x9 x12 x13 x6 x7 mt n 0 FU losses (by omega) (by show n < 5000; omega) (fun f hf => absurd hf (by omega)) (fun _ _ => rfl)
    refine ⟨mt, x10, x12, x13, x11, x1, va_cpy hunger ah 0 0 6, x2, x3, x4, pac', va_cpy levels av 0 0 6, x5, x8, x9, x6, x7, losses', upd known row 1, groups', ?_, fun r hr hkr f hf => ?_, by rw [u_s]; decide, fun r hr => ?_, a3⟩
    · unfold f_X9_copyFrom
      simp only [lt_, bd_s]
      rw [l1, bd_s]
      simp only
      rw [a1, bd_s]
      exact b1
    · by_cases e : r = row
      · subst e
        rw [b2 f hf, ← hlo r f hr hf, ← a2 f hf, Rp_o (by omega), Rp_o (by omega), hV.2.2.2.2.2.1 f hf, hV.2.2.2.2.2.2.1 f hf]
      · rw [u_n e] at hkr
        rw [b3 _ (by omega)]
        exact hK r hr hkr f hf
    · by_cases e : r = row
      · subst e; rw [u_s]; decide
      · rw [u_n e]; exact hr
  · rw [if_neg hk]
    obtain ⟨B, hB, eB⟩ := hbo
    exact ⟨am, an, bo, fl, ag, af, ah, al, ae, ak, ap, av, afa, ke, fe, fv, gv, losses, known, groups, rfl, hK, hk, fun _ h => h, B, by omega, eB⟩
/-- all rows are looked at -/
theorem fa_lookJ (hM : RMo R n dogs fenced heights partner often) (hL : RLw R op arg fek fel fer fes gok gol gor gos) (hV : RVa R n night g flock hunger lean fed taken pacts) (hE : RLe n (-1) levels) (hn5 : n ≤ 5) {M : Nat} (hMb : M ≤ 28) (hR3 : ∃ B, B ≤ X ∧ R 3 = nI B) {lo : Nat → Nat → Int32} (hlo : LoOKJ op arg R n M lo) (found ren : Nat → Int32) (fm : Int32) (mt : Nat) : ∀ (r e gg Y : Nat) (losses known groups : Nat → Int32) (am : Nat) (an : Int32) (ag : Int64) (af ah al ae ak ap av afa ke fe : Nat → Int32) (bo fl : Int32) (fv gv : Nat → Int32), e + r = fac n → r < gg → X ≤ Y → Y + 168 * r < 2 ^ 29 → CKJ n losses known lo → (∀ i, i < e → vB n i = true → known i ≠ 0) → (∃ B, B ≤ Y ∧ bo = nI B) →
    ∃ (am' : Nat) (an' bo' fl' : Int32) (ag' : Int64) (af' ah' al' ae' ak' ap' av' afa' ke' fe' fv' gv' : Nat → Int32) (losses' known' groups' : Nat → Int32), f_X6_findAll_j_L28 (nI M) (nI n) night g flock hunger lean fed taken pacts levels (nI n) dogs fenced heights partner fek fel fer fes gok gol gor gos mt gg losses known found fm groups ren am an ag af ah al ae ak ap av afa ke fe bo fl fv gv (nI (fac n)) (nI e) = f_X6_findAll_j_L59 (nI M) (nI n) night g flock hunger lean fed taken pacts levels (nI n) dogs fenced heights partner fek fel fer fes gok gol gor gos mt FU losses' known' found 0 groups' ren am' an' ag' af' ah' al' ae' ak' ap' av' afa' ke' fe' bo' fl' fv' gv' (nI (fac n)) 0 ∧ CKJ n losses' known' lo ∧ (∀ i, i < fac n → vB n i = true → known' i ≠ 0) ∧ ∃ B, B ≤ Y + 168 * r ∧ bo' = nI B := by
  have hn := hM.1
  have h120 := fac_5 n (by omega)
  intro r
  induction r with
  | zero =>
    intro e gg Y losses known groups am an ag af ah al ae ak ap av afa ke fe bo fl fv gv he hg hXY hY hK hk hbo
    obtain ⟨gg, rfl⟩ : ∃ z, gg = z + 1 := ⟨gg - 1, by omega⟩
    have he : e = fac n := by omega
    subst he
    refine ⟨am, an, bo, fl, ag, af, ah, al, ae, ak, ap, av, afa, ke, fe, fv, gv, losses, known, groups, ?_, hK, hk, hbo⟩
    conv => lhs; unfold f_X6_findAll_j_L28 f_X6_findAll_j_L28b
    rw [if_pos (nI_le (Nat.le_refl _) (by omega))]
  | succ r ih =>
    intro e gg Y losses known groups am an ag af ah al ae ak ap av afa ke fe bo fl fv gv he hg hXY hY hK hk hbo
    obtain ⟨gg, rfl⟩ : ∃ z, gg = z + 1 := ⟨gg - 1, by omega⟩
    have hrow : e < fac n := by omega
    obtain ⟨gr1, hisr⟩ := e_isRowJ (row := e) hn5 (by omega) groups
    obtain ⟨B3, hB3, eB3⟩ := hR3
    cases hv : vB n e with
    | false =>
      rw [hv] at hisr
      obtain ⟨am', an', bo', fl', ag', af', ah', al', ae', ak', ap', av', afa', ke', fe', fv', gv', l', k', g', b1, b2, b3, b4⟩ := ih (e + 1) gg Y losses known gr1 am an ag af ah al ae ak ap av afa ke fe bo fl fv gv (by omega) (by omega) hXY (by omega) hK (fun i hi hvi => by
        by_cases h : i = e
        · subst h; rw [hv] at hvi; cases hvi
        · exact hk i (by omega) hvi) hbo
      refine ⟨am', an', bo', fl', ag', af', ah', al', ae', ak', ap', av', afa', ke', fe', fv', gv', l', k', g', ?_, b2, b3, ?_⟩
      · conv => lhs; unfold f_X6_findAll_j_L28 f_X6_findAll_j_L28b
        rw [if_neg (nI_ge (by omega) (by omega)), hisr, bd_s]
        simp only [f_X6_findAll_j_B46, lt_]
        rw [if_pos (by rfl), ← nI_succ]
        exact b1
      · obtain ⟨B, hB, eB⟩ := b4
        exact ⟨B, by omega, eB⟩
    | true =>
      rw [hv] at hisr
      obtain ⟨am1, an1, bo1, fl1, ag1, af1, ah1, al1, ae1, ak1, ap1, av1, afa1, ke1, fe1, fv1, gv1, l1, k1, gr2, a1, a2, a3, a4, a5⟩ := look_j (X := Y) hM hL hV hE hn5 hMb (by omega) ⟨B3, by omega, eB3⟩ hlo hrow hK gr1 am an ag af ah al ae ak ap av afa ke fe bo fl fv gv hbo mt
      obtain ⟨am', an', bo', fl', ag', af', ah', al', ae', ak', ap', av', afa', ke', fe', fv', gv', l', k', g', b1, b2, b3, b4⟩ := ih (e + 1) gg (Y + 168) l1 k1 gr2 am1 an1 ag1 af1 ah1 al1 ae1 ak1 ap1 av1 afa1 ke1 fe1 bo1 fl1 fv1 gv1 (by omega) (by omega) (by omega) (by omega) a2 (fun i hi hvi => by
        by_cases h : i = e
        · rw [h]; exact a3
        · exact a4 i (hk i (by omega) hvi)) a5
      refine ⟨am', an', bo', fl', ag', af', ah', al', ae', ak', ap', av', afa', ke', fe', fv', gv', l', k', g', ?_, b2, b3, ?_⟩
      · conv => lhs; unfold f_X6_findAll_j_L28 f_X6_findAll_j_L28b
        rw [if_neg (nI_ge (by omega) (by omega)), hisr, bd_s]
        simp only
        rw [if_neg (by decide), a1, bd_s]
        simp only [f_X6_findAll_j_B46, lt_]
        rw [← nI_succ]
        exact b1
      · obtain ⟨B, hB, eB⟩ := b4
        exact ⟨B, by omega, eB⟩
/-- the firm ones are found -/
theorem fa_findJ (hn5 : n ≤ 5) {M : Nat} {lo : Nat → Nat → Int32} {losses known : Nat → Int32} (hl : ∀ r f, r < fac n → vB n r = true → f < n → losses (6 * r + f) = lo r f) (am : Nat) (an : Int32) (ag : Int64) (af ah al ae ak ap av afa ke fe : Nat → Int32) (bo fl : Int32) (fv gv : Nat → Int32) (mt : Nat) : ∀ (r e gg : Nat) (found groups ren : Nat → Int32), e + r = fac n → r < gg → (∀ i x, (fr lo n e)[i]? = some x → found i = nI x) →
    ∃ found' groups' ren', f_X6_findAll_j_L59 (nI M) (nI n) night g flock hunger lean fed taken pacts levels (nI n) dogs fenced heights partner fek fel fer fes gok gol gor gos mt gg losses known found (nI (fr lo n e).length) groups ren am an ag af ah al ae ak ap av afa ke fe bo fl fv gv (nI (fac n)) (nI e) = some (nI (fr lo n (fac n)).length, losses, known, found', nI (fr lo n (fac n)).length, groups', ren', am, an, ag, af, ah, al, ae, ak, ap, av, afa, ke, fe, bo, fl, fv, gv) ∧ ∀ i x, (fr lo n (fac n))[i]? = some x → found' i = nI x := by
  have h120 := fac_5 n (by omega)
  intro r
  induction r with
  | zero =>
    intro e gg found groups ren he hg hf
    obtain ⟨gg, rfl⟩ : ∃ z, gg = z + 1 := ⟨gg - 1, by omega⟩
    have he : e = fac n := by omega
    subst he
    refine ⟨found, groups, ren, ?_, hf⟩
    unfold f_X6_findAll_j_L59 f_X6_findAll_j_L59b
    rw [if_pos (nI_le (Nat.le_refl _) (by omega))]
  | succ r ih =>
    intro e gg found groups ren he hg hf
    obtain ⟨gg, rfl⟩ : ∃ z, gg = z + 1 := ⟨gg - 1, by omega⟩
    have hrow : e < fac n := by omega
    obtain ⟨gr1, hisr⟩ := e_isRowJ (row := e) hn5 (by omega) groups
    have hs : fr lo n (e + 1) = if vB n e && fB lo n e (2 ^ n) then fr lo n e ++ [e] else fr lo n e := rfl
    have hlen := fr_len lo n e
    cases hv : vB n e with
    | false =>
      rw [hv] at hisr hs
      have hs : fr lo n (e + 1) = fr lo n e := hs
      obtain ⟨found', groups', ren', a1, a2⟩ := ih (e + 1) gg found gr1 ren (by omega) (by omega) (by rw [hs]; exact hf)
      refine ⟨found', groups', ren', ?_, a2⟩
      rw [hs] at a1
      unfold f_X6_findAll_j_L59 f_X6_findAll_j_L59b
      rw [if_neg (nI_ge (by omega) (by omega)), hisr, bd_s]
      simp only [f_X6_findAll_j_B100, lt_]
      rw [if_pos (by rfl), ← nI_succ]
      exact a1
    | true =>
      obtain ⟨gr2, ren1, hst⟩ := e_staysJ hn5 hrow hl hv gr1 ren
      rw [hv] at hisr hs
      cases ht : fB lo n e (2 ^ n) with
      | false =>
        rw [ht] at hst hs
        have hs : fr lo n (e + 1) = fr lo n e := hs
        obtain ⟨found', groups', ren', a1, a2⟩ := ih (e + 1) gg found gr2 ren1 (by omega) (by omega) (by rw [hs]; exact hf)
        refine ⟨found', groups', ren', ?_, a2⟩
        rw [hs] at a1
        unfold f_X6_findAll_j_L59 f_X6_findAll_j_L59b
        rw [if_neg (nI_ge (by omega) (by omega)), hisr, bd_s]
        simp only
        rw [if_neg (by decide), hst, bd_s]
        simp only [f_X6_findAll_j_B100, lt_]
        rw [if_pos (by rfl), ← nI_succ]
        exact a1
      | true =>
        rw [ht] at hst hs
        have hs : fr lo n (e + 1) = fr lo n e ++ [e] := hs
        obtain ⟨found', groups', ren', a1, a2⟩ := ih (e + 1) gg (upd found (fr lo n e).length (nI e)) gr2 ren1 (by omega) (by omega) (by
          intro i x hx
          rw [hs] at hx
          by_cases hi : i < (fr lo n e).length
          · rw [List.getElem?_append_left hi] at hx
            rw [u_n (by omega)]
            exact hf i x hx
          · rw [List.getElem?_append_right (by omega)] at hx
            have hi0 : i - (fr lo n e).length = 0 := by
              have := (List.getElem?_eq_some_iff.mp hx).1
              simp at this
              omega
            rw [hi0] at hx
            cases hx
            rw [show i = (fr lo n e).length by omega, u_s])
        refine ⟨found', groups', ren', ?_, a2⟩
        rw [hs, List.length_append, List.length_singleton] at a1
        unfold f_X6_findAll_j_L59 f_X6_findAll_j_L59b
        rw [if_neg (nI_ge (by omega) (by omega)), hisr, bd_s]
        simp only
        rw [if_neg (by decide), hst, bd_s]
        simp only
        rw [if_neg (by decide), g_nI (by omega) (by decide), ix_nI (by omega)]
        simp only [f_X6_findAll_j_B100, lt_]
        rw [← nI_succ, ← nI_succ]
        exact a1
theorem e_findAllJ (hM : RMo R n dogs fenced heights partner often) (hL : RLw R op arg fek fel fer fes gok gol gor gos) (hV : RVa R n night g flock hunger lean fed taken pacts) (hE : RLe n (-1) levels) (hn5 : n ≤ 5) {M : Nat} (hMb : M ≤ 28) (hR3 : ∃ B, B ≤ X ∧ R 3 = nI B) {lo : Nat → Nat → Int32} (hlo : LoOKJ op arg R n M lo) {losses known found : Nat → Int32} {fm : Int32} (hK : CKJ n losses known lo) (hF : fm = -1 ∨ FOJ n lo found fm) (groups ren : Nat → Int32) (am : Nat) (an : Int32) (ag : Int64) (af ah al ae ak ap av afa ke fe : Nat → Int32) (bo fl : Int32) (fv gv : Nat → Int32) (hX : X + 168 * 120 < 2 ^ 29) (hbo : ∃ B, B ≤ X ∧ bo = nI B) (mt : Nat) :
    ∃ (am' : Nat) (an' bo' fl' : Int32) (ag' : Int64) (af' ah' al' ae' ak' ap' av' afa' ke' fe' fv' gv' : Nat → Int32) (losses' known' found' groups' ren' : Nat → Int32), f_X6_findAll_j (nI M) (nI n) night g flock hunger lean fed taken pacts levels (nI n) dogs fenced heights partner fek fel fer fes gok gol gor gos losses known found fm groups ren am an ag af ah al ae ak ap av afa ke fe bo fl fv gv mt = some (nI (fr lo n (fac n)).length, losses', known', found', nI (fr lo n (fac n)).length, groups', ren', am', an', ag', af', ah', al', ae', ak', ap', av', afa', ke', fe', bo', fl', fv', gv') ∧ CKJ n losses' known' lo ∧ (∀ i x, (fr lo n (fac n))[i]? = some x → found' i = nI x) ∧ ∃ B, B ≤ X + 168 * 120 ∧ bo' = nI B := by
  have hn := hM.1
  have h120 := fac_5 n (by omega)
  have hlen := fr_len lo n (fac n)
  unfold f_X6_findAll_j
  rcases hF with rfl | ⟨rfl, hf⟩
  · rw [if_pos rfl]
    obtain ⟨am', an', bo', fl', ag', af', ah', al', ae', ak', ap', av', afa', ke', fe', fv', gv', l', k', g', a1, a2, a3, a4⟩ := fa_lookJ hM hL hV hE hn5 hMb hR3 hlo found ren (-1) mt (fac n) 0 FU X losses known groups am an ag af ah al ae ak ap av afa ke fe bo fl fv gv (by omega) (by show fac n < 5000; omega) (Nat.le_refl _) (by omega) hK (fun i hi => absurd hi (by omega)) hbo
    obtain ⟨found', groups', ren', b1, b2⟩ := fa_findJ (M := M) (night := night) (g := g) (flock := flock) (hunger := hunger) (lean := lean) (fed := fed) (taken := taken) (pacts := pacts) (levels := levels) (dogs := dogs) (fenced := fenced) (heights := heights) (partner := partner) (fek := fek) (fel := fel) (fer := fer) (fes := fes) (gok := gok) (gol := gol) (gor := gor) (gos := gos) (lo := lo) (losses := l') (known := k') hn5 (fun r f hr hv hf => a2 r hr (a3 r hr hv) f hf) am' an' ag' af' ah' al' ae' ak' ap' av' afa' ke' fe' bo' fl' fv' gv' mt (fac n) 0 FU found g' ren (by omega) (by show fac n < 5000; omega) (fun i x hx => by cases hx)
    refine ⟨am', an', bo', fl', ag', af', ah', al', ae', ak', ap', av', afa', ke', fe', fv', gv', l', k', found', groups', ren', ?_, a2, b2, ?_⟩
    · rw [rows_j n (by omega), bd_s, show (120 : Int32) = nI 120 from rfl, ifl (by decide) (by omega), if_neg (by omega)]
      simp only [lt_]
      exact a1.trans b1
    · obtain ⟨B, hB, eB⟩ := a4
      have h4 : 168 * fac n ≤ 168 * 120 := Nat.mul_le_mul_left _ h120
      exact ⟨B, by omega, eB⟩
  · rw [if_neg (nI_m1 (by omega))]
    obtain ⟨B, hB, eB⟩ := hbo
    exact ⟨am, an, bo, fl, ag, af, ah, al, ae, ak, ap, av, afa, ke, fe, fv, gv, losses, known, found, groups, ren, rfl, hK, hf, B, by omega, eB⟩
end WJ
