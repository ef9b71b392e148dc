/-! PURE 26: firm, group (src/t75.lean through gen/tmpl.py) -/
def JC (op arg R : Nat → Int32) (n : Nat) (losses known found : Nat → Int32) (fm gn gf : Int32) : Prop := gn = 0 ∨ ∃ (M : Nat) (lo : Nat → Nat → Int32), 1 ≤ M ∧ M ≤ 28 ∧ gn = nI M ∧ n ≤ 5 ∧ gf = nI n ∧ LoOKJ op arg R n M lo ∧ CKJ n losses known lo ∧ (fm = -1 ∨ FOJ n lo found fm)
theorem e_readyJ {op arg R : Nat → Int32} {n : Nat} (hn : n ≤ 6) (hR0 : R 0 = nI n) {losses known found : Nat → Int32} {fm gn gf : Int32} (hG : JC op arg R n losses known found fm gn gf) (x : Int32) :
    (f_X6_isReady_j 5 (nI n) known fm gn gf x = some (0, known, fm, gn, gf) ∧ f_X11_canJoin R x = some 0) ∨ ∃ (M : Nat) (lo : Nat → Nat → Int32) (known' : Nat → Int32) (fm' : Int32), 1 ≤ M ∧ M ≤ 28 ∧ x = nI M ∧ n ≤ 5 ∧ f_X6_isReady_j 5 (nI n) known fm gn gf x = some (1, known', fm', nI M, nI n) ∧ f_X11_canJoin R x = some 1 ∧ LoOKJ op arg R n M lo ∧ CKJ n losses known' lo ∧ (fm' = -1 ∨ FOJ n lo found fm') := by
  unfold f_X6_isReady_j f_X11_canJoin
  rcases e_areNights x with ⟨h1, h2⟩ | ⟨M, m1, m2, rfl, h1, h2⟩
  · left; exact ⟨by rw [h1, bd_s, if_pos z00], by rw [h2, bd_s, if_pos z00]⟩
  · rw [h1, h2, bd_s, bd_s, if_neg z10, if_neg z10, e_farms, bd_s, hR0]
    by_cases h4 : n ≤ 5
    · have q1 : nI n ≤ 5 := nI_le (b := 5) h4 (by decide)
      have q2 : ¬ 5 < nI n := nI_nlt (a := 5) h4 (by decide)
      right
      rw [if_pos q1, if_neg q2]
      have fresh : gn ≠ nI M → ∃ (M_1 : Nat) (lo : Nat → Nat → Int32) (known' : Nat → Int32) (fm' : Int32), 1 ≤ M_1 ∧ M_1 ≤ 28 ∧ nI M = nI M_1 ∧ n ≤ 5 ∧ (if gn = nI M then some ((1 : Int32), known, fm, gn, gf) else lt_ (fl_ known 120 0) fun ga_known_1 => some (1, ga_known_1, -1, nI M, nI n)) = some (1, known', fm', nI M_1, nI n) ∧ (some 1 : Option Int32) = some 1 ∧ LoOKJ op arg R n M_1 lo ∧ CKJ n losses known' lo ∧ (fm' = -1 ∨ FOJ n lo found fm') := by
        intro hne
        refine ⟨M, fun r f => Lo op arg (Rp R n (sp n r)) M (-1) f, fl_ known 120 0, -1, m1, m2, rfl, h4, ?_, rfl, fun _ _ _ _ => rfl, fun r hr hk => ?_, Or.inl rfl⟩
        · rw [if_neg hne]
          rfl
        · have h120 := fac_5 n (by omega)
          exfalso
          apply hk
          unfold fl_
          rw [if_pos (by omega)]
      rcases hG with h0 | ⟨M', lo, k1, k2, k3, -, k5, k6, k7, k8⟩
      · exact fresh (by rw [h0]; intro q; exact nI_ne0 (by omega) (by omega) q.symm)
      · by_cases hMM : gn = nI M
        · have : M' = M := by
            rw [k3, i_eq (by omega) (by omega)] at hMM
            exact hMM
          subst this
          exact ⟨M', lo, known, fm, m1, m2, rfl, h4, by rw [if_pos hMM, k3, k5], rfl, k6, k7, k8⟩
        · exact fresh hMM
    · have q1 : ¬ nI n ≤ 5 := nI_ge (b := n) (a := 5) (by omega) (by omega)
      have q2 : 5 < nI n := nI_lt (a := 5) (by omega) (by omega)
      left
      rw [if_neg q1, if_pos q2]
      exact ⟨rfl, rfl⟩
section WQ2
variable {n : Nat} {op arg dogs fenced heights partner often : Nat → Int32} {fek fel fer : Nat → Int32} {fes : Int32} {gok gol gor : Nat → Int32} {gos : Int32} {ml : Int32} {levels : Nat → Int32} {R : Nat → Int32} {night : Int32} {g : Int64} {flock hunger lean fed taken pacts kept feuds : Nat → Int32} {bones fall : Int32} {X : Nat} {th : Int32}
theorem fj41 {row i a : Nat} {gr gl R0 : Nat → Int32} (hn5 : n ≤ 5) (hi : i < 52) (ha : a < n) (hgr : gr i = nI (codeOf n row)) (hR0 : R0 0 = nI n) (kb20 : (Nat → Int32) → (Nat → Int32) → (Nat → Int32) → (Nat → Int32) → (Nat → Int32) → Int32 → (Nat → Int32) → (Nat → Int32) → Int32 → Int32 → Option ((Nat → Int32) × (Nat → Int32) × (Nat → Int32) × (Nat → Int32) × (Nat → Int32) × Int32 × (Nat → Int32) × (Nat → Int32))) (kb30 : (Nat → Int32) → (Nat → Int32) → (Nat → Int32) → (Nat → Int32) → (Nat → Int32) → Int32 → (Nat → Int32) → (Nat → Int32) → Int32 → Int32 → Int32 → Option ((Nat → Int32) × (Nat → Int32) × (Nat → Int32) × (Nat → Int32) × (Nat → Int32) × Int32 × (Nat → Int32) × (Nat → Int32)))
    (mf mp best mlo : Nat → Int32) (gm m : Int32) : ∀ (r e gg : Nat) (R1 : Nat → Int32), e + r = n → r < gg → (∀ c, c < e → R1 (110 + 6 * a + c) = Rp R n (sp n row) (110 + 6 * a + c)) → (∀ k, (k < 110 + 6 * a ∨ 110 + 6 * a + n ≤ k) → R1 k = R0 k) →
    ∃ R', f_X11_findJoined_L41 kb20 kb30 op arg ml gg R1 mf mp best mlo gm gr gl m (nI i) (nI a) (nI e) = kb30 R' mf mp best mlo gm gr gl m (nI i) (nI (a + 1)) ∧ (∀ c, c < n → R' (110 + 6 * a + c) = Rp R n (sp n row) (110 + 6 * a + c)) ∧ (∀ k, (k < 110 + 6 * a ∨ 110 + 6 * a + n ≤ k) → R' k = R0 k) := by
  intro r
  induction r with
  | zero =>
    intro e gg R1 he hg h1 h2
    obtain ⟨gg, rfl⟩ : ∃ z, gg = z + 1 := ⟨gg - 1, by omega⟩
    have he : e = n := by omega
    subst he
    refine ⟨R1, ?_, h1, h2⟩
    conv => lhs; unfold f_X11_findJoined_L41 f_X11_findJoined_L41b
    rw [e_farms, bd_s, h2 0 (by omega), hR0, if_pos (nI_le (Nat.le_refl _) (by omega))]
    simp only [lt_]
    rw [← nI_succ]
  | succ r ih =>
    intro e gg R1 he hg h1 h2
    obtain ⟨gg, rfl⟩ : ∃ z, gg = z + 1 := ⟨gg - 1, by omega⟩
    have hen : e < n := by omega
    have e1 : (110 + (6 * nI a)) + nI e = nI (110 + 6 * a + e) := by rw [show (110 : Int32) = nI 110 from rfl, show (6 : Int32) = nI 6 from rfl, i_mul, i_add, i_add]
    have hcell := Rp_i (R := R) (n := n) (g := sp n row) (a := a) (e := e) (by omega) ha hen
    have step : ∀ v : Int32, v = Rp R n (sp n row) (110 + 6 * a + e) → ∃ R', f_X11_findJoined_B99 kb20 kb30 (f_X11_findJoined_L41 kb20 kb30 op arg ml gg) op arg ml R1 mf mp best mlo gm gr gl m (nI i) (nI a) (nI e) v (nI (110 + 6 * a + e)) = kb30 R' mf mp best mlo gm gr gl m (nI i) (nI (a + 1)) ∧ (∀ c, c < n → R' (110 + 6 * a + c) = Rp R n (sp n row) (110 + 6 * a + c)) ∧ (∀ k, (k < 110 + 6 * a ∨ 110 + 6 * a + n ≤ k) → R' k = R0 k) := by
      intro v hv
      obtain ⟨R', a1, a2, a3⟩ := ih (e + 1) gg (upd R1 (110 + 6 * a + e) v) (by omega) (by omega) (fun c hc => by
        by_cases q : c = e
        · rw [q, u_s, hv]
        · rw [u_n (by omega)]; exact h1 c (by omega)) (fun k hk => by rw [u_n (by omega)]; exact h2 k hk)
      refine ⟨R', ?_, a2, a3⟩
      unfold f_X11_findJoined_B99
      rw [g_nI (by omega) (by decide), ix_nI (by omega)]
      simp only [lt_]
      rw [← nI_succ]
      exact a1
    have hse := sp_le n row e (by omega)
    have hsa := sp_le n row a ha
    have hun : f_X11_findJoined_L41 kb20 kb30 op arg ml (gg + 1) R1 mf mp best mlo gm gr gl m (nI i) (nI a) (nI e) = f_X11_findJoined_B99 kb20 kb30 (f_X11_findJoined_L41 kb20 kb30 op arg ml gg) op arg ml R1 mf mp best mlo gm gr gl m (nI i) (nI a) (nI e) (Rp R n (sp n row) (110 + 6 * a + e)) (nI (110 + 6 * a + e)) := by
      conv => lhs; unfold f_X11_findJoined_L41 f_X11_findJoined_L41b
      rw [e_farms, bd_s, h2 0 (by omega), hR0, if_neg (nI_ge (by omega) (by omega)), ifq (by omega) (by omega), e1, hcell]
      unfold f_X11_findJoined_B98
      by_cases hae : a = e
      · rw [if_pos hae, if_neg (fun q => q.1 hae)]
      · rw [if_neg hae, g_nI (by omega) (by decide), ix_nI (by omega), hgr, code_dig hn5 ha, bd_s, g_nI (by omega) (by decide), code_dig hn5 hen, bd_s, ifq (by omega) (by omega)]
        by_cases hq : sp n row a = sp n row e
        · rw [if_pos hq, if_pos ⟨hae, hq⟩]
        · rw [if_neg hq, if_neg (fun q => hq q.2)]
    rw [hun]
    exact step _ rfl
theorem fj119 {R2 : Nat → Int32} (hn5 : n ≤ 5) (hR0 : R2 0 = nI n) {i : Nat} (hi : i < 52) (kb : (Nat → Int32) → (Nat → Int32) → (Nat → Int32) → (Nat → Int32) → (Nat → Int32) → Int32 → (Nat → Int32) → (Nat → Int32) → Int32 → Int32 → Option ((Nat → Int32) × (Nat → Int32) × (Nat → Int32) × (Nat → Int32) × (Nat → Int32) × Int32 × (Nat → Int32) × (Nat → Int32))) (mf mp best losses gr l0 : Nat → Int32) (gm m : Int32) :
    ∀ (r e gg : Nat) (gl : Nat → Int32), e + r = n → r < gg → (∀ f, f < e → gl (5 * i + f) = losses f) → (∀ k, (k < 5 * i ∨ 5 * i + 5 ≤ k) → gl k = l0 k) →
      ∃ gl', f_X11_findJoined_L119 kb op arg ml gg R2 mf mp best losses gm gr gl m (nI i) (nI e) = kb R2 mf mp best losses gm gr gl' m (nI (i + 1)) ∧ (∀ f, f < n → gl' (5 * i + f) = losses f) ∧ ∀ k, (k < 5 * i ∨ 5 * i + 5 ≤ k) → gl' k = l0 k := by
  intro r
  induction r with
  | zero =>
    intro e gg gl he hg h1 h2
    obtain ⟨gg, rfl⟩ : ∃ z, gg = z + 1 := ⟨gg - 1, by omega⟩
    have he : e = n := by omega
    subst he
    refine ⟨gl, ?_, h1, h2⟩
    conv => lhs; unfold f_X11_findJoined_L119 f_X11_findJoined_L119b
    rw [e_farms, bd_s, hR0, if_pos (nI_le (Nat.le_refl _) (by omega))]
    simp only [lt_]
    rw [← nI_succ]
  | succ r ih =>
    intro e gg gl he hg h1 h2
    obtain ⟨gg, rfl⟩ : ∃ z, gg = z + 1 := ⟨gg - 1, by omega⟩
    have e1 : (5 * nI i) + nI e = nI (5 * i + e) := by rw [show (5 : Int32) = nI 5 from rfl, i_mul, i_add]
    obtain ⟨gl', a1, a2, a3⟩ := ih (e + 1) gg (upd gl (5 * i + e) (losses e)) (by omega) (by omega) (fun f hf => by
      by_cases h : f = e
      · rw [h, u_s]
      · rw [u_n (by omega)]; exact h1 f (by omega)) (fun k hk => by rw [u_n (by omega)]; exact h2 k hk)
    refine ⟨gl', ?_, a2, a3⟩
    conv => lhs; unfold f_X11_findJoined_L119 f_X11_findJoined_L119b
    rw [e_farms, bd_s, hR0, if_neg (nI_ge (by omega) (by omega)), e1, g_nI (by omega) (by decide), g_nI (by omega) (by decide), ix_nI (by omega), ix_nI (by omega)]
    simp only [lt_]
    rw [← nI_succ]
    exact a1
/-- one row of groups: pacts written, losses found and kept -/
theorem fj30 (hM : RMo R n dogs fenced heights partner often) (hL : RLw R op arg fek fel fer fes gok gol gor gos) (hV : RVa R n night g flock hunger lean fed taken pacts) (hE : RLe n (-1) levels) (hn5 : n ≤ 5) {M : Nat} (hMb : M ≤ 28) (hX : X < 2 ^ 29) (hR3 : ∃ B, B ≤ X ∧ R 3 = nI B) {lo : Nat → Nat → Int32} (hlo : LoOKJ op arg R n M lo) {row i : Nat} {gr R0 : Nat → Int32} (hrow : row < fac n) (hi : i < 52) (hgr : gr i = nI (codeOf n row)) (hR0 : ∀ k, k < 1000 → (k < 110 ∨ 146 ≤ k ∨ n ≤ (k - 110) % 6 ∨ n ≤ (k - 110) / 6) → R0 k = R k)
    (kb20 : (Nat → Int32) → (Nat → Int32) → (Nat → Int32) → (Nat → Int32) → (Nat → Int32) → Int32 → (Nat → Int32) → (Nat → Int32) → Int32 → Int32 → Option ((Nat → Int32) × (Nat → Int32) × (Nat → Int32) × (Nat → Int32) × (Nat → Int32) × Int32 × (Nat → Int32) × (Nat → Int32))) (mf mp best mlo gl : Nat → Int32) (gm : Int32) : ∀ (r a gg : Nat) (R1 : Nat → Int32), a + r = n → r < gg → (∀ b c, b < a → c < n → R1 (110 + 6 * b + c) = Rp R n (sp n row) (110 + 6 * b + c)) → (∀ k, (k < 110 ∨ 146 ≤ k ∨ n ≤ (k - 110) % 6 ∨ n ≤ (k - 110) / 6) → R1 k = R0 k) →
    ∃ R' mf' mp' best' mlo' gl', f_X11_findJoined_L30 kb20 op arg (-1) gg R1 mf mp best mlo gm gr gl (nI M) (nI i) (nI a) = kb20 R' mf' mp' best' mlo' gm gr gl' (nI M) (nI (i + 1)) ∧ (∀ k, k < 6000 → (k < 110 ∨ 146 ≤ k ∨ n ≤ (k - 110) % 6 ∨ n ≤ (k - 110) / 6) → R' k = R0 k) ∧ (∀ f, f < n → gl' (5 * i + f) = lo row f) ∧ ∀ k, (k < 5 * i ∨ 5 * i + 5 ≤ k) → gl' k = gl k := by
  have hn := hM.1
  have h120 := fac_5 n (by omega)
  intro r
  induction r with
  | zero =>
    intro a gg R1 ha hg h1 h2
    obtain ⟨gg, rfl⟩ : ∃ z, gg = z + 1 := ⟨gg - 1, by omega⟩
    have ha : a = n := by omega
    subst ha
    have hfr : ∀ k, (k < 110 ∨ 146 ≤ k) → k < 1000 → Rp R a (sp a row) k = R k := fun k h _ => Rp_o h
    obtain ⟨_, pac', -, hp⟩ := e_arrJ (n := a) (row := row) hn5 (by omega) (fun _ => 0) (fun _ => 0)
    have hlow : Low (Rp R a (sp a row)) R1 := by
      intro k hk
      by_cases hc : k < 110 ∨ 146 ≤ k ∨ a ≤ (k - 110) % 6 ∨ a ≤ (k - 110) / 6
      · rw [h2 k hc, hR0 k hk hc]
        unfold Rp
        rw [if_neg (by omega)]
      · have hk2 : k = 110 + 6 * ((k - 110) / 6) + (k - 110) % 6 := by omega
        rw [hk2]
        exact h1 _ _ (by omega) (by omega)
    have hR10 : R1 0 = nI a := by rw [h2 0 (by omega), hR0 0 (by omega) (by omega)]; exact hM.2.1
    obtain ⟨mf1, mp1, best1, mlo1, a1, a2⟩ := lo_ref (hM.pac hfr) (hL.pac hfr) hE (hV.rowJ hn5 hp) (by rw [Rp_o (by omega)]; exact hR3) hMb hX hlow mf mp best mlo
    obtain ⟨gl', b1, b2, b3⟩ := fj119 (op := op) (arg := arg) (ml := -1) (R2 := cr R1 0 6) hn5 (by rw [cr_lo R1 (by omega)]; exact hR10) hi kb20 mf1 mp1 best1 mlo1 gr gl gm (nI M) a 0 FU gl (by omega) (by show a < 5000; omega) (fun f hf => absurd hf (by omega)) (fun _ _ => rfl)
    refine ⟨cr R1 0 6, mf1, mp1, best1, mlo1, gl', ?_, fun k hk hc => by rw [cr_lo R1 hk]; exact h2 k hc, fun f hf => by rw [b2 f hf, a2 f hf]; exact hlo row f hrow hf, b3⟩
    conv => lhs; unfold f_X11_findJoined_L30 f_X11_findJoined_L30b
    rw [e_farms, bd_s, hR10, if_pos (nI_le (Nat.le_refl _) (by omega)), a1, bd_s]
    exact b1
  | succ r ih =>
    intro a gg R1 ha hg h1 h2
    obtain ⟨gg, rfl⟩ : ∃ z, gg = z + 1 := ⟨gg - 1, by omega⟩
    have hR10 : R1 0 = nI n := by rw [h2 0 (by omega), hR0 0 (by omega) (by omega)]; exact hM.2.1
    obtain ⟨R2, a1, a2, a3⟩ := fj41 (R := R) (R0 := R1) (row := row) (op := op) (arg := arg) (ml := -1) (gl := gl) hn5 hi (a := a) (by omega) hgr hR10 kb20 (f_X11_findJoined_L30 kb20 op arg (-1) gg) mf mp best mlo gm (nI M) n 0 FU R1 (by omega) (by show n < 5000; omega) (fun c hc => absurd hc (by omega)) (fun _ _ => rfl)
    obtain ⟨R', mf', mp', best', mlo', gl', b1, b2, b3, b4⟩ := ih (a + 1) gg R2 (by omega) (by omega) (fun b c hb hc => by
      by_cases q : b = a
      · rw [q]; exact a2 c hc
      · rw [a3 _ (by omega)]; exact h1 b c (by omega) hc) (fun k hk => by rw [a3 k (by omega)]; exact h2 k hk)
    refine ⟨R', mf', mp', best', mlo', gl', ?_, b2, b3, b4⟩
    conv => lhs; unfold f_X11_findJoined_L30 f_X11_findJoined_L30b
    rw [e_farms, bd_s, hR10, if_neg (nI_ge (by omega) (by omega))]
    exact a1.trans b1
theorem fj20 (hM : RMo R n dogs fenced heights partner often) (hL : RLw R op arg fek fel fer fes gok gol gor gos) (hV : RVa R n night g flock hunger lean fed taken pacts) (hE : RLe n (-1) levels) (hn5 : n ≤ 5) {M : Nat} (hMb : M ≤ 28) (hX : X < 2 ^ 29) (hR3 : ∃ B, B ≤ X ∧ R 3 = nI B) {lo : Nat → Nat → Int32} (hlo : LoOKJ op arg R n M lo) {gr : Nat → Int32} (hgr : ∀ j x, (VR n)[j]? = some x → gr j = nI (codeOf n x)) : ∀ (r i gg : Nat) (R1 mf mp best mlo gl : Nat → Int32), i + r = (VR n).length → r < gg → (∀ k, k < 1000 → (k < 110 ∨ 146 ≤ k ∨ n ≤ (k - 110) % 6 ∨ n ≤ (k - 110) / 6) → R1 k = R k) → (∀ k, k < 1000 → R1 (1000 + k) = R k) → (∀ k, 2000 ≤ k → k < 6000 → R1 k = R k) → (∀ j x, j < i → (VR n)[j]? = some x → ∀ f, f < n → gl (5 * j + f) = lo x f) →
    ∃ R' mf' mp' best' mlo' gl', f_X11_findJoined_L20 op arg (-1) gg R1 mf mp best mlo (nI (VR n).length) gr gl (nI M) (nI i) = some (R', mf', mp', best', mlo', nI (VR n).length, gr, gl') ∧ (∀ k, (k < 1000 ∨ (2000 ≤ k ∧ k < 6000)) → R' k = R k) ∧ (∀ j x, (VR n)[j]? = some x → ∀ f, f < n → gl' (5 * j + f) = lo x f) := by
  have hn := hM.1
  have hl := vr_len n (by omega)
  intro r
  induction r with
  | zero =>
    intro i gg R1 mf mp best mlo gl hi hg h1 h2 h3 h4
    obtain ⟨gg, rfl⟩ : ∃ z, gg = z + 1 := ⟨gg - 1, by omega⟩
    have hi : i = (VR n).length := by omega
    refine ⟨cr R1 1 0, mf, mp, best, mlo, gl, ?_, fun k hk => ?_, fun j x hj => h4 j x (by have := (List.getElem?_eq_some_iff.mp hj).1; omega) hj⟩
    · conv => lhs; unfold f_X11_findJoined_L20 f_X11_findJoined_L20b
      rw [if_pos (nI_le (by omega) (by omega)), show (1 : Int32) = nI 1 from rfl, show (0 : Int32) = nI 0 from rfl, e_carry (by decide) (by decide) (by decide), bd_s]
    · unfold cr
      by_cases q : k < 1000
      · rw [if_pos (by omega), show k - 1000 * 0 + 1000 * 1 = 1000 + k by omega]
        exact h2 k q
      · rw [if_neg (by omega)]
        exact h3 k (by omega) (by omega)
  | succ r ih =>
    intro i gg R1 mf mp best mlo gl hi hg h1 h2 h3 h4
    obtain ⟨gg, rfl⟩ : ∃ z, gg = z + 1 := ⟨gg - 1, by omega⟩
    have hx : (VR n)[i]? = some (VR n)[i] := List.getElem?_eq_getElem (by omega)
    have hmem := (vrl_mem n (fac n) (VR n)[i]).mp (show (VR n)[i] ∈ VR n from List.getElem_mem (by omega))
    obtain ⟨R2, mf2, mp2, best2, mlo2, gl2, a1, a2, a3, a4⟩ := fj30 hM hL hV hE hn5 hMb hX hR3 hlo (row := (VR n)[i]) (i := i) (gr := gr) (R0 := R1) hmem.1 (by omega) (hgr i _ hx) h1 (f_X11_findJoined_L20 op arg (-1) gg) mf mp best mlo gl (nI (VR n).length) n 0 FU R1 (by omega) (by show n < 5000; omega) (fun b c hb => absurd hb (by omega)) (fun _ _ => rfl)
    obtain ⟨R', mf', mp', best', mlo', gl', b1, b2, b3⟩ := ih (i + 1) gg R2 mf2 mp2 best2 mlo2 gl2 (by omega) (by omega) (fun k hk hc => by rw [a2 k (by omega) hc]; exact h1 k hk hc) (fun k hk => by rw [a2 _ (by omega) (by omega)]; exact h2 k hk) (fun k hk hk2 => by rw [a2 k hk2 (by omega)]; exact h3 k hk hk2) (fun j x hj hjx f hf => by
      by_cases q : j = i
      · subst q
        rw [hx] at hjx
        cases hjx
        exact a3 f hf
      · rw [a4 _ (by omega)]; exact h4 j x (by omega) hjx f hf)
    refine ⟨R', mf', mp', best', mlo', gl', ?_, b2, b3⟩
    conv => lhs; unfold f_X11_findJoined_L20 f_X11_findJoined_L20b
    rw [if_neg (nI_ge (by omega) (by omega))]
    exact a1.trans b1
theorem e_findJoined (hM : RMo R n dogs fenced heights partner often) (hL : RLw R op arg fek fel fer fes gok gol gor gos) (hV : RVa R n night g flock hunger lean fed taken pacts) (hE : RLe n (-1) levels) (hn5 : n ≤ 5) {M : Nat} (hMb : M ≤ 28) (hX : X < 2 ^ 29) (hR3 : ∃ B, B ≤ X ∧ R 3 = nI B) {lo : Nat → Nat → Int32} (hlo : LoOKJ op arg R n M lo) (mf mp best mlo gr gl : Nat → Int32) (gm : Int32) :
    ∃ R' mf' mp' best' mlo' gr' gl', f_X11_findJoined op arg (-1) R mf mp best mlo gm gr gl (nI M) = some (R', mf', mp', best', mlo', nI (VR n).length, gr', gl') ∧ (∀ k, (k < 1000 ∨ (2000 ≤ k ∧ k < 6000)) → R' k = R k) ∧ (∀ j x, (VR n)[j]? = some x → gr' j = nI (codeOf n x)) ∧ (∀ j x, (VR n)[j]? = some x → ∀ f, f < n → gl' (5 * j + f) = lo x f) := by
  have hn := hM.1
  have hl := vr_len n (by omega)
  obtain ⟨gr', a1, a2⟩ := e_findGroups hn5 hM.2.1 gr
  have c1 : ∀ k, k < 1000 → cr R 0 1 k = R k := fun k hk => by unfold cr; rw [if_neg (by omega)]
  have c2 : ∀ k, k < 1000 → cr R 0 1 (1000 + k) = R k := fun k hk => by unfold cr; rw [if_pos (by omega), show 1000 + k - 1000 * 1 + 1000 * 0 = k by omega]
  have c3 : ∀ k, 2000 ≤ k → cr R 0 1 k = R k := fun k hk => by unfold cr; rw [if_neg (by omega)]
  obtain ⟨R', mf', mp', best', mlo', gl', b1, b2, b3⟩ := fj20 hM hL hV hE hn5 hMb hX hR3 hlo a2 (VR n).length 0 FU (cr R 0 1) mf mp best mlo gl (by omega) (by show (VR n).length < 5000; omega) (fun k hk _ => c1 k hk) c2 (fun k hk _ => c3 k hk) (fun j x hj => absurd hj (by omega))
  refine ⟨R', mf', mp', best', mlo', gr', gl', ?_, b2, a2, b3⟩
  unfold f_X11_findJoined
  rw [a1, bd_s]
  simp only
  rw [show (0 : Int32) = nI 0 from rfl, show f_X11_carry R (nI 0) 1 = some (cr R 0 1) from e_carry (a := 0) (b := 1) (by decide) (by decide) (by decide) R, bd_s]
  exact b1
theorem fr_eq (lo : Nat → Nat → Int32) (n : Nat) : ∀ k, fr lo n k = (vrl n k).filter (fun r => fB lo n r (2 ^ n))
  | 0 => rfl
  | k + 1 => by
    show (if vB n k && fB lo n k (2 ^ n) then fr lo n k ++ [k] else fr lo n k) = (if vB n k then vrl n k ++ [k] else vrl n k).filter (fun r => fB lo n r (2 ^ n))
    rw [fr_eq lo n k]
    cases h1 : vB n k <;> cases h2 : fB lo n k (2 ^ n) <;> simp [h1, h2]
def ft (lo : Nat → Nat → Int32) (n i : Nat) : List Nat := ((VR n).take i).filter (fun r => fB lo n r (2 ^ n))
theorem ft_all (lo : Nat → Nat → Int32) (n : Nat) : ft lo n (VR n).length = fr lo n (fac n) := by
  unfold ft
  rw [List.take_length, fr_eq]
  rfl
theorem ft_s (lo : Nat → Nat → Int32) {n i : Nat} (h : i < (VR n).length) : ft lo n (i + 1) = if fB lo n (VR n)[i] (2 ^ n) then ft lo n i ++ [(VR n)[i]] else ft lo n i := by
  unfold ft
  rw [List.take_succ_eq_append_getElem h, List.filter_append]
  cases h2 : fB lo n (VR n)[i] (2 ^ n) <;> simp [h2]
theorem ft_len (lo : Nat → Nat → Int32) (n i : Nat) : (ft lo n i).length ≤ i := by
  unfold ft
  refine Nat.le_trans (List.length_filter_le _ _) ?_
  rw [List.length_take]
  omega
theorem ft_pre (lo : Nat → Nat → Int32) (n i I : Nat) (h : I < (ft lo n i).length) : (fr lo n (fac n))[I]? = (ft lo n i)[I]? := by
  have : fr lo n (fac n) = ft lo n i ++ ((VR n).drop i).filter (fun r => fB lo n r (2 ^ n)) := by
    rw [fr_eq]
    show (VR n).filter _ = _
    unfold ft
    rw [← List.filter_append, List.take_append_drop]
  rw [this, List.getElem?_append_left h]
theorem firm_loop {R2 gr gl : Nat → Int32} {lo : Nat → Nat → Int32} (hn5 : n ≤ 5) (hR0 : R2 0 = nI n) (hgr : ∀ j x, (VR n)[j]? = some x → gr j = nI (codeOf n x)) (hgl : ∀ j x, (VR n)[j]? = some x → ∀ f, f < n → gl (5 * j + f) = lo x f) (mf mp best mlo : Nat → Int32) : ∀ (r i gg : Nat), i + r = (VR n).length → r < gg →
    f_X11_firm_L24 op arg (-1) gg 0 R2 mf mp best mlo (nI (VR n).length) gr gl (nI (ft lo n i).length) (nI i) = some (nI (fr lo n (fac n)).length, 0, R2, mf, mp, best, mlo, nI (VR n).length, gr, gl) := by
  have hl := vr_len n (by omega)
  intro r
  induction r with
  | zero =>
    intro i gg hi hg
    obtain ⟨gg, rfl⟩ : ∃ z, gg = z + 1 := ⟨gg - 1, by omega⟩
    have hi : i = (VR n).length := by omega
    rw [hi, ft_all]
    show f_X11_firm_L24b _ _ _ _ _ _ _ _ _ _ _ _ _ _ _ = _
    unfold f_X11_firm_L24b
    rw [if_pos (nI_le (Nat.le_refl _) (by omega))]
  | succ r ih =>
    intro i gg hi hg
    obtain ⟨gg, rfl⟩ : ∃ z, gg = z + 1 := ⟨gg - 1, by omega⟩
    have hx : (VR n)[i]? = some (VR n)[i] := List.getElem?_eq_getElem (by omega)
    have hf := e_isFirm hn5 hR0 hgr hgl hx
    have hs := ft_s lo (show i < (VR n).length by omega)
    have hi' := ih (i + 1) gg (by omega) (by omega)
    rw [hs] at hi'
    show f_X11_firm_L24b _ _ _ _ _ _ _ _ _ _ _ _ _ _ _ = _
    unfold f_X11_firm_L24b
    rw [if_neg (nI_ge (by omega) (by omega)), hf, bd_s]
    simp only [f_X11_firm_B46, lt_]
    cases ht : fB lo n (VR n)[i] (2 ^ n) with
    | false =>
      rw [ht] at hi'
      rw [if_pos (by rfl), Int32.add_zero, ← nI_succ]
      exact hi'
    | true =>
      rw [ht, if_pos rfl, List.length_append, List.length_singleton] at hi'
      rw [if_neg (by decide), ← nI_succ, ← nI_succ]
      exact hi'
theorem group_loop {R2 gr gl : Nat → Int32} {lo : Nat → Nat → Int32} (hn5 : n ≤ 5) (hR0 : R2 0 = nI n) (hgr : ∀ j x, (VR n)[j]? = some x → gr j = nI (codeOf n x)) (hgl : ∀ j x, (VR n)[j]? = some x → ∀ f, f < n → gl (5 * j + f) = lo x f) (mf mp best mlo : Nat → Int32) {I f : Nat} (hI : I < 2 ^ 31) (hf : f < n) : ∀ (r i gg : Nat), i + r = (VR n).length → r < gg → (ft lo n i).length ≤ I →
    f_X11_group_L38 op arg (-1) gg 0 R2 mf mp best mlo (nI (VR n).length) gr gl (nI I) (nI f) (nI (ft lo n i).length) (nI i) = some (((fr lo n (fac n))[I]?).elim (-1) (fun x => nI (sp n x f)), 0, R2, mf, mp, best, mlo, nI (VR n).length, gr, gl) := by
  have hl := vr_len n (by omega)
  intro r
  induction r with
  | zero =>
    intro i gg hi hg hlen
    obtain ⟨gg, rfl⟩ : ∃ z, gg = z + 1 := ⟨gg - 1, by omega⟩
    have hi : i = (VR n).length := by omega
    rw [hi, ft_all] at hlen ⊢
    show f_X11_group_L38b _ _ _ _ _ _ _ _ _ _ _ _ _ _ _ _ _ = _
    unfold f_X11_group_L38b
    rw [if_pos (nI_le (Nat.le_refl _) (by omega)), List.getElem?_eq_none hlen]
    rfl
  | succ r ih =>
    intro i gg hi hg hlen
    obtain ⟨gg, rfl⟩ : ∃ z, gg = z + 1 := ⟨gg - 1, by omega⟩
    have hx : (VR n)[i]? = some (VR n)[i] := List.getElem?_eq_getElem (by omega)
    have hfm := e_isFirm hn5 hR0 hgr hgl hx
    have hs := ft_s lo (show i < (VR n).length by omega)
    have hle := ft_len lo n i
    show f_X11_group_L38b _ _ _ _ _ _ _ _ _ _ _ _ _ _ _ _ _ = _
    unfold f_X11_group_L38b
    rw [if_neg (nI_ge (by omega) (by omega)), hfm, bd_s]
    simp only [f_X11_group_B77, lt_]
    cases ht : fB lo n (VR n)[i] (2 ^ n) with
    | false =>
      rw [ht] at hs
      have hs : ft lo n (i + 1) = ft lo n i := hs
      have hi' := ih (i + 1) gg (by omega) (by omega) (by rw [hs]; exact hlen)
      rw [hs] at hi'
      rw [if_pos (by rfl), ← nI_succ]
      exact hi'
    | true =>
      rw [ht] at hs
      have hs : ft lo n (i + 1) = ft lo n i ++ [(VR n)[i]] := hs
      rw [if_neg (by decide)]
      by_cases hc : (ft lo n i).length = I
      · rw [if_pos (by rw [hc]), g_nI (by omega) (by decide), ix_nI (by omega), hgr i _ hx, code_dig hn5 hf, bd_s]
        have hp := ft_pre lo n (i + 1) I (by rw [hs, List.length_append, List.length_singleton]; omega)
        rw [hp, hs, ← hc, List.getElem?_append_right (Nat.le_refl _), Nat.sub_self]
        rfl
      · have hi' := ih (i + 1) gg (by omega) (by omega) (by rw [hs, List.length_append, List.length_singleton]; omega)
        rw [hs, List.length_append, List.length_singleton] at hi'
        rw [if_neg (by rw [i_eq (by omega) hI]; exact hc), ← nI_succ, ← nI_succ]
        exact hi'
/-- firm -/
theorem op_firm (hM : RMo R n dogs fenced heights partner often) (hL : RLw R op arg fek fel fer fes gok gol gor gos) (hV : RVa R n night g flock hunger lean fed taken pacts) (hE : RLe n (-1) levels) (hX : X + 43008 < 2 ^ 29) (hR3 : ∃ B, B ≤ X ∧ R 3 = nI B) {losses known found groups ren : Nat → Int32} {fm gn gf : Int32} (hG : JC op arg R n losses known found fm gn gf) (am : Nat) (an : Int32) (ag : Int64) (af ah al ae ak ap av afa ke fe : Nat → Int32) (bo fl : Int32) (fv gv : Nat → Int32) (hbo : ∃ B, B ≤ X ∧ bo = nI B) (mt : Nat) (mf mp best mlo gr gl : Nat → Int32) (gm : Int32) (x : Int32) :
    ∃ (am' : Nat) (an' bo' fl' : Int32) (ag' : Int64) (af' ah' al' ae' ak' ap' av' afa' ke' fe' fv' gv' : Nat → Int32) (o fm' gn' gf' gm' : Int32) (losses' known' found' groups' ren' R' mf' mp' best' mlo' gr' gl' : Nat → Int32), f_X10_firm 5 night g flock hunger lean fed taken pacts levels (nI n) dogs fenced heights partner fek fel fer fes gok gol gor gos losses known found fm gn gf groups ren am an ag af ah al ae ak ap av afa ke fe bo fl fv gv mt x = some (o, losses', known', found', fm', gn', gf', groups', ren', am', an', ag', af', ah', al', ae', ak', ap', av', afa', ke', fe', bo', fl', fv', gv') ∧ f_X11_firm op arg (-1) th R mf mp best mlo gm gr gl x = some (o, 0, R', mf', mp', best', mlo', gm', gr', gl') ∧ (∀ k, (k < 1000 ∨ (2000 ≤ k ∧ k < 6000)) → R' k = R k) ∧ JC op arg R n losses' known' found' fm' gn' gf' ∧ ∃ B, B ≤ X + 43008 ∧ bo' = nI B := by
  have hn := hM.1
  obtain ⟨B0, hB0, eB0⟩ := hbo
  have hboX : ∃ B, B ≤ X + 43008 ∧ bo = nI B := ⟨B0, by omega, eB0⟩
  unfold f_X10_firm f_X11_firm
  rcases e_readyJ hn hM.2.1 hG x with ⟨r1, r2⟩ | ⟨M, lo, known', fm', m1, m2, rfl, n5, r1, r2, hlo, hK, hF⟩
  · exact ⟨am, an, bo, fl, ag, af, ah, al, ae, ak, ap, av, afa, ke, fe, fv, gv, -1, fm, gn, gf, gm, losses, known, found, groups, ren, R, mf, mp, best, mlo, gr, gl, by rw [r1, bd_s]; rfl, by rw [r2, bd_s, if_pos z00], fun _ _ => rfl, hG, hboX⟩
  · obtain ⟨am', an', bo', fl', ag', af', ah', al', ae', ak', ap', av', afa', ke', fe', fv', gv', losses', known2, found', groups', ren', a1, a2, a3, a5⟩ := e_findAllJ hM hL hV hE n5 m2 hR3 hlo hK hF groups ren am an ag af ah al ae ak ap av afa ke fe bo fl fv gv (by omega) ⟨B0, hB0, eB0⟩ mt
    obtain ⟨R', mf', mp', best', mlo', gr', gl', b1, b2, b3, b4⟩ := e_findJoined hM hL hV hE n5 m2 (by omega) hR3 hlo mf mp best mlo gr gl gm
    have hl := vr_len n (by omega)
    refine ⟨am', an', bo', fl', ag', af', ah', al', ae', ak', ap', av', afa', ke', fe', fv', gv', nI (fr lo n (fac n)).length, nI (fr lo n (fac n)).length, nI M, nI n, nI (VR n).length, losses', known2, found', groups', ren', R', mf', mp', best', mlo', gr', gl', ?_, ?_, b2, Or.inr ⟨M, lo, m1, m2, rfl, n5, rfl, hlo, a2, Or.inr ⟨rfl, a3⟩⟩, by obtain ⟨B, hB, eB⟩ := a5; exact ⟨B, by omega, eB⟩⟩
    · rw [r1, bd_s]
      simp only
      rw [if_neg z10, a1, bd_s]
    · rw [r2, bd_s, if_neg z10, b1, bd_s]
      exact firm_loop (op := op) (arg := arg) n5 (by rw [b2 0 (by omega)]; exact hM.2.1) b3 b4 mf' mp' best' mlo' (VR n).length 0 FU (by omega) (by show (VR n).length < 5000; omega)
/-- group -/
theorem op_group (hM : RMo R n dogs fenced heights partner often) (hL : RLw R op arg fek fel fer fes gok gol gor gos) (hV : RVa R n night g flock hunger lean fed taken pacts) (hE : RLe n (-1) levels) (hX : X + 43008 < 2 ^ 29) (hR3 : ∃ B, B ≤ X ∧ R 3 = nI B) {losses known found groups ren : Nat → Int32} {fm gn gf : Int32} (hG : JC op arg R n losses known found fm gn gf) (am : Nat) (an : Int32) (ag : Int64) (af ah al ae ak ap av afa ke fe : Nat → Int32) (bo fl : Int32) (fv gv : Nat → Int32) (hbo : ∃ B, B ≤ X ∧ bo = nI B) (mt : Nat) (mf mp best mlo gr gl : Nat → Int32) (gm : Int32) (x y z : Int32) :
    ∃ (am' : Nat) (an' bo' fl' : Int32) (ag' : Int64) (af' ah' al' ae' ak' ap' av' afa' ke' fe' fv' gv' : Nat → Int32) (o fm' gn' gf' gm' : Int32) (losses' known' found' groups' ren' R' mf' mp' best' mlo' gr' gl' : Nat → Int32), f_X10_group 5 night g flock hunger lean fed taken pacts levels (nI n) dogs fenced heights partner fek fel fer fes gok gol gor gos losses known found fm gn gf groups ren am an ag af ah al ae ak ap av afa ke fe bo fl fv gv mt x y z = some (o, losses', known', found', fm', gn', gf', groups', ren', am', an', ag', af', ah', al', ae', ak', ap', av', afa', ke', fe', bo', fl', fv', gv') ∧ f_X11_group op arg (-1) th R mf mp best mlo gm gr gl x y z = some (o, 0, R', mf', mp', best', mlo', gm', gr', gl') ∧ (∀ k, (k < 1000 ∨ (2000 ≤ k ∧ k < 6000)) → R' k = R k) ∧ JC op arg R n losses' known' found' fm' gn' gf' ∧ ∃ B, B ≤ X + 43008 ∧ bo' = nI B := by
  have hn := hM.1
  obtain ⟨B0, hB0, eB0⟩ := hbo
  have hboX : ∃ B, B ≤ X + 43008 ∧ bo = nI B := ⟨B0, by omega, eB0⟩
  unfold f_X10_group f_X11_group
  rcases e_isFarm hn hM.2.1 z with ⟨h1, h2⟩ | ⟨f, hf, rfl, h1, h2⟩
  · refine ⟨am, an, bo, fl, ag, af, ah, al, ae, ak, ap, av, afa, ke, fe, fv, gv, -1, fm, gn, gf, gm, losses, known, found, groups, ren, R, mf, mp, best, mlo, gr, gl, by rw [h1, bd_s, if_pos z00], ?_, fun _ _ => rfl, hG, hboX⟩
    rcases e_readyJ hn hM.2.1 hG x with ⟨-, r2⟩ | ⟨M, lo, known', fm', m1, m2, rfl, n5, -, r2, -⟩
    · rw [r2, bd_s, if_pos z00]
    · rw [r2, bd_s, if_neg z10, h2, bd_s, if_pos z00]
      split <;> rfl
  · rcases e_readyJ hn hM.2.1 hG x with ⟨r1, r2⟩ | ⟨M, lo, known', fm', m1, m2, rfl, n5, r1, r2, hlo, hK, hF⟩
    · exact ⟨am, an, bo, fl, ag, af, ah, al, ae, ak, ap, av, afa, ke, fe, fv, gv, -1, fm, gn, gf, gm, losses, known, found, groups, ren, R, mf, mp, best, mlo, gr, gl, by rw [h1, bd_s, if_neg z10, r1, bd_s]; rfl, by rw [r2, bd_s, if_pos z00], fun _ _ => rfl, hG, hboX⟩
    · have h120 := fac_5 n (by omega)
      have hlen := fr_len lo n (fac n)
      obtain ⟨am', an', bo', fl', ag', af', ah', al', ae', ak', ap', av', afa', ke', fe', fv', gv', losses', known2, found', groups', ren', a1, a2, a3, a5⟩ := e_findAllJ hM hL hV hE n5 m2 hR3 hlo hK hF groups ren am an ag af ah al ae ak ap av afa ke fe bo fl fv gv (by omega) ⟨B0, hB0, eB0⟩ mt
      have a6 : ∃ B, B ≤ X + 43008 ∧ bo' = nI B := by obtain ⟨B, hB, eB⟩ := a5; exact ⟨B, by omega, eB⟩
      rcases w_two y with hy | ⟨I, hI, rfl⟩
      · refine ⟨am', an', bo', fl', ag', af', ah', al', ae', ak', ap', av', afa', ke', fe', fv', gv', -1, nI (fr lo n (fac n)).length, nI M, nI n, gm, losses', known2, found', groups', ren', R, mf, mp, best, mlo, gr, gl, ?_, ?_, fun _ _ => rfl, Or.inr ⟨M, lo, m1, m2, rfl, n5, rfl, hlo, a2, Or.inr ⟨rfl, a3⟩⟩, a6⟩
        · rw [h1, bd_s, if_neg z10, r1, bd_s]
          simp only
          rw [if_neg z10, a1, bd_s]
          simp only
          unfold f_X6_foundAt_j
          rw [if_pos hy, bd_s, if_pos rfl]
        · rw [r2, bd_s, if_neg z10, if_pos hy]
      · obtain ⟨R', mf', mp', best', mlo', gr', gl', b1, b2, b3, b4⟩ := e_findJoined hM hL hV hE n5 m2 (by omega) hR3 hlo mf mp best mlo gr gl gm
        have hl := vr_len n (by omega)
        have hfa : f_X6_foundAt_j found' (nI (fr lo n (fac n)).length) (nI I) = some (((fr lo n (fac n))[I]?).elim (-1) nI) := by
          unfold f_X6_foundAt_j
          rw [if_neg (nI_pos hI)]
          by_cases hc : (fr lo n (fac n)).length ≤ I
          · rw [if_pos (nI_le hc hI), List.getElem?_eq_none hc]
            rfl
          · rw [if_neg (nI_ge (by omega) (by omega)), g_nI (by omega) (by decide), ix_nI hI]
            have hx : (fr lo n (fac n))[I]? = some (fr lo n (fac n))[I] := List.getElem?_eq_getElem (by omega)
            rw [a3 I _ hx, hx]
            rfl
        have href : f_X11_group_L38 op arg (-1) FU 0 R' mf' mp' best' mlo' (nI (VR n).length) gr' gl' (nI I) (nI f) 0 0 = some (((fr lo n (fac n))[I]?).elim (-1) (fun x => nI (sp n x f)), 0, R', mf', mp', best', mlo', nI (VR n).length, gr', gl') :=
          group_loop (op := op) (arg := arg) n5 (by rw [b2 0 (by omega)]; exact hM.2.1) b3 b4 mf' mp' best' mlo' hI hf (VR n).length 0 FU (by omega) (by show (VR n).length < 5000; omega) (Nat.zero_le _)
        cases hq : (fr lo n (fac n))[I]? with
        | none =>
          rw [hq] at hfa href
          refine ⟨am', an', bo', fl', ag', af', ah', al', ae', ak', ap', av', afa', ke', fe', fv', gv', -1, nI (fr lo n (fac n)).length, nI M, nI n, nI (VR n).length, losses', known2, found', groups', ren', R', mf', mp', best', mlo', gr', gl', ?_, ?_, b2, Or.inr ⟨M, lo, m1, m2, rfl, n5, rfl, hlo, a2, Or.inr ⟨rfl, a3⟩⟩, a6⟩
          · rw [h1, bd_s, if_neg z10, r1, bd_s]
            simp only
            rw [if_neg z10, a1, bd_s]
            simp only
            rw [hfa, bd_s]
            rfl
          · rw [r2, bd_s, if_neg z10, if_neg (nI_pos hI), h2, bd_s, if_neg z10, b1, bd_s]
            exact href
        | some w =>
          rw [hq] at hfa href
          have hw := fr_mem lo n (fac n) w (List.mem_of_getElem? hq)
          obtain ⟨gr2, c1, c2⟩ := e_split (row := w) n5 (by omega) groups'
          refine ⟨am', an', bo', fl', ag', af', ah', al', ae', ak', ap', av', afa', ke', fe', fv', gv', nI (sp n w f), nI (fr lo n (fac n)).length, nI M, nI n, nI (VR n).length, losses', known2, found', gr2, ren', R', mf', mp', best', mlo', gr', gl', ?_, ?_, b2, Or.inr ⟨M, lo, m1, m2, rfl, n5, rfl, hlo, a2, Or.inr ⟨rfl, a3⟩⟩, a6⟩
          · have h5 : ¬ (5 : Int32) ≤ nI f := by
              rw [show (5 : Int32) = nI 5 from rfl]
              exact nI_ge (by omega) (by decide)
            have hfa2 : f_X6_foundAt_j found' (nI (fr lo n (fac n)).length) (nI I) = some (nI w) := hfa
            rw [h1, bd_s, if_neg z10, r1, bd_s]
            simp only
            rw [if_neg z10, a1, bd_s]
            simp only
            rw [hfa2, bd_s, if_neg (nI_m1 (by omega))]
            unfold f_X2_groupIn
            rw [c1, bd_s, if_neg (nI_pos (by omega)), if_neg h5, g_nI (by omega) (by decide), ix_nI (by omega), c2 f hf, bd_s]
          · rw [r2, bd_s, if_neg z10, if_neg (nI_pos hI), h2, bd_s, if_neg z10, b1, bd_s]
            exact href
end WQ2
