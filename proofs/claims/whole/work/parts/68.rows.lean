/-! PURE 19: what a row costs, whatever lies in the scratch; the best level, rows at rest -/
noncomputable def Lo (op arg R : Nat → Int32) (M : Nat) (ml : Int32) (f : Nat) : Int32 :=
  (f_X11_findLosses op arg ml R (fun _ => 0) (fun _ => 0) (fun _ => 0) (fun _ => 0) (nI M)).elim 0 (fun q => q.2.2.2.2 f)
section WL2
variable {n : Nat} {op arg dogs fenced heights partner often : Nat → Int32} {fek fel fer : Nat → Int32} {fes : Int32} {gok gol gor : Nat → Int32} {gos : Int32} {ml : Int32} {levels : Nat → Int32} {R : Nat → Int32} {night : Int32} {g : Int64} {flock hunger lean fed taken pacts kept feuds : Nat → Int32} {bones fall : Int32} {X : Nat}
/-- the reference's losses, from rows that are the same and any scratch -/
theorem lo_ref (hM : RMo R n dogs fenced heights partner often) (hL : RLw R op arg fek fel fer fes gok gol gor gos) (hE : RLe n ml levels) (hV : RVa R n night g flock hunger lean fed taken pacts) (hR3 : ∃ B, B ≤ X ∧ R 3 = nI B) {M : Nat} (hMb : M ≤ 28) (hX : X < 2 ^ 29) {R2 : Nat → Int32} (hlow : Low R R2) (mf mp best losses : Nat → Int32) :
    ∃ mf' mp' best' losses', f_X11_findLosses op arg ml R2 mf mp best losses (nI M) = some (cr R2 0 6, mf', mp', best', losses') ∧ ∀ f, f < n → losses' f = Lo op arg R M ml f := by
  have hn := hM.1
  have hB : RBo false X R (fun _ => 0) (fun _ => 0) 0 0 := ⟨⟨0, Nat.zero_le _, rfl⟩, hR3, fun z => by cases z⟩
  have hB2 : RBo false X R2 (fun _ => 0) (fun _ => 0) 0 0 := ⟨⟨0, Nat.zero_le _, rfl⟩, by rw [hlow 3 (by omega)]; exact hR3, fun z => by cases z⟩
  obtain ⟨x1, x2, x3, x4, x5, x6, x7, x8, x9, x10, x11, x12, x13, x14, x15, x16, x17, a1, a2, a3, -⟩ := e_look hM hL hE hV hB hMb hX (fun _ => 0) (fun _ => 0) (fun _ => 0) (fun _ => 0) (fun _ => 0) (fun _ => 0) (fun _ => 0)
  obtain ⟨y1, y2, y3, y4, y5, y6, y7, y8, y9, y10, y11, y12, y13, y14, y15, y16, y17, b1, b2, b3, -⟩ := e_look (hM.low hlow) (hL.low hlow) hE (hV.low hn hlow) hB2 hMb hX (fun _ => 0) (fun _ => 0) (fun _ => 0) mf mp best losses
  rw [a1] at b1
  cases b1
  refine ⟨y10, y11, y12, y13, b2, fun f hf => ?_⟩
  rw [b3 f hf, hlow _ (by omega), hlow _ (by omega), ← a3 f hf]
  unfold Lo
  rw [a2]
  rfl
/-- the class's losses, from any scratch -/
theorem lo_cls (hM : RMo R n dogs fenced heights partner often) (hL : RLw R op arg fek fel fer fes gok gol gor gos) (hE : RLe n ml levels) (hV : RVa R n night g flock hunger lean fed taken pacts) (hR3 : ∃ B, B ≤ X ∧ R 3 = nI B) (hbo : ∃ B, B ≤ X ∧ bones = nI B) {M : Nat} (hMb : M ≤ 28) (hX : X < 2 ^ 29) (facts fv gv kept feuds : Nat → Int32) (fall : Int32) :
    ∃ (flock' lean' fed' taken' facts' fv' gv' kept' feuds' : Nat → Int32) (night' : Int32) (g' : Int64) (bones' fall' : Int32),
      f_X9_run hunger pacts levels (nI n) dogs fenced heights partner fek fel fer fes gok gol gor gos night g flock lean fed taken facts fv gv kept feuds bones fall (nI M) = some (night', g', flock', lean', fed', taken', facts', fv', gv', kept', feuds', bones', fall') ∧
      (∀ f, f < n → (fed' f + taken' f) - (R (12 + 7 * f) + R (13 + 7 * f)) = Lo op arg R M ml f) ∧ ∃ B, B ≤ X + 168 ∧ bones' = nI B := by
  have hB : RBo false X R kept feuds bones fall := ⟨hbo, hR3, fun z => by cases z⟩
  obtain ⟨x1, x2, x3, x4, x5, x6, x7, x8, x9, x10, x11, x12, x13, x14, x15, x16, x17, a1, a2, a3, a4⟩ := e_look hM hL hE hV hB hMb hX facts fv gv (fun _ => 0) (fun _ => 0) (fun _ => 0) (fun _ => 0)
  refine ⟨x1, x2, x3, x4, x5, x6, x7, x8, x9, x14, x15, x16, x17, a1, fun f hf => ?_, a4.1⟩
  rw [← a3 f hf]
  unfold Lo
  rw [a2]
  rfl
end WL2
/-! ## rows of levels -/
def lvl (row f : Nat) : Nat := row / 4 ^ f % 4
def wN (row f lv : Nat) : Nat := row - (row / 4 ^ f % 4) * 4 ^ f + lv * 4 ^ f
theorem w_c : ∀ row, row < 256 → ∀ f, f < 4 → ∀ lv, lv < 4 → f_X1_withLevel (nI row) (nI f) (nI lv) = some (nI (wN row f lv)) := by decide +kernel
theorem w_m {row f lv : Nat} (h1 : row < 256) (h2 : f < 4) (h3 : lv < 4) : f_X11_with (nI row) (nI f) (nI lv) = some (nI (wN row f lv)) := w_c row h1 f h2 lv h3
theorem w_sh : ∀ row, row < 256 → ∀ f, f < 4 → (nI row >>> ((2 * nI f) &&& 31)) &&& 3 = nI (lvl row f) := by decide +kernel
theorem w_lv : ∀ row, row < 256 → ∀ f, f < 4 → f_X11_levelOf (nI row) (nI f) = some (nI (lvl row f)) := by decide +kernel
theorem w_self {row f : Nat} : wN row f (lvl row f) = row := by
  unfold wN lvl
  have h1 : row / 4 ^ f % 4 * 4 ^ f ≤ row / 4 ^ f * 4 ^ f := Nat.mul_le_mul_right _ (Nat.mod_le _ _)
  have h2 := Nat.div_mul_le_self row (4 ^ f)
  omega
theorem w_inj {row f a b : Nat} (h : wN row f a = wN row f b) : a = b := by
  unfold wN at h
  have h2 : a * 4 ^ f = b * 4 ^ f := by omega
  exact Nat.eq_of_mul_eq_mul_right (Nat.pow_pos (by decide)) h2
theorem w_lt : ∀ n, n < 5 → ∀ row, row < 4 ^ n → ∀ f, f < n → ∀ lv, lv < 4 → wN row f lv < 4 ^ n := by decide +kernel
theorem p4 : ∀ n, n < 5 → 4 ^ n ≤ 256 := by decide
theorem lvl_lt (row f : Nat) : lvl row f < 4 := Nat.mod_lt _ (by decide)
def bS (lo : Nat → Nat → Int32) (row f : Nat) : Nat → Nat × Int32
  | 0 => (lvl row f, lo row f)
  | k + 1 => if (bS lo row f k).2 ≤ lo (wN row f k) f then bS lo row f k else (k, lo (wN row f k) f)
def best_ (lo : Nat → Nat → Int32) (row f : Nat) : Nat := (bS lo row f 4).1
theorem bS_lt (lo : Nat → Nat → Int32) (row f : Nat) : ∀ k, k ≤ 4 → (bS lo row f k).1 < 4
  | 0, _ => lvl_lt row f
  | k + 1, h => by
    show (if (bS lo row f k).2 ≤ lo (wN row f k) f then bS lo row f k else (k, lo (wN row f k) f)).1 < 4
    split
    · exact bS_lt lo row f k (by omega)
    · show k < 4
      omega
theorem e_lossIn {losses : Nat → Int32} {r f : Nat} (hr : r < 256) (hf : f < 6) : f_X6_lossIn_g losses (nI r) (nI f) = some (losses (6 * r + f)) := by
  have e : (nI r * 6) + nI f = nI (6 * r + f) := by rw [show (6 : Int32) = nI 6 from rfl, i_mul, i_add, Nat.mul_comm]
  have h2 : ¬ (1536 : Int32) ≤ nI (6 * r + f) := by
    rw [show (1536 : Int32) = nI 1536 from rfl]
    exact nI_ge (by omega) (by decide)
  unfold f_X6_lossIn_g
  simp only [lt_, e]
  rw [if_neg (nI_pos (by omega)), if_neg h2, g_nI (by omega) (by decide), ix_nI (by omega)]
theorem ans_loop {losses : Nat → Int32} {lo : Nat → Nat → Int32} {row f : Nat} (hr : row < 256) (hf : f < 4) (hw : ∀ k, k < 4 → wN row f k < 256) (hl : ∀ k, k < 4 → losses (6 * wN row f k + f) = lo (wN row f k) f) :
    ∀ (r k g : Nat), k + r = 4 → r < g → f_X1_answer_L13 losses g (nI row) (nI f) (nI (wN row f (bS lo row f k).1)) (bS lo row f k).2 (nI k) = some (nI (wN row f (best_ lo row f))) := by
  intro r
  induction r with
  | zero =>
    intro k g hk hg
    obtain ⟨g, rfl⟩ : ∃ z, g = z + 1 := ⟨g - 1, by omega⟩
    have hk : k = 4 := by omega
    subst hk
    show f_X1_answer_L13b _ _ _ _ _ _ _ = _
    unfold f_X1_answer_L13b
    rw [if_pos (by decide)]
    rfl
  | succ r ih =>
    intro k g hk hg
    obtain ⟨g, rfl⟩ : ∃ z, g = z + 1 := ⟨g - 1, by omega⟩
    have hi := ih (k + 1) g (by omega) (by omega)
    have h4 : ¬ (4 : Int32) ≤ nI k := by
      rw [show (4 : Int32) = nI 4 from rfl]
      exact nI_ge (by omega) (by decide)
    have hs : bS lo row f (k + 1) = if (bS lo row f k).2 ≤ lo (wN row f k) f then bS lo row f k else (k, lo (wN row f k) f) := rfl
    rw [hs] at hi
    show f_X1_answer_L13b _ _ _ _ _ _ _ = _
    unfold f_X1_answer_L13b
    rw [if_neg h4, w_c row hr f hf k (by omega), bd_s, e_lossIn (hw k (by omega)) (by omega), bd_s, hl k (by omega)]
    unfold f_X1_answer_B51
    simp only [lt_]
    rw [← nI_succ]
    by_cases hc : (bS lo row f k).2 ≤ lo (wN row f k) f
    · rw [if_pos hc] at hi
      rw [if_pos hc]; exact hi
    · rw [if_neg hc] at hi
      rw [if_neg hc]; exact hi
theorem e_answer {losses : Nat → Int32} {lo : Nat → Nat → Int32} {row f : Nat} (hr : row < 256) (hf : f < 4) (hw : ∀ k, k < 4 → wN row f k < 256) (hl : ∀ k, k < 4 → losses (6 * wN row f k + f) = lo (wN row f k) f) : f_X1_answer losses (nI row) (nI f) = some (nI (wN row f (best_ lo row f))) := by
  have h0 := hl (lvl row f) (lvl_lt row f)
  rw [w_self] at h0
  have h := ans_loop (losses := losses) (lo := lo) hr hf hw hl 4 0 FU (by decide) (by decide)
  have e : wN row f (bS lo row f 0).1 = row := w_self
  rw [e] at h
  unfold f_X1_answer
  rw [e_lossIn hr (by omega), bd_s, h0]
  exact h
theorem bl_loop {lossOf : Nat → Int32} {lo : Nat → Nat → Int32} {row f : Nat} (hr : row < 256) (hf : f < 4) (hw : ∀ k, k < 4 → wN row f k < 256) (hl : ∀ k, k < 4 → lossOf (4 * wN row f k + f) = lo (wN row f k) f) :
    ∀ (r k g : Nat), k + r = 4 → r < g → f_X11_bestLevel_L23 lossOf g (nI row) (nI f) (nI (bS lo row f k).1) (bS lo row f k).2 (nI k) = some (nI (best_ lo row f)) := by
  intro r
  induction r with
  | zero =>
    intro k g hk hg
    obtain ⟨g, rfl⟩ : ∃ z, g = z + 1 := ⟨g - 1, by omega⟩
    have hk : k = 4 := by omega
    subst hk
    show f_X11_bestLevel_L23b _ _ _ _ _ _ _ = _
    unfold f_X11_bestLevel_L23b
    rw [if_pos (by decide)]
    rfl
  | succ r ih =>
    intro k g hk hg
    obtain ⟨g, rfl⟩ : ∃ z, g = z + 1 := ⟨g - 1, by omega⟩
    have hi := ih (k + 1) g (by omega) (by omega)
    have h4 : ¬ (4 : Int32) ≤ nI k := by
      rw [show (4 : Int32) = nI 4 from rfl]
      exact nI_ge (by omega) (by decide)
    have hs : bS lo row f (k + 1) = if (bS lo row f k).2 ≤ lo (wN row f k) f then bS lo row f k else (k, lo (wN row f k) f) := rfl
    have e : (4 * nI (wN row f k)) + nI f = nI (4 * wN row f k + f) := by rw [show (4 : Int32) = nI 4 from rfl, i_mul, i_add]
    have hwk := hw k (by omega)
    rw [hs] at hi
    show f_X11_bestLevel_L23b _ _ _ _ _ _ _ = _
    unfold f_X11_bestLevel_L23b
    rw [if_neg h4, w_m hr hf (by omega), bd_s, e, g_nI (by omega) (by decide), ix_nI (by omega), hl k (by omega)]
    simp only [lt_, f_X11_bestLevel_B60, f_X11_bestLevel_B75]
    rw [← nI_succ]
    by_cases hc : (bS lo row f k).2 ≤ lo (wN row f k) f
    · rw [if_pos hc] at hi
      rw [if_pos hc, if_pos hc]; exact hi
    · rw [if_neg hc] at hi
      rw [if_neg hc, if_neg hc]; exact hi
theorem e_bestLevel {lossOf : Nat → Int32} {lo : Nat → Nat → Int32} {row f : Nat} (hr : row < 256) (hf : f < 4) (hw : ∀ k, k < 4 → wN row f k < 256) (hl : ∀ k, k < 4 → lossOf (4 * wN row f k + f) = lo (wN row f k) f) : f_X11_bestLevel lossOf (nI row) (nI f) = some (nI (best_ lo row f)) := by
  have h0 := hl (lvl row f) (lvl_lt row f)
  rw [w_self] at h0
  have h := bl_loop (lossOf := lossOf) (lo := lo) hr hf hw hl 4 0 FU (by decide) (by decide)
  have e : (4 * nI row) + nI f = nI (4 * row + f) := by rw [show (4 : Int32) = nI 4 from rfl, i_mul, i_add]
  unfold f_X11_bestLevel
  simp only [lt_]
  rw [w_sh row hr f hf, e, g_nI (by omega) (by decide), ix_nI (by omega), h0]
  exact h
/-- at rest, as far as the first farms go -/
def rT (lo : Nat → Nat → Int32) (row : Nat) : Nat → Bool
  | 0 => true
  | k + 1 => rT lo row k && decide (best_ lo row k = lvl row k)
theorem rT_no {lo : Nat → Nat → Int32} {row j : Nat} (h : rT lo row j = false) : ∀ k, j ≤ k → rT lo row k = false
  | 0, hk => by rw [show j = 0 by omega] at h; exact h
  | k + 1, hk => by
    by_cases e : j = k + 1
    · rw [← e]; exact h
    · show (rT lo row k && _) = false
      rw [rT_no h k (by omega)]; rfl
theorem e_stays {losses : Nat → Int32} {lo : Nat → Nat → Int32} {n row : Nat} (hn : n ≤ 4) (hr : row < 4 ^ n) (hl : ∀ r f, r < 4 ^ n → f < n → losses (6 * r + f) = lo r f) : f_X1_stays losses (nI n) (nI row) = some (if rT lo row n then 1 else 0) := by
  have h256 := p4 n (by omega)
  have lp : ∀ (r e g : Nat), e + r = n → r < g → rT lo row e = true → f_X1_stays_L2 losses (nI n) g (nI row) (nI e) = some (if rT lo row n then 1 else 0) := by
    intro r
    induction r with
    | zero =>
      intro e g he hg ht
      obtain ⟨g, rfl⟩ : ∃ z, g = z + 1 := ⟨g - 1, by omega⟩
      have he : e = n := by omega
      subst he
      show f_X1_stays_L2b _ _ _ _ _ = _
      unfold f_X1_stays_L2b f_X6_farms_g
      rw [bd_s, if_pos (nI_le (Nat.le_refl _) (by omega)), ht]
      rfl
    | succ r ih =>
      intro e g he hg ht
      obtain ⟨g, rfl⟩ : ∃ z, g = z + 1 := ⟨g - 1, by omega⟩
      have hw : ∀ k, k < 4 → wN row e k < 4 ^ n := fun k hk => w_lt n (by omega) row hr e (by omega) k hk
      have hb := bS_lt lo row e 4 (by omega)
      have ha := e_answer (losses := losses) (lo := lo) (row := row) (f := e) (by omega) (by omega) (fun k hk => by have := hw k hk; omega) (fun k hk => hl _ _ (hw k hk) (by omega))
      have hwb := hw _ hb
      show f_X1_stays_L2b _ _ _ _ _ = _
      unfold f_X1_stays_L2b f_X6_farms_g
      rw [bd_s, if_neg (nI_ge (by omega) (by omega)), ha, bd_s]
      have hs : rT lo row (e + 1) = (rT lo row e && decide (best_ lo row e = lvl row e)) := rfl
      by_cases hc : best_ lo row e = lvl row e
      · rw [hc, w_self, if_pos rfl]
        simp only [lt_]
        rw [← nI_succ]
        exact ih (e + 1) g (by omega) (by omega) (by rw [hs, ht]; simp [hc])
      · have hne : ¬ nI (wN row e (best_ lo row e)) = nI row := by
          rw [i_eq (by unfold best_; omega) (by omega)]
          intro q
          exact hc (w_inj (q.trans w_self.symm))
        rw [if_neg hne]
        have : rT lo row n = false := rT_no (j := e + 1) (by rw [hs]; simp [hc]) n (by omega)
        rw [this]
        rfl
  exact lp n 0 FU (by omega) (by show n < 5000; omega) rfl
theorem e_isRest {R lossOf : Nat → Int32} {lo : Nat → Nat → Int32} {n row : Nat} (hn : n ≤ 4) (hR0 : R 0 = nI n) (hr : row < 4 ^ n) (hl : ∀ r f, r < 4 ^ n → f < n → lossOf (4 * r + f) = lo r f) : f_X11_isRest R lossOf (nI row) = some (if rT lo row n then 1 else 0) := by
  have h256 := p4 n (by omega)
  have lp : ∀ (r e g : Nat), e + r = n → r < g → f_X11_isRest_L4 R lossOf g (nI row) (if rT lo row e then 1 else 0) (nI e) = some (if rT lo row n then 1 else 0) := by
    intro r
    induction r with
    | zero =>
      intro e g he hg
      obtain ⟨g, rfl⟩ : ∃ z, g = z + 1 := ⟨g - 1, by omega⟩
      have he : e = n := by omega
      subst he
      show f_X11_isRest_L4b _ _ _ _ _ _ = _
      unfold f_X11_isRest_L4b
      rw [e_farms, bd_s, hR0, if_pos (nI_le (Nat.le_refl _) (by omega))]
      unfold g_z
      rw [if_pos]
      cases rT lo row e
      · exact Or.inl rfl
      · exact Or.inr rfl
    | succ r ih =>
      intro e g he hg
      obtain ⟨g, rfl⟩ : ∃ z, g = z + 1 := ⟨g - 1, by omega⟩
      have hw : ∀ k, k < 4 → wN row e k < 4 ^ n := fun k hk => w_lt n (by omega) row hr e (by omega) k hk
      have hb := bS_lt lo row e 4 (by omega)
      have ha := e_bestLevel (lossOf := lossOf) (lo := lo) (row := row) (f := e) (by omega) (by omega) (fun k hk => by have := hw k hk; omega) (fun k hk => hl _ _ (hw k hk) (by omega))
      have hi := ih (e + 1) g (by omega) (by omega)
      have hs : rT lo row (e + 1) = (rT lo row e && decide (best_ lo row e = lvl row e)) := rfl
      rw [hs] at hi
      show f_X11_isRest_L4b _ _ _ _ _ _ = _
      unfold f_X11_isRest_L4b
      rw [e_farms, bd_s, hR0, if_neg (nI_ge (by omega) (by omega))]
      simp only [f_X11_isRest_B36, f_X11_isRest_B37, lt_]
      rw [← nI_succ]
      cases ht : rT lo row e with
      | false =>
        rw [ht] at hi
        exact hi
      | true =>
        rw [ht] at hi
        simp only [if_true]
        rw [if_neg z10, ha, bd_s, w_sh row (by omega) e (by omega)]
        have hlv := lvl_lt row e
        by_cases hc : best_ lo row e = lvl row e
        · rw [if_pos (by rw [hc])]
          rw [decide_eq_true hc] at hi
          exact hi
        · rw [if_neg (by rw [i_eq (by unfold best_; omega) (by omega)]; exact hc)]
          rw [decide_eq_false hc] at hi
          exact hi
  exact lp n 0 FU (by omega) (by show n < 5000; omega)
/-- the rows at rest below k -/
def rl (lo : Nat → Nat → Int32) (n : Nat) : Nat → List Nat
  | 0 => []
  | k + 1 => if rT lo k n then rl lo n k ++ [k] else rl lo n k
theorem rl_len (lo : Nat → Nat → Int32) (n : Nat) : ∀ k, (rl lo n k).length ≤ k
  | 0 => Nat.le_refl _
  | k + 1 => by
    show (if rT lo k n then rl lo n k ++ [k] else rl lo n k).length ≤ k + 1
    have := rl_len lo n k
    split
    · rw [List.length_append]; simp; omega
    · omega
theorem rl_lt (lo : Nat → Nat → Int32) (n : Nat) : ∀ k x, x ∈ rl lo n k → x < k
  | 0, x, h => by cases h
  | k + 1, x, h => by
    have h : x ∈ (if rT lo k n then rl lo n k ++ [k] else rl lo n k) := h
    split at h
    · rcases List.mem_append.mp h with h | h
      · have := rl_lt lo n k x h; omega
      · rw [List.mem_singleton.mp h]; omega
    · have := rl_lt lo n k x h; omega
/-- a longer list begins as the shorter -/
theorem rl_pre (lo : Nat → Nat → Int32) (n k : Nat) : ∀ j, k ≤ j → ∀ i, i < (rl lo n k).length → (rl lo n j)[i]? = (rl lo n k)[i]? ∧ (rl lo n k).length ≤ (rl lo n j).length
  | 0, hj, i, hi => by
    have : k = 0 := by omega
    subst this
    exact ⟨rfl, Nat.le_refl _⟩
  | j + 1, hj, i, hi => by
    by_cases e : k = j + 1
    · rw [e]; exact ⟨rfl, Nat.le_refl _⟩
    · obtain ⟨h1, h2⟩ := rl_pre lo n k j (by omega) i hi
      show (if rT lo j n then rl lo n j ++ [j] else rl lo n j)[i]? = _ ∧ _ ≤ (if rT lo j n then rl lo n j ++ [j] else rl lo n j).length
      split
      · rw [List.getElem?_append_left (by omega), List.length_append]
        exact ⟨h1, by omega⟩
      · exact ⟨h1, h2⟩
