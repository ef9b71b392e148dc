/-! PURE 23: rows of groups: their numbers, and how a set goes out -/
def sp : Nat → Nat → Nat → Nat
  | 0, _, _ => 0
  | k + 1, row, f => if f = k then row % (k + 1) else sp k (row / (k + 1)) f
def fac : Nat → Nat
  | 0 => 1
  | k + 1 => fac k * (k + 1)
theorem fac_5 : ∀ n, n < 6 → fac n ≤ 120 := by decide
theorem rows_j : ∀ n, n < 6 → f_X2_rows (nI n) = some (nI (fac n)) := by decide +kernel
theorem sp_le : ∀ (k row f : Nat), f < k → sp k row f ≤ f
  | 0, _, _, h => by omega
  | k + 1, row, f, h => by
    show (if f = k then row % (k + 1) else sp k (row / (k + 1)) f) ≤ f
    split
    · next e =>
      have := Nat.mod_lt row (show 0 < k + 1 by omega)
      omega
    · exact sp_le k _ f (by omega)
theorem split_loop {n : Nat} : ∀ (k rest gg : Nat) (groups : Nat → Int32), k ≤ 5 → k < gg → rest < 2 ^ 31 → ∃ groups', f_X2_split_L9 (nI n) gg groups (nI rest) (nI k - 1) = some groups' ∧ (∀ f, f < k → groups' f = nI (sp k rest f)) ∧ ∀ f, k ≤ f → groups' f = groups f := by
  intro k
  induction k with
  | zero =>
    intro rest gg groups hk hg hr
    obtain ⟨gg, rfl⟩ : ∃ z, gg = z + 1 := ⟨gg - 1, by omega⟩
    refine ⟨groups, ?_, fun f hf => absurd hf (by omega), fun _ _ => rfl⟩
    show f_X2_split_L9b _ _ _ _ _ = _
    unfold f_X2_split_L9b
    rw [if_pos (by decide)]
  | succ k ih =>
    intro rest gg groups hk hg hr
    obtain ⟨gg, rfl⟩ : ∃ z, gg = z + 1 := ⟨gg - 1, by omega⟩
    have hdiv : rest / (k + 1) < 2 ^ 31 := Nat.lt_of_le_of_lt (Nat.div_le_self _ _) hr
    obtain ⟨groups', a1, a2, a3⟩ := ih (rest / (k + 1)) gg (upd groups k (nI (rest % (k + 1)))) (by omega) (by omega) hdiv
    have hnz : ¬ nI (k + 1) = 0 := nI_ne0 (by omega) (by omega)
    refine ⟨groups', ?_, fun f hf => ?_, fun f hf => ?_⟩
    · show f_X2_split_L9b _ _ _ _ _ = _
      unfold f_X2_split_L9b
      rw [nI_pred, if_neg (nI_pos (by omega)), ← nI_succ, g_nz_s hnz, g_nI (by omega) (by decide), ix_nI (by omega), pk_rem hr (by omega) (by omega)]
      simp only [lt_]
      rw [g_nz_s hnz, pk_div hr (by omega) (by omega), ← Int32.sub_eq_add_neg]
      exact a1
    · show groups' f = nI (if f = k then rest % (k + 1) else sp k (rest / (k + 1)) f)
      by_cases e : f = k
      · rw [if_pos e, e, a3 k (Nat.le_refl _), u_s]
      · rw [if_neg e]; exact a2 f (by omega)
    · rw [a3 f (by omega), u_n (by omega)]
theorem e_split {n row : Nat} (hn : n ≤ 5) (hr : row < 2 ^ 31) (groups : Nat → Int32) : ∃ groups', f_X2_split (nI n) groups (nI row) = some groups' ∧ ∀ f, f < n → groups' f = nI (sp n row f) := by
  obtain ⟨groups', a1, a2, -⟩ := split_loop (n := n) n row FU groups hn (by show n < 5000; omega) hr
  refine ⟨groups', ?_, a2⟩
  unfold f_X2_split f_X6_farms_j
  rw [bd_s]
  exact a1
/-- the next group's number behind k farms, if they are numbered by their first farms -/
def nx (g : Nat → Nat) : Nat → Option Nat
  | 0 => some 0
  | k + 1 => match nx g k with
    | none => none
    | some m => if g k ≤ m then (if g k = m then some (m + 1) else some m) else none
theorem nx_le {g : Nat → Nat} : ∀ {k m : Nat}, nx g k = some m → m ≤ k
  | 0, m, h => by cases h; exact Nat.le_refl _
  | k + 1, m, h => by
    have h : (match nx g k with | none => none | some m => if g k ≤ m then (if g k = m then some (m + 1) else some m) else none) = some m := h
    cases e : nx g k with
    | none => rw [e] at h; cases h
    | some j =>
      rw [e] at h
      have h : (if g k ≤ j then (if g k = j then some (j + 1) else some j) else none) = some m := h
      have := nx_le e
      split at h
      · split at h <;> · cases h; omega
      · cases h
theorem nx_cong {f g : Nat → Nat} : ∀ {k : Nat}, (∀ i, i < k → f i = g i) → nx f k = nx g k
  | 0, _ => rfl
  | k + 1, h => by
    show (match nx f k with | none => none | some m => if f k ≤ m then (if f k = m then some (m + 1) else some m) else none) = (match nx g k with | none => none | some m => if g k ≤ m then (if g k = m then some (m + 1) else some m) else none)
    rw [nx_cong (fun i hi => h i (by omega)), h k (by omega)]
theorem nx_none {g : Nat → Nat} {k : Nat} (h : nx g k = none) : ∀ {j : Nat}, k ≤ j → nx g j = none
  | 0, hj => by rw [show k = 0 by omega] at h; exact h
  | j + 1, hj => by
    by_cases e : k = j + 1
    · rw [← e]; exact h
    · show (match nx g j with | none => none | some m => if g j ≤ m then (if g j = m then some (m + 1) else some m) else none) = none
      rw [nx_none h (j := j) (by omega)]
def vB (n row : Nat) : Bool := (nx (sp n row) n).isSome
theorem e_isRowJ {n row : Nat} (hn : n ≤ 5) (hr : row < 2 ^ 31) (groups : Nat → Int32) : ∃ groups', f_X2_isRow (nI n) groups (nI row) = some (if vB n row then 1 else 0, groups') := by
  obtain ⟨groups', a1, a2⟩ := e_split hn hr groups
  refine ⟨groups', ?_⟩
  have lp : ∀ (r e gg m : Nat), e + r = n → r < gg → nx (sp n row) e = some m → f_X2_isRow_L9 (nI n) gg groups' (nI m) (nI e) = some (if vB n row then 1 else 0, groups') := by
    intro r
    induction r with
    | zero =>
      intro e gg m he hg hm
      obtain ⟨gg, rfl⟩ : ∃ z, gg = z + 1 := ⟨gg - 1, by omega⟩
      have he : e = n := by omega
      subst he
      show f_X2_isRow_L9b _ _ _ _ _ = _
      unfold f_X2_isRow_L9b f_X6_farms_j vB
      rw [bd_s, if_pos (nI_le (Nat.le_refl _) (by omega)), hm]
      rfl
    | succ r ih =>
      intro e gg m he hg hm
      obtain ⟨gg, rfl⟩ : ∃ z, gg = z + 1 := ⟨gg - 1, by omega⟩
      have hle := nx_le hm
      have hs : nx (sp n row) (e + 1) = (match nx (sp n row) e with | none => none | some m => if sp n row e ≤ m then (if sp n row e = m then some (m + 1) else some m) else none) := rfl
      rw [hm] at hs
      have hs : nx (sp n row) (e + 1) = if sp n row e ≤ m then (if sp n row e = m then some (m + 1) else some m) else none := hs
      have hse := sp_le n row e (by omega)
      show f_X2_isRow_L9b _ _ _ _ _ = _
      unfold f_X2_isRow_L9b f_X6_farms_j
      rw [bd_s, if_neg (nI_ge (by omega) (by omega)), g_nI (by omega) (by decide), g_nI (by omega) (by decide), ix_nI (by omega), a2 e (by omega), ife (by omega) (by omega), ifq (by omega) (by omega)]
      simp only [f_X2_isRow_B42, lt_]
      rw [← nI_succ, ← nI_succ]
      by_cases c1 : sp n row e ≤ m
      · rw [if_pos c1] at hs ⊢
        by_cases c2 : sp n row e = m
        · rw [if_pos c2] at hs ⊢
          exact ih (e + 1) gg (m + 1) (by omega) (by omega) hs
        · rw [if_neg c2] at hs ⊢
          exact ih (e + 1) gg m (by omega) (by omega) hs
      · rw [if_neg c1] at hs ⊢
        unfold vB
        rw [nx_none hs (by omega)]
        rfl
  unfold f_X2_isRow
  rw [a1, bd_s]
  exact lp n 0 FU 0 (by omega) (by show n < 5000; omega) rfl
/-! ## the numbers by first farms of any partition -/
def lkp (G num : Nat → Nat) (k : Nat) : Nat → Option Nat
  | 0 => none
  | e + 1 => if G e = G k then some (num e) else lkp G num k e
theorem lkp_some {G num : Nat → Nat} {k : Nat} : ∀ {j x : Nat}, lkp G num k j = some x → ∃ e, e < j ∧ G e = G k ∧ x = num e
  | 0, x, h => by cases h
  | j + 1, x, h => by
    have h : (if G j = G k then some (num j) else lkp G num k j) = some x := h
    split at h
    · next e => cases h; exact ⟨j, by omega, e, rfl⟩
    · obtain ⟨e, h1, h2, h3⟩ := lkp_some h
      exact ⟨e, by omega, h2, h3⟩
theorem lkp_none {G num : Nat → Nat} {k : Nat} : ∀ {j : Nat}, lkp G num k j = none → ∀ e, e < j → G e ≠ G k
  | 0, _, e, he => by omega
  | j + 1, h, e, he => by
    have h : (if G j = G k then some (num j) else lkp G num k j) = none := h
    split at h
    · cases h
    · next c =>
      by_cases q : e = j
      · rw [q]; exact c
      · exact lkp_none h e (by omega)
def cn (G : Nat → Nat) : Nat → (Nat → Nat) × Nat
  | 0 => (fun _ => 0, 0)
  | k + 1 => match lkp G (cn G k).1 k k with
    | some x => (fun f => if f = k then x else (cn G k).1 f, (cn G k).2)
    | none => (fun f => if f = k then (cn G k).2 else (cn G k).1 f, (cn G k).2 + 1)
theorem cn_s {G : Nat → Nat} {k x : Nat} (h : lkp G (cn G k).1 k k = some x) : cn G (k + 1) = (fun f => if f = k then x else (cn G k).1 f, (cn G k).2) := by
  show (match lkp G (cn G k).1 k k with | some x => (fun f => if f = k then x else (cn G k).1 f, (cn G k).2) | none => (fun f => if f = k then (cn G k).2 else (cn G k).1 f, (cn G k).2 + 1)) = _
  rw [h]
theorem cn_n {G : Nat → Nat} {k : Nat} (h : lkp G (cn G k).1 k k = none) : cn G (k + 1) = (fun f => if f = k then (cn G k).2 else (cn G k).1 f, (cn G k).2 + 1) := by
  show (match lkp G (cn G k).1 k k with | some x => (fun f => if f = k then x else (cn G k).1 f, (cn G k).2) | none => (fun f => if f = k then (cn G k).2 else (cn G k).1 f, (cn G k).2 + 1)) = _
  rw [h]
/-- what is numbered stays -/
theorem cn_old {G : Nat → Nat} {k f : Nat} (hf : f < k) : (cn G (k + 1)).1 f = (cn G k).1 f := by
  cases h : lkp G (cn G k).1 k k with
  | some x => rw [cn_s h]; show (if f = k then x else _) = _; rw [if_neg (by omega)]
  | none => rw [cn_n h]; show (if f = k then _ else _) = _; rw [if_neg (by omega)]
theorem cn_lt {G : Nat → Nat} : ∀ (k : Nat), (cn G k).2 ≤ k ∧ ∀ f, f < k → (cn G k).1 f < (cn G k).2
  | 0 => ⟨Nat.le_refl _, fun f hf => absurd hf (by omega)⟩
  | k + 1 => by
    obtain ⟨h1, h2⟩ := cn_lt (G := G) k
    cases h : lkp G (cn G k).1 k k with
    | some x =>
      obtain ⟨e, he, -, hx⟩ := lkp_some h
      rw [cn_s h]
      refine ⟨by show (cn G k).2 ≤ k + 1; omega, fun f hf => ?_⟩
      show (if f = k then x else (cn G k).1 f) < (cn G k).2
      by_cases q : f = k
      · rw [if_pos q, hx]; exact h2 e he
      · rw [if_neg q]; exact h2 f (by omega)
    | none =>
      rw [cn_n h]
      refine ⟨by show (cn G k).2 + 1 ≤ k + 1; omega, fun f hf => ?_⟩
      show (if f = k then (cn G k).2 else (cn G k).1 f) < (cn G k).2 + 1
      by_cases q : f = k
      · rw [if_pos q]; omega
      · rw [if_neg q]; have := h2 f (by omega); omega
theorem cn_le {G : Nat → Nat} {k f : Nat} (hf : f < k) : (cn G k).1 f ≤ f := by
  induction k with
  | zero => omega
  | succ k ih =>
    by_cases e : f = k
    · subst e
      obtain ⟨h1, h2⟩ := cn_lt (G := G) f
      cases h : lkp G (cn G f).1 f f with
      | some x =>
        obtain ⟨e, he, -, hx⟩ := lkp_some h
        rw [cn_s h]
        show (if f = f then x else _) ≤ f
        rw [if_pos rfl, hx]
        have := h2 e he; omega
      | none =>
        rw [cn_n h]
        show (if f = f then (cn G f).2 else _) ≤ f
        rw [if_pos rfl]; exact h1
    · rw [cn_old (by omega)]; exact ih (by omega)
theorem cn_nx {G : Nat → Nat} : ∀ (k : Nat), nx (cn G k).1 k = some (cn G k).2
  | 0 => rfl
  | k + 1 => by
    show (match nx (cn G (k + 1)).1 k with | none => none | some m => if (cn G (k + 1)).1 k ≤ m then (if (cn G (k + 1)).1 k = m then some (m + 1) else some m) else none) = _
    rw [nx_cong (f := (cn G (k + 1)).1) (g := (cn G k).1) (fun i hi => cn_old hi), cn_nx k]
    obtain ⟨h1, h2⟩ := cn_lt (G := G) k
    cases h : lkp G (cn G k).1 k k with
    | some x =>
      obtain ⟨e, he, -, hx⟩ := lkp_some h
      have hxl : x < (cn G k).2 := by rw [hx]; exact h2 e he
      rw [cn_s h]
      show (if (if k = k then x else (cn G k).1 k) ≤ (cn G k).2 then (if (if k = k then x else (cn G k).1 k) = (cn G k).2 then some ((cn G k).2 + 1) else some (cn G k).2) else none) = some (cn G k).2
      rw [if_pos rfl, if_pos (by omega), if_neg (by omega)]
    | none =>
      rw [cn_n h]
      show (if (if k = k then (cn G k).2 else (cn G k).1 k) ≤ (cn G k).2 then (if (if k = k then (cn G k).2 else (cn G k).1 k) = (cn G k).2 then some ((cn G k).2 + 1) else some (cn G k).2) else none) = some ((cn G k).2 + 1)
      rw [if_pos rfl, if_pos (Nat.le_refl _), if_pos rfl]
/-- the row's number, out of its groups -/
def wr (num : Nat → Nat) : Nat → Nat
  | 0 => 0
  | k + 1 => wr num k * (k + 1) + num k
theorem wr_cong {f g : Nat → Nat} : ∀ {k : Nat}, (∀ i, i < k → f i = g i) → wr f k = wr g k
  | 0, _ => rfl
  | k + 1, h => by
    show wr f k * (k + 1) + f k = wr g k * (k + 1) + g k
    rw [wr_cong (fun i hi => h i (by omega)), h k (by omega)]
theorem wr_lt {num : Nat → Nat} : ∀ {k : Nat}, (∀ i, i < k → num i ≤ i) → wr num k < fac k
  | 0, _ => Nat.zero_lt_one
  | k + 1, h => by
    show wr num k * (k + 1) + num k < fac k * (k + 1)
    have h1 := wr_lt (num := num) (k := k) (fun i hi => h i (by omega))
    have h2 := h k (by omega)
    have h3 : (wr num k + 1) * (k + 1) ≤ fac k * (k + 1) := Nat.mul_le_mul_right _ h1
    rw [Nat.add_mul] at h3
    omega
theorem sp_wr {num : Nat → Nat} : ∀ {k : Nat}, (∀ i, i < k → num i ≤ i) → ∀ f, f < k → sp k (wr num k) f = num f
  | 0, _, f, hf => by omega
  | k + 1, h, f, hf => by
    show (if f = k then (wr num k * (k + 1) + num k) % (k + 1) else sp k ((wr num k * (k + 1) + num k) / (k + 1)) f) = num f
    have h2 := h k (by omega)
    by_cases e : f = k
    · rw [if_pos e, Nat.add_comm, Nat.add_mul_mod_self_right, Nat.mod_eq_of_lt (by omega), e]
    · rw [if_neg e, Nat.add_comm, Nat.add_mul_div_right _ _ (by omega), Nat.div_eq_of_lt (by omega), Nat.zero_add]
      exact sp_wr (fun i hi => h i (by omega)) f (by omega)
/-- which group a farm is in, where a set goes out -/
def Go (n row s : Nat) (f : Nat) : Nat := if s.testBit f then 5 else sp n row f
/-- the row without the set -/
def wo (n row s : Nat) : Nat := wr (cn (Go n row s) n).1 n
theorem wo_lt {n row s : Nat} : wo n row s < fac n := wr_lt (fun i hi => cn_le hi)
theorem wo_sp {n row s f : Nat} (hf : f < n) : sp n (wo n row s) f = (cn (Go n row s) n).1 f := sp_wr (fun i hi => cn_le hi) f hf
theorem wo_v {n row s : Nat} : vB n (wo n row s) = true := by
  unfold vB
  rw [nx_cong (f := sp n (wo n row s)) (g := (cn (Go n row s) n).1) (fun i hi => wo_sp hi), cn_nx]
  rfl
theorem Go_le {n row s f : Nat} (hn : n ≤ 5) (hf : f < n) : Go n row s f ≤ 5 := by
  unfold Go
  have := sp_le n row f hf
  split <;> omega
theorem cn_stay {G : Nat → Nat} {f : Nat} : ∀ {k j : Nat}, f < k → k ≤ j → (cn G j).1 f = (cn G k).1 f
  | k, 0, h, hj => by omega
  | k, j + 1, h, hj => by
    by_cases e : k = j + 1
    · rw [e]
    · rw [cn_old (by omega)]; exact cn_stay h (by omega)
/-- the class's way to it -/
theorem e_wo {n row s : Nat} (hn : n ≤ 5) (hs : s < 64) {groups : Nat → Int32} (hg : ∀ f, f < n → groups f = nI (sp n row f)) (ren : Nat → Int32) : ∃ ren', f_X2_rowWithout (nI n) groups ren (nI s) = some (nI (wo n row s), ren') := by
  have lp : ∀ (r k gg : Nat) (ren : Nat → Int32), k + r = n → r < gg → (∀ e, e < k → ren (Go n row s e) = nI ((cn (Go n row s) k).1 e)) → (∀ x, x < 6 → (∀ e, e < k → Go n row s e ≠ x) → ren x = -1) →
      ∃ ren', f_X2_rowWithout_L15 (nI n) groups gg ren (nI s) (nI (wr (cn (Go n row s) k).1 k)) (nI (cn (Go n row s) k).2) (nI k) = some (nI (wo n row s), ren') := by
    intro r
    induction r with
    | zero =>
      intro k gg ren hk hgg h1 h2
      obtain ⟨gg, rfl⟩ : ∃ z, gg = z + 1 := ⟨gg - 1, by omega⟩
      have hk : k = n := by omega
      subst hk
      refine ⟨ren, ?_⟩
      show f_X2_rowWithout_L15b _ _ _ _ _ _ _ _ = _
      unfold f_X2_rowWithout_L15b f_X6_farms_j
      rw [bd_s, if_pos (nI_le (Nat.le_refl _) (by omega))]
      rfl
    | succ r ih =>
      intro k gg ren hk hgg h1 h2
      obtain ⟨gg, rfl⟩ : ∃ z, gg = z + 1 := ⟨gg - 1, by omega⟩
      have hkn : k < n := by omega
      have hG5 := Go_le (row := row) (s := s) hn hkn
      obtain ⟨hc1, hc2⟩ := cn_lt (G := Go n row s) k
      -- the group's place
      have head : f_X2_rowWithout_L15 (nI n) groups (gg + 1) ren (nI s) (nI (wr (cn (Go n row s) k).1 k)) (nI (cn (Go n row s) k).2) (nI k) = f_X2_rowWithout_B45 (f_X2_rowWithout_L15 (nI n) groups gg) (nI n) groups ren (nI s) (nI (wr (cn (Go n row s) k).1 k)) (nI (cn (Go n row s) k).2) (nI k) (nI (Go n row s k)) := by
        show f_X2_rowWithout_L15b _ _ _ _ _ _ _ _ = _
        unfold f_X2_rowWithout_L15b f_X6_farms_j Go
        rw [bd_s, if_neg (nI_ge (by omega) (by omega))]
        by_cases hb : s.testBit k = true
        · rw [if_pos ((mk_bit s hs k (by omega)).mpr hb), if_pos hb]
          rfl
        · rw [if_neg (fun q => hb ((mk_bit s hs k (by omega)).mp q)), if_neg hb, g_nI (by omega) (by decide), ix_nI (by omega), hg k hkn]
      rw [head]
      unfold f_X2_rowWithout_B45
      rw [g_nI (by omega) (by decide), ix_nI (by omega), g_nI (by omega) (by decide)]
      have hw : ∀ num : Nat → Nat, (∀ e, e < k → num e = (cn (Go n row s) k).1 e) → wr num (k + 1) = wr (cn (Go n row s) k).1 k * (k + 1) + num k := by
        intro num hnum
        show wr num k * (k + 1) + num k = _
        rw [wr_cong hnum]
      cases h : lkp (Go n row s) (cn (Go n row s) k).1 k k with
      | none =>
        have hno := lkp_none h
        rw [if_pos (h2 _ (by omega) hno)]
        have hcs := cn_n h
        have hnum : (cn (Go n row s) (k + 1)).1 k = (cn (Go n row s) k).2 := by rw [hcs]; show (if k = k then _ else _) = _; rw [if_pos rfl]
        have hnxt : (cn (Go n row s) (k + 1)).2 = (cn (Go n row s) k).2 + 1 := by rw [hcs]
        obtain ⟨ren', a1⟩ := ih (k + 1) gg (upd ren (Go n row s k) (nI (cn (Go n row s) k).2)) (by omega) (by omega) (fun e he => by
          by_cases q : e = k
          · rw [q, u_s, hnum]
          · rw [u_n (hno e (by omega)), cn_old (by omega)]; exact h1 e (by omega)) (fun x hx hne => by
          rw [u_n (fun q => hne k (by omega) q.symm)]
          exact h2 x hx (fun e he => hne e (by omega)))
        rw [hw (cn (Go n row s) (k + 1)).1 (fun e he => cn_old he), hnum, hnxt] at a1
        refine ⟨ren', ?_⟩
        simp only [lt_]
        unfold f_X2_rowWithout_B69
        rw [g_nI (by omega) (by decide), ix_nI (by omega), u_s]
        simp only [lt_]
        rw [← nI_succ, ← nI_succ, i_mul, i_add]
        exact a1
      | some x =>
        obtain ⟨e0, he0, hGe, hx⟩ := lkp_some h
        have hre : ren (Go n row s k) = nI x := by rw [← hGe, h1 e0 he0, hx]
        have hxl : x < 6 := by have := hc2 e0 he0; omega
        have hcs := cn_s h
        have hnum : (cn (Go n row s) (k + 1)).1 k = x := by rw [hcs]; show (if k = k then _ else _) = _; rw [if_pos rfl]
        have hnxt : (cn (Go n row s) (k + 1)).2 = (cn (Go n row s) k).2 := by rw [hcs]
        rw [hre, if_neg (nI_m1 (by omega))]
        obtain ⟨ren', a1⟩ := ih (k + 1) gg ren (by omega) (by omega) (fun e he => by
          by_cases q : e = k
          · rw [q, hre, hnum]
          · rw [cn_old (by omega)]; exact h1 e (by omega)) (fun y hy hne => h2 y hy (fun e he => hne e (by omega)))
        rw [hw (cn (Go n row s) (k + 1)).1 (fun e he => cn_old he), hnum, hnxt] at a1
        refine ⟨ren', ?_⟩
        unfold f_X2_rowWithout_B69
        rw [g_nI (by omega) (by decide), ix_nI (by omega), hre]
        simp only [lt_]
        rw [← nI_succ, i_mul, i_add]
        exact a1
  unfold f_X2_rowWithout
  simp only [lt_]
  exact lp n 0 FU (fl_ ren 6 (-1)) (by omega) (by show n < 5000; omega) (fun e he => absurd he (by omega)) (fun x hx _ => by unfold fl_; rw [if_pos hx])
theorem e_lossInJ {losses : Nat → Int32} {r f : Nat} (hr : r < 120) (hf : f < 6) : f_X6_lossIn_j losses (nI r) (nI f) = some (losses (6 * r + f)) := by
  have e : (nI r * 6) + nI f = nI (6 * r + f) := by rw [show (6 : Int32) = nI 6 from rfl, i_mul, i_add, Nat.mul_comm]
  have h2 : ¬ (720 : Int32) ≤ nI (6 * r + f) := by
    rw [show (720 : Int32) = nI 720 from rfl]
    exact nI_ge (by omega) (by decide)
  unfold f_X6_lossIn_j
  simp only [lt_, e]
  rw [if_neg (nI_pos (by omega)), if_neg h2, g_nI (by omega) (by decide), ix_nI (by omega)]
/-- none of the first farms of the set would lose as much or more -/
def wl (lo : Nat → Nat → Int32) (n row s : Nat) : Nat → Bool
  | 0 => true
  | k + 1 => wl lo n row s k && (!s.testBit k || decide (lo (wo n row s) k < lo row k))
theorem wl_no {lo : Nat → Nat → Int32} {n row s j : Nat} (h : wl lo n row s j = false) : ∀ {k : Nat}, j ≤ k → wl lo n row s k = false
  | 0, hk => by rw [show j = 0 by omega] at h; exact h
  | k + 1, hk => by
    by_cases e : j = k + 1
    · rw [← e]; exact h
    · show (wl lo n row s k && _) = false
      rw [wl_no h (k := k) (by omega)]; rfl
theorem e_wouldLeave {n row s : Nat} (hn : n ≤ 5) (hs : s < 64) (hrow : row < fac n) {lo : Nat → Nat → Int32} {losses : Nat → Int32} (hl : ∀ r f, r < fac n → vB n r = true → f < n → losses (6 * r + f) = lo r f) (hv : vB n row = true) {groups : Nat → Int32} (hg : ∀ f, f < n → groups f = nI (sp n row f)) (ren : Nat → Int32) : ∃ ren', f_X2_wouldLeave losses (nI n) groups ren (nI row) (nI s) = some (if wl lo n row s n then 1 else 0, ren') := by
  have h120 := fac_5 n (by omega)
  obtain ⟨ren', a1⟩ := e_wo hn hs hg ren
  have hwo := wo_lt (n := n) (row := row) (s := s)
  refine ⟨ren', ?_⟩
  have lp : ∀ (r k gg : Nat), k + r = n → r < gg → wl lo n row s k = true → f_X2_wouldLeave_L9 losses (nI n) groups gg ren' (nI row) (nI s) (nI (wo n row s)) (nI k) = some (if wl lo n row s n then 1 else 0, ren') := by
    intro r
    induction r with
    | zero =>
      intro k gg hk hgg ht
      obtain ⟨gg, rfl⟩ : ∃ z, gg = z + 1 := ⟨gg - 1, by omega⟩
      have hk : k = n := by omega
      subst hk
      show f_X2_wouldLeave_L9b _ _ _ _ _ _ _ _ _ = _
      unfold f_X2_wouldLeave_L9b f_X6_farms_j
      rw [bd_s, if_pos (nI_le (Nat.le_refl _) (by omega)), ht]
      rfl
    | succ r ih =>
      intro k gg hk hgg ht
      obtain ⟨gg, rfl⟩ : ∃ z, gg = z + 1 := ⟨gg - 1, by omega⟩
      have hsx : wl lo n row s (k + 1) = (wl lo n row s k && (!s.testBit k || decide (lo (wo n row s) k < lo row k))) := rfl
      show f_X2_wouldLeave_L9b _ _ _ _ _ _ _ _ _ = _
      unfold f_X2_wouldLeave_L9b f_X6_farms_j
      rw [bd_s, if_neg (nI_ge (by omega) (by omega))]
      simp only [f_X2_wouldLeave_B33, f_X2_wouldLeave_B59, lt_]
      rw [← nI_succ]
      by_cases hb : s.testBit k = true
      · rw [if_pos ((mk_bit s hs k (by omega)).mpr hb), if_neg z10, e_lossInJ (by omega) (by omega), bd_s, e_lossInJ (by omega) (by omega), bd_s, hl _ _ hwo wo_v (by omega), hl _ _ hrow hv (by omega)]
        by_cases hc : lo (wo n row s) k < lo row k
        · rw [if_pos hc]
          exact ih (k + 1) gg (by omega) (by omega) (by rw [hsx, ht]; simp [hc])
        · rw [if_neg hc]
          have : wl lo n row s n = false := wl_no (j := k + 1) (by rw [hsx]; simp [hb, hc]) (by omega)
          rw [this]
          rfl
      · rw [if_neg (fun q => hb ((mk_bit s hs k (by omega)).mp q)), if_pos trivial]
        exact ih (k + 1) gg (by omega) (by omega) (by rw [hsx, ht]; simp [hb])
  unfold f_X2_wouldLeave
  rw [a1, bd_s]
  exact lp n 0 FU (by omega) (by show n < 5000; omega) rfl
/-- none of the sets below k would leave -/
def fB (lo : Nat → Nat → Int32) (n row : Nat) : Nat → Bool
  | 0 => true
  | k + 1 => fB lo n row k && (decide (k = 0) || !wl lo n row k n)
theorem fB_no {lo : Nat → Nat → Int32} {n row j : Nat} (h : fB lo n row j = false) : ∀ {k : Nat}, j ≤ k → fB lo n row k = false
  | 0, hk => by rw [show j = 0 by omega] at h; exact h
  | k + 1, hk => by
    by_cases e : j = k + 1
    · rw [← e]; exact h
    · show (fB lo n row k && _) = false
      rw [fB_no h (k := k) (by omega)]; rfl
theorem p2n : ∀ n, n < 6 → (1 : Int32) <<< (nI n &&& 31) = nI (2 ^ n) ∧ 2 ^ n < 64 := by decide +kernel
theorem e_staysJ {n row : Nat} (hn : n ≤ 5) (hrow : row < fac n) {lo : Nat → Nat → Int32} {losses : Nat → Int32} (hl : ∀ r f, r < fac n → vB n r = true → f < n → losses (6 * r + f) = lo r f) (hv : vB n row = true) (groups ren : Nat → Int32) : ∃ groups' ren', f_X2_stays losses (nI n) groups ren (nI row) = some (if fB lo n row (2 ^ n) then 1 else 0, groups', ren') := by
  have h120 := fac_5 n (by omega)
  obtain ⟨hp1, hp2⟩ := p2n n (by omega)
  obtain ⟨groups', a1, a2⟩ := e_split hn (show row < 2 ^ 31 by omega) groups
  have lp : ∀ (r s gg : Nat) (ren : Nat → Int32), s + r = 2 ^ n → r < gg → 1 ≤ s → fB lo n row s = true → ∃ ren', f_X2_stays_L7 losses (nI n) gg groups' ren (nI row) (nI s) = some (if fB lo n row (2 ^ n) then 1 else 0, groups', ren') := by
    intro r
    induction r with
    | zero =>
      intro s gg ren hs hgg h1 ht
      obtain ⟨gg, rfl⟩ : ∃ z, gg = z + 1 := ⟨gg - 1, by omega⟩
      have hs : s = 2 ^ n := by omega
      refine ⟨ren, ?_⟩
      show f_X2_stays_L7b _ _ _ _ _ _ _ = _
      unfold f_X2_stays_L7b f_X6_farms_j
      rw [bd_s, hp1, if_pos (nI_le (by omega) (by omega)), ← hs, ht]
      rfl
    | succ r ih =>
      intro s gg ren hs hgg h1 ht
      obtain ⟨gg, rfl⟩ : ∃ z, gg = z + 1 := ⟨gg - 1, by omega⟩
      obtain ⟨ren1, b1⟩ := e_wouldLeave (s := s) hn (by omega) hrow hl hv a2 ren
      have hsx : fB lo n row (s + 1) = (fB lo n row s && (decide (s = 0) || !wl lo n row s n)) := rfl
      cases hc : wl lo n row s n with
      | false =>
        rw [hc] at b1
        obtain ⟨ren', c1⟩ := ih (s + 1) gg ren1 (by omega) (by omega) (by omega) (by rw [hsx, ht, hc]; simp)
        refine ⟨ren', ?_⟩
        show f_X2_stays_L7b _ _ _ _ _ _ _ = _
        unfold f_X2_stays_L7b f_X6_farms_j
        rw [bd_s, hp1, if_neg (nI_ge (by omega) (by omega)), b1, bd_s]
        simp only [lt_]
        rw [if_pos (by rfl), ← nI_succ]
        exact c1
      | true =>
        rw [hc] at b1
        refine ⟨ren1, ?_⟩
        have : fB lo n row (2 ^ n) = false := fB_no (j := s + 1) (by rw [hsx, hc]; simp; omega) (by omega)
        show f_X2_stays_L7b _ _ _ _ _ _ _ = _
        unfold f_X2_stays_L7b f_X6_farms_j
        rw [bd_s, hp1, if_neg (nI_ge (by omega) (by omega)), b1, bd_s, this]
        simp only [lt_]
        rw [if_neg (by decide)]
        rfl
  have hpow : 0 < 2 ^ n := Nat.pow_pos (by decide)
  obtain ⟨ren', c1⟩ := lp (2 ^ n - 1) 1 FU ren (by omega) (by show 2 ^ n - 1 < 5000; omega) (Nat.le_refl _) rfl
  refine ⟨groups', ren', ?_⟩
  unfold f_X2_stays
  rw [a1, bd_s]
  exact c1
