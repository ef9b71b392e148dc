/-! PURE 32: the reference's machine -/
def MR (o ar rf : Nat → Int32) : Nat → Nat → Nat → (Nat → Int32) → Nat → (Nat → Int32) → Prop
  | 0, _, t, pile, t', pile' => t' = t ∧ pile' = pile
  | n + 1, i, t, pile, t', pile' =>
    (o i = 1 ∧ MR o ar rf n (i + 1) (t + 1) (upd pile t (ar i)) t' pile') ∨
    (o i = 2 ∧ ∃ k, k < 5 ∧ ar i = nI k ∧ MR o ar rf n (i + 1) (t + 1) (upd pile t (rf k)) t' pile') ∨
    (o i = 3 ∧ 1 ≤ t ∧ MR o ar rf n (i + 1) t (upd pile (t - 1) (if pile (t - 1) = 0 then 1 else 0)) t' pile') ∨
    (∃ c, 4 ≤ c ∧ c ≤ 10 ∧ o i = nI c ∧ 2 ≤ t ∧ MR o ar rf n (i + 1) (t - 1) (upd pile (t - 2) (bo2 c (pile (t - 2)) (pile (t - 1)))) t' pile')
theorem MR_add {o ar rf : Nat → Int32} : ∀ {n : Nat} {m i t t1 t2 : Nat} {p p1 p2 : Nat → Int32}, MR o ar rf n i t p t1 p1 → MR o ar rf m (i + n) t1 p1 t2 p2 → MR o ar rf (n + m) i t p t2 p2
  | 0, m, i, t, t1, t2, p, p1, p2, h, h2 => by
    obtain ⟨rfl, rfl⟩ := h
    rw [Nat.zero_add]
    exact h2
  | n + 1, m, i, t, t1, t2, p, p1, p2, h, h2 => by
    rw [show n + 1 + m = (n + m) + 1 by omega]
    have e : i + (n + 1) = (i + 1) + n := by omega
    rw [e] at h2
    rcases h with ⟨a, b⟩ | ⟨a, k, hk, a2, b⟩ | ⟨a, a2, b⟩ | ⟨c, c1, c2, a, a2, b⟩
    · exact Or.inl ⟨a, MR_add b h2⟩
    · exact Or.inr (Or.inl ⟨a, k, hk, a2, MR_add b h2⟩)
    · exact Or.inr (Or.inr (Or.inl ⟨a, a2, MR_add b h2⟩))
    · exact Or.inr (Or.inr (Or.inr ⟨c, c1, c2, a, a2, MR_add b h2⟩))
/-- the same codes elsewhere -/
theorem MR_sh {o ar o' ar' rf : Nat → Int32} : ∀ {n : Nat} {i j t t1 : Nat} {p p1 : Nat → Int32}, (∀ k, k < n → o' (j + k) = o (i + k) ∧ ar' (j + k) = ar (i + k)) → MR o ar rf n i t p t1 p1 → MR o' ar' rf n j t p t1 p1
  | 0, _, _, _, _, _, _, _, h => h
  | n + 1, i, j, t, t1, p, p1, hc, h => by
    have h0 := hc 0 (by omega)
    have hn : ∀ k, k < n → o' (j + 1 + k) = o (i + 1 + k) ∧ ar' (j + 1 + k) = ar (i + 1 + k) := fun k hk => by
      have := hc (k + 1) (by omega)
      rw [show j + 1 + k = j + (k + 1) by omega, show i + 1 + k = i + (k + 1) by omega]
      exact this
    rw [Nat.add_zero, Nat.add_zero] at h0
    rcases h with ⟨a, b⟩ | ⟨a, k, hk, a2, b⟩ | ⟨a, a2, b⟩ | ⟨c, c1, c2, a, a2, b⟩
    · exact Or.inl ⟨h0.1.trans a, by rw [h0.2]; exact MR_sh hn b⟩
    · exact Or.inr (Or.inl ⟨h0.1.trans a, k, hk, h0.2.trans a2, MR_sh hn b⟩)
    · exact Or.inr (Or.inr (Or.inl ⟨h0.1.trans a, a2, MR_sh hn b⟩))
    · exact Or.inr (Or.inr (Or.inr ⟨c, c1, c2, h0.1.trans a, a2, MR_sh hn b⟩))
/-- n codes from p on are worth v -/
def ME (o ar rf : Nat → Int32) (p n : Nat) (v : Int32) : Prop := ∀ t pile, ∃ pile', MR o ar rf n p t pile (t + 1) pile' ∧ pile' t = v ∧ ∀ k, k < t → pile' k = pile k
theorem ME_sh {o ar o' ar' rf : Nat → Int32} {n i j : Nat} {v : Int32} (hc : ∀ k, k < n → o' (j + k) = o (i + k) ∧ ar' (j + k) = ar (i + k)) (h : ME o ar rf i n v) : ME o' ar' rf j n v := by
  intro t pile
  obtain ⟨p', h1, h2, h3⟩ := h t pile
  exact ⟨p', MR_sh hc h1, h2, h3⟩
theorem ME_num {o ar rf : Nat → Int32} {p : Nat} (h : o p = 1) : ME o ar rf p 1 (ar p) := fun t pile => ⟨upd pile t (ar p), Or.inl ⟨h, rfl, rfl⟩, u_s _ _ _, fun k hk => u_n (by omega)⟩
theorem ME_fact {o ar rf : Nat → Int32} {p k : Nat} (h : o p = 2) (hk : k < 5) (ha : ar p = nI k) : ME o ar rf p 1 (rf k) := fun t pile => ⟨upd pile t (rf k), Or.inr (Or.inl ⟨h, k, hk, ha, rfl, rfl⟩), u_s _ _ _, fun k hk => u_n (by omega)⟩
theorem ME_not {o ar rf : Nat → Int32} {p n : Nat} {v : Int32} (h : ME o ar rf p n v) (ho : o (p + n) = 3) : ME o ar rf p (n + 1) (if v = 0 then 1 else 0) := by
  intro t pile
  obtain ⟨p', h1, h2, h3⟩ := h t pile
  refine ⟨upd p' t (if v = 0 then 1 else 0), MR_add h1 (Or.inr (Or.inr (Or.inl ⟨ho, by omega, ?_⟩))), u_s _ _ _, fun k hk => by rw [u_n (by omega)]; exact h3 k hk⟩
  show t + 1 = t + 1 ∧ upd p' t (if v = 0 then 1 else 0) = upd p' (t + 1 - 1) (if p' (t + 1 - 1) = 0 then 1 else 0)
  rw [Nat.add_sub_cancel, h2]
  exact ⟨rfl, rfl⟩
theorem ME_bin {o ar rf : Nat → Int32} {p n q c : Nat} {v w : Int32} (h : ME o ar rf p n v) (h2 : ME o ar rf (p + n) q w) (c1 : 4 ≤ c) (c2 : c ≤ 10) (ho : o (p + n + q) = nI c) : ME o ar rf p (n + q + 1) (bo2 c v w) := by
  intro t pile
  obtain ⟨p1, a1, a2, a3⟩ := h t pile
  obtain ⟨p2, b1, b2, b3⟩ := h2 (t + 1) p1
  refine ⟨upd p2 t (bo2 c v w), MR_add (MR_add a1 b1) (Or.inr (Or.inr (Or.inr ⟨c, c1, c2, by rw [← Nat.add_assoc]; exact ho, by omega, ?_⟩))), u_s _ _ _, fun k hk => by rw [u_n (by omega), b3 k (by omega)]; exact a3 k hk⟩
  show t + 1 = t + 1 + 1 - 1 ∧ upd p2 t (bo2 c v w) = upd p2 (t + 1 + 1 - 2) (bo2 c (p2 (t + 1 + 1 - 2)) (p2 (t + 1 + 1 - 1)))
  rw [show t + 1 + 1 - 1 = t + 1 by omega, show t + 1 + 1 - 2 = t by omega, b2, b3 t (by omega), a2]
  exact ⟨rfl, rfl⟩
