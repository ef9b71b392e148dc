/-! PURE 5: one write at a time -/
/-- the cells that nights change -/
def chg (k : Nat) : Bool := k == 1 || k == 2 || k == 3 || (decide (8 ≤ k) && decide (k < 50) && ((k - 8) % 7 == 0 || (k - 8) % 7 == 3 || (k - 8) % 7 == 4 || (k - 8) % 7 == 5)) || (decide (146 ≤ k) && decide (k < 182)) || (decide (190 ≤ k) && decide (k < 990))
def Fix (R R' : Nat → Int32) : Prop := ∀ k, chg k = false → R' k = R k
theorem Fix.rf (R : Nat → Int32) : Fix R R := fun _ _ => rfl
theorem Fix.tr {R R1 R2 : Nat → Int32} (h : Fix R R1) (h2 : Fix R1 R2) : Fix R R2 := fun k hk => (h2 k hk).trans (h k hk)
theorem Fix.up {R : Nat → Int32} {k : Nat} {v : Int32} (hk : chg k = true) : Fix R (upd R k v) := fun j hj => u_n (fun e => by subst e; rw [hk] at hj; cases hj)
theorem chg_of {k : Nat} (h : chg k = false) : k ≠ 1 ∧ k ≠ 2 ∧ k ≠ 3 ∧ ¬ (146 ≤ k ∧ k < 182) ∧ ¬ (190 ≤ k ∧ k < 990) ∧ ¬ (8 ≤ k ∧ k < 50 ∧ ((k - 8) % 7 = 0 ∨ (k - 8) % 7 = 3 ∨ (k - 8) % 7 = 4 ∨ (k - 8) % 7 = 5)) := by
  simp only [chg, Bool.or_eq_false_iff, Bool.and_eq_false_iff, beq_eq_false_iff_ne, decide_eq_false_iff_not] at h
  omega
theorem ch_no {k : Nat} (h : k = 0 ∨ (4 ≤ k ∧ k < 8) ∨ (8 ≤ k ∧ k < 50 ∧ ((k - 8) % 7 = 1 ∨ (k - 8) % 7 = 2 ∨ (k - 8) % 7 = 6)) ∨ (50 ≤ k ∧ k < 146) ∨ (182 ≤ k ∧ k < 190) ∨ 990 ≤ k) : chg k = false := by
  simp only [chg, Bool.or_eq_false_iff, Bool.and_eq_false_iff, beq_eq_false_iff_ne, decide_eq_false_iff_not]
  omega
theorem ch_yes {k : Nat} (h : k = 1 ∨ k = 2 ∨ k = 3 ∨ (8 ≤ k ∧ k < 50 ∧ ((k - 8) % 7 = 0 ∨ (k - 8) % 7 = 3 ∨ (k - 8) % 7 = 4 ∨ (k - 8) % 7 = 5)) ∨ (146 ≤ k ∧ k < 182) ∨ (190 ≤ k ∧ k < 990)) : chg k = true := by
  cases hc : chg k with
  | true => rfl
  | false =>
    have := chg_of hc
    omega
theorem Mk.cong {x : Int32} {p q : Nat → Bool} (h : Mk x p) (hq : ∀ e, e < 6 → q e = p e) : Mk x q := by
  obtain ⟨m, hm, e1, hp⟩ := h
  exact ⟨m, hm, e1, fun e he => (hp e he).trans (hq e he).symm⟩
theorem RMo.fix {R R' : Nat → Int32} {n : Nat} {dogs fenced heights partner often : Nat → Int32} (h : RMo R n dogs fenced heights partner often) (hf : Fix R R') : RMo R' n dogs fenced heights partner often := by
  obtain ⟨hn, h0, h1, h2, h3, h4, h5⟩ := h
  refine ⟨hn, ?_, fun f hx => ?_, fun f hx => ?_, fun f k hx hk => ?_, fun a ha => ?_, fun a e ha he => ?_⟩
  · rw [hf 0 (ch_no (by omega))]; exact h0
  · rw [hf (9 + 7 * f) (ch_no (by omega))]; exact h1 f hx
  · rw [hf (14 + 7 * f) (ch_no (by omega))]; exact h2 f hx
  · rw [hf (50 + 4 * f + k) (ch_no (by omega))]; exact h3 f k hx hk
  · refine (h4 a ha).cong fun e he => ?_
    show decide (R' (74 + 6 * a + e) ≠ 0) = decide (R (74 + 6 * a + e) ≠ 0)
    rw [hf (74 + 6 * a + e) (ch_no (by omega))]
  · rw [hf (74 + 6 * a + e) (ch_no (by omega))]; exact h5 a e ha he
theorem RLw.fix {R R' op arg fek fel fer gok gol gor : Nat → Int32} {fes gos : Int32} (h : RLw R op arg fek fel fer fes gok gol gor gos) (hf : Fix R R') : RLw R' op arg fek fel fer fes gok gol gor gos := by
  unfold RLw RLv
  rw [hf 0 (ch_no (by omega)), hf 5 (ch_no (by omega)), hf 6 (ch_no (by omega))]
  exact h
section UP
variable {R : Nat → Int32} {n : Nat} {night : Int32} {g : Int64} {flock hunger lean fed taken pacts : Nat → Int32}
theorem RVa.cong {R' : Nat → Int32} {night' : Int32} {g' : Int64} {flock' lean' fed' taken' : Nat → Int32} (h : RVa R n night g flock hunger lean fed taken pacts) (hn : n ≤ 6) (hf : Fix R R')
    (c1 : night' = R' 1) (c2 : ∃ a, a < 2 ^ 31 ∧ g' = lN a ∧ R' 2 = nI a) (c3 : ∀ f, f < n → flock' f = R' (8 + 7 * f) ∧ ∃ F, F ≤ 9999 ∧ R' (8 + 7 * f) = nI F) (c5 : ∀ f, f < n → lean' f = R' (11 + 7 * f)) (c6 : ∀ f, f < n → fed' f = R' (12 + 7 * f)) (c7 : ∀ f, f < n → taken' f = R' (13 + 7 * f)) : RVa R' n night' g' flock' hunger lean' fed' taken' pacts := by
  obtain ⟨h1, h2, h3, h4, h5, h6, h7, h8, h9⟩ := h
  refine ⟨c1, c2, c3, fun f hx => ?_, c5, c6, c7, fun a ha => ?_, fun a e ha he => ?_⟩
  · rw [hf (10 + 7 * f) (ch_no (by omega))]; exact h4 f hx
  · refine (h8 a ha).cong fun e he => ?_
    show decide (R' (110 + 6 * a + e) ≠ 0) = decide (R (110 + 6 * a + e) ≠ 0)
    rw [hf (110 + 6 * a + e) (ch_no (by omega))]
  · rw [hf (110 + 6 * a + e) (ch_no (by omega))]; exact h9 a e ha he
theorem RVa.uF (h : RVa R n night g flock hunger lean fed taken pacts) (hn : n ≤ 6) {f F : Nat} (hf : f < n) (hF : F ≤ 9999) : RVa (upd R (8 + 7 * f) (nI F)) n night g (upd flock f (nI F)) hunger lean fed taken pacts := by
  refine h.cong hn (Fix.up (ch_yes (by omega))) ?_ ?_ (fun x hx => ?_) (fun x hx => ?_) (fun x hx => ?_) (fun x hx => ?_)
  · rw [u_n (by omega)]; exact h.1
  · rw [u_n (by omega)]; exact h.2.1
  · by_cases e : x = f
    · subst e; rw [u_s, u_s]; exact ⟨rfl, F, hF, rfl⟩
    · rw [u_n e, u_n (by omega)]; exact h.2.2.1 x hx
  · rw [u_n (by omega)]; exact h.2.2.2.2.1 x hx
  · rw [u_n (by omega)]; exact h.2.2.2.2.2.1 x hx
  · rw [u_n (by omega)]; exact h.2.2.2.2.2.2.1 x hx
theorem RVa.uL (h : RVa R n night g flock hunger lean fed taken pacts) (hn : n ≤ 6) {f : Nat} {v : Int32} (hf : f < n) : RVa (upd R (11 + 7 * f) v) n night g flock hunger (upd lean f v) fed taken pacts := by
  refine h.cong hn (Fix.up (ch_yes (by omega))) ?_ ?_ (fun x hx => ?_) (fun x hx => ?_) (fun x hx => ?_) (fun x hx => ?_)
  · rw [u_n (by omega)]; exact h.1
  · rw [u_n (by omega)]; exact h.2.1
  · rw [u_n (by omega)]; exact h.2.2.1 x hx
  · by_cases e : x = f
    · subst e; rw [u_s, u_s]
    · rw [u_n e, u_n (by omega)]; exact h.2.2.2.2.1 x hx
  · rw [u_n (by omega)]; exact h.2.2.2.2.2.1 x hx
  · rw [u_n (by omega)]; exact h.2.2.2.2.2.2.1 x hx
theorem RVa.uE (h : RVa R n night g flock hunger lean fed taken pacts) (hn : n ≤ 6) {f : Nat} {v : Int32} (hf : f < n) : RVa (upd R (12 + 7 * f) v) n night g flock hunger lean (upd fed f v) taken pacts := by
  refine h.cong hn (Fix.up (ch_yes (by omega))) ?_ ?_ (fun x hx => ?_) (fun x hx => ?_) (fun x hx => ?_) (fun x hx => ?_)
  · rw [u_n (by omega)]; exact h.1
  · rw [u_n (by omega)]; exact h.2.1
  · rw [u_n (by omega)]; exact h.2.2.1 x hx
  · rw [u_n (by omega)]; exact h.2.2.2.2.1 x hx
  · by_cases e : x = f
    · subst e; rw [u_s, u_s]
    · rw [u_n e, u_n (by omega)]; exact h.2.2.2.2.2.1 x hx
  · rw [u_n (by omega)]; exact h.2.2.2.2.2.2.1 x hx
theorem RVa.uT (h : RVa R n night g flock hunger lean fed taken pacts) (hn : n ≤ 6) {f : Nat} {v : Int32} (hf : f < n) : RVa (upd R (13 + 7 * f) v) n night g flock hunger lean fed (upd taken f v) pacts := by
  refine h.cong hn (Fix.up (ch_yes (by omega))) ?_ ?_ (fun x hx => ?_) (fun x hx => ?_) (fun x hx => ?_) (fun x hx => ?_)
  · rw [u_n (by omega)]; exact h.1
  · rw [u_n (by omega)]; exact h.2.1
  · rw [u_n (by omega)]; exact h.2.2.1 x hx
  · rw [u_n (by omega)]; exact h.2.2.2.2.1 x hx
  · rw [u_n (by omega)]; exact h.2.2.2.2.2.1 x hx
  · by_cases e : x = f
    · subst e; rw [u_s, u_s]
    · rw [u_n e, u_n (by omega)]; exact h.2.2.2.2.2.2.1 x hx
theorem RVa.uG (h : RVa R n night g flock hunger lean fed taken pacts) (hn : n ≤ 6) {a : Nat} (ha : a < 2 ^ 31) : RVa (upd R 2 (nI a)) n night (lN a) flock hunger lean fed taken pacts := by
  refine h.cong hn (Fix.up (ch_yes (by omega))) ?_ ⟨a, ha, rfl, u_s _ _ _⟩ (fun x hx => ?_) (fun x hx => ?_) (fun x hx => ?_) (fun x hx => ?_)
  · rw [u_n (by omega)]; exact h.1
  · rw [u_n (by omega)]; exact h.2.2.1 x hx
  · rw [u_n (by omega)]; exact h.2.2.2.2.1 x hx
  · rw [u_n (by omega)]; exact h.2.2.2.2.2.1 x hx
  · rw [u_n (by omega)]; exact h.2.2.2.2.2.2.1 x hx
/-- a write elsewhere -/
theorem RVa.oth (h : RVa R n night g flock hunger lean fed taken pacts) (hn : n ≤ 6) {k : Nat} {v : Int32} (hk : k = 3 ∨ 146 ≤ k) (hk2 : chg k = true) : RVa (upd R k v) n night g flock hunger lean fed taken pacts := by
  refine h.cong hn (Fix.up hk2) ?_ ?_ (fun x hx => ?_) (fun x hx => ?_) (fun x hx => ?_) (fun x hx => ?_)
  · rw [u_n (by omega)]; exact h.1
  · rw [u_n (by omega)]; exact h.2.1
  · rw [u_n (by omega)]; exact h.2.2.1 x hx
  · rw [u_n (by omega)]; exact h.2.2.2.2.1 x hx
  · rw [u_n (by omega)]; exact h.2.2.2.2.2.1 x hx
  · rw [u_n (by omega)]; exact h.2.2.2.2.2.2.1 x hx
end UP
/-! ## the book -/
def lowF : List Nat := [152, 158, 159, 164, 165, 166, 170, 171, 172, 173, 176, 177, 178, 179, 180]
def fsum (R : Nat → Int32) (l : List Nat) : Int32 := l.foldr (fun i s => R i + s) 0
theorem fsum_no {R : Nat → Int32} {k : Nat} {v : Int32} : ∀ {l : List Nat}, k ∉ l → fsum (upd R k v) l = fsum R l
  | [], _ => rfl
  | i :: l, h => by
    have h1 : i ≠ k := fun e => h (by rw [e]; exact List.mem_cons_self)
    have h2 : k ∉ l := fun e => h (List.mem_cons_of_mem _ e)
    show upd R k v i + fsum (upd R k v) l = R i + fsum R l
    rw [u_n h1, fsum_no h2]
theorem fsum_in {R : Nat → Int32} {k : Nat} : ∀ {l : List Nat}, l.Nodup → k ∈ l → fsum (upd R k (R k + 1)) l = fsum R l + 1
  | [], _, h => absurd h List.not_mem_nil
  | i :: l, hn, h => by
    have hd := List.nodup_cons.mp hn
    show upd R k (R k + 1) i + fsum (upd R k (R k + 1)) l = R i + fsum R l + 1
    by_cases e : i = k
    · subst e
      rw [u_s, fsum_no hd.1, Int32.add_assoc, Int32.add_comm 1, ← Int32.add_assoc]
    · rw [u_n e, fsum_in hd.2 ((List.mem_cons.mp h).resolve_left (fun z => e z.symm)), Int32.add_assoc]
theorem lowF_nd : lowF.Nodup := by decide
theorem lowF_one : ∀ h, h < 6 → ∀ t, t < 6 → t = h ∨ (146 + 6 * h + t ∈ lowF ∧ 146 + 6 * t + h ∉ lowF) ∨ (146 + 6 * h + t ∉ lowF ∧ 146 + 6 * t + h ∈ lowF) := by decide
/-- no feud with a farm that isn't there -/
def FzO (R : Nat → Int32) : Prop := ∀ n f e, n ≤ 6 → R 0 = nI n → n ≤ f → f < 6 → e < 6 → R (146 + 6 * f + e) = 0
/-- the book: β says that the books agree; if not, the class's is only safe to write in -/
def RBo (β : Bool) (X : Nat) (R kept feuds : Nat → Int32) (bones fall : Int32) : Prop :=
  (∃ B, B ≤ X ∧ bones = nI B) ∧ (∃ B, B ≤ X ∧ R 3 = nI B) ∧ (β = true → bones = R 3 ∧ (∀ B, R 3 = nI B → B ≤ X → ∀ k, k < 4 * min B 200 → kept k = R (190 + k)) ∧ (∀ k, k < 36 → feuds k = R (146 + k)) ∧ fall = fsum R lowF ∧ FzO R)
theorem RBo.oth {β : Bool} {X : Nat} {R kept feuds : Nat → Int32} {bones fall : Int32} (h : RBo β X R kept feuds bones fall) {k : Nat} {v : Int32} (hk : k < 146 ∧ k ≠ 3 ∧ k ≠ 0) : RBo β X (upd R k v) kept feuds bones fall := by
  obtain ⟨h1, h2, h3⟩ := h
  refine ⟨h1, by rw [u_n (by omega)]; exact h2, fun hb => ?_⟩
  obtain ⟨e1, e2, e3, e4⟩ := h3 hb
  refine ⟨by rw [u_n (by omega)]; exact e1, fun B hB hX j hj => ?_, fun j hj => ?_, ?_⟩
  · rw [u_n (by omega)] at hB
    rw [u_n (by omega)]; exact e2 B hB hX j hj
  · rw [u_n (by omega)]; exact e3 j hj
  · rw [fsum_no (fun z => by have : ∀ i ∈ lowF, 146 ≤ i := by decide
                             have := this k z
                             omega)]
    refine ⟨e4.1, fun n f e hn h0 hf hf6 he => ?_⟩
    rw [u_n (by omega)] at h0 ⊢
    exact e4.2 n f e hn h0 hf hf6 he

/-- a bone is written -/
theorem e_bone {β : Bool} {X : Nat} {R kept feuds : Nat → Int32} {bones fall : Int32} (hB : RBo β X R kept feuds bones fall) (hX : X < 2 ^ 30) (t w k : Int32) :
    ∃ (kept' R' : Nat → Int32) (bones' : Int32), f_X0_addBone kept bones (R 1) t w k = some (kept', bones') ∧
      (lt_ (R 3) fun l5_1 => (if 200 ≤ l5_1 then (f_X11_takes_B139 R k) else (lt_ (190 + (4 * l5_1)) fun l6_1 => (g_in l6_1 7000 (lt_ (upd R (ix l6_1) (R 1)) fun m_rows_3 => (g_in (l6_1 + 1) 7000 (lt_ (upd m_rows_3 (ix (l6_1 + 1)) t) fun m_rows_4 => (g_in (l6_1 + 2) 7000 (lt_ (upd m_rows_4 (ix (l6_1 + 2)) w) fun m_rows_5 => (g_in (l6_1 + 3) 7000 (lt_ (upd m_rows_5 (ix (l6_1 + 3)) k) fun m_rows_6 => (f_X11_takes_B139 m_rows_6 k)))))))))))) = some (k, R') ∧
      RBo β (X + 1) R' kept' feuds bones' fall ∧ Fix R R' ∧ (∀ j, j < 146 → j ≠ 3 → R' j = R j) := by
  obtain ⟨⟨B, hBX, rfl⟩, ⟨C, hCX, hR3⟩, hb⟩ := hB
  -- the class
  obtain ⟨kept', hc, hk1, hk2⟩ : ∃ kept', f_X0_addBone kept (nI B) (R 1) t w k = some (kept', nI (B + 1)) ∧ (200 ≤ B → kept' = kept) ∧ (B < 200 → kept' = upd (upd (upd (upd kept (4 * B) (R 1)) (4 * B + 1) t) (4 * B + 2) w) (4 * B + 3) k) := by
    unfold f_X0_addBone
    rw [show (200 : Int32) = nI 200 from rfl, ife (by decide) (by omega)]
    by_cases h : 200 ≤ B
    · rw [if_pos h]
      exact ⟨kept, by unfold f_X0_addBone_B57; simp only [lt_]; rw [← nI_succ], fun _ => rfl, fun z => absurd h (by omega)⟩
    · rw [if_neg h]
      refine ⟨_, ?_, fun z => absurd z h, fun _ => rfl⟩
      simp only [lt_, f_X0_addBone_B57]
      rw [show (4 : Int32) = nI 4 from rfl, show (1 : Int32) = nI 1 from rfl, show (2 : Int32) = nI 2 from rfl, show (3 : Int32) = nI 3 from rfl, i_mul, Nat.mul_comm B 4, i_add, i_add, i_add, i_add,
        g_nI (by omega) (by decide), g_nI (by omega) (by decide), g_nI (by omega) (by decide), g_nI (by omega) (by decide), ix_nI (by omega), ix_nI (by omega), ix_nI (by omega), ix_nI (by omega)]
  -- the reference
  obtain ⟨R', hr, hj1, hj2⟩ : ∃ R', (lt_ (R 3) fun l5_1 => (if 200 ≤ l5_1 then (f_X11_takes_B139 R k) else (lt_ (190 + (4 * l5_1)) fun l6_1 => (g_in l6_1 7000 (lt_ (upd R (ix l6_1) (R 1)) fun m_rows_3 => (g_in (l6_1 + 1) 7000 (lt_ (upd m_rows_3 (ix (l6_1 + 1)) t) fun m_rows_4 => (g_in (l6_1 + 2) 7000 (lt_ (upd m_rows_4 (ix (l6_1 + 2)) w) fun m_rows_5 => (g_in (l6_1 + 3) 7000 (lt_ (upd m_rows_5 (ix (l6_1 + 3)) k) fun m_rows_6 => (f_X11_takes_B139 m_rows_6 k)))))))))))) = some (k, R') ∧ (200 ≤ C → R' = upd R 3 (nI (C + 1))) ∧
      (C < 200 → R' = upd (upd (upd (upd (upd R (190 + 4 * C) (R 1)) (190 + 4 * C + 1) t) (190 + 4 * C + 2) w) (190 + 4 * C + 3) k) 3 (nI (C + 1))) := by
    simp only [lt_]
    rw [hR3, show (200 : Int32) = nI 200 from rfl, ife (by decide) (by omega)]
    by_cases h : 200 ≤ C
    · rw [if_pos h]
      exact ⟨_, by unfold f_X11_takes_B139; simp only [lt_]; rw [hR3, ← nI_succ], fun _ => rfl, fun z => absurd h (by omega)⟩
    · rw [if_neg h]
      refine ⟨_, ?_, fun z => absurd z h, fun _ => rfl⟩
      simp only [f_X11_takes_B139, lt_]
      rw [show (4 : Int32) = nI 4 from rfl, show (190 : Int32) = nI 190 from rfl, show (1 : Int32) = nI 1 from rfl, show (2 : Int32) = nI 2 from rfl, show (3 : Int32) = nI 3 from rfl, i_mul, i_add, i_add, i_add, i_add,
        g_nI (by omega) (by decide), g_nI (by omega) (by decide), g_nI (by omega) (by decide), g_nI (by omega) (by decide), ix_nI (by omega), ix_nI (by omega), ix_nI (by omega), ix_nI (by omega),
        u_n (show 3 ≠ 190 + 4 * C + 3 by omega), u_n (show 3 ≠ 190 + 4 * C + 2 by omega), u_n (show 3 ≠ 190 + 4 * C + 1 by omega), u_n (show 3 ≠ 190 + 4 * C by omega), hR3, i_add]
  have hR'3 : R' 3 = nI (C + 1) := by
    by_cases h : 200 ≤ C
    · rw [hj1 h, u_s]
    · rw [hj2 (by omega), u_s]
  have hlow : ∀ j, (j < 190 ∨ 990 ≤ j) → j ≠ 3 → R' j = R j := by
    intro j h1 h2
    by_cases h : 200 ≤ C
    · rw [hj1 h, u_n h2]
    · rw [hj2 (by omega), u_n h2, u_n (by omega), u_n (by omega), u_n (by omega), u_n (by omega)]
  refine ⟨kept', R', nI (B + 1), hc, hr, ⟨⟨B + 1, by omega, rfl⟩, ⟨C + 1, by omega, hR'3⟩, fun hbt => ?_⟩, fun j hj => ?_, fun j h1 h2 => hlow j (by omega) h2⟩
  · obtain ⟨e1, e2, e3, e4⟩ := hb hbt
    have hBC : B = C := by
      rw [hR3, i_eq (by omega) (by omega)] at e1
      exact e1
    subst hBC
    refine ⟨hR'3.symm, fun D hD hDX j hj => ?_, fun j hj => ?_, ?_⟩
    · have hDB : D = B + 1 := by
        rw [hR'3, i_eq (by omega) (by omega)] at hD
        omega
      subst hDB
      have old := e2 B hR3 hBX j
      by_cases h : 200 ≤ B
      · rw [hk1 h, hj1 h, u_n (by omega)]
        exact old (by omega)
      · rw [hk2 (by omega), hj2 (by omega), u_n (show 190 + j ≠ 3 by omega)]
        by_cases j3 : j = 4 * B + 3
        · subst j3; rw [u_s, show 190 + (4 * B + 3) = 190 + 4 * B + 3 by omega, u_s]
        · rw [u_n j3, u_n (show 190 + j ≠ 190 + 4 * B + 3 by omega)]
          by_cases j2 : j = 4 * B + 2
          · subst j2; rw [u_s, show 190 + (4 * B + 2) = 190 + 4 * B + 2 by omega, u_s]
          · rw [u_n j2, u_n (show 190 + j ≠ 190 + 4 * B + 2 by omega)]
            by_cases j1 : j = 4 * B + 1
            · subst j1; rw [u_s, show 190 + (4 * B + 1) = 190 + 4 * B + 1 by omega, u_s]
            · rw [u_n j1, u_n (show 190 + j ≠ 190 + 4 * B + 1 by omega)]
              by_cases j0 : j = 4 * B
              · subst j0; rw [u_s, u_s]
              · rw [u_n j0, u_n (show 190 + j ≠ 190 + 4 * B by omega)]
                exact old (by omega)
    · rw [hlow (146 + j) (Or.inl (by omega)) (by omega)]; exact e3 j hj
    · refine ⟨?_, fun n f e hn h0 hf hf6 he => by rw [hlow (146 + 6 * f + e) (Or.inl (by omega)) (by omega)]; exact e4.2 n f e hn (by rw [← hlow 0 (Or.inl (by omega)) (by omega)]; exact h0) hf hf6 he⟩
      rw [e4.1]
      have : ∀ l : List Nat, (∀ i ∈ l, i < 190 ∧ i ≠ 3) → fsum R l = fsum R' l := by
        intro l
        induction l with
        | nil => intro _; rfl
        | cons i l ih =>
          intro h
          show R i + fsum R l = R' i + fsum R' l
          rw [hlow i (Or.inl (h i List.mem_cons_self).1) (h i List.mem_cons_self).2, ih fun x hx => h x (List.mem_cons_of_mem _ hx)]
      exact this lowF (by decide)
  · have := chg_of hj
    exact hlow j (by omega) (by omega)
