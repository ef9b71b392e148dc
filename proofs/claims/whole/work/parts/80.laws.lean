/-! PURE 31: laws: the class's steps, the reference's codes -/
/-- two parts joined -/
def bo2 (c : Nat) (x y : Int32) : Int32 := if c = 4 then x + y else if c = 5 then x - y else if c = 6 then x * y else if c = 7 then (if y ≤ x then 0 else 1) else if c = 8 then (if x = y then 1 else 0) else if c = 9 then (if x = 0 then 0 else if y = 0 then 0 else 1) else (if x = 0 then (if y = 0 then 0 else 1) else 1)
theorem both_e {c : Nat} (hc : c < 100) (x y : Int32) : f_X11_both (nI c) x y = some (bo2 c x y) := by
  unfold f_X11_both f_X11_both_B96 bo2
  rw [show (4 : Int32) = nI 4 from rfl, show (5 : Int32) = nI 5 from rfl, show (6 : Int32) = nI 6 from rfl, show (7 : Int32) = nI 7 from rfl, show (8 : Int32) = nI 8 from rfl, show (9 : Int32) = nI 9 from rfl]
  rw [ifq (by omega) (by decide), ifq (by omega) (by decide), ifq (by omega) (by decide), ifq (by omega) (by decide), ifq (by omega) (by decide), ifq (by omega) (by decide)]
  repeat' split
  all_goals rfl
/-- the class's kind against the reference's code -/
def KC (k c : Nat) : Prop := (k = 3 ∧ c = 9) ∨ (k = 4 ∧ c = 10) ∨ (k = 5 ∧ c = 7) ∨ (k = 6 ∧ c = 8) ∨ (k = 7 ∧ c = 4) ∨ (k = 8 ∧ c = 5) ∨ (k = 9 ∧ c = 6)
def kOf (k : Nat) : Nat := if k = 3 then 9 else if k = 4 then 10 else if k = 5 then 7 else if k = 6 then 8 else if k = 7 then 4 else if k = 8 then 5 else 6
theorem KC.k {k c : Nat} (h : KC k c) : kOf k = c ∧ 3 ≤ k ∧ k ≤ 9 ∧ 4 ≤ c ∧ c ≤ 10 := by
  rcases h with ⟨rfl, rfl⟩ | ⟨rfl, rfl⟩ | ⟨rfl, rfl⟩ | ⟨rfl, rfl⟩ | ⟨rfl, rfl⟩ | ⟨rfl, rfl⟩ | ⟨rfl, rfl⟩ <;> decide
/-- what a step is worth, the values of those before it being told -/
noncomputable def stp (ks ls rs cf V : Nat → Int32) (j : Nat) : Int32 :=
  if ks j = 0 then ls j else if ks j = 1 then cf (ix (ls j)) else if ks j = 2 then (if V (ix (ls j)) = 0 then 1 else 0) else bo2 (kOf (ix (ks j))) (V (ix (ls j))) (V (ix (rs j)))
def WF1 (k l r : Int32) (j : Nat) : Prop := k = 0 ∨ (k = 1 ∧ ∃ q, q < 6 ∧ l = nI q) ∨ ∃ c x y, 2 ≤ c ∧ c ≤ 9 ∧ k = nI c ∧ x < j ∧ y < j ∧ l = nI x ∧ r = nI y
def WFs (ks ls rs : Nat → Int32) (m : Nat) : Prop := ∀ j, j < m → WF1 (ks j) (ls j) (rs j) j
def EXT (ks ls rs : Nat → Int32) (m : Nat) (ks' ls' rs' : Nat → Int32) (m' : Nat) : Prop := m ≤ m' ∧ ∀ j, j < m → ks' j = ks j ∧ ls' j = ls j ∧ rs' j = rs j
theorem EXT.rf (ks ls rs : Nat → Int32) (m : Nat) : EXT ks ls rs m ks ls rs m := ⟨Nat.le_refl _, fun _ _ => ⟨rfl, rfl, rfl⟩⟩
theorem EXT.tr {ks ls rs k1 l1 r1 k2 l2 r2 : Nat → Int32} {m m1 m2 : Nat} (h : EXT ks ls rs m k1 l1 r1 m1) (h2 : EXT k1 l1 r1 m1 k2 l2 r2 m2) : EXT ks ls rs m k2 l2 r2 m2 :=
  ⟨Nat.le_trans h.1 h2.1, fun j hj => by
    obtain ⟨a, b, c⟩ := h.2 j hj
    obtain ⟨d, e, f⟩ := h2.2 j (Nat.lt_of_lt_of_le hj h.1)
    exact ⟨d.trans a, e.trans b, f.trans c⟩⟩
/-- values that fit the steps -/
def CV (ks ls rs cf V : Nat → Int32) (m : Nat) : Prop := ∀ j, j < m → V j = stp ks ls rs cf V j
theorem CV.ext {ks ls rs ks' ls' rs' cf V : Nat → Int32} {m m' : Nat} (h : EXT ks ls rs m ks' ls' rs' m') (hc : CV ks' ls' rs' cf V m') : CV ks ls rs cf V m := by
  intro j hj
  obtain ⟨a, b, c⟩ := h.2 j hj
  have := hc j (Nat.lt_of_lt_of_le hj h.1)
  unfold stp at this ⊢
  rw [a, b, c] at this
  exact this
/-- step x is worth v -/
def CE (ks ls rs : Nat → Int32) (m : Nat) (cf : Nat → Int32) (x : Nat) (v : Int32) : Prop := x < m ∧ ∀ V, CV ks ls rs cf V m → V x = v
theorem CE.ext {ks ls rs ks' ls' rs' cf : Nat → Int32} {m m' x : Nat} {v : Int32} (h : EXT ks ls rs m ks' ls' rs' m') (hc : CE ks ls rs m cf x v) : CE ks' ls' rs' m' cf x v :=
  ⟨Nat.lt_of_lt_of_le hc.1 h.1, fun V hV => hc.2 V (hV.ext h)⟩
/-- the class reckons a law -/
theorem worth_e {ks ls rs cf : Nat → Int32} {m : Nat} (hm : m ≤ 1000) (hw : WFs ks ls rs m) : ∀ (r i gg : Nat) (V : Nat → Int32) (w : Int32), i + r = m → r < gg → CV ks ls rs cf V i → (1 ≤ i → w = V (i - 1)) → ∃ V' w', f_X3_worth_L4 ks ls rs (nI m) cf gg V w (nI i) = some (w', V') ∧ CV ks ls rs cf V' m ∧ (1 ≤ m → w' = V' (m - 1)) := by
  intro r
  induction r with
  | zero =>
    intro i gg V w hi hg hV hw2
    obtain ⟨gg, rfl⟩ : ∃ z, gg = z + 1 := ⟨gg - 1, by omega⟩
    have hi : i = m := by omega
    subst hi
    refine ⟨V, w, ?_, hV, hw2⟩
    unfold f_X3_worth_L4 f_X3_worth_L4b
    rw [if_pos (nI_le (Nat.le_refl _) (by omega))]
  | succ r ih =>
    intro i gg V w hi hg hV hw2
    obtain ⟨gg, rfl⟩ : ∃ z, gg = z + 1 := ⟨gg - 1, by omega⟩
    have hwi := hw i (by omega)
    have key : ∀ v : Int32, v = stp ks ls rs cf V i → f_X3_worth_L4 ks ls rs (nI m) cf (gg + 1) V w (nI i) = f_X3_worth_L4 ks ls rs (nI m) cf gg (upd V i v) v (nI (i + 1)) → ∃ V' w', f_X3_worth_L4 ks ls rs (nI m) cf (gg + 1) V w (nI i) = some (w', V') ∧ CV ks ls rs cf V' m ∧ (1 ≤ m → w' = V' (m - 1)) := by
      intro v hv hstep
      have hst : ∀ j, j ≤ i → stp ks ls rs cf (upd V i v) j = stp ks ls rs cf V j := by
        intro j hj
        have hwj := hw j (by omega)
        unfold stp
        rcases hwj with h | ⟨h, -⟩ | ⟨c, x, y, c1, c2, h, hx, hy, hl, hr⟩
        · rw [if_pos h, if_pos h]
        · rw [h, if_neg z10, if_neg z10, if_pos rfl, if_pos rfl]
        · rw [hl, hr, ix_nI (by omega), ix_nI (by omega), u_n (by omega), u_n (by omega)]
      obtain ⟨V', w', a1, a2, a3⟩ := ih (i + 1) gg (upd V i v) v (by omega) (by omega) (fun j hj => by
        rw [hst j (by omega)]
        by_cases q : j = i
        · rw [q, u_s]; exact hv
        · rw [u_n q]; exact hV j (by omega)) (fun _ => by rw [Nat.add_sub_cancel, u_s])
      exact ⟨V', w', hstep.trans a1, a2, a3⟩
    have hend : ∀ v : Int32, f_X3_worth_B292 (f_X3_worth_L4 ks ls rs (nI m) cf gg) ks ls rs (nI m) cf V v (nI i) = f_X3_worth_L4 ks ls rs (nI m) cf gg (upd V i v) v (nI (i + 1)) := by
      intro v
      unfold f_X3_worth_B292
      rw [g_nI (by omega) (by decide), ix_nI (by omega)]
      simp only [lt_]
      rw [← nI_succ]
    have hhead : f_X3_worth_L4 ks ls rs (nI m) cf (gg + 1) V w (nI i) = f_X3_worth_L4b (f_X3_worth_L4 ks ls rs (nI m) cf gg) ks ls rs (nI m) cf V w (nI i) := rfl
    have hge : ¬ nI m ≤ nI i := nI_ge (by omega) (by omega)
    rcases hwi with h | ⟨h, q, hq, hl⟩ | ⟨c, x, y, c1, c2, h, hx, hy, hl, hr⟩
    · refine key (ls i) (by unfold stp; rw [if_pos h]) ?_
      rw [hhead]
      unfold f_X3_worth_L4b
      simp only [if_neg hge, lt_, g_nI (show i < 1000 by omega) (show 1000 < 2 ^ 31 by decide), ix_nI (show i < 2 ^ 31 by omega), h]
      exact hend _
    · refine key (cf q) (by unfold stp; rw [h, if_neg z10, if_pos rfl, hl, ix_nI (by omega)]) ?_
      have h6 : ¬ (6 : Int32) ≤ nI q := by
        rw [show (6 : Int32) = nI 6 from rfl]
        exact nI_ge hq (by decide)
      rw [hhead]
      unfold f_X3_worth_L4b
      simp only [if_neg hge, lt_, g_nI (show i < 1000 by omega) (show 1000 < 2 ^ 31 by decide), ix_nI (show i < 2 ^ 31 by omega), h, hl, if_neg h6, g_nI (show q < 6 by omega) (show 6 < 2 ^ 31 by decide), ix_nI (show q < 2 ^ 31 by omega), if_neg z10, if_pos trivial, f_X3_worth_B105]
      exact hend _
    · have hX : ∀ {β : Type} {k : Option β}, g_in (nI x) 1000 k = k := fun {β k} => g_nI (by omega) (by decide)
      have hY : ∀ {β : Type} {k : Option β}, g_in (nI y) 1000 k = k := fun {β k} => g_nI (by omega) (by decide)
      have hix : ix (nI x) = x := ix_nI (by omega)
      have hiy : ix (nI y) = y := ix_nI (by omega)
      have hic : ix (nI c) = c := ix_nI (by omega)
      have n0 : ¬ nI c = 0 := nI_ne0 (by omega) (by omega)
      have n1 : ¬ nI c = 1 := by rw [show (1 : Int32) = nI 1 from rfl, i_eq (by omega) (by decide)]; omega
      have hs : stp ks ls rs cf V i = if c = 2 then (if V x = 0 then 1 else 0) else bo2 (kOf c) (V x) (V y) := by
        unfold stp
        rw [h, if_neg n0, if_neg n1, hl, hr, hix, hiy, hic, show (2 : Int32) = nI 2 from rfl, ifq (by omega) (by decide)]
      have hu : f_X3_worth_L4 ks ls rs (nI m) cf (gg + 1) V w (nI i) = (if nI c = 0 then (f_X3_worth_B292 (f_X3_worth_L4 ks ls rs (nI m) cf gg) ks ls rs (nI m) cf V (nI x) (nI i)) else (if nI c = 1 then (if 6 ≤ nI x then (f_X3_worth_B105 (f_X3_worth_L4 ks ls rs (nI m) cf gg) ks ls rs (nI m) cf V (nI i) 0) else (g_in (nI x) 6 (f_X3_worth_B105 (f_X3_worth_L4 ks ls rs (nI m) cf gg) ks ls rs (nI m) cf V (nI i) (cf x)))) else (if nI c = 2 then (if V x = 0 then (f_X3_worth_B124 (f_X3_worth_L4 ks ls rs (nI m) cf gg) ks ls rs (nI m) cf V (nI i) 1) else (f_X3_worth_B124 (f_X3_worth_L4 ks ls rs (nI m) cf gg) ks ls rs (nI m) cf V (nI i) 0)) else (if nI c = 3 then (if V x = 0 then (f_X3_worth_B152 (f_X3_worth_L4 ks ls rs (nI m) cf gg) ks ls rs (nI m) cf V (nI i)) else (if V y = 0 then (f_X3_worth_B152 (f_X3_worth_L4 ks ls rs (nI m) cf gg) ks ls rs (nI m) cf V (nI i)) else (f_X3_worth_B153 (f_X3_worth_L4 ks ls rs (nI m) cf gg) ks ls rs (nI m) cf V (nI i) 1))) else (if nI c = 4 then (if V x = 0 then (if V y = 0 then (f_X3_worth_B182 (f_X3_worth_L4 ks ls rs (nI m) cf gg) ks ls rs (nI m) cf V (nI i) 0) else (f_X3_worth_B177 (f_X3_worth_L4 ks ls rs (nI m) cf gg) ks ls rs (nI m) cf V (nI i))) else (f_X3_worth_B177 (f_X3_worth_L4 ks ls rs (nI m) cf gg) ks ls rs (nI m) cf V (nI i))) else (if nI c = 5 then (if V y ≤ V x then (f_X3_worth_B208 (f_X3_worth_L4 ks ls rs (nI m) cf gg) ks ls rs (nI m) cf V (nI i) 0) else (f_X3_worth_B208 (f_X3_worth_L4 ks ls rs (nI m) cf gg) ks ls rs (nI m) cf V (nI i) 1)) else (if nI c = 6 then (if V x = V y then (f_X3_worth_B234 (f_X3_worth_L4 ks ls rs (nI m) cf gg) ks ls rs (nI m) cf V (nI i) 1) else (f_X3_worth_B234 (f_X3_worth_L4 ks ls rs (nI m) cf gg) ks ls rs (nI m) cf V (nI i) 0)) else (if nI c = 7 then (f_X3_worth_B292 (f_X3_worth_L4 ks ls rs (nI m) cf gg) ks ls rs (nI m) cf V (V x + V y) (nI i)) else (if nI c = 8 then (f_X3_worth_B292 (f_X3_worth_L4 ks ls rs (nI m) cf gg) ks ls rs (nI m) cf V (V x - V y) (nI i)) else (f_X3_worth_B292 (f_X3_worth_L4 ks ls rs (nI m) cf gg) ks ls rs (nI m) cf V (V x * V y) (nI i))))))))))) := by
        rw [hhead]
        unfold f_X3_worth_L4b
        simp only [if_neg hge, lt_, g_nI (show i < 1000 by omega) (show 1000 < 2 ^ 31 by decide), ix_nI (show i < 2 ^ 31 by omega), h, hl, hr, hX, hY, hix, hiy]
      match c, c1, c2 with
      | 2, _, _ =>
        refine key (if V x = 0 then 1 else 0) (by rw [hs]; rfl) ?_
        rw [hu, if_neg (show ¬ nI 2 = 0 by decide), if_neg (show ¬ nI 2 = 1 by decide), if_pos (show nI 2 = 2 by decide)]
        unfold f_X3_worth_B124
        by_cases e : V x = 0
        · rw [if_pos e, if_pos e]; exact hend _
        · rw [if_neg e, if_neg e]; exact hend _
      | 3, _, _ =>
        refine key (if V x = 0 then 0 else if V y = 0 then 0 else 1) (by rw [hs]; rfl) ?_
        rw [hu, if_neg (show ¬ nI 3 = 0 by decide), if_neg (show ¬ nI 3 = 1 by decide), if_neg (show ¬ nI 3 = 2 by decide), if_pos (show nI 3 = 3 by decide)]
        unfold f_X3_worth_B152 f_X3_worth_B153
        by_cases e : V x = 0
        · rw [if_pos e, if_pos e]; exact hend _
        · rw [if_neg e, if_neg e]
          by_cases e2 : V y = 0
          · rw [if_pos e2, if_pos e2]; exact hend _
          · rw [if_neg e2, if_neg e2]; exact hend _
      | 4, _, _ =>
        refine key (if V x = 0 then (if V y = 0 then 0 else 1) else 1) (by rw [hs]; rfl) ?_
        rw [hu, if_neg (show ¬ nI 4 = 0 by decide), if_neg (show ¬ nI 4 = 1 by decide), if_neg (show ¬ nI 4 = 2 by decide), if_neg (show ¬ nI 4 = 3 by decide), if_pos (show nI 4 = 4 by decide)]
        unfold f_X3_worth_B177 f_X3_worth_B182
        by_cases e : V x = 0
        · rw [if_pos e, if_pos e]
          by_cases e2 : V y = 0
          · rw [if_pos e2, if_pos e2]; exact hend _
          · rw [if_neg e2, if_neg e2]; exact hend _
        · rw [if_neg e, if_neg e]; exact hend _
      | 5, _, _ =>
        refine key (if V y ≤ V x then 0 else 1) (by rw [hs]; rfl) ?_
        rw [hu, if_neg (show ¬ nI 5 = 0 by decide), if_neg (show ¬ nI 5 = 1 by decide), if_neg (show ¬ nI 5 = 2 by decide), if_neg (show ¬ nI 5 = 3 by decide), if_neg (show ¬ nI 5 = 4 by decide), if_pos (show nI 5 = 5 by decide)]
        unfold f_X3_worth_B208
        by_cases e : V y ≤ V x
        · rw [if_pos e, if_pos e]; exact hend _
        · rw [if_neg e, if_neg e]; exact hend _
      | 6, _, _ =>
        refine key (if V x = V y then 1 else 0) (by rw [hs]; rfl) ?_
        rw [hu, if_neg (show ¬ nI 6 = 0 by decide), if_neg (show ¬ nI 6 = 1 by decide), if_neg (show ¬ nI 6 = 2 by decide), if_neg (show ¬ nI 6 = 3 by decide), if_neg (show ¬ nI 6 = 4 by decide), if_neg (show ¬ nI 6 = 5 by decide), if_pos (show nI 6 = 6 by decide)]
        unfold f_X3_worth_B234
        by_cases e : V x = V y
        · rw [if_pos e, if_pos e]; exact hend _
        · rw [if_neg e, if_neg e]; exact hend _
      | 7, _, _ =>
        refine key (V x + V y) (by rw [hs]; rfl) ?_
        rw [hu, if_neg (show ¬ nI 7 = 0 by decide), if_neg (show ¬ nI 7 = 1 by decide), if_neg (show ¬ nI 7 = 2 by decide), if_neg (show ¬ nI 7 = 3 by decide), if_neg (show ¬ nI 7 = 4 by decide), if_neg (show ¬ nI 7 = 5 by decide), if_neg (show ¬ nI 7 = 6 by decide), if_pos (show nI 7 = 7 by decide)]
        exact hend _
      | 8, _, _ =>
        refine key (V x - V y) (by rw [hs]; rfl) ?_
        rw [hu, if_neg (show ¬ nI 8 = 0 by decide), if_neg (show ¬ nI 8 = 1 by decide), if_neg (show ¬ nI 8 = 2 by decide), if_neg (show ¬ nI 8 = 3 by decide), if_neg (show ¬ nI 8 = 4 by decide), if_neg (show ¬ nI 8 = 5 by decide), if_neg (show ¬ nI 8 = 6 by decide), if_neg (show ¬ nI 8 = 7 by decide), if_pos (show nI 8 = 8 by decide)]
        exact hend _
      | 9, _, _ =>
        refine key (V x * V y) (by rw [hs]; rfl) ?_
        rw [hu, if_neg (show ¬ nI 9 = 0 by decide), if_neg (show ¬ nI 9 = 1 by decide), if_neg (show ¬ nI 9 = 2 by decide), if_neg (show ¬ nI 9 = 3 by decide), if_neg (show ¬ nI 9 = 4 by decide), if_neg (show ¬ nI 9 = 5 by decide), if_neg (show ¬ nI 9 = 6 by decide), if_neg (show ¬ nI 9 = 7 by decide), if_neg (show ¬ nI 9 = 8 by decide)]
        exact hend _
      | c + 10, _, h9 => exact absurd h9 (by omega)
      | 0, h2, _ => exact absurd h2 (by omega)
      | 1, h2, _ => exact absurd h2 (by omega)
