/-! PURE 34: the reference reckons a law -/
theorem wa_a {o ar rf : Nat → Int32} (pile : Nat → Int32) (a b : Int32) (gg : Nat) : f_X11_worthAt_L4 o ar rf (gg + 1) pile a b = f_X11_worthAt_L4b (f_X11_worthAt_L4 o ar rf gg) o ar rf pile a b := rfl
theorem wa_b {i : Nat} (hi : i < 2200) {β : Type} {k : Option β} : g_in (nI i) 2200 k = k := g_nI hi (by decide)
theorem lt_r {α β : Type} (x : α) (k : α → Option β) : lt_ x k = k x := rfl
theorem wa_last {o ar rf : Nat → Int32} {i : Nat} (hi : i < 2200) (gg : Nat) (p : Nat → Int32) (x : Nat) : f_X11_worthAt_B134 (f_X11_worthAt_L4 o ar rf gg) o ar rf p (nI x) (nI i) = f_X11_worthAt_L4 o ar rf gg p (nI x) (nI (i + 1)) := by
  unfold f_X11_worthAt_B134
  simp only [lt_]
  rw [← nI_succ]
theorem wa_push {o ar rf : Nat → Int32} {i t : Nat} (pile : Nat → Int32) (hi : i < 2200) (ht : t < 1100) (gg : Nat) (v : Int32) : f_X11_worthAt_B64 (f_X11_worthAt_L4 o ar rf gg) o ar rf pile (nI t) (nI i) v (nI t) = f_X11_worthAt_L4 o ar rf gg (upd pile t v) (nI (t + 1)) (nI (i + 1)) := by
  unfold f_X11_worthAt_B64
  rw [g_nI ht (by decide), ix_nI (by omega)]
  simp only [lt_]
  rw [← nI_succ]
  exact wa_last hi gg _ _
/-- one code of the reference -/
theorem wa_one {o ar rf : Nat → Int32} {n i t t' : Nat} {pile pile' : Nat → Int32} (h : MR o ar rf (n + 1) i t pile t' pile') (hi : i < 2200) (ht : t < 1100) : ∃ t1 p1, t1 ≤ t + 1 ∧ MR o ar rf n (i + 1) t1 p1 t' pile' ∧ ∀ gg, f_X11_worthAt_L4 o ar rf (gg + 1) pile (nI t) (nI i) = f_X11_worthAt_L4 o ar rf gg p1 (nI t1) (nI (i + 1)) := by
  have hI : ∀ {β : Type} {k : Option β}, g_in (nI i) 2200 k = k := fun {β k} => g_nI hi (by decide)
  have hii : ix (nI i) = i := ix_nI (by omega)
  have hii : ix (nI i) = i := ix_nI (by omega)
  have hlast := fun gg p x => wa_last (o := o) (ar := ar) (rf := rf) hi gg p x
  have hpush := fun gg v => wa_push (o := o) (ar := ar) (rf := rf) pile hi ht gg v
  rcases h with ⟨a, b⟩ | ⟨a, k, hk, a2, b⟩ | ⟨a, a2, b⟩ | ⟨c, c1, c2, a, a2, b⟩
  · refine ⟨t + 1, _, Nat.le_refl _, b, fun gg => ?_⟩
    rw [wa_a]
    unfold f_X11_worthAt_L4b
    rw [wa_b hi, wa_b hi, hii, lt_r, a, if_neg z10, if_pos rfl]
    unfold f_X11_worthAt_B33
    rw [if_pos rfl, wa_b hi, hii]
    exact hpush gg _
  · refine ⟨t + 1, _, Nat.le_refl _, b, fun gg => ?_⟩
    rw [wa_a]
    unfold f_X11_worthAt_L4b
    rw [wa_b hi, wa_b hi, hii, lt_r, a, if_neg (by decide), if_neg (by decide), if_pos rfl]
    unfold f_X11_worthAt_B33
    rw [if_neg (by decide), wa_b hi, hii, a2, g_nI hk (by decide), ix_nI (by omega)]
    exact hpush gg _
  · refine ⟨t, _, by omega, b, fun gg => ?_⟩
    have e3 : nI t - 1 = nI (t - 1) := by rw [show (1 : Int32) = nI 1 from rfl, i_sub a2]
    rw [wa_a]
    unfold f_X11_worthAt_L4b
    rw [wa_b hi, wa_b hi, hii, lt_r, a, if_neg (by decide), if_neg (by decide), if_neg (by decide), if_pos rfl, e3, g_nI (by omega) (by decide), ix_nI (by omega)]
    unfold f_X11_worthAt_B100
    rw [g_nI (by omega) (by decide), ix_nI (by omega), g_nI (by omega) (by decide)]
    simp only [lt_]
    rw [hlast, hlast]
    by_cases q : pile (t - 1) = 0
    · rw [if_pos q, if_pos q]
    · rw [if_neg q, if_neg q]
  · refine ⟨t - 1, _, by omega, b, fun gg => ?_⟩
    have n0 : ¬ nI c = 0 := nI_ne0 (by omega) (by omega)
    have n1 : ¬ nI c = 1 := by rw [show (1 : Int32) = nI 1 from rfl, i_eq (by omega) (by decide)]; omega
    have n2 : ¬ nI c = 2 := by rw [show (2 : Int32) = nI 2 from rfl, i_eq (by omega) (by decide)]; omega
    have n3 : ¬ nI c = 3 := by rw [show (3 : Int32) = nI 3 from rfl, i_eq (by omega) (by decide)]; omega
    have e3 : nI t + -1 = nI (t - 1) := by rw [← Int32.sub_eq_add_neg, show (1 : Int32) = nI 1 from rfl, i_sub (by omega)]
    have e4 : nI (t - 1) - 1 = nI (t - 2) := by
      rw [show (1 : Int32) = nI 1 from rfl, i_sub (by omega)]
      exact congrArg nI (by omega)
    rw [wa_a]
    unfold f_X11_worthAt_L4b
    rw [wa_b hi, wa_b hi, hii, lt_r, a, if_neg n0, if_neg n1, if_neg n2, if_neg n3, e3, lt_r, e4, g_nI (by omega) (by decide), g_nI (by omega) (by decide), ix_nI (by omega), ix_nI (by omega), both_e (by omega), bd_s, g_nI (by omega) (by decide), lt_r]
    exact hlast gg _ _
theorem worthAt_run {o ar rf : Nat → Int32} : ∀ (n i t t' : Nat) (pile pile' : Nat → Int32) (gg : Nat), MR o ar rf n i t pile t' pile' → i + n ≤ 2200 → t + n ≤ 1100 → f_X11_worthAt_L4 o ar rf (gg + n) pile (nI t) (nI i) = f_X11_worthAt_L4 o ar rf gg pile' (nI t') (nI (i + n)) := by
  intro n
  induction n with
  | zero =>
    intro i t t' pile pile' gg h _ _
    obtain ⟨h1, h2⟩ := h
    rw [h1, h2, Nat.add_zero, Nat.add_zero]
  | succ n ih =>
    intro i t t' pile pile' gg h hi ht
    obtain ⟨t1, p1, h1, h2, h3⟩ := wa_one h (by omega) (by omega)
    have e : gg + (n + 1) = (gg + n) + 1 := by omega
    have e2 : i + (n + 1) = (i + 1) + n := by omega
    rw [e, e2, h3, ih (i + 1) t1 t' p1 pile' gg h2 (by omega) (by omega)]
/-- a law of the reference is worth v -/
theorem worthAt_e {o ar rf : Nat → Int32} {p n : Nat} {v : Int32} (h : ME o ar rf p n v) (hp : p + n < 2200) (hn : n ≤ 1100) (hend : o (p + n) = 0) (pile : Nat → Int32) : ∃ pile', f_X11_worthAt o ar rf pile (nI p) = some (v, pile') := by
  obtain ⟨p', h1, h2, -⟩ := h 0 pile
  refine ⟨p', ?_⟩
  unfold f_X11_worthAt
  have e : f_X11_worthAt_L4 o ar rf FU pile 0 (nI p) = f_X11_worthAt_L4 o ar rf ((FU - n) + n) pile 0 (nI p) := by
    rw [Nat.sub_add_cancel (show n ≤ FU by show n ≤ 5000; omega)]
  rw [e]
  have := worthAt_run n p 0 (0 + 1) pile p' (FU - n) h1 (by omega) (by omega)
  refine this.trans ?_
  obtain ⟨q, hq⟩ : ∃ q, FU - n = q + 1 := ⟨FU - n - 1, by show 5000 - n = 5000 - n - 1 + 1; omega⟩
  rw [hq]
  show f_X11_worthAt_L4b _ _ _ _ _ _ _ = _
  unfold f_X11_worthAt_L4b
  rw [g_nI (by omega) (by decide), ix_nI (by omega), hend, if_pos rfl, h2]
