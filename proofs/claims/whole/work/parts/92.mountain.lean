/-! PURE 43: mountain (src/t92.lean through gen/tmpl.py) -/
theorem ch_lo {R : Nat → Int32} {k : Nat} (hk : k < 1000) : cr R 1 0 k = sh R k := by
  unfold cr sh
  rw [if_pos ⟨by omega, by omega⟩]
  exact congrArg R (by omega)
theorem ch_hi {R : Nat → Int32} {k : Nat} (hk : 1000 ≤ k) : cr R 1 0 k = R k := by
  unfold cr
  rw [if_neg (by omega)]
/-- laws that hold whatever lies behind the first 1,100 codes -/
def RLs (R op arg : Nat → Int32) (fek fel fer : Nat → Int32) (fes : Int32) (gok gol gor : Nat → Int32) (gos : Int32) : Prop := ∀ o2 a2 : Nat → Int32, (∀ k, k < 1100 → o2 k = op k ∧ a2 k = arg k) → RLw R o2 a2 fek fel fer fes gok gol gor gos
theorem RLs.one {R op arg : Nat → Int32} {fek fel fer : Nat → Int32} {fes : Int32} {gok gol gor : Nat → Int32} {gos : Int32} (h : RLs R op arg fek fel fer fes gok gol gor gos) : RLw R op arg fek fel fer fes gok gol gor gos := h op arg (fun _ _ => ⟨rfl, rfl⟩)
theorem RLs.tr {R R' op arg op' arg' : Nat → Int32} {fek fel fer : Nat → Int32} {fes : Int32} {gok gol gor : Nat → Int32} {gos : Int32} (h : RLs R op arg fek fel fer fes gok gol gor gos) (h0 : R' 0 = R 0) (h5 : R' 5 = R 5) (h6 : R' 6 = R 6) (ho : ∀ k, k < 1100 → op' k = op k ∧ arg' k = arg k) : RLs R' op' arg' fek fel fer fes gok gol gor gos := by
  intro o2 a2 h2
  have := h o2 a2 (fun k hk => ⟨(h2 k hk).1.trans (ho k hk).1, (h2 k hk).2.trans (ho k hk).2⟩)
  unfold RLw RLv at this ⊢
  rw [h0, h5, h6]
  exact this
/-- a law of both, as it is reckoned -/
theorem ld_worth {feed : Bool} {o ar ks ls rs cf rf values : Nat → Int32} {m p n : Nat} (hm1 : 1 ≤ m) (hm : m ≤ 1000) (hw : WFs ks ls rs m) (hx : XR feed ks ls rs m (m - 1) o ar (1100 + p) n) (he : o (1100 + p + n) = 0) (hc : p + n < 1000) (hf : ∀ k j, FA feed k j → cf k = rf j) {o2 a2 : Nat → Int32} (h2 : ∀ k, k ≤ p + n → o2 k = o (1100 + k) ∧ a2 k = ar (1100 + k)) (pile : Nat → Int32) :
    ∃ (w : Int32) (v' : Nat → Int32), f_X3_worth ks ls rs (nI m) cf values = some (w, v') ∧ ∃ p', f_X11_worthAt o2 a2 rf pile (nI p) = some (w, p') := by
  obtain ⟨v, c1, c2⟩ := hx.2 cf rf hf
  obtain ⟨V', w', e1, e2, e3⟩ := worth_e (cf := cf) hm hw m 0 FU values 0 (by omega) (by show m < 5000; omega) (fun j hj => absurd hj (by omega)) (fun q => absurd q (by omega))
  have hwv : w' = v := by rw [e3 hm1, c1.2 V' e2]
  subst hwv
  refine ⟨w', V', e1, ?_⟩
  have hme : ME o2 a2 rf p n w' := ME_sh (fun k hk => by
    have := h2 (p + k) (by omega)
    rw [this.1, this.2]
    exact ⟨congrArg o (by omega), congrArg ar (by omega)⟩) c2
  exact worthAt_e hme (by omega) (by omega) (by rw [(h2 (p + n) (by omega)).1, ← Nat.add_assoc]; exact he) pile
theorem one_worth {ks ls rs cf values : Nat → Int32} (h : ks 0 = 0 ∨ (ks 0 = 1 ∧ ls 0 = 0)) : ∃ v', f_X3_worth ks ls rs (nI 1) cf values = some (if ks 0 = 0 then ls 0 else cf 0, v') := by
  have hw : WFs ks ls rs 1 := fun j hj => by
    have : j = 0 := by omega
    subst this
    rcases h with h | ⟨h, h2⟩
    · exact Or.inl h
    · exact Or.inr (Or.inl ⟨h, 0, by decide, h2⟩)
  obtain ⟨V', w', e1, e2, e3⟩ := worth_e (cf := cf) (show 1 ≤ 1000 by decide) hw 1 0 FU values 0 (by omega) (by decide) (fun j hj => absurd hj (by omega)) (fun q => absurd q (by omega))
  refine ⟨V', e1.trans ?_⟩
  have h1 := e3 (Nat.le_refl 1)
  have h2 := e2 0 (by decide)
  rw [h1]
  show some (V' 0, V') = _
  rw [h2]
  unfold stp
  rcases h with h | ⟨h, hl⟩
  · rw [if_pos h, if_pos h]
  · have n0 : ¬ ks 0 = 0 := by rw [h]; decide
    rw [if_neg n0, if_neg n0, if_pos h, hl]
    rfl
/-- what a mountain that was read leaves -/
theorem rl_of {o ar R op arg : Nat → Int32} {c : Nat} {fek fel fer gok gol gor : Nat → Int32} {fes gos : Int32} {fek' fel' fer' gok' gol' gor' : Nat → Int32} {fes' gos' : Int32} (hc : c ≤ 1000) (h1 : LD true o ar (R 5) fes fek fel fer c) (h2 : LD false o ar (R 6) gos gok gol gor c)
    (e1 : (fes ≠ 0 ∧ fek' = fek ∧ fel' = fel ∧ fer' = fer ∧ fes' = fes) ∨ (fes = 0 ∧ fek' = upd fek 0 0 ∧ fel' = upd fel 0 0 ∧ fes' = nI 1)) (e2 : (gos ≠ 0 ∧ gok' = gok ∧ gol' = gol ∧ gor' = gor ∧ gos' = gos) ∨ (gos = 0 ∧ gok' = upd gok 0 1 ∧ gol' = upd gol 0 0 ∧ gos' = nI 1))
    (hop : ∀ k, k < c → op k = o (1100 + k) ∧ arg k = ar (1100 + k)) : RLs R op arg fek' fel' fer' fes' gok' gol' gor' gos' := by
  intro o2 a2 h
  have z1 : (-1 : Int32) < 0 := by decide
  refine Or.inr ⟨fun cf rf values pile q0 q1 q2 q3 => ?_, fun cf rf values pile q0 q1 q2 q3 q4 => ?_⟩
  · rcases h1 with ⟨r5, st⟩ | ⟨p, m, n, r5, st, m1, m2, w, x, en, pn⟩
    · rcases e1 with ⟨u, -⟩ | ⟨-, u1, u2, u3⟩
      · exact absurd st u
      · subst u1; subst u2; subst u3
        obtain ⟨v', hv⟩ := one_worth (ks := upd fek 0 0) (ls := upd fel 0 0) (rs := fer') (cf := cf) (values := values) (Or.inl (u_s _ _ _))
        rw [if_pos (u_s _ _ _), u_s] at hv
        exact ⟨0, v', hv, fun _ => rfl, fun q => absurd (by rw [r5]; exact z1) q⟩
    · have hne : fes ≠ 0 := by rw [st]; exact nI_ne0 (by omega) (by omega)
      rcases e1 with ⟨-, u1, u2, u3, u4⟩ | ⟨u, -⟩
      · subst u1; subst u2; subst u3; subst u4
        obtain ⟨w', v', g1, p', g2⟩ := ld_worth (o2 := o2) (a2 := a2) (values := values) (cf := cf) (rf := rf) m1 m2 w x en (by omega) (fun k j hk => by
          have hk : k = j ∧ k ≤ 3 := hk
          obtain ⟨rfl, hk⟩ := hk
          match k, hk with
          | 0, _ => exact q0
          | 1, _ => exact q1
          | 2, _ => exact q2
          | 3, _ => exact q3
          | k + 4, hk => omega) (fun k hk => by
            have a1 := h k (by omega)
            have a2 := hop k (by omega)
            exact ⟨a1.1.trans a2.1, a1.2.trans a2.2⟩) pile
        rw [st]
        refine ⟨w', v', g1, fun q => absurd q (by rw [r5]; exact nI_pos (by omega)), fun _ => ⟨p', by rw [r5]; exact g2⟩⟩
      · exact absurd u hne
  · rcases h2 with ⟨r5, st⟩ | ⟨p, m, n, r5, st, m1, m2, w, x, en, pn⟩
    · rcases e2 with ⟨u, -⟩ | ⟨-, u1, u2, u3⟩
      · exact absurd st u
      · subst u1; subst u2; subst u3
        obtain ⟨v', hv⟩ := one_worth (ks := upd gok 0 1) (ls := upd gol 0 0) (rs := gor') (cf := cf) (values := values) (Or.inr ⟨u_s _ _ _, u_s _ _ _⟩)
        rw [if_neg (by rw [u_s]; decide)] at hv
        exact ⟨cf 0, v', hv, fun _ => rfl, fun q => absurd (by rw [r5]; exact z1) q⟩
    · have hne : gos ≠ 0 := by rw [st]; exact nI_ne0 (by omega) (by omega)
      rcases e2 with ⟨-, u1, u2, u3, u4⟩ | ⟨u, -⟩
      · subst u1; subst u2; subst u3; subst u4
        obtain ⟨w', v', g1, p', g2⟩ := ld_worth (o2 := o2) (a2 := a2) (values := values) (cf := cf) (rf := rf) m1 m2 w x en (by omega) (fun k j hk => by
          have hk : (k = j ∧ k ≤ 2) ∨ (k = 4 ∧ j = 3) ∨ (k = 5 ∧ j = 4) := hk
          rcases hk with ⟨rfl, hk⟩ | ⟨rfl, rfl⟩ | ⟨rfl, rfl⟩
          · match k, hk with
            | 0, _ => exact q0
            | 1, _ => exact q1
            | 2, _ => exact q2
            | k + 3, hk => omega
          · exact q3
          · exact q4) (fun k hk => by
            have a1 := h k (by omega)
            have a2 := hop k (by omega)
            exact ⟨a1.1.trans a2.1, a1.2.trans a2.2⟩) pile
        rw [st]
        refine ⟨w', v', g1, fun q => absurd q (by rw [r5]; exact nI_pos (by omega)), fun _ => ⟨p', by rw [r5]; exact g2⟩⟩
      · exact absurd u hne
theorem tri_cut {g : Nat → Nat → Nat} {n : Nat} (h : ∀ a e, n ≤ a → a < 6 → e < 6 → g a e = 0) : ∀ (d k : Nat), n ≤ k → k + d = 6 → tri g k = tri g 6 := by
  intro d
  induction d with
  | zero =>
    intro k _ hk
    have : k = 6 := by omega
    rw [this]
  | succ d ih =>
    intro k hk hd
    rw [← ih (k + 1) (by omega) (by omega)]
    show tri g k = tri g k + rs (g k) k
    have hz : ∀ j, j ≤ 6 → rs (g k) j = 0 := by
      intro j
      induction j with
      | zero => intro _; rfl
      | succ j ihj =>
        intro hj
        show rs (g k) j + g k j = 0
        rw [ihj (by omega), h k j hk (by omega) (by omega)]
    rw [hz k (by omega), Nat.add_zero]
theorem rs_cut {g : Nat → Nat} {n : Nat} (h : ∀ a, n ≤ a → a < 6 → g a = 0) : ∀ (d k : Nat), n ≤ k → k + d = 6 → rs g k = rs g 6 := by
  intro d
  induction d with
  | zero =>
    intro k _ hk
    have : k = 6 := by omega
    rw [this]
  | succ d ih =>
    intro k hk hd
    rw [← ih (k + 1) (by omega) (by omega)]
    show rs g k = rs g k + g k
    rw [h k hk (by omega), Nat.add_zero]
theorem fl_in (f : Nat → Int32) {n k : Nat} (v : Int32) (hk : k < n) : fl_ f n v k = v := by
  unfold fl_
  rw [if_pos hk]
section MN
variable {words : Nat → Int64} {R o ar : Nat → Int32} {i c : Nat} {nr : Nat → Int64} {n : Nat} {fc shc : Int32} {nc : Nat → Int64} {fo dg hu fd he pa pt of : Nat → Int32} {td : Int32} {fek fel fer : Nat → Int32} {fes : Int32} {gok gol gor : Nat → Int32} {gos : Int32}
/-- all that stands after a mountain without a fault -/
theorem mo_end (hD : DR (sh R) o ar i c nr n fc shc nc fo dg hu fd he pa pt of fek fel fer fes gok gol gor gos) (hi : i ≤ 1000) (X : Nat) (hX : X < 2 ^ 31) (v1 v2 v3 v4 v5 v6 v7 kept feuds bites : Nat → Int32) :
    RMo (cr R 1 0) n dg fd he pt of ∧ RVa (cr R 1 0) n 0 0 (va_cpy fo v1 0 0 6) (va_cpy hu v2 0 0 6) (fl_ v3 6 0) (fl_ v4 6 0) (fl_ v5 6 0) (va_cpy pa v6 0 0 6) ∧ RLe n (-1) (fl_ v7 6 (-1)) ∧ RBo true X (cr R 1 0) kept (fl_ feuds 36 0) 0 0 ∧ RBi (cr R 1 0) bites 0 ∧ RSy (cr R 1 0) n ∧ RCn (cr R 1 0) n fc shc := by
  obtain ⟨⟨h1, h0, -, h2⟩, ⟨p1, p2⟩, hO, ⟨x1, x2, x3⟩, ⟨y1, y2, y3⟩, hC, hZ, -, -, -⟩ := hD
  have L : ∀ k, k < 1000 → cr R 1 0 k = sh R k := fun k hk => ch_lo hk
  have Z : ∀ k, k < 1000 → zc k → cr R 1 0 k = 0 := fun k hk hz => by rw [L k hk]; exact hZ k hk hz
  refine ⟨⟨h1, by rw [L 0 (by decide)]; exact h0, fun f hf => ?_, fun f hf => ?_, fun f k hf hk => ?_, fun a ha => ?_, fun a e ha he => ?_⟩, ⟨?_, ⟨0, by decide, rfl, ?_⟩, fun f hf => ?_, fun f hf => ?_, fun f hf => ?_, fun f hf => ?_, fun f hf => ?_, fun a ha => ?_, fun a e ha he => ?_⟩, Or.inl ⟨by decide, fun f hf => fl_in _ _ (by omega)⟩, ⟨⟨0, Nat.zero_le _, rfl⟩, ⟨0, Nat.zero_le _, ?_⟩, fun _ => ⟨?_, fun B hB hBX k hk => ?_, fun k hk => ?_, ?_, fun n' f e _ _ _ hf he => ?_⟩⟩, ⟨0, by decide, rfl, ?_, fun k hk => absurd hk (by omega)⟩, fun a b ha hb => ⟨?_, ?_⟩, ?_, ?_⟩
  · rw [L _ (by omega)]; exact (h2 f hf).2.1
  · rw [L _ (by omega)]
    rcases p1 f (by omega) with ⟨q1, q2⟩ | ⟨e, q0, q1, q2, q3⟩
    · exact Or.inl ⟨q1, q2⟩
    · exact Or.inr ⟨e, q1, q2, q3⟩
  · rw [L _ (by omega)]; exact hO f k (by omega) hk
  · exact (x1 a (by omega)).cong fun e he => by rw [L _ (by omega)]
  · rw [L _ (by omega)]
    rcases x2 a e (by omega) he with q | ⟨-, q1, q2, q3⟩
    · exact Or.inl q
    · exact Or.inr ⟨q1, q2, q3⟩
  · exact (Z 1 (by decide) (by unfold zc; omega)).symm
  · exact Z 2 (by decide) (by unfold zc; omega)
  · rw [L _ (by omega), cpy6 _ _ (by omega)]; exact (h2 f hf).1
  · rw [L _ (by omega), cpy6 _ _ (by omega)]
    obtain ⟨-, -, q1, x, q2, q3⟩ := h2 f hf
    exact ⟨q1, x, by omega, q3⟩
  · rw [fl_in _ _ (by omega), Z _ (by omega) (by unfold zc; omega)]
  · rw [fl_in _ _ (by omega), Z _ (by omega) (by unfold zc; omega)]
  · rw [fl_in _ _ (by omega), Z _ (by omega) (by unfold zc; omega)]
  · rw [cpy6 _ _ (by omega)]
    exact (y1 a (by omega)).cong fun e he => by rw [L _ (by omega)]
  · rw [L _ (by omega)]
    rcases y2 a e (by omega) he with q | ⟨-, q1, q2, q3⟩
    · exact Or.inl q
    · exact Or.inr ⟨q1, q2, q3⟩
  · exact Z 3 (by decide) (by unfold zc; omega)
  · exact (Z 3 (by decide) (by unfold zc; omega)).symm
  · rw [Z 3 (by decide) (by unfold zc; omega)] at hB
    have hB : nI 0 = nI B := hB
    rw [i_eq (by decide) (by omega)] at hB
    rw [← hB] at hk
    exact absurd hk (by omega)
  · rw [fl_in _ _ hk, Z _ (by omega) (by unfold zc; omega)]
  · have hz : ∀ l : List Nat, (∀ k ∈ l, 146 ≤ k ∧ k < 1000) → fsum (cr R 1 0) l = 0 := by
      intro l
      induction l with
      | nil => intro _; rfl
      | cons k l ih =>
        intro hl
        show cr R 1 0 k + fsum (cr R 1 0) l = 0
        have := hl k List.mem_cons_self
        rw [ih (fun j hj => hl j (List.mem_cons_of_mem _ hj)), Z k this.2 (by unfold zc; omega)]
        rfl
    exact (hz lowF (by decide)).symm
  · exact Z _ (by omega) (by unfold zc; omega)
  · exact Z 4 (by decide) (by unfold zc; omega)
  · rw [L _ (by omega), L _ (by omega)]; exact y3 a b (by omega) (by omega)
  · rw [L _ (by omega), L _ (by omega)]; exact x3 a b (by omega) (by omega)
  · have e1 : tri (fun a e => c01 (cr R 1 0 (74 + 6 * a + e))) n = tri (fun a e => c01 (cr R 1 0 (74 + 6 * a + e))) 6 := tri_cut (n := n) (fun a e ha ha6 he => by
      show c01 (cr R 1 0 (74 + 6 * a + e)) = 0
      rw [L _ (by omega)]
      rcases x2 a e ha6 he with q | ⟨q, -⟩
      · rw [q]; unfold c01; rw [if_pos (by decide)]
      · omega) (6 - n) n (Nat.le_refl _) (by omega)
    rw [e1]
    refine hC.trans (congrArg nI (tri_cong (fun a e ha he => ?_)))
    show c01 (sh R (74 + 6 * a + e)) = c01 (cr R 1 0 (74 + 6 * a + e))
    rw [L _ (by omega)]
  · have e1 : rs (fun a => c01 (cr R 1 0 (14 + 7 * a))) n = rs (fun a => c01 (cr R 1 0 (14 + 7 * a))) 6 := rs_cut (n := n) (fun a ha ha6 => by
      show c01 (cr R 1 0 (14 + 7 * a)) = 0
      rw [L _ (by omega)]
      rcases p1 a ha6 with ⟨q, -⟩ | ⟨e, q, -⟩
      · rw [q]; unfold c01; rw [if_pos (by decide)]
      · omega) (6 - n) n (Nat.le_refl _) (by omega)
    rw [e1]
    refine p2.trans (congrArg nI (rs_cong (fun a ha => ?_)))
    show c01 (sh R (14 + 7 * a)) = c01 (cr R 1 0 (14 + 7 * a))
    rw [L _ (by omega)]
end MN
