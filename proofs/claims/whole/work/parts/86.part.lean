/-! PURE 37: parts of expressions (src/t86.lean through gen/tmpl.py) -/
section EP
variable {sg : Nat → Int32} {len N : Nat} {so pl : Nat → Int32} {va : Nat → Int64} {A P : Nat → Nat} {W : Nat → Int64} {U G E : Nat → Int32} {words : Nat → Int64} {crec : CRec} {drec : DRec} {fe la : Nat} {fl : Int32} {fw gw : Nat → Int32} {d : Nat} {feed : Bool}
theorem fh_cw10 {feed : Bool} {w : Int64} (h : w = cw 10) : (if feed then fh (fun k => decide (w = cw (fwl k))) 4 else fh (fun k => decide (w = cw (gwl k))) 5) = -1 := by
  have h1 : ∀ j, j < 4 → fwl j ≠ 10 := by decide
  have h2 : ∀ j, j < 5 → gwl j ≠ 10 := by decide
  cases feed with
  | true =>
    simp only [if_true]
    exact fh_none (fun j hj => decide_eq_false (fun q => h1 j hj (cw_inj _ (fwl_lt j hj) 10 (by decide) (q.symm.trans h))))
  | false =>
    simp only [Bool.false_eq_true, if_false]
    exact fh_none (fun j hj => decide_eq_false (fun q => h2 j hj (cw_inj _ (gwl_lt j hj) 10 (by decide) (q.symm.trans h))))
theorem part_one (hT : TKS sg len N so pl va A P W U G E) (hW : HW words) (hF : HF fw gw) (hfl : fl = if feed then 1 else 0) (hfe : la = fe ↔ feed = true) (hd : d ≤ 5) (h : d < 5 → AG N A P W U G E feed (cF crec sg (nI len) fe la (nI (d + 1))) (dF drec so pl va words fl fw gw (nI (d + 1)))) : AG N A P W U G E feed (cF (f_X7_readPart_b crec) sg (nI len) fe la (nI d)) (dF (f_X11_takePart_b drec) so pl va words fl fw gw (nI d)) := by
  have i40 : isS 40 := by unfold isS; omega
  have i41 : isS 41 := by unfold isS; omega
  have hN := hT.1
  intro f i a m c ks ls rs o ar hp
  have hp0 := hp
  obtain ⟨⟨s1, s2, s3⟩, p2, p3, p4, p5, -⟩ := hp
  have hP := t_P hT s1
  dsimp only [cF, dF]
  have B82 : ∀ f1, f1 ≤ 20000 → f1 ≠ 0 → ∀ l2 l3 : Int32, f_X7_readPart_B82 crec sg (nI len) fe la (nI f1) (nI (A (i))) (nI (P (i))) (W (i)) (U (i)) (G (i)) (E (i)) ks ls rs (nI m) (nI d) l2 l3 = some (-1, nI f1, nI (A (i)), nI (P (i)), W (i), U (i), G (i), E (i), ks, ls, rs, nI m) := by
    intro f1 h1 h2 l2 l3
    unfold f_X7_readPart_B82
    rw [if_neg (nI_ne0 (by omega) (by omega))]
  have B76 : ∀ f1, f1 ≤ 20000 → f1 ≠ 0 → ∀ l2 l3 : Int32, f_X11_takePart_B76 drec so pl va words fl fw gw (nI a) (nI f1) o ar (nI c) (nI d) l2 l3 = some (nI a, nI f1, o, ar, nI c) := by
    intro f1 h1 h2 l2 l3
    unfold f_X11_takePart_B76
    rw [if_neg (nI_nle (by omega) (by omega))]
  have bad : ∀ f1, f1 ≤ 20000 → f1 ≠ 0 → (f ≠ 0 → f1 = f) → PST N feed f i a m c ks ls rs o ar (-1) f1 i a m c ks ls rs o ar := fun f1 h1 h2 h3 => ⟨⟨⟨s1, s2, fun q => absurd q h2⟩, h1, h3, Nat.le_refl _⟩, p3, Nat.le_refl _, Nat.le_refl _, fun _ _ => ⟨rfl, rfl⟩, fun q => absurd q h2⟩
  obtain ⟨x, x1, x2⟩ := cl_fact la fe hfe (W i)
  by_cases h0 : f = 0
  · have ha : a = i := s3 h0
    subst h0
    subst ha
    obtain ⟨pm, pw⟩ := p5 rfl
    have H0 : ∀ k, 0 < k → k ≤ 5 → rf 0 k (P a) ≤ 20000 ∧ rf 0 k (P a) ≠ 0 := fun k h1 h2 => ⟨rf_le p2 h2 hP, rf_nz h1⟩
    -- too deep
    have deep : d = 5 → ∀ l2 l3 l2' l3' : Int32, ∃ (r : Int32) (f' i' a' m' c' : Nat) (ks' ls' rs' o' ar' : Nat → Int32), f_X7_readPart_B72 crec sg (nI len) fe la (nI 0) (nI (A (a))) (nI (P (a))) (W (a)) (U (a)) (G (a)) (E (a)) ks ls rs (nI m) (nI d) l2 l3 = some (r, nI f', nI (A (i')), nI (P (i')), W (i'), U (i'), G (i'), E (i'), ks', ls', rs', nI m') ∧ f_X11_takePart_B66 drec so pl va words fl fw gw (nI a) (nI 0) o ar (nI c) (nI d) l2' l3' = some (nI a', nI f', o', ar', nI c') ∧ PST N feed 0 a a m c ks ls rs o ar r f' i' a' m' c' ks' ls' rs' o' ar' := by
      intro hd5 l2 l3 l2' l3'
      subst hd5
      obtain ⟨u1, u2⟩ := H0 5 (by decide) (by decide)
      refine ⟨-1, rf 0 5 (P a), a, a, m, c, ks, ls, rs, o, ar, ?_, ?_, bad _ u1 u2 (fun q => absurd rfl q)⟩
      · unfold f_X7_readPart_B72
        rw [if_neg (show ¬ nI 5 < 5 by decide), t_ref hT s1 (f := 0) (by decide) (x := 5) (k := 5) rfl, bd_s, B82 _ u1 u2]
      · unfold f_X11_takePart_B66
        rw [if_pos (show nI 5 = 5 from rfl), t_wrg hT s2 (f := 0) (by decide) (x := 5) (k := 5) rfl, bd_s, B76 _ u1 u2]
    have nd5 : d < 5 → ¬ nI d = 5 := fun q => by rw [show (5 : Int32) = nI 5 from rfl, i_eq (by omega) (by decide)]; omega
    have ld5 : d < 5 → nI d < 5 := fun q => by rw [show (5 : Int32) = nI 5 from rfl, i_lt (by omega) (by decide)]; exact q
    have s82 : ∀ l2 l3 : Int32, d < 5 → f_X7_readPart_B72 crec sg (nI len) fe la (nI 0) (nI (A (a))) (nI (P (a))) (W (a)) (U (a)) (G (a)) (E (a)) ks ls rs (nI m) (nI d) l2 l3 = f_X7_readPart_B82 crec sg (nI len) fe la (nI 0) (nI (A (a))) (nI (P (a))) (W (a)) (U (a)) (G (a)) (E (a)) ks ls rs (nI m) (nI d) l2 l3 := by
      intro l2 l3 q
      unfold f_X7_readPart_B72
      rw [if_pos (ld5 q)]
    have s76 : ∀ l2 l3 : Int32, d < 5 → f_X11_takePart_B66 drec so pl va words fl fw gw (nI a) (nI 0) o ar (nI c) (nI d) l2 l3 = f_X11_takePart_B76 drec so pl va words fl fw gw (nI a) (nI 0) o ar (nI c) (nI d) l2 l3 := by
      intro l2 l3 q
      unfold f_X11_takePart_B66
      rw [if_neg (nd5 q)]
    -- one new step, one new code
    have one : a < N → ∀ kd lx rx cd ax : Int32, WF1 kd lx rx m → XR feed (upd ks m kd) (upd ls m lx) (upd rs m rx) (m + 1) m (upd o (1100 + c) cd) (upd ar (1100 + c) ax) (1100 + c) 1 → PST N feed 0 a a m c ks ls rs o ar (nI m) 0 (a + 1) (a + 1) (m + 1) (c + 1) (upd ks m kd) (upd ls m lx) (upd rs m rx) (upd o (1100 + c) cd) (upd ar (1100 + c) ax) := by
      intro hlt kd lx rx cd ax hw hx
      refine ⟨⟨⟨by omega, by omega, fun _ => rfl⟩, by decide, fun q => absurd rfl q, by omega⟩, by omega, by omega, by omega, fun k hk => ⟨u_n (by omega), u_n (by omega)⟩, fun _ => ⟨by omega, by omega, by rw [Nat.add_sub_cancel], ext_up _ _ _ _ _ _ _, pw.up hw, ?_⟩⟩
      rw [Nat.add_sub_cancel, Nat.add_sub_cancel_left]
      exact hx
    unfold f_X7_readPart_b f_X11_takePart_b
    rw [x1, bd_s, c_not, if_pos (show nI 0 ≤ 0 from by decide), g_nI (by omega) (by decide), ix_nI (by omega)]
    have hfh := rd_factHere hT hW hF s1 hfl
    obtain ⟨-, -, -, hk, hz⟩ := hT.2.1 a s1
    -- a fact
    rcases x2 with ⟨x2, x3⟩ | ⟨k, j, v, x2, x3, x4, x5, x6⟩
    · subst x2
      rw [x3] at hfh
      -- a number
      by_cases hnum : so a = 2
      · have hk2 : W a = 0 ∧ (∃ v, v ≤ 9999 ∧ va a = lN v ∧ U a = nI v) ∧ G a = 0 := by
          rcases hk with ⟨q, -⟩ | ⟨q, -⟩ | ⟨-, q1, q2, q3, -⟩ | ⟨q, -⟩ | ⟨q, -⟩
          · rw [q] at hnum; exact absurd hnum (by decide)
          · rw [q] at hnum; exact absurd hnum (by decide)
          · exact ⟨q1, q2, q3⟩
          · rw [q] at hnum; exact absurd hnum (by decide)
          · rw [q] at hnum; exact absurd hnum (by decide)
        obtain ⟨q1, ⟨v, v1, v2, v3⟩, q3⟩ := hk2
        have hlt : a < N := by
          by_cases e : a = N
          · have := hz.mpr e
            rw [hnum] at this
            exact absurd this (by decide)
          · omega
        have hw10 : ¬ W a = cw 10 := fun q => cw_nz (show 10 < 16 by decide) (q.symm.trans q1)
        have hg40 : ¬ G a = nI 40 := fun q => absurd (q.symm.trans q3) (by decide)
        rw [if_neg (fun q => hw10 (lc_eq.mp q)), if_neg (show ¬ G a = 40 from hg40), if_pos hnum]
        unfold f_X7_readPart_B43 f_X11_takePart_B26
        rw [if_pos rfl, if_neg (show ¬ U a = -1 by rw [v3]; exact nI_m1 (by omega)), hfh, bd_s, if_neg (show ¬ (0 : Int32) ≤ -1 by decide), if_neg z10]
        by_cases hd5 : d = 5
        · exact deep hd5 _ _ _ _
        · have hd4 : d < 5 := by omega
          rw [s82 _ _ hd4, s76 _ _ hd4]
          unfold f_X7_readPart_B82 f_X11_takePart_B76 f_X3_addNumber
          rw [if_pos (show nI 0 = 0 from rfl), if_pos z00, if_pos rfl, add_ok ks ls rs (show m < 1000 by omega), bd_s]
          dsimp only
          rw [bd_s]
          dsimp only
          unfold f_X7_readPart_B133
          rw [t_nx hT hlt, bd_s, if_pos (show nI 0 ≤ 0 from by decide), t_hasW0 hT hW s2 (f := 0) (by decide) (w := 10) (by decide) (x := 10) rfl (fun q => hw10 q.2), bd_s]
          dsimp only
          rw [if_pos z00, t_hasS0 hT s2 (f := 0) (by decide) i40 (x := 40) rfl (fun q => hg40 q.2), bd_s]
          dsimp only
          rw [if_pos z00, if_neg z10]
          unfold f_X11_takePart_B144 f_X11_takePart_B162
          rw [if_neg z10, g_nI (by omega) (by decide), ix_nI (by omega), v2, lN_i, emit_ok o ar (show c < 1100 by omega), bd_s]
          dsimp only
          rw [lt_r, ← nI_succ, v3]
          exact ⟨nI m, 0, a + 1, a + 1, m + 1, c + 1, _, _, _, _, _, rfl, rfl, one hlt 0 (nI v) 0 1 (nI v) (Or.inl rfl) (XR.num ks ls rs o ar m (1100 + c) (nI v) 0)⟩
      · rw [if_neg hnum]
        have hU : U a = -1 := by
          rcases hk with ⟨-, -, q, -⟩ | ⟨-, -, q, -⟩ | ⟨q, -⟩ | ⟨-, -, q, -⟩ | ⟨-, -, q, -⟩
          · exact q
          · exact q
          · exact absurd q hnum
          · exact q
          · exact q
        by_cases hw10 : W a = cw 10
        · -- not
          obtain ⟨t1, t2, t3, t4⟩ := t_W hT s1 (show 10 < 16 by decide) hw10
          have hg40 : ¬ G a = nI 40 := fun q => absurd (q.symm.trans t3) (by decide)
          rw [if_pos (lc_eq.mpr hw10)]
          unfold f_X7_readPart_B38 f_X7_readPart_B43 f_X11_takePart_B26
          rw [if_pos rfl, if_pos hU, if_neg z10, hfh, bd_s, if_neg (show ¬ (0 : Int32) ≤ -1 by decide), if_pos z00, t_isS0 hT s2 (f := 0) (by decide) i40 (x := 40) rfl (fun q => hg40 q.2), bd_s, if_pos z00, t_isW1 hT hW s2 (f := 0) (by decide) (w := 10) (by decide) (x := 10) rfl rfl hw10, bd_s, if_neg z10]
          by_cases hd5 : d = 5
          · exact deep hd5 _ _ _ _
          · have hd4 : d < 5 := by omega
            have hp2 : PRE N 0 (a + 1) (a + 1) m c ks ls rs o ar := ⟨⟨by omega, by omega, fun _ => rfl⟩, by decide, p3, by omega, fun _ => ⟨by omega, pw⟩, rfl, rfl⟩
            obtain ⟨r2, f2, i2, a2, m2, c2, ks2, ls2, rs2, o2, ar2, w1, w2, w3⟩ := h hd4 _ _ _ _ _ _ _ _ _ _ hp2
            dsimp only [cF, dF] at w1 w2
            rw [s82 _ _ hd4, s76 _ _ hd4]
            unfold f_X7_readPart_B82 f_X11_takePart_B76 f_X7_readInner f_X7_readInner_B19
            rw [if_pos (show nI 0 = 0 from rfl), if_neg z10, c_not, if_pos (lc_eq.mpr hw10), t_nx hT t2, bd_s]
            dsimp only
            rw [if_neg z10, ← nI_succ, w1, bd_s, if_pos (show nI 0 ≤ 0 from by decide), t_hasW1 hT hW t2 (w := 10) (by decide) (x := 10) rfl hw10, bd_s]
            dsimp only
            rw [if_neg z10, w2, bd_s]
            dsimp only
            obtain ⟨u1, u2, u3, u4, u5, u6⟩ := w3
            have hem := emit_ok o2 ar2 (show c2 < 1100 by have := u1.1.2.1; omega) 3 0
            rw [hem, bd_s]
            dsimp only
            have hadv : ADV N 0 a f2 i2 a2 := ⟨u1.1, u1.2.1, fun q => absurd rfl q, by have := u1.2.2.2; omega⟩
            have hfr : ∀ k, k < 1100 + c → upd o2 (1100 + c2) 3 k = o k ∧ upd ar2 (1100 + c2) 0 k = ar k := by
              intro k hk
              rw [u_n (by omega), u_n (by omega)]
              exact u5 k hk
            by_cases hf2 : f2 = 0
            · obtain ⟨y1, y2, y3, y4, y5, y6⟩ := u6 hf2
              have hi2 := u1.1.1
              rw [y3, show (2 : Int32) = nI 2 from rfl, join_ok ks2 ls2 rs2 (show m2 < 1000 by omega) (nI 2) (show m2 - 1 < m2 by omega) (show m2 - 1 < m2 by omega), bd_s]
              refine ⟨nI m2, f2, i2, a2, m2 + 1, c2 + 1, _, _, _, _, _, rfl, rfl, hadv, by omega, by omega, by omega, hfr, fun _ => ⟨by omega, by omega, by rw [Nat.add_sub_cancel], y4.tr (ext_up _ _ _ _ _ _ _), y5.up (Or.inr (Or.inr ⟨2, m2 - 1, m2 - 1, by omega, by omega, rfl, by omega, by omega, rfl, rfl⟩)), ?_⟩⟩
              have z := y6.nt (z := 0) (r := nI (m2 - 1)) u2
              rw [show 1100 + c + (c2 - c) = 1100 + c2 by omega, show c2 - c + 1 = c2 + 1 - c by omega] at z
              rw [Nat.add_sub_cancel]
              exact z
            · obtain ⟨r3, ks3, ls3, rs3, m3, hm3, hj⟩ := join_any (ks := ks2) (ls := ls2) (rs := rs2) u2 2 r2 r2
              rw [hj, bd_s]
              exact ⟨r3, f2, i2, a2, m3, c2 + 1, ks3, ls3, rs3, _, _, rfl, rfl, hadv, hm3, by omega, by omega, hfr, fun q => absurd q hf2⟩
        · rw [if_neg (fun q => hw10 (lc_eq.mp q))]
          by_cases hg40 : G a = nI 40
          · -- an opening sign
            obtain ⟨t1, t2, t3, t4⟩ := t_S hT s1 i40 hg40
            rw [if_pos (show G a = 40 from hg40)]
            unfold f_X7_readPart_B38 f_X7_readPart_B43 f_X11_takePart_B26
            rw [if_pos rfl, if_pos hU, if_neg z10, hfh, bd_s, if_neg (show ¬ (0 : Int32) ≤ -1 by decide), if_pos z00, t_isS1 hT s2 (f := 0) (by decide) i40 (x := 40) rfl rfl hg40, bd_s, if_neg z10]
            by_cases hd5 : d = 5
            · exact deep hd5 _ _ _ _
            · have hd4 : d < 5 := by omega
              have hp2 : PRE N 0 (a + 1) (a + 1) m c ks ls rs o ar := ⟨⟨by omega, by omega, fun _ => rfl⟩, by decide, p3, by omega, fun _ => ⟨by omega, pw⟩, rfl, rfl⟩
              obtain ⟨r2, f2, i2, a2, m2, c2, ks2, ls2, rs2, o2, ar2, w1, w2, w3⟩ := ag_A hT hW (h hd4) _ _ _ _ _ _ _ _ _ _ hp2
              dsimp only [cF, dF] at w1 w2
              obtain ⟨u1, u2, u3, u4, u5, u6⟩ := w3
              obtain ⟨f3, i3, a3, e1, e2, e3, e4⟩ := rd_sign hT u1.1 u1.2.1 i41 (x := 41) rfl
              rw [s82 _ _ hd4, s76 _ _ hd4]
              unfold f_X7_readPart_B82 f_X11_takePart_B76 f_X7_readInner f_X7_readInner_B19
              rw [if_pos (show nI 0 = 0 from rfl), if_neg z10, c_not, if_neg (fun q => hw10 (lc_eq.mp q)), t_nx hT t2, bd_s]
              dsimp only
              rw [if_pos z00, ← nI_succ, w1, bd_s]
              dsimp only
              rw [e1, bd_s]
              dsimp only
              rw [bd_s, if_pos (show nI 0 ≤ 0 from by decide), t_hasW0 hT hW s2 (f := 0) (by decide) (w := 10) (by decide) (x := 10) rfl (fun q => hw10 q.2), bd_s]
              dsimp only
              rw [if_pos z00, t_hasS1 hT t2 i40 (x := 40) rfl hg40, bd_s]
              dsimp only
              rw [if_neg z10, w2, bd_s]
              dsimp only
              rw [e2, bd_s]
              have g1 := u1.2.2.2
              have g2 := e3.2.2.2
              refine ⟨r2, f3, i3, a3, m2, c2, ks2, ls2, rs2, o2, ar2, rfl, rfl, ⟨e3.1, e3.2.1, fun q => absurd rfl q, by omega⟩, u2, u3, by omega, u5, fun q => ?_⟩
              obtain ⟨y1, y2, y3, y4, y5, y6⟩ := u6 (e3.z q)
              have y7 := (e4 q).2
              exact ⟨by omega, y2, y3, y4, y5, y6⟩
          · -- none of all these
            obtain ⟨u1, u2⟩ := H0 1 (by decide) (by decide)
            rw [if_neg (show ¬ G a = 40 from hg40)]
            unfold f_X7_readPart_B43 f_X11_takePart_B26
            rw [if_pos rfl, if_pos hU, if_pos z00, t_ref hT s1 (f := 0) (by decide) (x := 1) (k := 1) rfl, bd_s, B82 _ u1 u2, hfh, bd_s, if_neg (show ¬ (0 : Int32) ≤ -1 by decide), if_pos z00, t_isS0 hT s2 (f := 0) (by decide) i40 (x := 40) rfl (fun q => hg40 q.2), bd_s, if_pos z00, t_isW0 hT hW s2 (f := 0) (by decide) (w := 10) (by decide) (x := 10) rfl (fun q => hw10 q.2), bd_s, if_pos z00, t_wrg hT s2 (f := 0) (by decide) (x := 1) (k := 1) rfl, bd_s, B76 _ u1 u2]
            exact ⟨-1, _, a, a, m, c, ks, ls, rs, o, ar, rfl, rfl, bad _ u1 u2 (fun q => absurd rfl q)⟩
    · -- a fact
      obtain ⟨t1, t2, t3, t4⟩ := t_W hT s1 x4 x5
      have hlt := x2.lt
      rw [x6] at hfh
      have hw10 : ¬ W a = cw 10 := fun q => by
        have := fh_cw10 (feed := feed) q
        rw [x6] at this
        exact nI_m1 (by omega) this
      have hg40 : ¬ G a = nI 40 := fun q => absurd (q.symm.trans t3) (by decide)
      subst x3
      rw [if_neg (fun q => hw10 (lc_eq.mp q)), if_neg (show ¬ G a = 40 from hg40), if_neg (show ¬ so a = 2 by rw [t1]; decide)]
      unfold f_X7_readPart_B43 f_X11_takePart_B26
      rw [if_neg (show ¬ nI k = -1 from nI_m1 (by omega)), hfh, bd_s, if_pos (show (0 : Int32) ≤ nI j by rw [show (0 : Int32) = nI 0 from rfl, i_le (by decide) (by omega)]; omega)]
      by_cases hd5 : d = 5
      · exact deep hd5 _ _ _ _
      · have hd4 : d < 5 := by omega
        rw [s82 _ _ hd4, s76 _ _ hd4]
        unfold f_X7_readPart_B82 f_X11_takePart_B76 f_X3_addFact
        rw [if_pos (show nI 0 = 0 from rfl), if_pos z00, if_neg (show ¬ nI k = -1 from nI_m1 (by omega)), if_neg (nI_pos (by omega)), if_neg (show ¬ (6 : Int32) ≤ nI k from nI_ge (show k < 6 by omega) (by decide)), add_ok ks ls rs (show m < 1000 by omega), bd_s]
        dsimp only
        rw [bd_s]
        dsimp only
        unfold f_X7_readPart_B133
        rw [t_nx hT t2, bd_s, if_pos (show nI 0 ≤ 0 from by decide), t_hasW0 hT hW s2 (f := 0) (by decide) (w := 10) (by decide) (x := 10) rfl (fun q => hw10 q.2), bd_s]
        dsimp only
        rw [if_pos z00, t_hasS0 hT s2 (f := 0) (by decide) i40 (x := 40) rfl (fun q => hg40 q.2), bd_s]
        dsimp only
        rw [if_pos z00, if_pos z00]
        unfold f_X11_takePart_B144 f_X11_takePart_B162
        rw [if_pos z00, emit_ok o ar (show c < 1100 by omega), bd_s]
        dsimp only
        rw [lt_r, ← nI_succ]
        exact ⟨nI m, 0, a + 1, a + 1, m + 1, c + 1, _, _, _, _, _, rfl, rfl, one t2 1 (nI k) 0 2 (nI j) (Or.inr (Or.inl ⟨rfl, k, hlt.1, rfl⟩)) (XR.fact ks ls rs o ar m (1100 + c) 0 x2)⟩
  · -- a fault stands
    have C72 : ∀ l2 l3 : Int32, f_X7_readPart_B72 crec sg (nI len) fe la (nI f) (nI (A (i))) (nI (P (i))) (W (i)) (U (i)) (G (i)) (E (i)) ks ls rs (nI m) (nI d) l2 l3 = some (-1, nI f, nI (A (i)), nI (P (i)), W (i), U (i), G (i), E (i), ks, ls, rs, nI m) := by
      intro l2 l3
      unfold f_X7_readPart_B72
      rw [t_ref hT s1 (by omega) (x := 5) (k := 5) rfl, rf_keep h0, bd_s, B82 f p2 h0, ite_self]
    have C43 : ∀ l2 l3 : Int32, f_X7_readPart_B43 crec sg (nI len) fe la (nI f) (nI (A (i))) (nI (P (i))) (W (i)) (U (i)) (G (i)) (E (i)) ks ls rs (nI m) (nI d) l2 l3 = some (-1, nI f, nI (A (i)), nI (P (i)), W (i), U (i), G (i), E (i), ks, ls, rs, nI m) := by
      intro l2 l3
      unfold f_X7_readPart_B43
      rw [C72, t_ref hT s1 (by omega) (x := 1) (k := 1) rfl, rf_keep h0, bd_s, B82 f p2 h0, ite_self, ite_self, ite_self]
    unfold f_X7_readPart_b f_X11_takePart_b f_X7_readPart_B38
    rw [x1, bd_s, C43, C43, ite_self, ite_self, if_neg (nI_nle (by omega) (by omega))]
    exact ⟨-1, f, i, a, m, c, ks, ls, rs, o, ar, rfl, rfl, bad f p2 h0 (fun _ => rfl)⟩
theorem part_ag (hT : TKS sg len N so pl va A P W U G E) (hW : HW words) (hF : HF fw gw) (hfl : fl = if feed then 1 else 0) (hfe : la = fe ↔ feed = true) : ∀ (j d g g' : Nat), d + j = 5 → j < g → j < g' → AG N A P W U G E feed (cF (f_X7_readPart g) sg (nI len) fe la (nI d)) (dF (f_X11_takePart g') so pl va words fl fw gw (nI d)) := by
  intro j
  induction j with
  | zero =>
    intro d g g' hd hg hg'
    obtain ⟨g, rfl⟩ : ∃ z, g = z + 1 := ⟨g - 1, by omega⟩
    obtain ⟨g', rfl⟩ : ∃ z, g' = z + 1 := ⟨g' - 1, by omega⟩
    exact part_one (crec := f_X7_readPart g) (drec := f_X11_takePart g') hT hW hF hfl hfe (by omega) (fun q => absurd q (by omega))
  | succ j ih =>
    intro d g g' hd hg hg'
    obtain ⟨g, rfl⟩ : ∃ z, g = z + 1 := ⟨g - 1, by omega⟩
    obtain ⟨g', rfl⟩ : ∃ z, g' = z + 1 := ⟨g' - 1, by omega⟩
    exact part_one (crec := f_X7_readPart g) (drec := f_X11_takePart g') hT hW hF hfl hfe (by omega) (fun _ => ih (d + 1) g g' (by omega) (by omega) (by omega))
/-- a whole expression -/
theorem expr_ag (hT : TKS sg len N so pl va A P W U G E) (hW : HW words) (hF : HF fw gw) (hfl : fl = if feed then 1 else 0) (hfe : la = fe ↔ feed = true) : AG N A P W U G E feed (cF (f_X7_readAll (f_X7_readPart RU)) sg (nI len) fe la 0) (dF (f_X11_all (f_X11_takePart RU)) so pl va words fl fw gw 0) :=
  ag_A hT hW (part_ag hT hW hF hfl hfe 5 0 RU RU rfl (by decide) (by decide))
end EP
