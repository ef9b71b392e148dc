/-! PURE 44: the mountain is read (src/t93.lean through gen/tmpl.py) -/
section MR2
variable {tp fw gw : Nat → Int32} {words : Nat → Int64}
theorem mo_ini (th tz sz at_ ft cd ofl tt : Int32) (so pl op arg mk : Nat → Int32) (va nr : Nat → Int64) : ∀ (r l gg : Nat) (R : Nat → Int32), l + r = 1000 → r < gg → (∀ k, k < l → sh R k = if 50 ≤ k ∧ k < 74 then 1 else 0) →
    ∃ R', f_X11_mountain_L21 tp words fw gw gg th tz sz so pl va at_ ft R op arg cd nr ofl tt mk (nI l) = f_X11_mountain_L79 tp words fw gw FU th tz sz so pl va at_ ft R' op arg cd nr ofl tt mk ∧ (∀ k, k < 1000 → sh R' k = if k = 5 ∨ k = 6 then -1 else if 50 ≤ k ∧ k < 74 then 1 else 0) ∧ ∀ k, k < 1000 ∨ 2000 ≤ k → R' k = R k := by
  intro r
  induction r with
  | zero =>
    intro l gg R hl hg h
    obtain ⟨gg, rfl⟩ : ∃ z, gg = z + 1 := ⟨gg - 1, by omega⟩
    have hl : l = 1000 := by omega
    subst hl
    refine ⟨upd (upd R (1000 + 5) (-1)) (1000 + 6) (-1), ?_, fun k hk => ?_, fun k hk => by rw [u_n (by omega), u_n (by omega)]⟩
    · show f_X11_mountain_L21b _ _ _ _ _ _ _ _ _ _ _ _ _ _ _ _ _ _ _ _ _ _ = _
      unfold f_X11_mountain_L21b
      rw [if_pos (show (1000 : Int32) ≤ nI 1000 by decide), lt_r, lt_r]
    · rw [sh_u, sh_u]
      by_cases q6 : k = 6
      · rw [q6, u_s, if_pos (Or.inr rfl)]
      · rw [u_n q6]
        by_cases q5 : k = 5
        · rw [q5, u_s, if_pos (Or.inl rfl)]
        · rw [u_n q5, if_neg (by omega)]
          exact h k hk
  | succ r ih =>
    intro l gg R hl hg h
    obtain ⟨gg, rfl⟩ : ∃ z, gg = z + 1 := ⟨gg - 1, by omega⟩
    have key : ∀ v : Int32, (v = if 50 ≤ l ∧ l < 74 then 1 else 0) → f_X11_mountain_L21 tp words fw gw (gg + 1) th tz sz so pl va at_ ft R op arg cd nr ofl tt mk (nI l) = f_X11_mountain_L21 tp words fw gw gg th tz sz so pl va at_ ft (upd R (1000 + l) v) op arg cd nr ofl tt mk (nI (l + 1)) → ∃ R', f_X11_mountain_L21 tp words fw gw (gg + 1) th tz sz so pl va at_ ft R op arg cd nr ofl tt mk (nI l) = f_X11_mountain_L79 tp words fw gw FU th tz sz so pl va at_ ft R' op arg cd nr ofl tt mk ∧ (∀ k, k < 1000 → sh R' k = if k = 5 ∨ k = 6 then -1 else if 50 ≤ k ∧ k < 74 then 1 else 0) ∧ ∀ k, k < 1000 ∨ 2000 ≤ k → R' k = R k := by
      intro v hv hs
      obtain ⟨R', a1, a2, a3⟩ := ih (l + 1) gg (upd R (1000 + l) v) (by omega) (by omega) (fun k hk => by
        rw [sh_u]
        by_cases q : k = l
        · rw [q, u_s]; exact hv
        · rw [u_n q]; exact h k (by omega))
      exact ⟨R', hs.trans a1, a2, fun k hk => by rw [a3 k hk, u_n (by omega)]⟩
    have b54 : ∀ v : Int32, f_X11_mountain_B54 (f_X11_mountain_L21 tp words fw gw gg) tp words fw gw th tz sz so pl va at_ ft R op arg cd nr ofl tt mk (nI l) v (1000 + nI l) = f_X11_mountain_L21 tp words fw gw gg th tz sz so pl va at_ ft (upd R (1000 + l) v) op arg cd nr ofl tt mk (nI (l + 1)) := by
      intro v
      unfold f_X11_mountain_B54
      rw [show (1000 : Int32) = nI 1000 from rfl, i_add, g_nI (by omega) (by decide), lt_r, lt_r, ix_nI (by omega), ← nI_succ]
    have hh : f_X11_mountain_L21 tp words fw gw (gg + 1) th tz sz so pl va at_ ft R op arg cd nr ofl tt mk (nI l) = if nI l < 50 then f_X11_mountain_L21 tp words fw gw gg th tz sz so pl va at_ ft (upd R (1000 + l) 0) op arg cd nr ofl tt mk (nI (l + 1)) else if 74 ≤ nI l then f_X11_mountain_L21 tp words fw gw gg th tz sz so pl va at_ ft (upd R (1000 + l) 0) op arg cd nr ofl tt mk (nI (l + 1)) else f_X11_mountain_L21 tp words fw gw gg th tz sz so pl va at_ ft (upd R (1000 + l) 1) op arg cd nr ofl tt mk (nI (l + 1)) := by
      show f_X11_mountain_L21b _ _ _ _ _ _ _ _ _ _ _ _ _ _ _ _ _ _ _ _ _ _ = _
      unfold f_X11_mountain_L21b f_X11_mountain_B53
      rw [if_neg (show ¬ (1000 : Int32) ≤ nI l from nI_ge (show l < 1000 by omega) (by decide)), b54, b54]
    have c1 : (nI l < 50) ↔ l < 50 := by rw [show (50 : Int32) = nI 50 from rfl, i_lt (by omega) (by decide)]
    have c2 : (74 ≤ nI l) ↔ 74 ≤ l := by rw [show (74 : Int32) = nI 74 from rfl, i_le (by decide) (by omega)]
    by_cases q1 : l < 50
    · exact key 0 (by rw [if_neg (by omega)]) (by rw [hh, if_pos (c1.mpr q1)])
    · by_cases q2 : 74 ≤ l
      · exact key 0 (by rw [if_neg (by omega)]) (by rw [hh, if_neg (fun z => q1 (c1.mp z)), if_pos (c2.mpr q2)])
      · exact key 1 (by rw [if_pos (by omega)]) (by rw [hh, if_neg (fun z => q1 (c1.mp z)), if_neg (fun z => q2 (c2.mp z))])
theorem mo_cp (th tz sz at_ ft ofl tt : Int32) (so pl R mk : Nat → Int32) (va nr : Nat → Int64) {c : Nat} (hc : c ≤ 1000) : ∀ (r l gg : Nat) (op arg : Nat → Int32), l + r = c → r < gg →
    ∃ op' arg', f_X11_mountain_L131 tp words fw gw gg th tz sz so pl va at_ ft R op arg (nI c) nr ofl tt mk (nI l) = f_X11_mountain_L179 tp words fw gw FU th tz sz so pl va at_ ft R op' arg' (nI c) nr ofl tt mk 0 ∧ (∀ k, l ≤ k → k < c → op' k = op (1100 + k) ∧ arg' k = arg (1100 + k)) ∧ ∀ k, k < l ∨ c ≤ k → op' k = op k ∧ arg' k = arg k := by
  intro r
  induction r with
  | zero =>
    intro l gg op arg hl hg
    obtain ⟨gg, rfl⟩ : ∃ z, gg = z + 1 := ⟨gg - 1, by omega⟩
    have hl : l = c := by omega
    subst hl
    refine ⟨op, arg, ?_, fun k h1 h2 => by omega, fun _ _ => ⟨rfl, rfl⟩⟩
    show f_X11_mountain_L131b _ _ _ _ _ _ _ _ _ _ _ _ _ _ _ _ _ _ _ _ _ _ = _
    unfold f_X11_mountain_L131b
    rw [if_pos (nI_le (Nat.le_refl _) (by omega))]
  | succ r ih =>
    intro l gg op arg hl hg
    obtain ⟨gg, rfl⟩ : ∃ z, gg = z + 1 := ⟨gg - 1, by omega⟩
    obtain ⟨op', arg', a1, a2, a3⟩ := ih (l + 1) gg (upd op l (op (1100 + l))) (upd arg l (arg (1100 + l))) (by omega) (by omega)
    refine ⟨op', arg', ?_, fun k h1 h2 => ?_, fun k hk => ?_⟩
    · rw [← a1]
      show f_X11_mountain_L131b _ _ _ _ _ _ _ _ _ _ _ _ _ _ _ _ _ _ _ _ _ _ = _
      unfold f_X11_mountain_L131b
      rw [if_neg (nI_ge (by omega) (by omega)), show (1100 : Int32) = nI 1100 from rfl, i_add, g_nI (by omega) (by decide), g_nI (by omega) (by decide), lt_r, g_nI (by omega) (by decide), g_nI (by omega) (by decide), lt_r, lt_r, ix_nI (by omega), ix_nI (by omega), ← nI_succ]
    · by_cases q : k = l
      · subst q
        rw [(a3 k (by omega)).1, (a3 k (by omega)).2, u_s, u_s]
        exact ⟨rfl, rfl⟩
      · rw [(a2 k (by omega) h2).1, (a2 k (by omega) h2).2, u_n (by omega), u_n (by omega)]
        exact ⟨rfl, rfl⟩
    · rw [(a3 k (by omega)).1, (a3 k (by omega)).2, u_n (by omega), u_n (by omega)]
      exact ⟨rfl, rfl⟩
theorem mo_mk (th tz sz at_ ft cd ofl tt : Int32) (so pl R op arg : Nat → Int32) (va nr : Nat → Int64) : ∀ (r l gg : Nat) (mk : Nat → Int32), l + r = 4 → r < gg → (∀ k, k < l → mk k = 0) →
    ∃ mk', f_X11_mountain_L179 tp words fw gw gg th tz sz so pl va at_ ft R op arg cd nr ofl tt mk (nI l) = some (0, th, tz, sz, so, pl, va, at_, ft, R, op, arg, cd, nr, ofl, tt, mk') ∧ ∀ k, k < 4 → mk' k = 0 := by
  intro r
  induction r with
  | zero =>
    intro l gg mk hl hg h
    obtain ⟨gg, rfl⟩ : ∃ z, gg = z + 1 := ⟨gg - 1, by omega⟩
    have hl : l = 4 := by omega
    subst hl
    refine ⟨mk, ?_, h⟩
    show f_X11_mountain_L179b _ _ _ _ _ _ _ _ _ _ _ _ _ _ _ _ _ _ _ _ _ _ = _
    unfold f_X11_mountain_L179b
    rw [if_pos (show (4 : Int32) ≤ nI 4 by decide)]
  | succ r ih =>
    intro l gg mk hl hg h
    obtain ⟨gg, rfl⟩ : ∃ z, gg = z + 1 := ⟨gg - 1, by omega⟩
    obtain ⟨mk', a1, a2⟩ := ih (l + 1) gg (upd mk l 0) (by omega) (by omega) (fun k hk => by
      by_cases q : k = l
      · rw [q, u_s]
      · rw [u_n q]; exact h k (by omega))
    refine ⟨mk', ?_, a2⟩
    rw [← a1]
    show f_X11_mountain_L179b _ _ _ _ _ _ _ _ _ _ _ _ _ _ _ _ _ _ _ _ _ _ = _
    unfold f_X11_mountain_L179b
    rw [if_neg (show ¬ (4 : Int32) ≤ nI l from nI_ge (show l < 4 by omega) (by decide)), g_nI (by omega) (by decide), lt_r, lt_r, ix_nI (by omega), ← nI_succ]
    rfl
theorem e_b57 {sg : Nat → Int32} {len : Int32} (fe ga lw : Nat) (ft t1 t2 : Int32) (t3 : Int64) (t4 t5 t6 : Int32) (n : Nat) (fc shc : Int32) (nc : Nat → Int64) (fo dg hu fd he pa pt of : Nat → Int32) (td : Int32) (fek fel fer : Nat → Int32) (fes : Int32) (gok gol gor : Nat → Int32) (gos : Int32) : ∃ (fek' fel' fer' : Nat → Int32) (fes' : Int32) (gok' gol' gor' : Nat → Int32) (gos' : Int32), f_X7_read_B57 sg len fe ga lw ft t1 t2 t3 t4 t5 t6 (nI n) fc shc nc fo dg hu fd he pa pt of td fek fel fer fes gok gol gor gos = some (ft, lw, ft, t1, t2, t3, t4, t5, t6, nI n, fc, shc, nc, fo, dg, hu, fd, he, pa, pt, of, td, fek', fel', fer', fes', gok', gol', gor', gos') ∧
    ((fes ≠ 0 ∧ fek' = fek ∧ fel' = fel ∧ fer' = fer ∧ fes' = fes) ∨ (fes = 0 ∧ fek' = upd fek 0 0 ∧ fel' = upd fel 0 0 ∧ fes' = nI 1)) ∧ ((gos ≠ 0 ∧ gok' = gok ∧ gol' = gol ∧ gor' = gor ∧ gos' = gos) ∨ (gos = 0 ∧ gok' = upd gok 0 1 ∧ gol' = upd gol 0 0 ∧ gos' = nI 1)) := by
  have b76 : ∀ (fek fel fer : Nat → Int32) (fes : Int32), ∃ (gok' gol' gor' : Nat → Int32) (gos' : Int32), f_X7_read_B76 sg len fe ga lw ft t1 t2 t3 t4 t5 t6 (nI n) fc shc nc fo dg hu fd he pa pt of td fek fel fer fes gok gol gor gos = some (ft, lw, ft, t1, t2, t3, t4, t5, t6, nI n, fc, shc, nc, fo, dg, hu, fd, he, pa, pt, of, td, fek, fel, fer, fes, gok', gol', gor', gos') ∧ ((gos ≠ 0 ∧ gok' = gok ∧ gol' = gol ∧ gor' = gor ∧ gos' = gos) ∨ (gos = 0 ∧ gok' = upd gok 0 1 ∧ gol' = upd gol 0 0 ∧ gos' = nI 1)) := by
    intro fek fel fer fes
    by_cases h : gos = 0
    · subst h
      refine ⟨upd gok 0 1, upd gol 0 0, upd gor 0 0, nI 1, ?_, Or.inr ⟨rfl, rfl, rfl, rfl⟩⟩
      unfold f_X7_read_B76 f_X3_addFact
      have ha := add_ok gok gol gor (show 0 < 1000 by decide) 1 0 0
      have ha : f_X3_add gok gol gor 0 1 0 0 = _ := ha
      rw [if_pos z00, if_neg (show ¬ (0 : Int32) < 0 by decide), if_neg (show ¬ (6 : Int32) ≤ 0 by decide), ha, bd_s]
      rfl
    · refine ⟨gok, gol, gor, gos, ?_, Or.inl ⟨h, rfl, rfl, rfl, rfl⟩⟩
      unfold f_X7_read_B76
      rw [if_neg h]
  by_cases h : fes = 0
  · subst h
    obtain ⟨gok', gol', gor', gos', e1, e2⟩ := b76 (upd fek 0 0) (upd fel 0 0) (upd fer 0 0) (nI 1)
    refine ⟨upd fek 0 0, upd fel 0 0, upd fer 0 0, nI 1, gok', gol', gor', gos', ?_, Or.inr ⟨rfl, rfl, rfl, rfl⟩, e2⟩
    rw [← e1]
    unfold f_X7_read_B57 f_X3_addNumber
    have ha := add_ok fek fel fer (show 0 < 1000 by decide) 0 0 0
    have ha : f_X3_add fek fel fer 0 0 0 0 = _ := ha
    rw [if_pos z00, ha, bd_s]
    rfl
  · obtain ⟨gok', gol', gor', gos', e1, e2⟩ := b76 fek fel fer fes
    refine ⟨fek, fel, fer, fes, gok', gol', gor', gos', ?_, Or.inl ⟨h, rfl, rfl, rfl, rfl⟩, e2⟩
    rw [← e1]
    unfold f_X7_read_B57
    rw [if_neg h]
theorem rs_z {g : Nat → Nat} (h : ∀ a, a < 6 → g a = 0) : ∀ k, k ≤ 6 → rs g k = 0
  | 0, _ => rfl
  | k + 1, hk => by
    show rs g k + g k = 0
    rw [rs_z h k (by omega), h k (by omega)]
theorem tri_z {g : Nat → Nat → Nat} (h : ∀ a e, a < 6 → e < 6 → g a e = 0) : ∀ k, k ≤ 6 → tri g k = 0
  | 0, _ => rfl
  | k + 1, hk => by
    show tri g k + rs (g k) k = 0
    rw [tri_z h k (by omega), rs_z (fun a ha => h k a (by omega) ha) k (by omega)]
theorem Mk_0 {p : Nat → Bool} (h : ∀ e, e < 6 → p e = false) : Mk 0 p := ⟨0, by decide, rfl, fun e he => by rw [Nat.zero_testBit, h e he]⟩
/-- the mountain, at both -/
theorem op_read {sg : Nat → Int32} {len : Nat} (hRT : RT sg tp len) (hW : HW words) (hF : HF fw gw) {fe ga : Nat} (hfg : ga ≠ fe) (lw : Nat) (ft0 t1 t2 : Int32) (t3 : Int64) (t4 t5 t6 : Int32) (fa : Int32) (n : Nat) (fc shc : Int32) (nc : Nat → Int64) (fo dg hu fd he pa pt of : Nat → Int32) (td : Int32) (fek fel fer : Nat → Int32) (fes : Int32) (gok gol gor : Nat → Int32) (gos : Int32) (th sz at_ ft cd ofl tt : Int32) (so pl R op arg mk : Nat → Int32) (va nr : Nat → Int64) :
    ∃ (f' i' c' lw' : Nat) (s1 s2 : Int32) (s3 : Int64) (s4 s5 s6 : Int32) (n' : Nat) (fc' shc' : Int32) (nc' : Nat → Int64) (fo' dg' hu' fd' he' pa' pt' of' : Nat → Int32) (td' : Int32) (fek' fel' fer' : Nat → Int32) (fes' : Int32) (gok' gol' gor' : Nat → Int32) (gos' : Int32) (at' cd' ofl' tt' : Int32) (so' pl' R' op' arg' mk' : Nat → Int32) (va' nr' : Nat → Int64),
      f_X7_read sg (nI len) lw ft0 t1 t2 t3 t4 t5 t6 fa fc shc nc fo dg hu fd he pa pt of td fek fel fer fes gok gol gor gos fe ga = some (nI f', lw', nI f', s1, s2, s3, s4, s5, s6, nI n', fc', shc', nc', fo', dg', hu', fd', he', pa', pt', of', td', fek', fel', fer', fes', gok', gol', gor', gos') ∧
      f_X11_mountain tp words fw gw th (nI len) sz so pl va at_ ft R op arg cd nr ofl tt mk = some (nI f', 0, 0, nI len, so', pl', va', at', nI f', R', op', arg', cd', nr', ofl', tt', mk') ∧ f' ≤ 20000 ∧
      (f' ≠ 0 → (∀ k, k < 1000 ∨ 2000 ≤ k → R' k = R k) ∧ (∀ k, k < 1100 → op' k = op k ∧ arg' k = arg k) ∧ mk' = mk) ∧
      (f' = 0 → (∀ k, 2000 ≤ k → R' k = R k) ∧ (∀ k, k < 4 → mk' k = 0) ∧ RLs R' op' arg' fek' fel' fer' fes' gok' gol' gor' gos' ∧
        ∀ (X : Nat) (v1 v2 v3 v4 v5 v6 v7 kept feuds bites : Nat → Int32), X < 2 ^ 31 → RMo R' n' dg' fd' he' pt' of' ∧ RVa R' n' 0 0 (va_cpy fo' v1 0 0 6) (va_cpy hu' v2 0 0 6) (fl_ v3 6 0) (fl_ v4 6 0) (fl_ v5 6 0) (va_cpy pa' v6 0 0 6) ∧ RLe n' (-1) (fl_ v7 6 (-1)) ∧ RBo true X R' kept (fl_ feuds 36 0) 0 0 ∧ RBi R' bites 0 ∧ RSy R' n' ∧ RCn R' n' fc' shc') := by
  obtain ⟨N, A, P, W, U, G, E, so', pl', va', hcut, hCN, hT⟩ := tok_all hRT so pl va at_ ft sz
  have hN := hT.1
  obtain ⟨R1, hini, hT1, hfr1⟩ := mo_ini (tp := tp) (words := words) (fw := fw) (gw := gw) 0 0 (nI len) 0 0 0 ofl 0 so' pl' op arg mk va' nr 1000 0 FU R (by omega) (by decide) (fun k hk => absurd hk (by omega))
  have tz : ∀ k, k < 1000 → k ≠ 5 → k ≠ 6 → ¬ (50 ≤ k ∧ k < 74) → sh R1 k = 0 := fun k h1 h2 h3 h4 => by rw [hT1 k h1, if_neg (by omega), if_neg h4]
  have hD : DR (sh R1) op arg 0 0 nr 0 0 0 nc fo dg hu (fl_ fd 6 0) he (fl_ pa 6 0) (fl_ pt 6 (-1)) (fl_ of 24 1) fek fel fer 0 gok gol gor 0 := by
    refine ⟨⟨by decide, tz 0 (by decide) (by decide) (by decide) (by decide), fun k hk => absurd hk (by omega), fun f hf => absurd hf (by omega)⟩, ⟨fun f hf => Or.inl ⟨tz _ (by omega) (by omega) (by omega) (by omega), fl_in _ _ hf⟩, ?_⟩, fun f k hf hk => ?_, ⟨fun a ha => ?_, fun a e ha he => Or.inl (tz _ (by omega) (by omega) (by omega) (by omega)), fun a e ha he => by rw [tz _ (by omega) (by omega) (by omega) (by omega), tz _ (by omega) (by omega) (by omega) (by omega)]⟩, ⟨fun a ha => ?_, fun a e ha he => Or.inl (tz _ (by omega) (by omega) (by omega) (by omega)), fun a e ha he => by rw [tz _ (by omega) (by omega) (by omega) (by omega), tz _ (by omega) (by omega) (by omega) (by omega)]⟩, ?_, fun k h1 h2 => ?_, Nat.le_refl _, Or.inl ⟨by rw [hT1 5 (by decide)]; rfl, rfl⟩, Or.inl ⟨by rw [hT1 6 (by decide)]; rfl, rfl⟩⟩
    · rw [rs_z (fun a ha => by
        show c01 (sh R1 (14 + 7 * a)) = 0
        rw [tz _ (by omega) (by omega) (by omega) (by omega)]
        unfold c01
        rw [if_pos (by decide)]) 6 (Nat.le_refl _)]
      rfl
    · have h1 : sh R1 (50 + 4 * f + k) = 1 := by rw [hT1 _ (by omega), if_neg (by omega), if_pos (by omega)]
      rw [h1, fl_in _ _ (by omega)]
      exact ⟨rfl, 1, by decide, rfl⟩
    · rw [fl_in _ _ ha]
      exact Mk_0 (fun e he => decide_eq_false (fun q => q (tz _ (by omega) (by omega) (by omega) (by omega))))
    · rw [fl_in _ _ ha]
      exact Mk_0 (fun e he => decide_eq_false (fun q => q (tz _ (by omega) (by omega) (by omega) (by omega))))
    · unfold DC
      rw [tri_z (fun a e ha he => by
        show c01 (sh R1 (74 + 6 * a + e)) = 0
        rw [tz _ (by omega) (by omega) (by omega) (by omega)]
        unfold c01
        rw [if_pos (by decide)]) 6 (Nat.le_refl _)]
      rfl
    · unfold zc at h2
      exact tz k h1 (by omega) (by omega) (by omega)
  obtain ⟨f', i', a', c', lw', ofl', tt', n', fc', shc', nc', fo', dg', hu', fd', he', pa', pt', of', td', fek', fel', fer', fes', gok', gol', gor', gos', nr', o', ar', R', x1, x2, x3, x4, x5, x6, x7⟩ := ln_all hT hW hF hfg tp 0 0 (nI len) mk 1000 0 FU FU 0 R1 op arg 0 nr 0 0 0 nc fo dg hu (fl_ fd 6 0) he (fl_ pa 6 0) (fl_ pt 6 (-1)) (fl_ of 24 1) 0 fek fel fer 0 gok gol gor 0 lw ofl (by omega) (by decide) (by decide) (by omega) (Nat.le_refl _) hD
  obtain ⟨fek2, fel2, fer2, fes2, gok2, gol2, gor2, gos2, b1, b2, b3⟩ := e_b57 (sg := sg) (len := nI len) fe ga lw' (nI f') (nI (A i')) (nI (P i')) (W i') (U i') (G i') (E i') n' fc' shc' nc' fo' dg' hu' fd' he' pa' pt' of' td' fek' fel' fer' fes' gok' gol' gor' gos'
  have hcls : f_X7_read sg (nI len) lw ft0 t1 t2 t3 t4 t5 t6 fa fc shc nc fo dg hu fd he pa pt of td fek fel fer fes gok gol gor gos fe ga = some (nI f', lw', nI f', nI (A i'), nI (P i'), W i', U i', G i', E i', nI n', fc', shc', nc', fo', dg', hu', fd', he', pa', pt', of', td', fek2, fel2, fer2, fes2, gok2, gol2, gor2, gos2) := by
    unfold f_X7_read f_X5_clear f_X8_start f_X3_clear
    have hCN : ∀ p w u g e, f_X8_next sg (nI len) 0 p w u g e = some (nI (A 0), nI (P 0), W 0, U 0, G 0, E 0) := hCN
    simp only [bd_s, lt_r, hCN]
    exact x1.trans b1
  have hrf : f_X11_mountain tp words fw gw th (nI len) sz so pl va at_ ft R op arg cd nr ofl tt mk = f_X11_mountain_B111 tp words fw gw 0 0 (nI len) so' pl' va' (nI a') (nI f') R' o' ar' (nI c') nr' ofl' tt' mk := by
    unfold f_X11_mountain
    rw [hcut, bd_s]
    exact hini.trans x2
  by_cases h0 : f' = 0
  · subst h0
    have hD2 := x7 rfl
    have hc' : c' ≤ i' := hD2.2.2.2.2.2.2.2.1
    have hc1000 : c' ≤ 1000 := by omega
    obtain ⟨op', arg', y1, y2, y3⟩ := mo_cp (tp := tp) (words := words) (fw := fw) (gw := gw) 0 0 (nI len) (nI a') (nI 0) ofl' tt' so' pl' (cr R' 1 0) mk va' nr' hc1000 c' 0 FU o' ar' (by omega) (by show c' < 5000; omega)
    obtain ⟨mk', y4, y5⟩ := mo_mk (tp := tp) (words := words) (fw := fw) (gw := gw) 0 0 (nI len) (nI a') (nI 0) (nI c') ofl' tt' so' pl' (cr R' 1 0) op' arg' va' nr' 4 0 FU mk (by omega) (by decide) (fun k hk => absurd hk (by omega))
    refine ⟨0, i', c', lw', nI (A i'), nI (P i'), W i', U i', G i', E i', n', fc', shc', nc', fo', dg', hu', fd', he', pa', pt', of', td', fek2, fel2, fer2, fes2, gok2, gol2, gor2, gos2, nI a', nI c', ofl', tt', so', pl', cr R' 1 0, op', arg', mk', va', nr', hcls, ?_, by decide, fun q => absurd rfl q, fun _ => ⟨fun k hk => ?_, y5, ?_, fun X v1 v2 v3 v4 v5 v6 v7 kept feuds bites hX => mo_end hD2 (by omega) X hX v1 v2 v3 v4 v5 v6 v7 kept feuds bites⟩⟩
    · rw [hrf]
      unfold f_X11_mountain_B111
      have hca : f_X11_carry R' 1 0 = some (cr R' 1 0) := e_carry (a := 1) (b := 0) (by decide) (by decide) (by decide) R'
      rw [if_pos (show nI 0 ≤ 0 by decide), hca, bd_s]
      exact y1.trans y4
    · rw [ch_hi (by omega), x5 k (by omega), hfr1 k (by omega)]
    · obtain ⟨-, -, -, -, -, -, -, -, l1, l2⟩ := hD2
      refine rl_of hc1000 (o := o') (ar := ar') (c := c') (by rw [ch_lo (by decide)]; exact l1) (by rw [ch_lo (by decide)]; exact l2) b2 b3 (fun k hk => y2 k (by omega) hk)
  · refine ⟨f', i', c', lw', nI (A i'), nI (P i'), W i', U i', G i', E i', n', fc', shc', nc', fo', dg', hu', fd', he', pa', pt', of', td', fek2, fel2, fer2, fes2, gok2, gol2, gor2, gos2, nI a', nI c', ofl', tt', so', pl', R', o', ar', mk, va', nr', hcls, ?_, x3, fun _ => ⟨fun k hk => by rw [x5 k hk, hfr1 k hk], x6, rfl⟩, fun q => absurd q h0⟩
    rw [hrf]
    unfold f_X11_mountain_B111
    rw [if_neg (nI_nle (by omega) (by omega))]
end MR2
