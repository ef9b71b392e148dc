/-! PURE 35: expressions, their frame (src/t84.lean through gen/tmpl.py) -/
def PRE (N : Nat) (f i a m c : Nat) (ks ls rs o ar : Nat → Int32) : Prop := SR N f i a ∧ f ≤ 20000 ∧ m ≤ 1000 ∧ c ≤ a ∧ (f = 0 → m ≤ i ∧ WFs ks ls rs m) ∧ o = o ∧ ar = ar
def PST (N : Nat) (feed : Bool) (f i a m c : Nat) (ks ls rs o ar : Nat → Int32) (r : Int32) (f' i' a' m' c' : Nat) (ks' ls' rs' o' ar' : Nat → Int32) : Prop := ADV N f a f' i' a' ∧ m' ≤ 1000 ∧ c ≤ c' ∧ c' + a ≤ c + a' ∧ (∀ k, k < 1100 + c → o' k = o k ∧ ar' k = ar k) ∧ (f' = 0 → m' + i ≤ m + i' ∧ m + 1 ≤ m' ∧ r = nI (m' - 1) ∧ EXT ks ls rs m ks' ls' rs' m' ∧ WFs ks' ls' rs' m' ∧ XR feed ks' ls' rs' m' (m' - 1) o' ar' (1100 + c) (c' - c))
section EX
variable {N : Nat} {feed : Bool} {f0 i0 a0 m0 c0 : Nat} {ks0 ls0 rs0 o0 ar0 : Nat → Int32} {f1 i1 a1 m1 c1 : Nat} {ks1 ls1 rs1 o1 ar1 : Nat → Int32} {f2 i2 a2 m2 c2 : Nat} {ks2 ls2 rs2 o2 ar2 : Nat → Int32} {r r1 r2 : Int32}
theorem PRE.nx (hp : PRE N f0 i0 a0 m0 c0 ks0 ls0 rs0 o0 ar0) (h : PST N feed f0 i0 a0 m0 c0 ks0 ls0 rs0 o0 ar0 r f1 i1 a1 m1 c1 ks1 ls1 rs1 o1 ar1) : PRE N f1 i1 a1 m1 c1 ks1 ls1 rs1 o1 ar1 := by
  obtain ⟨p1, p2, p3, p4, p5, -⟩ := hp
  obtain ⟨q1, q2, q3, q4, q5, q6⟩ := h
  refine ⟨q1.1, q1.2.1, q2, by omega, fun h0 => ?_, rfl, rfl⟩
  obtain ⟨s1, s2, s3, s4, s5, s6⟩ := q6 h0
  have := p5 (q1.z h0)
  exact ⟨by omega, s5⟩
theorem join_any {ks ls rs : Nat → Int32} {m : Nat} (hm : m ≤ 1000) (kd x y : Int32) : ∃ (r : Int32) (ks' ls' rs' : Nat → Int32) (m' : Nat), m' ≤ 1000 ∧ f_X3_join ks ls rs (nI m) kd x y = some (r, ks', ls', rs', nI m') := by
  have h0 : ∃ (r : Int32) (ks' ls' rs' : Nat → Int32) (m' : Nat), m' ≤ 1000 ∧ f_X3_join_B29 ks ls rs (nI m) kd x y 0 = some (r, ks', ls', rs', nI m') := ⟨-1, ks, ls, rs, m, hm, by unfold f_X3_join_B29; rw [if_pos rfl]⟩
  have h1 : ∃ (r : Int32) (ks' ls' rs' : Nat → Int32) (m' : Nat), m' ≤ 1000 ∧ f_X3_join_B29 ks ls rs (nI m) kd x y 1 = some (r, ks', ls', rs', nI m') := by
    unfold f_X3_join_B29 f_X3_add
    rw [if_neg z10, show (1000 : Int32) = nI 1000 from rfl, ifl (by omega) (by decide)]
    by_cases q : m < 1000
    · rw [if_pos q, g_nI q (by decide), lt_r, g_nI q (by decide), lt_r, g_nI q (by decide), lt_r, lt_r, ← nI_succ, bd_s]
      exact ⟨_, _, _, _, m + 1, by omega, rfl⟩
    · rw [if_neg q, bd_s]
      exact ⟨_, _, _, _, m, by omega, rfl⟩
  unfold f_X3_join f_X3_join_B28
  split
  · exact h0
  · split
    · exact h0
    · split
      · exact h0
      · split
        · exact h0
        · exact h1
theorem add_ok {m : Nat} (ks ls rs : Nat → Int32) (hm : m < 1000) (kd x y : Int32) : f_X3_add ks ls rs (nI m) kd x y = some (nI m, upd ks m kd, upd ls m x, upd rs m y, nI (m + 1)) := by
  unfold f_X3_add
  rw [show (1000 : Int32) = nI 1000 from rfl, ifl (by omega) (by decide), if_pos hm, g_nI hm (by decide), lt_r, g_nI hm (by decide), lt_r, g_nI hm (by decide), lt_r, lt_r, ix_nI (by omega), ← nI_succ, nI_pred]
theorem join_ok {m x y : Nat} (ks ls rs : Nat → Int32) (hm : m < 1000) (kd : Int32) (hx : x < m) (hy : y < m) : f_X3_join ks ls rs (nI m) kd (nI x) (nI y) = some (nI m, upd ks m kd, upd ls m (nI x), upd rs m (nI y), nI (m + 1)) := by
  unfold f_X3_join f_X3_join_B29
  rw [if_neg (nI_pos (by omega)), if_neg (nI_ge hx (by omega)), if_neg (nI_pos (by omega)), if_neg (nI_ge hy (by omega)), if_neg z10, add_ok ks ls rs hm, bd_s]
theorem emit_ok {c : Nat} (o ar : Nat → Int32) (hc : c < 1100) (x y : Int32) : f_X11_emit o ar (nI c) x y = some (upd o (1100 + c) x, upd ar (1100 + c) y, nI (c + 1)) := by
  unfold f_X11_emit
  rw [show (1100 : Int32) = nI 1100 from rfl, i_add, g_nI (by omega) (by decide), lt_r, g_nI (by omega) (by decide), lt_r, lt_r, ix_nI (by omega), ← nI_succ]
/-- a sign between two -/
theorem bin_ok (hN : N ≤ 1000) (hp : PRE N f0 i0 a0 m0 c0 ks0 ls0 rs0 o0 ar0) (h1 : PST N feed f0 i0 a0 m0 c0 ks0 ls0 rs0 o0 ar0 r1 f1 i1 a1 m1 c1 ks1 ls1 rs1 o1 ar1) (hf1 : f1 = 0) (hi1 : i1 < N) (h2 : PST N feed 0 (i1 + 1) (i1 + 1) m1 c1 ks1 ls1 rs1 o1 ar1 r2 f2 i2 a2 m2 c2 ks2 ls2 rs2 o2 ar2) {k cc : Nat} (hk : KC k cc) : ∃ (r3 : Int32) (ks3 ls3 rs3 : Nat → Int32) (m3 : Nat) (o3 ar3 : Nat → Int32), f_X3_join ks2 ls2 rs2 (nI m2) (nI k) r1 r2 = some (r3, ks3, ls3, rs3, nI m3) ∧ f_X11_emit o2 ar2 (nI c2) (nI cc) 0 = some (o3, ar3, nI (c2 + 1)) ∧ PST N feed f0 i0 a0 m0 c0 ks0 ls0 rs0 o0 ar0 r3 f2 i2 a2 m3 (c2 + 1) ks3 ls3 rs3 o3 ar3 := by
  obtain ⟨p1, p2, p3, p4, p5, -⟩ := hp
  obtain ⟨q1, q2, q3, q4, q5, q6⟩ := h1
  obtain ⟨t1, t2, t3, t4, t5, t6⟩ := h2
  have hf0 : f0 = 0 := q1.z hf1
  have ha1 : a1 = i1 := q1.1.2.2 hf1
  have ha2 := t1.1.2.1
  obtain ⟨s1, s2, s3, s4, s5, s6⟩ := q6 hf1
  have hadv : ADV N f0 a0 f2 i2 a2 := ⟨t1.1, t1.2.1, fun h => absurd hf0 h, by have := t1.2.2.2; have := q1.2.2.2; omega⟩
  have hem := emit_ok o2 ar2 (show c2 < 1100 by omega) (nI cc) 0
  have hfr : ∀ k, k < 1100 + c0 → upd o2 (1100 + c2) (nI cc) k = o0 k ∧ upd ar2 (1100 + c2) 0 k = ar0 k := by
    intro k hk
    rw [u_n (by omega), u_n (by omega)]
    have e1 := q5 k hk
    have e2 := t5 k (by omega)
    exact ⟨e2.1.trans e1.1, e2.2.trans e1.2⟩
  by_cases h0 : f2 = 0
  · obtain ⟨v1, v2, v3, v4, v5, v6⟩ := t6 h0
    obtain ⟨k1, k2, k3, k4, k5⟩ := hk.k
    have hi0 := (p5 hf0).1
    have hi2 := t1.1.1
    have hm2 : m2 < 1000 := by omega
    refine ⟨nI m2, upd ks2 m2 (nI k), upd ls2 m2 (nI (m1 - 1)), upd rs2 m2 (nI (m2 - 1)), m2 + 1, upd o2 (1100 + c2) (nI cc), upd ar2 (1100 + c2) 0, ?_, hem, hadv, by omega, by omega, by omega, hfr, fun _ => ⟨by omega, by omega, by rw [Nat.add_sub_cancel], ?_, ?_, ?_⟩⟩
    · rw [s3, v3]
      exact join_ok ks2 ls2 rs2 hm2 (nI k) (by omega) (by omega)
    · exact (s4.tr v4).tr (ext_up _ _ _ _ _ _ _)
    · exact v5.up (Or.inr (Or.inr ⟨k, m1 - 1, m2 - 1, by omega, by omega, rfl, by omega, by omega, rfl, rfl⟩))
    · have x1 : XR feed ks2 ls2 rs2 m2 (m1 - 1) o2 ar2 (1100 + c0) (c1 - c0) := s6.ext v4 (fun k hk => t5 k (by omega))
      have x2 : XR feed ks2 ls2 rs2 m2 (m2 - 1) o2 ar2 ((1100 + c0) + (c1 - c0)) (c2 - c1) := by
        rw [show (1100 + c0) + (c1 - c0) = 1100 + c1 by omega]
        exact v6
      have x3 := x1.bin x2 t2 hk (z := 0)
      rw [show 1100 + c0 + (c1 - c0) + (c2 - c1) = 1100 + c2 by omega, show c1 - c0 + (c2 - c1) + 1 = c2 + 1 - c0 by omega] at x3
      rw [Nat.add_sub_cancel]
      exact x3
  · obtain ⟨r3, ks3, ls3, rs3, m3, hm3, hj⟩ := join_any (ks := ks2) (ls := ls2) (rs := rs2) t2 (nI k) r1 r2
    exact ⟨r3, ks3, ls3, rs3, m3, upd o2 (1100 + c2) (nI cc), upd ar2 (1100 + c2) 0, hj, hem, hadv, hm3, by omega, by omega, hfr, fun q => absurd q h0⟩
end EX
abbrev CTy := Int32 → Int32 → Int32 → Int64 → Int32 → Int32 → Int32 → (Nat → Int32) → (Nat → Int32) → (Nat → Int32) → Int32 → Option (Int32 × Int32 × Int32 × Int32 × Int64 × Int32 × Int32 × Int32 × (Nat → Int32) × (Nat → Int32) × (Nat → Int32) × Int32)
abbrev DTy := Int32 → Int32 → (Nat → Int32) → (Nat → Int32) → Int32 → Option (Int32 × Int32 × (Nat → Int32) × (Nat → Int32) × Int32)
/-- both read the same -/
def AG (N : Nat) (A P : Nat → Nat) (W : Nat → Int64) (U G E : Nat → Int32) (feed : Bool) (C : CTy) (D : DTy) : Prop := ∀ (f i a m c : Nat) (ks ls rs o ar : Nat → Int32), PRE N f i a m c ks ls rs o ar → ∃ (r : Int32) (f' i' a' m' c' : Nat) (ks' ls' rs' o' ar' : Nat → Int32), C (nI f) (nI (A (i))) (nI (P (i))) (W (i)) (U (i)) (G (i)) (E (i)) ks ls rs (nI m) = some (r, nI f', nI (A (i')), nI (P (i')), W (i'), U (i'), G (i'), E (i'), ks', ls', rs', nI m') ∧ D (nI a) (nI f) o ar (nI c) = some (nI a', nI f', o', ar', nI c') ∧ PST N feed f i a m c ks ls rs o ar r f' i' a' m' c' ks' ls' rs' o' ar'
section LP
variable {N : Nat} {A P : Nat → Nat} {W : Nat → Int64} {U G E : Nat → Int32} {feed : Bool} {C C' : CTy} {D D' : DTy} {LC : Nat → Int32 → Int32 → Int32 → Int64 → Int32 → Int32 → Int32 → (Nat → Int32) → (Nat → Int32) → (Nat → Int32) → Int32 → Int32 → Int32 → Option (Int32 × Int32 × Int32 × Int32 × Int64 × Int32 × Int32 × Int32 × (Nat → Int32) × (Nat → Int32) × (Nat → Int32) × Int32)} {LD : Nat → DTy} {OPR : Nat → Nat → Nat → Prop}
def LPH (N : Nat) (A P : Nat → Nat) (W : Nat → Int64) (U G E : Nat → Int32) (C : CTy) (D : DTy) (LC : Nat → Int32 → Int32 → Int32 → Int64 → Int32 → Int32 → Int32 → (Nat → Int32) → (Nat → Int32) → (Nat → Int32) → Int32 → Int32 → Int32 → Option (Int32 × Int32 × Int32 × Int32 × Int64 × Int32 × Int32 × Int32 × (Nat → Int32) × (Nat → Int32) × (Nat → Int32) × Int32)) (LD : Nat → DTy) (OPR : Nat → Nat → Nat → Prop) : Prop :=
  (∀ i k c, i ≤ N → OPR i k c → i < N ∧ KC k c) ∧
  (∀ gg l3 f i m ks ls rs r, f ≤ 20000 → i ≤ N → (f ≠ 0 ∨ ∀ k c, ¬ OPR i k c) → LC (gg + 1) (nI f) (nI (A (i))) (nI (P (i))) (W (i)) (U (i)) (G (i)) (E (i)) ks ls rs (nI m) r l3 = some (r, nI f, nI (A (i)), nI (P (i)), W (i), U (i), G (i), E (i), ks, ls, rs, nI m)) ∧
  (∀ gg l3 i m ks ls rs l2 k c r f' i' m' ks' ls' rs' r3 ks3 ls3 rs3 m3, l3 < 1000 → i < N → OPR i k c → C (nI 0) (nI (A (i + 1))) (nI (P (i + 1))) (W (i + 1)) (U (i + 1)) (G (i + 1)) (E (i + 1)) ks ls rs (nI m) = some (r, nI f', nI (A (i')), nI (P (i')), W (i'), U (i'), G (i'), E (i'), ks', ls', rs', nI m') → f_X3_join ks' ls' rs' (nI m') (nI k) l2 r = some (r3, ks3, ls3, rs3, nI m3) → LC (gg + 1) (nI 0) (nI (A (i))) (nI (P (i))) (W (i)) (U (i)) (G (i)) (E (i)) ks ls rs (nI m) l2 (nI l3) = LC gg (nI f') (nI (A (i'))) (nI (P (i'))) (W (i')) (U (i')) (G (i')) (E (i')) ks3 ls3 rs3 (nI m3) r3 (nI (l3 + 1))) ∧
  (∀ gg f a o ar c, f ≤ 20000 → a ≤ N → (f ≠ 0 ∨ ∀ k c, ¬ OPR a k c) → LD (gg + 1) (nI a) (nI f) o ar (nI c) = some (nI a, nI f, o, ar, nI c)) ∧
  (∀ gg i c o ar k cc f' a' c' o' ar' o3 ar3 c3, i < N → OPR i k cc → D (nI (i + 1)) (nI 0) o ar (nI c) = some (nI a', nI f', o', ar', nI c') → f_X11_emit o' ar' (nI c') (nI cc) 0 = some (o3, ar3, nI c3) → LD (gg + 1) (nI i) (nI 0) o ar (nI c) = LD gg (nI a') (nI f') o3 ar3 (nI c3))
theorem lp_run (hN : N ≤ 1000) (h : AG N A P W U G E feed C D) (H : LPH N A P W U G E C D LC LD OPR) {f0 i0 a0 m0 c0 : Nat} {ks0 ls0 rs0 o0 ar0 : Nat → Int32} (hp : PRE N f0 i0 a0 m0 c0 ks0 ls0 rs0 o0 ar0) : ∀ (n gg hh l3 : Nat) (f1 i1 a1 m1 c1 : Nat) (ks1 ls1 rs1 o1 ar1 : Nat → Int32) (r1 : Int32), (f1 ≠ 0 ∨ N - i1 ≤ n) → n < gg → n < hh → (f1 = 0 → l3 ≤ i1) → PST N feed f0 i0 a0 m0 c0 ks0 ls0 rs0 o0 ar0 r1 f1 i1 a1 m1 c1 ks1 ls1 rs1 o1 ar1 → ∃ (r : Int32) (f' i' a' m' c' : Nat) (ks' ls' rs' o' ar' : Nat → Int32), LC gg (nI f1) (nI (A (i1))) (nI (P (i1))) (W (i1)) (U (i1)) (G (i1)) (E (i1)) ks1 ls1 rs1 (nI m1) r1 (nI l3) = some (r, nI f', nI (A (i')), nI (P (i')), W (i'), U (i'), G (i'), E (i'), ks', ls', rs', nI m') ∧ LD hh (nI a1) (nI f1) o1 ar1 (nI c1) = some (nI a', nI f', o', ar', nI c') ∧ PST N feed f0 i0 a0 m0 c0 ks0 ls0 rs0 o0 ar0 r f' i' a' m' c' ks' ls' rs' o' ar' := by
  intro n
  induction n with
  | zero =>
    intro gg hh l3 f1 i1 a1 m1 c1 ks1 ls1 rs1 o1 ar1 r1 hn hg hh' hl hs
    obtain ⟨gg, rfl⟩ : ∃ z, gg = z + 1 := ⟨gg - 1, by omega⟩
    obtain ⟨hh, rfl⟩ : ∃ z, hh = z + 1 := ⟨hh - 1, by omega⟩
    have hs1 := hs.1
    have hst : f1 ≠ 0 ∨ ∀ k c, ¬ OPR i1 k c := by
      rcases hn with q | q
      · exact Or.inl q
      · exact Or.inr (fun k c w => by have := (H.1 i1 k c hs1.1.1 w).1; omega)
    have hst2 : f1 ≠ 0 ∨ ∀ k c, ¬ OPR a1 k c := by
      by_cases q : f1 = 0
      · rw [hs1.1.2.2 q]; exact hst
      · exact Or.inl q
    exact ⟨r1, f1, i1, a1, m1, c1, ks1, ls1, rs1, o1, ar1, H.2.1 _ _ _ _ _ _ _ _ _ hs1.2.1 hs1.1.1 hst, H.2.2.2.1 _ _ _ _ _ _ hs1.2.1 hs1.1.2.1 hst2, hs⟩
  | succ n ih =>
    intro gg hh l3 f1 i1 a1 m1 c1 ks1 ls1 rs1 o1 ar1 r1 hn hg hh' hl hs
    obtain ⟨gg, rfl⟩ : ∃ z, gg = z + 1 := ⟨gg - 1, by omega⟩
    obtain ⟨hh, rfl⟩ : ∃ z, hh = z + 1 := ⟨hh - 1, by omega⟩
    have hs1 := hs.1
    by_cases hop : f1 = 0 ∧ ∃ k c, OPR i1 k c
    · obtain ⟨h0, k, cc, ho⟩ := hop
      obtain ⟨w1, w2⟩ := H.1 i1 k cc hs1.1.1 ho
      have ha : a1 = i1 := hs1.1.2.2 h0
      have hl3 := hl h0
      have hp1 := hp.nx hs
      obtain ⟨g1, g2, g3, g4, g5, -⟩ := hp1
      have hp2 : PRE N 0 (i1 + 1) (i1 + 1) m1 c1 ks1 ls1 rs1 o1 ar1 := ⟨⟨by omega, by omega, fun _ => rfl⟩, by decide, g3, by omega, fun _ => ⟨by have := (g5 h0).1; omega, (g5 h0).2⟩, rfl, rfl⟩
      obtain ⟨r2, f2, i2, a2, m2, c2, ks2, ls2, rs2, o2, ar2, e1, e2, e3⟩ := h _ _ _ _ _ _ _ _ _ _ hp2
      obtain ⟨r3, ks3, ls3, rs3, m3, o3, ar3, j1, j2, j3⟩ := bin_ok hN hp hs h0 w1 e3 w2
      have E1 := H.2.2.1 gg l3 i1 m1 ks1 ls1 rs1 r1 k cc _ _ _ _ _ _ _ _ _ _ _ _ (by omega) w1 ho e1 j1
      have E2 := H.2.2.2.2 hh i1 c1 o1 ar1 k cc _ _ _ _ _ _ _ _ w1 ho e2 j2
      subst h0
      subst ha
      rw [E1, E2]
      have z1 := e3.1
      refine ih gg hh (l3 + 1) f2 i2 a2 m3 (c2 + 1) ks3 ls3 rs3 o3 ar3 r3 ?_ (by omega) (by omega) ?_ j3
      · by_cases q : f2 = 0
        · have y1 := z1.1.2.2 q
          have y2 := z1.2.2.2
          exact Or.inr (by rcases hn with u | u <;> omega)
        · exact Or.inl q
      · intro q
        have y1 := z1.1.2.2 q
        have y2 := z1.2.2.2
        omega
    · have hst : f1 ≠ 0 ∨ ∀ k c, ¬ OPR i1 k c := by
        by_cases q : f1 = 0
        · exact Or.inr (fun k c w => hop ⟨q, k, c, w⟩)
        · exact Or.inl q
      have hst2 : f1 ≠ 0 ∨ ∀ k c, ¬ OPR a1 k c := by
        by_cases q : f1 = 0
        · rw [hs1.1.2.2 q]; exact hst
        · exact Or.inl q
      exact ⟨r1, f1, i1, a1, m1, c1, ks1, ls1, rs1, o1, ar1, H.2.1 _ _ _ _ _ _ _ _ _ hs1.2.1 hs1.1.1 hst, H.2.2.2.1 _ _ _ _ _ _ hs1.2.1 hs1.1.2.1 hst2, hs⟩
theorem lp_ag (hN : N ≤ 1000) (h : AG N A P W U G E feed C D) (H : LPH N A P W U G E C D LC LD OPR) (hc : ∀ f i m ks ls rs r f' i' m' ks' ls' rs', C (nI f) (nI (A (i))) (nI (P (i))) (W (i)) (U (i)) (G (i)) (E (i)) ks ls rs (nI m) = some (r, nI f', nI (A (i')), nI (P (i')), W (i'), U (i'), G (i'), E (i'), ks', ls', rs', nI m') → C' (nI f) (nI (A (i))) (nI (P (i))) (W (i)) (U (i)) (G (i)) (E (i)) ks ls rs (nI m) = LC FU (nI f') (nI (A (i'))) (nI (P (i'))) (W (i')) (U (i')) (G (i')) (E (i')) ks' ls' rs' (nI m') r (nI 0)) (hd : ∀ f a c o ar f' a' c' o' ar', D (nI a) (nI f) o ar (nI c) = some (nI a', nI f', o', ar', nI c') → D' (nI a) (nI f) o ar (nI c) = LD FU (nI a') (nI f') o' ar' (nI c')) : AG N A P W U G E feed C' D' := by
  intro f i a m c ks ls rs o ar hp
  obtain ⟨r1, f1, i1, a1, m1, c1, ks1, ls1, rs1, o1, ar1, e1, e2, e3⟩ := h _ _ _ _ _ _ _ _ _ _ hp
  rw [hc _ _ _ _ _ _ _ _ _ _ _ _ _ e1, hd _ _ _ _ _ _ _ _ _ _ e2]
  exact lp_run hN h H hp 1000 FU FU 0 f1 i1 a1 m1 c1 ks1 ls1 rs1 o1 ar1 r1 (Or.inr (by omega)) (by decide) (by decide) (fun _ => Nat.zero_le _) e3
end LP
