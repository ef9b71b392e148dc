/-! PURE 36: the loops of expressions (src/t85.lean through gen/tmpl.py) -/
abbrev CRec := (Nat → Int32) → Int32 → Nat → Int32 → Int32 → Int32 → Int64 → Int32 → Int32 → Int32 → (Nat → Int32) → (Nat → Int32) → (Nat → Int32) → Int32 → Nat → Int32 → Option (Int32 × Int32 × Int32 × Int32 × Int64 × Int32 × Int32 × Int32 × (Nat → Int32) × (Nat → Int32) × (Nat → Int32) × Int32)
abbrev DRec := (Nat → Int32) → (Nat → Int32) → (Nat → Int64) → (Nat → Int64) → Int32 → (Nat → Int32) → (Nat → Int32) → Int32 → Int32 → (Nat → Int32) → (Nat → Int32) → Int32 → Int32 → Option (Int32 × Int32 × (Nat → Int32) × (Nat → Int32) × Int32)
abbrev cF (g : CRec) (sg : Nat → Int32) (len : Int32) (fe la : Nat) (d : Int32) : CTy := fun f p1 p2 p3 p4 p5 p6 ks ls rs m => g sg len fe f p1 p2 p3 p4 p5 p6 ks ls rs m la d
abbrev dF (g : DRec) (so pl : Nat → Int32) (va words : Nat → Int64) (fl : Int32) (fw gw : Nat → Int32) (d : Int32) : DTy := fun a f o ar c => g so pl va words fl fw gw a f o ar c d
section EL
variable {sg : Nat → Int32} {len N : Nat} {so pl : Nat → Int32} {va : Nat → Int64} {A P : Nat → Nat} {W : Nat → Int64} {U G E : Nat → Int32} {words : Nat → Int64} {i a f : Nat}
theorem t_hasS1 (hT : TKS sg len N so pl va A P W U G E) (ha : a < N) {x : Int32} {c : Nat} (hc : isS c) (hx : x = nI c) (h : G a = nI c) : f_X11_hasSign so va (nI 0) (nI a) x = some (1, nI (a + 1)) := by
  unfold f_X11_hasSign
  rw [t_isS1 hT (by omega) (f := 0) (by decide) hc hx rfl h, bd_s, if_neg z10, lt_r]
  unfold g_z
  rw [if_pos (Or.inr rfl), ← nI_succ]
theorem t_hasS0 (hT : TKS sg len N so pl va A P W U G E) (ha : a ≤ N) (hf : f < 2 ^ 31) {x : Int32} {c : Nat} (hc : isS c) (hx : x = nI c) (h : ¬ (f = 0 ∧ G a = nI c)) : f_X11_hasSign so va (nI f) (nI a) x = some (0, nI a) := by
  unfold f_X11_hasSign
  rw [t_isS0 hT ha hf hc hx h, bd_s, if_pos z00, lt_r]
  unfold g_z
  rw [if_pos (Or.inl rfl), Int32.add_zero]
theorem t_hasW1 (hT : TKS sg len N so pl va A P W U G E) (hW : HW words) (ha : a < N) {x : Int32} {w : Nat} (hw : w < 16) (hx : x = nI w) (h : W a = cw w) : f_X11_hasWord so va (nI 0) words (nI a) x = some (1, nI (a + 1)) := by
  unfold f_X11_hasWord
  rw [t_isW1 hT hW (by omega) (f := 0) (by decide) hw hx rfl h, bd_s, if_neg z10, lt_r]
  unfold g_z
  rw [if_pos (Or.inr rfl), ← nI_succ]
theorem t_hasW0 (hT : TKS sg len N so pl va A P W U G E) (hW : HW words) (ha : a ≤ N) (hf : f < 2 ^ 31) {x : Int32} {w : Nat} (hw : w < 16) (hx : x = nI w) (h : ¬ (f = 0 ∧ W a = cw w)) : f_X11_hasWord so va (nI f) words (nI a) x = some (0, nI a) := by
  unfold f_X11_hasWord
  rw [t_isW0 hT hW ha hf hw hx h, bd_s, if_pos z00, lt_r]
  unfold g_z
  rw [if_pos (Or.inl rfl), Int32.add_zero]
theorem t_nx (hT : TKS sg len N so pl va A P W U G E) (hi : i < N) : f_X8_next sg (nI len) (nI (A (i))) (nI (P (i))) (W (i)) (U (i)) (G (i)) (E (i)) = some (nI (A (i + 1)), nI (P (i + 1)), W (i + 1), U (i + 1), G (i + 1), E (i + 1)) := by
  have := t_next hT (show i ≤ N by omega)
  rwa [Nat.min_eq_left (show i + 1 ≤ N by omega)] at this
theorem g43 : ¬ nI 45 = (43 : Int32) := by decide
variable {crec : CRec} {drec : DRec} {fe la : Nat} {fl : Int32} {fw gw : Nat → Int32} {d : Int32} {feed : Bool}
def opP (G : Nat → Int32) (i k c : Nat) : Prop := G i = nI 42 ∧ k = 9 ∧ c = 6
def opS (G : Nat → Int32) (i k c : Nat) : Prop := (G i = nI 43 ∧ k = 7 ∧ c = 4) ∨ (G i = nI 45 ∧ k = 8 ∧ c = 5)
def opA (W : Nat → Int64) (i k c : Nat) : Prop := (W i = cw 11 ∧ k = 3 ∧ c = 9) ∨ (W i = cw 12 ∧ k = 4 ∧ c = 10)
theorem lph_P (hT : TKS sg len N so pl va A P W U G E) : LPH N A P W U G E (cF crec sg (nI len) fe la d) (dF drec so pl va words fl fw gw d) (fun gg f p1 p2 p3 p4 p5 p6 ks ls rs m r l3 => f_X7_readProduct_L8 crec sg (nI len) fe la gg f p1 p2 p3 p4 p5 p6 ks ls rs m d r l3) (fun gg a f o ar c => f_X11_products_L5 drec so pl va words fl fw gw gg a f o ar c d) (opP G) := by
  have i42 : isS 42 := by unfold isS; omega
  refine ⟨?_, ?_, ?_, ?_, ?_⟩
  · rintro i k c hi ⟨h1, rfl, rfl⟩
    exact ⟨(t_S hT hi i42 h1).2.1, by unfold KC; omega⟩
  · intro gg l3 f i m ks ls rs r hf hi hst
    show f_X7_readProduct_L8b _ _ _ _ _ _ _ _ _ _ _ _ _ _ _ _ _ _ _ _ = _
    unfold f_X7_readProduct_L8b
    by_cases q : 1000 ≤ l3
    · rw [if_pos q]
    · rw [if_neg q]
      by_cases h0 : f = 0
      · have hno : ¬ G i = 42 := fun w => by
          rcases hst with u | u
          · exact u h0
          · exact u 9 6 ⟨w, rfl, rfl⟩
        rw [if_neg hno, ite_self]
      · rw [if_neg (nI_ne0 (by omega) (by omega))]
  · rintro gg l3 i m ks ls rs l2 k c r f' i' m' ks' ls' rs' r3 ks3 ls3 rs3 m3 hl hi ⟨h1, rfl, rfl⟩ e1 e2
    show f_X7_readProduct_L8b _ _ _ _ _ _ _ _ _ _ _ _ _ _ _ _ _ _ _ _ = _
    unfold f_X7_readProduct_L8b
    rw [if_neg (show ¬ (1000 : Int32) ≤ nI l3 from nI_ge hl (by decide)), if_pos (show nI 0 = 0 from rfl), if_pos (show G i = 42 from h1), t_nx hT hi, bd_s]
    dsimp only
    dsimp only [cF] at e1
    rw [e1, bd_s]
    dsimp only
    rw [show (9 : Int32) = nI 9 from rfl, e2, bd_s]
    dsimp only
    rw [lt_r, ← nI_succ]
  · intro gg f a o ar c hf ha hst
    show f_X11_products_L5b _ _ _ _ _ _ _ _ _ _ _ _ _ _ _ = _
    unfold f_X11_products_L5b
    have hno : ¬ (f = 0 ∧ G a = nI 42) := fun w => by
      rcases hst with u | u
      · exact u w.1
      · exact u 9 6 ⟨w.2, rfl, rfl⟩
    rw [t_hasS0 hT ha (by omega) i42 (x := 42) rfl hno, bd_s]
    dsimp only
    rw [if_pos rfl]
  · rintro gg i c o ar k cc f' a' c' o' ar' o3 ar3 c3 hi ⟨h1, rfl, rfl⟩ e1 e2
    show f_X11_products_L5b _ _ _ _ _ _ _ _ _ _ _ _ _ _ _ = _
    unfold f_X11_products_L5b
    rw [t_hasS1 hT hi i42 (x := 42) rfl h1, bd_s]
    dsimp only
    dsimp only [dF] at e1
    rw [if_neg z10, e1, bd_s]
    dsimp only
    rw [show (6 : Int32) = nI 6 from rfl, e2, bd_s]
theorem ag_P (hT : TKS sg len N so pl va A P W U G E) (h : AG N A P W U G E feed (cF crec sg (nI len) fe la d) (dF drec so pl va words fl fw gw d)) : AG N A P W U G E feed (cF (f_X7_readProduct crec) sg (nI len) fe la d) (dF (f_X11_products drec) so pl va words fl fw gw d) := by
  refine lp_ag hT.1 h (lph_P hT) ?_ ?_
  · intro f i m ks ls rs r f' i' m' ks' ls' rs' e
    dsimp only [cF] at e ⊢
    unfold f_X7_readProduct
    rw [e, bd_s]
    rfl
  · intro f a c o ar f' a' c' o' ar' e
    dsimp only [dF] at e ⊢
    unfold f_X11_products
    rw [e, bd_s]
theorem lph_S (hT : TKS sg len N so pl va A P W U G E) : LPH N A P W U G E (cF (f_X7_readProduct crec) sg (nI len) fe la d) (dF (f_X11_products drec) so pl va words fl fw gw d) (fun gg f p1 p2 p3 p4 p5 p6 ks ls rs m r l3 => f_X7_readSum_L8 crec sg (nI len) fe la gg f p1 p2 p3 p4 p5 p6 ks ls rs m d r l3) (fun gg a f o ar c => f_X11_sums_L5 drec so pl va words fl fw gw gg a f o ar c d) (opS G) := by
  have i43 : isS 43 := by unfold isS; omega
  have i45 : isS 45 := by unfold isS; omega
  refine ⟨?_, ?_, ?_, ?_, ?_⟩
  · rintro i k c hi (⟨h1, rfl, rfl⟩ | ⟨h1, rfl, rfl⟩)
    · exact ⟨(t_S hT hi i43 h1).2.1, by unfold KC; omega⟩
    · exact ⟨(t_S hT hi i45 h1).2.1, by unfold KC; omega⟩
  · intro gg l3 f i m ks ls rs r hf hi hst
    show f_X7_readSum_L8b _ _ _ _ _ _ _ _ _ _ _ _ _ _ _ _ _ _ _ _ = _
    unfold f_X7_readSum_L8b
    by_cases q : 1000 ≤ l3
    · rw [if_pos q]
    · rw [if_neg q]
      by_cases h0 : f = 0
      · have hno : ¬ G i = 43 := fun w => by
          rcases hst with u | u
          · exact u h0
          · exact u 7 4 (Or.inl ⟨w, rfl, rfl⟩)
        have hno2 : ¬ G i = 45 := fun w => by
          rcases hst with u | u
          · exact u h0
          · exact u 8 5 (Or.inr ⟨w, rfl, rfl⟩)
        rw [if_neg hno, if_neg hno2, ite_self]
      · rw [if_neg (nI_ne0 (by omega) (by omega))]
  · intro gg l3 i m ks ls rs l2 k c r f' i' m' ks' ls' rs' r3 ks3 ls3 rs3 m3 hl hi h1 e1 e2
    show f_X7_readSum_L8b _ _ _ _ _ _ _ _ _ _ _ _ _ _ _ _ _ _ _ _ = _
    dsimp only [cF] at e1
    unfold f_X7_readSum_L8b
    rw [if_neg (show ¬ (1000 : Int32) ≤ nI l3 from nI_ge hl (by decide)), if_pos (show nI 0 = 0 from rfl)]
    rcases h1 with ⟨h1, rfl, rfl⟩ | ⟨h1, rfl, rfl⟩
    · rw [if_pos (show G i = 43 from h1)]
      unfold f_X7_readSum_B48
      rw [t_nx hT hi, bd_s]
      dsimp only
      rw [e1, bd_s]
      dsimp only
      rw [if_pos (show G i = 43 from h1)]
      unfold f_X7_readSum_B80
      rw [show (7 : Int32) = nI 7 from rfl, e2, bd_s]
      dsimp only
      rw [lt_r, ← nI_succ]
    · rw [if_neg (show ¬ G i = 43 by rw [h1]; exact g43), if_pos (show G i = 45 from h1)]
      unfold f_X7_readSum_B48
      rw [t_nx hT hi, bd_s]
      dsimp only
      rw [e1, bd_s]
      dsimp only
      rw [if_neg (show ¬ G i = 43 by rw [h1]; exact g43)]
      unfold f_X7_readSum_B80
      rw [show (8 : Int32) = nI 8 from rfl, e2, bd_s]
      dsimp only
      rw [lt_r, ← nI_succ]
  · intro gg f a o ar c hf ha hst
    show f_X11_sums_L5b _ _ _ _ _ _ _ _ _ _ _ _ _ _ _ = _
    unfold f_X11_sums_L5b
    have hno : ¬ (f = 0 ∧ G a = nI 43) := fun w => by
      rcases hst with u | u
      · exact u w.1
      · exact u 7 4 (Or.inl ⟨w.2, rfl, rfl⟩)
    have hno2 : ¬ (f = 0 ∧ G a = nI 45) := fun w => by
      rcases hst with u | u
      · exact u w.1
      · exact u 8 5 (Or.inr ⟨w.2, rfl, rfl⟩)
    rw [t_isS0 hT ha (by omega) i43 (x := 43) rfl hno, bd_s, if_pos rfl, t_isS0 hT ha (by omega) i45 (x := 45) rfl hno2, bd_s, if_pos rfl]
  · intro gg i c o ar k cc f' a' c' o' ar' o3 ar3 c3 hi h1 e1 e2
    show f_X11_sums_L5b _ _ _ _ _ _ _ _ _ _ _ _ _ _ _ = _
    dsimp only [dF] at e1
    unfold f_X11_sums_L5b
    rcases h1 with ⟨h1, rfl, rfl⟩ | ⟨h1, rfl, rfl⟩
    · have u := t_isS1 hT (show i ≤ N by omega) (f := 0) (by decide) i43 (x := 43) rfl rfl h1
      rw [u, bd_s, if_neg z10]
      unfold f_X11_sums_B23
      rw [u, bd_s, lt_r, ← nI_succ, e1, bd_s]
      dsimp only
      rw [if_neg z10]
      unfold f_X11_sums_B55
      rw [show (4 : Int32) = nI 4 from rfl, e2, bd_s]
    · have u := t_isS0 hT (show i ≤ N by omega) (f := 0) (by decide) i43 (x := 43) rfl (fun w => by rw [h1] at w; exact g43 w.2)
      have u2 := t_isS1 hT (show i ≤ N by omega) (f := 0) (by decide) i45 (x := 45) rfl rfl h1
      rw [u, bd_s, if_pos z00, u2, bd_s, if_neg z10]
      unfold f_X11_sums_B23
      rw [u, bd_s, lt_r, ← nI_succ, e1, bd_s]
      dsimp only
      rw [if_pos z00]
      unfold f_X11_sums_B55
      rw [show (5 : Int32) = nI 5 from rfl, e2, bd_s]
theorem ag_S (hT : TKS sg len N so pl va A P W U G E) (h : AG N A P W U G E feed (cF crec sg (nI len) fe la d) (dF drec so pl va words fl fw gw d)) : AG N A P W U G E feed (cF (f_X7_readSum crec) sg (nI len) fe la d) (dF (f_X11_sums drec) so pl va words fl fw gw d) := by
  refine lp_ag hT.1 (ag_P hT h) (lph_S hT) ?_ ?_
  · intro f i m ks ls rs r f' i' m' ks' ls' rs' e
    dsimp only [cF] at e ⊢
    unfold f_X7_readSum
    rw [e, bd_s]
    rfl
  · intro f a c o ar f' a' c' o' ar' e
    dsimp only [dF] at e ⊢
    unfold f_X11_sums
    rw [e, bd_s]
/-- a test: two sums, or one -/
theorem ag_T (hT : TKS sg len N so pl va A P W U G E) (h : AG N A P W U G E feed (cF crec sg (nI len) fe la d) (dF drec so pl va words fl fw gw d)) : AG N A P W U G E feed (cF (f_X7_readTest crec) sg (nI len) fe la d) (dF (f_X11_test drec) so pl va words fl fw gw d) := by
  have i60 : isS 60 := by unfold isS; omega
  have i61 : isS 61 := by unfold isS; omega
  have n61 : ¬ nI 61 = (60 : Int32) := by decide
  have hS := ag_S hT h
  intro f0 i0 a0 m0 c0 ks0 ls0 rs0 o0 ar0 hp
  obtain ⟨r1, f1, i1, a1, m1, c1, ks1, ls1, rs1, o1, ar1, e1, e2, e3⟩ := hS _ _ _ _ _ _ _ _ _ _ hp
  have hs1 := e3.1
  have hN := hT.1
  dsimp only [cF, dF] at e1 e2 ⊢
  unfold f_X7_readTest f_X11_test
  rw [e1, bd_s, e2, bd_s]
  dsimp only
  by_cases h0 : f1 = 0
  · have ha : a1 = i1 := hs1.1.2.2 h0
    have hi := hs1.1.1
    have two : i1 < N → ∀ k cc, KC k cc → ∃ (r2 : Int32) (f2 i2 a2 m2 c2 : Nat) (ks2 ls2 rs2 o2 ar2 : Nat → Int32), f_X7_readSum crec sg (nI len) fe (nI 0) (nI (A (i1 + 1))) (nI (P (i1 + 1))) (W (i1 + 1)) (U (i1 + 1)) (G (i1 + 1)) (E (i1 + 1)) ks1 ls1 rs1 (nI m1) la d = some (r2, nI f2, nI (A (i2)), nI (P (i2)), W (i2), U (i2), G (i2), E (i2), ks2, ls2, rs2, nI m2) ∧ f_X11_sums drec so pl va words fl fw gw (nI (i1 + 1)) (nI 0) o1 ar1 (nI c1) d = some (nI a2, nI f2, o2, ar2, nI c2) ∧ ∃ (r3 : Int32) (ks3 ls3 rs3 : Nat → Int32) (m3 : Nat) (o3 ar3 : Nat → Int32), f_X3_join ks2 ls2 rs2 (nI m2) (nI k) r1 r2 = some (r3, ks3, ls3, rs3, nI m3) ∧ f_X11_emit o2 ar2 (nI c2) (nI cc) 0 = some (o3, ar3, nI (c2 + 1)) ∧ PST N feed f0 i0 a0 m0 c0 ks0 ls0 rs0 o0 ar0 r3 f2 i2 a2 m3 (c2 + 1) ks3 ls3 rs3 o3 ar3 := by
      intro hlt k cc hk
      obtain ⟨g1, g2, g3, g4, g5, -⟩ := hp.nx e3
      have hp2 : PRE N 0 (i1 + 1) (i1 + 1) m1 c1 ks1 ls1 rs1 o1 ar1 := ⟨⟨by omega, by omega, fun _ => rfl⟩, by decide, g3, by omega, fun _ => ⟨by have := (g5 h0).1; omega, (g5 h0).2⟩, rfl, rfl⟩
      obtain ⟨r2, f2, i2, a2, m2, c2, ks2, ls2, rs2, o2, ar2, w1, w2, w3⟩ := hS _ _ _ _ _ _ _ _ _ _ hp2
      exact ⟨r2, f2, i2, a2, m2, c2, ks2, ls2, rs2, o2, ar2, w1, w2, bin_ok hN hp e3 h0 hlt w3 hk⟩
    subst h0
    subst ha
    rw [if_pos (show nI 0 = 0 from rfl)]
    by_cases h60 : G a1 = nI 60
    · have hlt := (t_S hT hi i60 h60).2.1
      obtain ⟨r2, f2, i2, a2, m2, c2, ks2, ls2, rs2, o2, ar2, w1, w2, r3, ks3, ls3, rs3, m3, o3, ar3, j1, j2, j3⟩ := two hlt 5 7 (by unfold KC; omega)
      rw [if_pos (show G a1 = 60 from h60), t_isS1 hT hi (f := 0) (by decide) i60 (x := 60) rfl rfl h60, bd_s, t_hasS1 hT hlt i60 (x := 60) rfl h60, bd_s]
      dsimp only
      rw [if_neg z10]
      unfold f_X7_readTest_B35 f_X11_test_B30
      rw [t_nx hT hlt, bd_s]
      dsimp only
      rw [w1, bd_s, w2, bd_s]
      dsimp only
      rw [if_pos (show G a1 = 60 from h60), if_neg z10]
      unfold f_X7_readTest_B65 f_X11_test_B47
      rw [show (5 : Int32) = nI 5 from rfl, j1, bd_s, show (7 : Int32) = nI 7 from rfl, j2, bd_s]
      exact ⟨r3, f2, i2, a2, m3, c2 + 1, ks3, ls3, rs3, o3, ar3, rfl, rfl, j3⟩
    · have u60 := t_isS0 hT hi (f := 0) (by decide) i60 (x := 60) rfl (fun w => h60 w.2)
      have v60 := t_hasS0 hT hi (f := 0) (by decide) i60 (x := 60) rfl (fun w => h60 w.2)
      rw [if_neg (show ¬ G a1 = 60 from h60), u60, bd_s, v60, bd_s]
      dsimp only
      rw [if_pos z00]
      by_cases h61 : G a1 = nI 61
      · have hlt := (t_S hT hi i61 h61).2.1
        obtain ⟨r2, f2, i2, a2, m2, c2, ks2, ls2, rs2, o2, ar2, w1, w2, r3, ks3, ls3, rs3, m3, o3, ar3, j1, j2, j3⟩ := two hlt 6 8 (by unfold KC; omega)
        rw [if_pos (show G a1 = 61 from h61), t_hasS1 hT hlt i61 (x := 61) rfl h61, bd_s]
        dsimp only
        rw [if_neg z10]
        unfold f_X7_readTest_B35 f_X11_test_B30
        rw [t_nx hT hlt, bd_s]
        dsimp only
        rw [w1, bd_s, w2, bd_s]
        dsimp only
        rw [if_neg (show ¬ G a1 = 60 by rw [h61]; exact n61), if_pos z00]
        unfold f_X7_readTest_B65 f_X11_test_B47
        rw [show (6 : Int32) = nI 6 from rfl, j1, bd_s, show (8 : Int32) = nI 8 from rfl, j2, bd_s]
        exact ⟨r3, f2, i2, a2, m3, c2 + 1, ks3, ls3, rs3, o3, ar3, rfl, rfl, j3⟩
      · rw [if_neg (show ¬ G a1 = 61 from h61), t_hasS0 hT hi (f := 0) (by decide) i61 (x := 61) rfl (fun w => h61 w.2), bd_s]
        dsimp only
        rw [if_pos z00]
        exact ⟨r1, 0, a1, a1, m1, c1, ks1, ls1, rs1, o1, ar1, rfl, rfl, e3⟩
  · rw [if_neg (nI_ne0 (by omega) (by have := hs1.2.1; omega)), t_isS0 hT hs1.1.2.1 (f := f1) (by have := hs1.2.1; omega) i60 (x := 60) rfl (fun w => h0 w.1), bd_s, t_hasS0 hT hs1.1.2.1 (f := f1) (by have := hs1.2.1; omega) i60 (x := 60) rfl (fun w => h0 w.1), bd_s]
    dsimp only
    rw [if_pos z00, t_hasS0 hT hs1.1.2.1 (f := f1) (by have := hs1.2.1; omega) i61 (x := 61) rfl (fun w => h0 w.1), bd_s]
    dsimp only
    rw [if_pos z00]
    exact ⟨r1, f1, i1, a1, m1, c1, ks1, ls1, rs1, o1, ar1, rfl, rfl, e3⟩
theorem lph_A (hT : TKS sg len N so pl va A P W U G E) (hW : HW words) : LPH N A P W U G E (cF (f_X7_readTest crec) sg (nI len) fe la d) (dF (f_X11_test drec) so pl va words fl fw gw d) (fun gg f p1 p2 p3 p4 p5 p6 ks ls rs m r l3 => f_X7_readAll_L8 crec sg (nI len) fe la gg f p1 p2 p3 p4 p5 p6 ks ls rs m d r l3) (fun gg a f o ar c => f_X11_all_L5 drec so pl va words fl fw gw gg a f o ar c d) (opA W) := by
  have d12 : ∀ i, W i = cw 12 → ¬ W i = cw 11 := fun i h q => absurd (cw_inj 12 (by decide) 11 (by decide) (h.symm.trans q)) (by decide)
  refine ⟨?_, ?_, ?_, ?_, ?_⟩
  · rintro i k c hi (⟨h1, rfl, rfl⟩ | ⟨h1, rfl, rfl⟩)
    · exact ⟨(t_W hT hi (w := 11) (by decide) h1).2.1, by unfold KC; omega⟩
    · exact ⟨(t_W hT hi (w := 12) (by decide) h1).2.1, by unfold KC; omega⟩
  · intro gg l3 f i m ks ls rs r hf hi hst
    show f_X7_readAll_L8b _ _ _ _ _ _ _ _ _ _ _ _ _ _ _ _ _ _ _ _ = _
    unfold f_X7_readAll_L8b
    by_cases q : 1000 ≤ l3
    · rw [if_pos q]
    · rw [if_neg q]
      by_cases h0 : f = 0
      · have hno : ¬ W i = cw 11 := fun w => by
          rcases hst with u | u
          · exact u h0
          · exact u 3 9 (Or.inl ⟨w, rfl, rfl⟩)
        have hno2 : ¬ W i = cw 12 := fun w => by
          rcases hst with u | u
          · exact u h0
          · exact u 4 10 (Or.inr ⟨w, rfl, rfl⟩)
        rw [c_and, c_or, if_neg (fun w => hno (lc_eq.mp w)), if_neg (fun w => hno2 (lc_eq.mp w)), ite_self]
      · rw [if_neg (nI_ne0 (by omega) (by omega))]
  · intro gg l3 i m ks ls rs l2 k c r f' i' m' ks' ls' rs' r3 ks3 ls3 rs3 m3 hl hi h1 e1 e2
    show f_X7_readAll_L8b _ _ _ _ _ _ _ _ _ _ _ _ _ _ _ _ _ _ _ _ = _
    dsimp only [cF] at e1
    unfold f_X7_readAll_L8b
    rw [if_neg (show ¬ (1000 : Int32) ≤ nI l3 from nI_ge hl (by decide)), if_pos (show nI 0 = 0 from rfl), c_and, c_or]
    rcases h1 with ⟨h1, rfl, rfl⟩ | ⟨h1, rfl, rfl⟩
    · rw [if_pos (lc_eq.mpr h1)]
      unfold f_X7_readAll_B52
      rw [t_nx hT hi, bd_s]
      dsimp only
      rw [e1, bd_s]
      dsimp only
      rw [c_and, if_pos (lc_eq.mpr h1)]
      unfold f_X7_readAll_B84
      rw [show (3 : Int32) = nI 3 from rfl, e2, bd_s]
      dsimp only
      rw [lt_r, ← nI_succ]
    · rw [if_neg (fun w => d12 i h1 (lc_eq.mp w)), if_pos (lc_eq.mpr h1)]
      unfold f_X7_readAll_B52
      rw [t_nx hT hi, bd_s]
      dsimp only
      rw [e1, bd_s]
      dsimp only
      rw [c_and, if_neg (fun w => d12 i h1 (lc_eq.mp w))]
      unfold f_X7_readAll_B84
      rw [show (4 : Int32) = nI 4 from rfl, e2, bd_s]
      dsimp only
      rw [lt_r, ← nI_succ]
  · intro gg f a o ar c hf ha hst
    show f_X11_all_L5b _ _ _ _ _ _ _ _ _ _ _ _ _ _ _ = _
    unfold f_X11_all_L5b
    have hno : ¬ (f = 0 ∧ W a = cw 11) := fun w => by
      rcases hst with u | u
      · exact u w.1
      · exact u 3 9 (Or.inl ⟨w.2, rfl, rfl⟩)
    have hno2 : ¬ (f = 0 ∧ W a = cw 12) := fun w => by
      rcases hst with u | u
      · exact u w.1
      · exact u 4 10 (Or.inr ⟨w.2, rfl, rfl⟩)
    rw [t_isW0 hT hW ha (by omega) (w := 11) (by decide) (x := 11) rfl hno, bd_s, if_pos rfl, t_isW0 hT hW ha (by omega) (w := 12) (by decide) (x := 12) rfl hno2, bd_s, if_pos rfl]
  · intro gg i c o ar k cc f' a' c' o' ar' o3 ar3 c3 hi h1 e1 e2
    show f_X11_all_L5b _ _ _ _ _ _ _ _ _ _ _ _ _ _ _ = _
    dsimp only [dF] at e1
    unfold f_X11_all_L5b
    rcases h1 with ⟨h1, rfl, rfl⟩ | ⟨h1, rfl, rfl⟩
    · have u := t_isW1 hT hW (show i ≤ N by omega) (f := 0) (by decide) (w := 11) (by decide) (x := 11) rfl rfl h1
      rw [u, bd_s, if_neg z10]
      unfold f_X11_all_B23
      rw [u, bd_s, lt_r, ← nI_succ, e1, bd_s]
      dsimp only
      rw [if_neg z10]
      unfold f_X11_all_B57
      rw [show (9 : Int32) = nI 9 from rfl, e2, bd_s]
    · have u := t_isW0 hT hW (show i ≤ N by omega) (f := 0) (by decide) (w := 11) (by decide) (x := 11) rfl (fun w => d12 i h1 w.2)
      have u2 := t_isW1 hT hW (show i ≤ N by omega) (f := 0) (by decide) (w := 12) (by decide) (x := 12) rfl rfl h1
      rw [u, bd_s, if_pos z00, u2, bd_s, if_neg z10]
      unfold f_X11_all_B23
      rw [u, bd_s, lt_r, ← nI_succ, e1, bd_s]
      dsimp only
      rw [if_pos z00]
      unfold f_X11_all_B57
      rw [show (10 : Int32) = nI 10 from rfl, e2, bd_s]
theorem ag_A (hT : TKS sg len N so pl va A P W U G E) (hW : HW words) (h : AG N A P W U G E feed (cF crec sg (nI len) fe la d) (dF drec so pl va words fl fw gw d)) : AG N A P W U G E feed (cF (f_X7_readAll crec) sg (nI len) fe la d) (dF (f_X11_all drec) so pl va words fl fw gw d) := by
  refine lp_ag hT.1 (ag_T hT h) (lph_A hT hW) ?_ ?_
  · intro f i m ks ls rs r f' i' m' ks' ls' rs' e
    dsimp only [cF] at e ⊢
    unfold f_X7_readAll
    rw [e, bd_s]
    rfl
  · intro f a c o ar f' a' c' o' ar' e
    dsimp only [dF] at e ⊢
    unfold f_X11_all
    rw [e, bd_s]
end EL
