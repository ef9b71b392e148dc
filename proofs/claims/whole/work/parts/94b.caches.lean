/-! PURE 46: caches over rows that changed elsewhere (src/t94b.lean) -/
section RX
variable {n : Nat} {op arg op' arg' : Nat → Int32} {fc shc : Int32} {dg fd he pt of_ fek fel fer : Nat → Int32} {fes : Int32} {gok gol gor : Nat → Int32} {gos : Int32} {R R' : Nat → Int32} {ni : Int32} {g : Int64} {fl hu le fe ta pa lv kp fu bi : Nat → Int32} {bo fa bt : Int32} {X X' : Nat}
theorem lo_eq2 {ml : Int32} {levels : Nat → Int32} (hM : RMo R n dg fd he pt of_) (hL : RLw R op arg fek fel fer fes gok gol gor gos) (hE : RLe n ml levels) (hV : RVa R n ni g fl hu le fe ta pa) (hR3 : ∃ B, B ≤ X ∧ R 3 = nI B) (hX : X < 2 ^ 29) {M : Nat} (hMb : M ≤ 28) (hM2 : RMo R' n dg fd he pt of_) (hL2 : RLw R' op' arg' fek fel fer fes gok gol gor gos) (hV2 : RVa R' n ni g fl hu le fe ta pa) (hR32 : ∃ B, B ≤ X ∧ R' 3 = nI B) : ∀ f, f < n → Lo op' arg' R' M ml f = Lo op arg R M ml f := by
  obtain ⟨x1, x2, x3, x4, x5, x6, x7, x8, x9, x10, x11, x12, x13, a1, a2, -⟩ := lo_cls hM hL hE hV hR3 (bones := 0) ⟨0, Nat.zero_le _, rfl⟩ hMb hX (fun _ => 0) (fun _ => 0) (fun _ => 0) (fun _ => 0) (fun _ => 0) 0
  obtain ⟨y1, y2, y3, y4, y5, y6, y7, y8, y9, y10, y11, y12, y13, b1, b2, -⟩ := lo_cls hM2 hL2 hE hV2 hR32 (bones := 0) ⟨0, Nat.zero_le _, rfl⟩ hMb hX (fun _ => 0) (fun _ => 0) (fun _ => 0) (fun _ => 0) (fun _ => 0) 0
  rw [a1] at b1
  cases b1
  intro f hf
  rw [← b2 f hf, ← a2 f hf, ← hV.2.2.2.2.2.1 f hf, ← hV.2.2.2.2.2.2.1 f hf, ← hV2.2.2.2.2.2.1 f hf, ← hV2.2.2.2.2.2.2.1 f hf]
theorem GC.tr2 {losses known found : Nat → Int32} {fm gn gf : Int32} (h : GC op arg R n losses known found fm gn gf) (hM : RMo R n dg fd he pt of_) (hL : RLw R op arg fek fel fer fes gok gol gor gos) (hV : RVa R n ni g fl hu le fe ta pa) (hR3 : ∃ B, B ≤ X ∧ R 3 = nI B) (hX : X < 2 ^ 29) (hM2 : RMo R' n dg fd he pt of_) (hL2 : RLw R' op' arg' fek fel fer fes gok gol gor gos) (hV2 : RVa R' n ni g fl hu le fe ta pa) (hR32 : ∃ B, B ≤ X ∧ R' 3 = nI B) : GC op' arg' R' n losses known found fm gn gf := by
  rcases h with h | ⟨M, lo, m1, m2, m3, m4, m5, m6, m7⟩
  · exact Or.inl h
  · refine Or.inr ⟨M, lo, m1, m2, m3, m4, m5, fun r f hr hf => ?_, m7⟩
    have h256 := p4 n (by omega)
    have hE : RLe n (nI r) (fun f => nI (lvl r f)) := Or.inr ⟨nI_pos (by omega), fun f hf => ⟨lvl r f, by have := lvl_lt r f; omega, rfl, w_lv r (by omega) f (by omega)⟩⟩
    rw [← m6 r f hr hf]
    exact lo_eq2 hM hL hE hV hR3 hX m2 hM2 hL2 hV2 hR32 f hf
theorem JC.tr2 {losses known found : Nat → Int32} {fm gn gf : Int32} (h : JC op arg R n losses known found fm gn gf) (hM : RMo R n dg fd he pt of_) (hL : RLw R op arg fek fel fer fes gok gol gor gos) (hE : RLe n (-1) lv) (hV : RVa R n ni g fl hu le fe ta pa) (hR3 : ∃ B, B ≤ X ∧ R 3 = nI B) (hX : X < 2 ^ 29) (hM2 : RMo R' n dg fd he pt of_) (hL2 : RLw R' op' arg' fek fel fer fes gok gol gor gos) (hV2 : RVa R' n ni g fl hu le fe ta pa) (hR32 : ∃ B, B ≤ X ∧ R' 3 = nI B) : JC op' arg' R' n losses known found fm gn gf := by
  rcases h with h | ⟨M, lo, m1, m2, m3, m4, m5, m6, m7⟩
  · exact Or.inl h
  · refine Or.inr ⟨M, lo, m1, m2, m3, m4, m5, fun r f hr hf => ?_, m7⟩
    have h120 := fac_5 n (by omega)
    obtain ⟨groups', pac', l1, l2⟩ := e_arrJ (n := n) (row := r) m4 (by omega) (fun _ => 0) pa
    have hfr : ∀ k, (k < 110 ∨ 146 ≤ k) → k < 1000 → Rp R n (sp n r) k = R k := fun k h _ => Rp_o h
    have hfr2 : ∀ k, (k < 110 ∨ 146 ≤ k) → k < 1000 → Rp R' n (sp n r) k = R' k := fun k h _ => Rp_o h
    rw [← m6 r f hr hf]
    exact lo_eq2 (hM.pac hfr) (hL.pac hfr) hE (hV.rowJ m4 l2) (by rw [Rp_o (by omega)]; exact hR3) hX m2 (hM2.pac hfr2) (hL2.pac hfr2) (hV2.rowJ m4 l2) (by rw [Rp_o (by omega)]; exact hR32) f hf
theorem MK.lowm {m mt km : Nat} {la mk : Int32} (h : MK X m R op arg n fc shc dg fd he pt of_ fek fel fer fes gok gol gor gos mt la mk km ni g fl hu le fe ta pa lv kp fu bi bo fa bt) (hl : ∀ k, k < 1000 → R' (1000 * (2 + m) + k) = R (1000 * (2 + m) + k)) (ho : ∀ k, k < 1100 → op' k = op k ∧ arg' k = arg k) (hX : X ≤ X') (hX' : X' < 2 ^ 31) : MK X' m R' op' arg' n fc shc dg fd he pt of_ fek fel fer fes gok gol gor gos mt la mk km ni g fl hu le fe ta pa lv kp fu bi bo fa bt := by
  rcases h with h | ⟨h1, h2, h3, h4⟩
  · exact Or.inl h
  · exact Or.inr ⟨h1, h2, h3, h4.low hl ho hX hX'⟩
end RX
theorem chg_f {k : Nat} (h : k ≠ 1 ∧ k ≠ 2 ∧ k ≠ 3 ∧ ¬ (8 ≤ k ∧ k < 50 ∧ ((k - 8) % 7 = 0 ∨ (k - 8) % 7 = 3 ∨ (k - 8) % 7 = 4 ∨ (k - 8) % 7 = 5)) ∧ ¬ (146 ≤ k ∧ k < 182) ∧ ¬ (190 ≤ k ∧ k < 990)) : chg k = false := by
  unfold chg
  simp only [Bool.or_eq_false_iff, Bool.and_eq_false_iff, beq_eq_false_iff_ne, decide_eq_false_iff_not, ne_eq]
  omega
