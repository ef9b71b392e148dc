/-! PURE 45: what stands between two calls (src/t94.lean) -/
theorem cpyN {α : Type} (f g : Nat → α) {n k : Nat} (hk : k < n) : va_cpy f g 0 0 n k = f k := by
  unfold va_cpy
  rw [if_pos ⟨by omega, by omega⟩]
  exact congrArg f (by omega)
section FRM
variable {n : Nat} {op arg dogs fenced heights partner often : Nat → Int32} {fek fel fer : Nat → Int32} {fes : Int32} {gok gol gor : Nat → Int32} {gos : Int32} {ml : Int32} {levels : Nat → Int32} {R R' : Nat → Int32} {night : Int32} {g : Int64} {flock hunger lean fed taken pacts kept feuds bites : Nat → Int32} {bones fall bitten fences shares : Int32} {X : Nat} {β : Bool}
theorem RMo.of (h : RMo R n dogs fenced heights partner often) (hk : ∀ k, k = 0 ∨ (8 ≤ k ∧ k < 50 ∧ ((k - 8) % 7 = 1 ∨ (k - 8) % 7 = 6)) ∨ (50 ≤ k ∧ k < 110) → R' k = R k) : RMo R' n dogs fenced heights partner often := by
  obtain ⟨hn, m0, m1, m2, m3, m4, m5⟩ := h
  refine ⟨hn, ?_, fun y hy => ?_, fun y hy => ?_, fun y k hy h4 => ?_, fun a ha => ?_, fun a e ha he => ?_⟩
  · rw [hk 0 (by omega)]; exact m0
  · rw [hk _ (by omega)]; exact m1 y hy
  · rw [hk _ (by omega)]; exact m2 y hy
  · rw [hk _ (by omega)]; exact m3 y k hy h4
  · exact (m4 a ha).cong fun e he => by rw [hk _ (by omega)]
  · rw [hk _ (by omega)]; exact m5 a e ha he
theorem RVa.of (hn : n ≤ 6) (h : RVa R n night g flock hunger lean fed taken pacts) (hk : ∀ k, k = 1 ∨ k = 2 ∨ (8 ≤ k ∧ k < 50) ∨ (110 ≤ k ∧ k < 146) → R' k = R k) : RVa R' n night g flock hunger lean fed taken pacts := by
  obtain ⟨h1, h2, h3, h4, h5, h6, h7, h8, h9⟩ := h
  refine ⟨?_, ?_, fun f hf => ?_, fun f hf => ?_, fun f hf => ?_, fun f hf => ?_, fun f hf => ?_, fun a ha => ?_, fun a e ha he => ?_⟩
  · rw [hk 1 (by omega)]; exact h1
  · rw [hk 2 (by omega)]; exact h2
  · rw [hk _ (by omega)]; exact h3 f hf
  · rw [hk _ (by omega)]; exact h4 f hf
  · rw [hk _ (by omega)]; exact h5 f hf
  · rw [hk _ (by omega)]; exact h6 f hf
  · rw [hk _ (by omega)]; exact h7 f hf
  · exact (h8 a ha).cong fun e he => by rw [hk _ (by omega)]
  · rw [hk _ (by omega)]; exact h9 a e ha he
theorem fsum_cong : ∀ {l : List Nat}, (∀ k, k ∈ l → R' k = R k) → fsum R' l = fsum R l
  | [], _ => rfl
  | k :: l, h => by
    show R' k + fsum R' l = R k + fsum R l
    rw [h k List.mem_cons_self, fsum_cong (fun j hj => h j (List.mem_cons_of_mem _ hj))]
theorem lowF_in : ∀ k, k ∈ lowF → 146 ≤ k ∧ k < 182 := by decide
theorem RBo.of (h : RBo β X R kept feuds bones fall) (hk : ∀ k, k = 0 ∨ k = 3 ∨ (146 ≤ k ∧ k < 182) ∨ (190 ≤ k ∧ k < 990) → R' k = R k) : RBo β X R' kept feuds bones fall := by
  obtain ⟨h1, h2, h3⟩ := h
  refine ⟨h1, by rw [hk 3 (by omega)]; exact h2, fun hb => ?_⟩
  obtain ⟨e1, e2, e3, e4, e5⟩ := h3 hb
  refine ⟨by rw [hk 3 (by omega)]; exact e1, fun B hB hX k hk2 => ?_, fun k hk2 => ?_, ?_, fun n f e hn h0 hf hf6 he => ?_⟩
  · rw [hk 3 (by omega)] at hB
    rw [hk _ (by omega)]; exact e2 B hB hX k hk2
  · rw [hk _ (by omega)]; exact e3 k hk2
  · rw [e4]
    exact (fsum_cong (fun k hk2 => hk k (by have := lowF_in k hk2; omega))).symm
  · rw [hk 0 (by omega)] at h0
    rw [hk _ (by omega)]; exact e5 n f e hn h0 hf hf6 he
theorem RBo.copy (h : RBo β X R kept feuds bones fall) (a b : Nat → Int32) : RBo β X R (va_cpy kept a 0 0 800) (va_cpy feuds b 0 0 36) bones fall := by
  obtain ⟨h1, h2, h3⟩ := h
  refine ⟨h1, h2, fun hb => ?_⟩
  obtain ⟨e1, e2, e3, e4, e5⟩ := h3 hb
  exact ⟨e1, fun B hB hX k hk2 => by rw [cpyN _ _ (by omega)]; exact e2 B hB hX k hk2, fun k hk2 => by rw [cpyN _ _ hk2]; exact e3 k hk2, e4, e5⟩
theorem RBi.of (h : RBi R bites bitten) (hk : ∀ k, k = 4 ∨ (182 ≤ k ∧ k < 190) → R' k = R k) : RBi R' bites bitten := by
  obtain ⟨b, b1, b2, b3, b4⟩ := h
  refine ⟨b, b1, b2, by rw [hk 4 (by omega)]; exact b3, fun k hk2 => ?_⟩
  rw [hk _ (by omega)]; exact b4 k hk2
theorem RBi.copy (h : RBi R bites bitten) (a : Nat → Int32) : RBi R (va_cpy bites a 0 0 8) bitten := by
  obtain ⟨b, b1, b2, b3, b4⟩ := h
  exact ⟨b, b1, b2, b3, fun k hk2 => by rw [cpyN _ _ (by omega)]; exact b4 k hk2⟩
theorem RSy.of (hn : n ≤ 6) (h : RSy R n) (hk : ∀ k, 74 ≤ k ∧ k < 146 → R' k = R k) : RSy R' n := fun a b ha hb => by
  rw [hk _ (by omega), hk _ (by omega), hk _ (by omega), hk _ (by omega)]
  exact h a b ha hb
theorem RCn.of (hn : n ≤ 6) (h : RCn R n fences shares) (hk : ∀ k, (74 ≤ k ∧ k < 110) ∨ (8 ≤ k ∧ k < 50 ∧ (k - 8) % 7 = 6) → R' k = R k) : RCn R' n fences shares := by
  obtain ⟨h1, h2⟩ := h
  have t : ∀ {u v : Nat → Nat → Nat}, (∀ a e, a < 6 → e < 6 → u a e = v a e) → ∀ k, k ≤ 6 → tri u k = tri v k := by
    intro u v huv k
    induction k with
    | zero => intro _; rfl
    | succ k ih =>
      intro hk6
      have r : ∀ j, j ≤ 6 → rs (u k) j = rs (v k) j := by
        intro j
        induction j with
        | zero => intro _; rfl
        | succ j ihj =>
          intro hj
          show rs (u k) j + u k j = rs (v k) j + v k j
          rw [ihj (by omega), huv k j (by omega) (by omega)]
      show tri u k + rs (u k) k = tri v k + rs (v k) k
      rw [ih (by omega), r k (by omega)]
  have r2 : ∀ {u v : Nat → Nat}, (∀ a, a < 6 → u a = v a) → ∀ j, j ≤ 6 → rs u j = rs v j := by
    intro u v huv j
    induction j with
    | zero => intro _; rfl
    | succ j ihj =>
      intro hj
      show rs u j + u j = rs v j + v j
      rw [ihj (by omega), huv j (by omega)]
  refine ⟨h1.trans (congrArg nI (t (fun a e ha he => ?_) n hn)), h2.trans (congrArg nI (r2 (fun a ha => ?_) n hn))⟩
  · show c01 (R (74 + 6 * a + e)) = c01 (R' (74 + 6 * a + e))
    rw [hk _ (by omega)]
  · show c01 (R (14 + 7 * a)) = c01 (R' (14 + 7 * a))
    rw [hk _ (by omega)]
/-- a row of the reference against a valley, a book and a mountain of the class -/
def ROW (X : Nat) (R op arg : Nat → Int32) (n : Nat) (fc shc : Int32) (dg fd he pt of_ fek fel fer : Nat → Int32) (fes : Int32) (gok gol gor : Nat → Int32) (gos : Int32) (ni : Int32) (g : Int64) (fl hu le fe ta pa lv kp fu bi : Nat → Int32) (bo fa bt : Int32) : Prop :=
  RMo R n dg fd he pt of_ ∧ RVa R n ni g fl hu le fe ta pa ∧ RLs R op arg fek fel fer fes gok gol gor gos ∧ RLe n (-1) lv ∧ RBo true X R kp fu bo fa ∧ RBi R bi bt ∧ RSy R n ∧ RCn R n fc shc
end FRM
section RW
variable {n : Nat} {op arg op' arg' : Nat → Int32} {fc shc : Int32} {dg fd he pt of_ fek fel fer : Nat → Int32} {fes : Int32} {gok gol gor : Nat → Int32} {gos : Int32} {R R' : Nat → Int32} {ni ni' : Int32} {g g' : Int64} {fl hu le fe ta pa lv kp fu bi fl' hu' le' fe' ta' pa' lv' kp' fu' bi' : Nat → Int32} {bo fa bt bo' fa' bt' : Int32} {X X' : Nat}
theorem ROW.low (h : ROW X R op arg n fc shc dg fd he pt of_ fek fel fer fes gok gol gor gos ni g fl hu le fe ta pa lv kp fu bi bo fa bt) (hl : ∀ k, k < 1000 → R' k = R k) (ho : ∀ k, k < 1100 → op' k = op k ∧ arg' k = arg k) (hX : X ≤ X') (hX' : X' < 2 ^ 31) : ROW X' R' op' arg' n fc shc dg fd he pt of_ fek fel fer fes gok gol gor gos ni g fl hu le fe ta pa lv kp fu bi bo fa bt := by
  obtain ⟨hM, hV, hL, hE, hB, hBi, hS, hC⟩ := h
  have hn := hM.1
  exact ⟨hM.of (fun k hk => hl k (by omega)), hV.of hn (fun k hk => hl k (by omega)), hL.tr (hl 0 (by decide)) (hl 5 (by decide)) (hl 6 (by decide)) ho, hE, (hB.of (fun k hk => hl k (by omega))).up hX hX', hBi.of (fun k hk => hl k (by omega)), hS.of hn (fun k hk => hl k (by omega)), hC.of hn (fun k hk => hl k (by omega))⟩
theorem ROW.up (h : ROW X R op arg n fc shc dg fd he pt of_ fek fel fer fes gok gol gor gos ni g fl hu le fe ta pa lv kp fu bi bo fa bt) (hX : X ≤ X') (hX' : X' < 2 ^ 31) : ROW X' R op arg n fc shc dg fd he pt of_ fek fel fer fes gok gol gor gos ni g fl hu le fe ta pa lv kp fu bi bo fa bt := h.low (fun _ _ => rfl) (fun _ _ => ⟨rfl, rfl⟩) hX hX'
theorem ROW.mod (h : ROW X R op arg n fc shc dg fd he pt of_ fek fel fer fes gok gol gor gos ni g fl hu le fe ta pa lv kp fu bi bo fa bt) (hk : ∀ k, k = 0 ∨ k = 5 ∨ k = 6 ∨ (8 ≤ k ∧ k < 50 ∧ ((k - 8) % 7 = 1 ∨ (k - 8) % 7 = 6)) ∨ (50 ≤ k ∧ k < 110) → R' k = R k)
    (hV : RVa R' n ni' g' fl' hu' le' fe' ta' pa') (hE : RLe n (-1) lv') (hB : RBo true X' R' kp' fu' bo' fa') (hBi : RBi R' bi' bt') (hS : RSy R' n) : ROW X' R' op arg n fc shc dg fd he pt of_ fek fel fer fes gok gol gor gos ni' g' fl' hu' le' fe' ta' pa' lv' kp' fu' bi' bo' fa' bt' := by
  obtain ⟨hM, -, hL, -, -, -, -, hC⟩ := h
  have hn := hM.1
  exact ⟨hM.of (fun k h => hk k (by omega)), hV, hL.tr (hk 0 (by omega)) (hk 5 (by omega)) (hk 6 (by omega)) (fun _ _ => ⟨rfl, rfl⟩), hE, hB, hBi, hS, hC.of hn (fun k h => hk k (by omega))⟩
theorem ROW.copy (h : ROW X R op arg n fc shc dg fd he pt of_ fek fel fer fes gok gol gor gos ni g fl hu le fe ta pa lv kp fu bi bo fa bt) (a1 a2 a3 a4 a5 a6 a7 b1 b2 b3 : Nat → Int32) : ROW X R op arg n fc shc dg fd he pt of_ fek fel fer fes gok gol gor gos ni g (va_cpy fl a1 0 0 6) (va_cpy hu a2 0 0 6) (va_cpy le a3 0 0 6) (va_cpy fe a4 0 0 6) (va_cpy ta a5 0 0 6) (va_cpy pa a6 0 0 6) (va_cpy lv a7 0 0 6) (va_cpy kp b1 0 0 800) (va_cpy fu b2 0 0 36) (va_cpy bi b3 0 0 8) bo fa bt := by
  obtain ⟨hM, hV, hL, hE, hB, hBi, hS, hC⟩ := h
  exact ⟨hM, hV.copy hM.1 a1 a2 a3 a4 a5 a6, hL, hE.copy hM.1 a7, hB.copy b1 b2, hBi.copy b3, hS, hC⟩
/-- the same losses, whatever the codes behind the laws, and the rows behind the first -/
theorem lo_eq {ml : Int32} {levels : Nat → Int32} (hM : RMo R n dg fd he pt of_) (hL : RLw R op arg fek fel fer fes gok gol gor gos) (hE : RLe n ml levels) (hV : RVa R n ni g fl hu le fe ta pa) (hR3 : ∃ B, B ≤ X ∧ R 3 = nI B) (hX : X < 2 ^ 29) {M : Nat} (hMb : M ≤ 28) (hlow : Low R R') (hL2 : RLw R' op' arg' fek fel fer fes gok gol gor gos) : ∀ f, f < n → Lo op' arg' R' M ml f = Lo op arg R M ml f := by
  have hn := hM.1
  obtain ⟨x1, x2, x3, x4, x5, x6, x7, x8, x9, x10, x11, x12, x13, a1, a2, -⟩ := lo_cls hM hL hE hV hR3 (bones := 0) ⟨0, Nat.zero_le _, rfl⟩ hMb hX (fun _ => 0) (fun _ => 0) (fun _ => 0) (fun _ => 0) (fun _ => 0) 0
  obtain ⟨y1, y2, y3, y4, y5, y6, y7, y8, y9, y10, y11, y12, y13, b1, b2, -⟩ := lo_cls (hM.low hlow) hL2 hE (hV.low hn hlow) (by rw [hlow 3 (by decide)]; exact hR3) (bones := 0) ⟨0, Nat.zero_le _, rfl⟩ hMb hX (fun _ => 0) (fun _ => 0) (fun _ => 0) (fun _ => 0) (fun _ => 0) 0
  rw [a1] at b1
  cases b1
  intro f hf
  rw [← b2 f hf, ← a2 f hf, hlow _ (by omega), hlow _ (by omega)]
theorem GC.tr {losses known found : Nat → Int32} {fm gn gf : Int32} (h : GC op arg R n losses known found fm gn gf) (hM : RMo R n dg fd he pt of_) (hL : RLw R op arg fek fel fer fes gok gol gor gos) (hV : RVa R n ni g fl hu le fe ta pa) (hR3 : ∃ B, B ≤ X ∧ R 3 = nI B) (hX : X < 2 ^ 29) (hlow : Low R R') (hL2 : RLw R' op' arg' fek fel fer fes gok gol gor gos) : GC op' arg' R' n losses known found fm gn gf := by
  rcases h with h | ⟨M, lo, m1, m2, m3, m4, m5, m6, m7⟩
  · exact Or.inl h
  · refine Or.inr ⟨M, lo, m1, m2, m3, m4, m5, fun r f hr hf => ?_, m7⟩
    have h256 := p4 n (by omega)
    have hE : RLe n (nI r) (fun f => nI (lvl r f)) := Or.inr ⟨nI_pos (by omega), fun f hf => ⟨lvl r f, by have := lvl_lt r f; omega, rfl, w_lv r (by omega) f (by omega)⟩⟩
    rw [← m6 r f hr hf]
    exact lo_eq hM hL hE hV hR3 hX m2 hlow hL2 f hf
theorem JC.tr {losses known found : Nat → Int32} {fm gn gf : Int32} (h : JC op arg R n losses known found fm gn gf) (hM : RMo R n dg fd he pt of_) (hL : RLw R op arg fek fel fer fes gok gol gor gos) (hE : RLe n (-1) lv) (hV : RVa R n ni g fl hu le fe ta pa) (hR3 : ∃ B, B ≤ X ∧ R 3 = nI B) (hX : X < 2 ^ 29) (hlow : Low R R') (hL2 : RLw R' op' arg' fek fel fer fes gok gol gor gos) : JC op' arg' R' n losses known found fm gn gf := by
  rcases h with h | ⟨M, lo, m1, m2, m3, m4, m5, m6, m7⟩
  · exact Or.inl h
  · refine Or.inr ⟨M, lo, m1, m2, m3, m4, m5, fun r f hr hf => ?_, m7⟩
    have h120 := fac_5 n (by omega)
    obtain ⟨groups', pac', l1, l2⟩ := e_arrJ (n := n) (row := r) m4 (by omega) (fun _ => 0) pa
    have hfr : ∀ k, (k < 110 ∨ 146 ≤ k) → k < 1000 → Rp R n (sp n r) k = R k := fun k h _ => Rp_o h
    have hfr2 : ∀ k, (k < 110 ∨ 146 ≤ k) → k < 1000 → Rp R' n (sp n r) k = R' k := fun k h _ => Rp_o h
    have hlow2 : Low (Rp R n (sp n r)) (Rp R' n (sp n r)) := by
      intro k hk
      unfold Rp
      rw [hlow k hk]
    rw [← m6 r f hr hf]
    exact lo_eq (hM.pac hfr) (hL.pac hfr) hE (hV.rowJ m4 l2) (by rw [Rp_o (by omega)]; exact hR3) hX m2 hlow2 (hL2.pac hfr2) f hf
/-- a mark of both -/
def MK (X m : Nat) (R op arg : Nat → Int32) (n : Nat) (fc shc : Int32) (dg fd he pt of_ fek fel fer : Nat → Int32) (fes : Int32) (gok gol gor : Nat → Int32) (gos : Int32) (mt : Nat) (la mk : Int32) (km : Nat) (ni : Int32) (g : Int64) (fl hu le fe ta pa lv kp fu bi : Nat → Int32) (bo fa bt : Int32) : Prop :=
  (la = 0 ∧ mk = 0) ∨ (la = 1 ∧ mk = 1 ∧ km = mt ∧ ROW X (fun k => R (1000 * (2 + m) + k)) op arg n fc shc dg fd he pt of_ fek fel fer fes gok gol gor gos ni g fl hu le fe ta pa lv kp fu bi bo fa bt)
theorem MK.low {m mt km : Nat} {la mk : Int32} (h : MK X m R op arg n fc shc dg fd he pt of_ fek fel fer fes gok gol gor gos mt la mk km ni g fl hu le fe ta pa lv kp fu bi bo fa bt) (hm : m < 4) (hl : ∀ k, 2000 ≤ k → k < 6000 → R' k = R k) (ho : ∀ k, k < 1100 → op' k = op k ∧ arg' k = arg k) (hX : X ≤ X') (hX' : X' < 2 ^ 31) : MK X' m R' op' arg' n fc shc dg fd he pt of_ fek fel fer fes gok gol gor gos mt la mk km ni g fl hu le fe ta pa lv kp fu bi bo fa bt := by
  rcases h with h | ⟨h1, h2, h3, h4⟩
  · exact Or.inl h
  · exact Or.inr ⟨h1, h2, h3, h4.low (fun k hk => hl _ (by omega) (by omega)) ho hX hX'⟩
end RW
/-! ## marks of the reference -/
section RK
variable {R mk : Nat → Int32} {th : Int32} {m : Nat}
theorem rm_in (hm : m < 4) : f_X11_within (nI m) 0 3 = some 1 := by
  have h : ∀ m, m < 4 → f_X11_within (nI m) 0 3 = some 1 := by
    intro m hm
    unfold f_X11_within
    rw [if_neg (nI_pos (by omega)), if_neg (show ¬ (3 : Int32) < nI m from nI_nlt (a := 3) (by omega) (by decide))]
  exact h m hm
theorem rm_lay (hm : m < 4) : f_X11_mark th R mk (nI m) 0 = some (1, 0, cr R 0 (2 + m), upd mk m 1) := by
  unfold f_X11_mark f_X11_mark_B29 f_X11_mark_B48 f_X11_mark_B59
  rw [rm_in hm, bd_s, if_neg z10, if_pos z00, g_nI hm (by decide), lt_r, if_pos z00, if_pos z00, ix_nI (by omega), show (2 : Int32) = nI 2 from rfl, i_add]
  have hc : f_X11_carry R 0 (nI (2 + m)) = some (cr R 0 (2 + m)) := e_carry (a := 0) (b := 2 + m) (by decide) (by omega) (by omega) R
  rw [hc, bd_s]
  rfl
theorem rm_back (hm : m < 4) (h : mk m ≠ 0) : f_X11_mark th R mk (nI m) 1 = some (1, 0, cr R (2 + m) 0, upd mk m 1) := by
  unfold f_X11_mark f_X11_mark_B29 f_X11_mark_B48 f_X11_mark_B59
  rw [rm_in hm, bd_s, if_neg z10, if_neg z10, g_nI hm (by decide), ix_nI (by omega), if_neg h, g_nI hm (by decide), lt_r, if_neg z10, if_neg z10, show (2 : Int32) = nI 2 from rfl, i_add]
  have hc : f_X11_carry R (nI (2 + m)) 0 = some (cr R (2 + m) 0) := e_carry (a := 2 + m) (b := 0) (by omega) (by decide) (by omega) R
  rw [hc, bd_s]
  rfl
theorem rm_no (hm : m < 4) (h : mk m = 0) : f_X11_mark th R mk (nI m) 1 = some (0, 0, R, mk) := by
  unfold f_X11_mark
  rw [rm_in hm, bd_s, if_neg z10, if_neg z10, g_nI hm (by decide), ix_nI (by omega), if_pos h]
theorem rm_out {x : Int32} (h : x < 0 ∨ (¬ x < 0 ∧ 4 ≤ x)) (y : Int32) : f_X11_mark th R mk x y = some (0, 0, R, mk) := by
  unfold f_X11_mark f_X11_within
  rcases h with h | ⟨h, h2⟩
  · rw [if_pos h, bd_s, if_pos z00]
  · have h3 : 3 < x := by
      rw [Int32.lt_iff_toInt_lt]
      rw [Int32.le_iff_toInt_le] at h2
      have e1 : (4 : Int32).toInt = 4 := rfl
      have e2 : (3 : Int32).toInt = 3 := rfl
      omega
    rw [if_neg h, if_pos h3, bd_s, if_pos z00]
theorem mk_cases (x : Int32) : (x < 0 ∨ (¬ x < 0 ∧ 4 ≤ x)) ∨ x = nI 0 ∨ x = nI 1 ∨ x = nI 2 ∨ x = nI 3 := by
  rcases w_two x with h | ⟨k, hk, rfl⟩
  · exact Or.inl (Or.inl h)
  · by_cases q : k < 4
    · right
      match k, q with
      | 0, _ => exact Or.inl rfl
      | 1, _ => exact Or.inr (Or.inl rfl)
      | 2, _ => exact Or.inr (Or.inr (Or.inl rfl))
      | 3, _ => exact Or.inr (Or.inr (Or.inr rfl))
      | k + 4, q => exact absurd q (by omega)
    · exact Or.inl (Or.inr ⟨nI_pos hk, nI_le (a := 4) (by omega) hk⟩)
theorem ck_lo {m k : Nat} (hm : m < 4) (hk : k < 1000) : cr R 0 (2 + m) k = R k := by
  unfold cr
  rw [if_neg (by omega)]
theorem ck_in {m k : Nat} (hk : k < 1000) : cr R 0 (2 + m) (1000 * (2 + m) + k) = R k := by
  unfold cr
  rw [if_pos ⟨by omega, by omega⟩]
  exact congrArg R (by omega)
theorem ck_out {m m' k : Nat} (hk : k < 1000) (hne : m' ≠ m) : cr R 0 (2 + m) (1000 * (2 + m') + k) = R (1000 * (2 + m') + k) := by
  unfold cr
  rw [if_neg (by omega)]
theorem cb_lo {m k : Nat} (hk : k < 1000) : cr R (2 + m) 0 k = R (1000 * (2 + m) + k) := by
  unfold cr
  rw [if_pos ⟨by omega, by omega⟩]
  exact congrArg R (by omega)
theorem cb_hi {m k : Nat} (hk : 1000 ≤ k) : cr R (2 + m) 0 k = R k := by
  unfold cr
  rw [if_neg (by omega)]
end RK
