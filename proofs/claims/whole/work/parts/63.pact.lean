/-! PURE 14: pact -/
theorem mk_tog : ∀ m, m < 64 → ∀ e, e < 6 → nI m ^^^ nI (2 ^ e) = nI (m ^^^ 2 ^ e) ∧ m ^^^ 2 ^ e < 64 := by decide +kernel
theorem mk_togb : ∀ m, m < 64 → ∀ e, e < 6 → ∀ i, i < 6 → (m ^^^ 2 ^ e).testBit i = (if i = e then !m.testBit i else m.testBit i) := by decide +kernel
theorem Mk.tog {x : Int32} {p : Nat → Bool} (h : Mk x p) {y : Int32} {e : Nat} (hy : y = nI e) (he : e < 6) : Mk (x ^^^ (1 <<< (y &&& 31))) (fun i => if i = e then !p i else p i) := by
  obtain ⟨m, hm, rfl, hp⟩ := h
  refine ⟨m ^^^ 2 ^ e, (mk_tog m hm e he).2, by rw [hy, mk_one e he, (mk_tog m hm e he).1], fun i hi => ?_⟩
  rw [mk_togb m hm e he i hi, hp i hi]
/-- pacts and fences go both ways -/
def RSy (R : Nat → Int32) (n : Nat) : Prop := ∀ a b, a < n → b < n → R (110 + 6 * a + b) = R (110 + 6 * b + a) ∧ R (74 + 6 * a + b) = R (74 + 6 * b + a)
section WQ
variable {n : Nat} {dogs fenced heights partner often : Nat → Int32} {R : Nat → Int32} {night : Int32} {g : Int64} {flock hunger lean fed taken pacts : Nat → Int32} {th gn jn : Int32}
theorem e_have (hn : n ≤ 6) (hV : RVa R n night g flock hunger lean fed taken pacts) {a b : Nat} (ha : a < n) (hb : b < n) : f_X9_havePact pacts (nI a) (nI b) = some (if R (110 + 6 * a + b) ≠ 0 then 1 else 0) := by
  unfold f_X9_havePact
  rw [g_nI (by omega) (by decide), ix_nI (by omega)]
  have := (hV.2.2.2.2.2.2.2.1 a ha).bit (y := nI b) rfl (show b < 6 by omega)
  by_cases h : R (110 + 6 * a + b) ≠ 0
  · rw [if_pos h, if_pos (this.mpr (by simpa using h))]
  · rw [if_neg h, if_neg (fun z => h (by simpa using this.mp z))]
theorem op_pact (hM : RMo R n dogs fenced heights partner often) (hV : RVa R n night g flock hunger lean fed taken pacts) (hS : RSy R n) (x y : Int32) {z : Int32} (hz : z = 0 ∨ z = 1) :
    (f_X10_pact (nI n) pacts gn jn x y z = some (0, pacts, gn, jn) ∧ f_X11_pact th R x y z = some (0, 0, R)) ∨
    ∃ (pacts' : Nat → Int32) (a b : Nat), a < n ∧ b < n ∧ a ≠ b ∧ f_X10_pact (nI n) pacts gn jn x y z = some (1, pacts', 0, 0) ∧ f_X11_pact th R x y z = some (1, 0, upd (upd R (110 + 6 * a + b) z) (110 + 6 * b + a) z) ∧
      RVa (upd (upd R (110 + 6 * a + b) z) (110 + 6 * b + a) z) n night g flock hunger lean fed taken pacts' ∧ RSy (upd (upd R (110 + 6 * a + b) z) (110 + 6 * b + a) z) n := by
  have hn := hM.1
  unfold f_X10_pact f_X11_pact f_X10_isPair
  rcases e_isFarm hn hM.2.1 x with ⟨h1, h2⟩ | ⟨a, ha, rfl, h1, h2⟩
  · left; exact ⟨by rw [h1, bd_s, if_pos z00, bd_s, if_pos z00], by rw [h2, bd_s, if_pos z00]⟩
  · rcases e_isFarm hn hM.2.1 y with ⟨h3, h4⟩ | ⟨b, hb, rfl, h3, h4⟩
    · left; exact ⟨by rw [h1, bd_s, if_neg z10, h3, bd_s, if_pos z00, bd_s, if_pos z00], by rw [h2, bd_s, if_neg z10, h4, bd_s, if_pos z00]⟩
    · by_cases hab : nI a = nI b
      · left; exact ⟨by rw [h1, bd_s, if_neg z10, h3, bd_s, if_neg z10, if_pos hab, bd_s, if_pos z00], by rw [h2, bd_s, if_neg z10, h4, bd_s, if_neg z10, if_pos hab]⟩
      · have hab' : a ≠ b := fun e => hab (by rw [e])
        have e1 : (110 + (6 * nI a)) + nI b = nI (110 + 6 * a + b) := by rw [show (110 : Int32) = nI 110 from rfl, show (6 : Int32) = nI 6 from rfl, i_mul, i_add, i_add]
        have e2 : (110 + (6 * nI b)) + nI a = nI (110 + 6 * b + a) := by rw [show (110 : Int32) = nI 110 from rfl, show (6 : Int32) = nI 6 from rfl, i_mul, i_add, i_add]
        have hhv := e_have hn hV ha hb
        have hval := hV.2.2.2.2.2.2.2.2 a b ha (by omega)
        -- the reference's question
        have hr0 : ∀ q : Int32, (if R (110 + 6 * a + b) ≠ 0 then (1 : Int32) else 0) = q → (if R (110 + 6 * a + b) ≤ 0 then f_X11_pact_B48 0 R (nI a) (nI b) z 0 else f_X11_pact_B48 0 R (nI a) (nI b) z 1) = f_X11_pact_B48 0 R (nI a) (nI b) z q := by
          intro q hq
          rcases hval with h0 | ⟨-, -, h0⟩
          · rw [h0] at hq ⊢
            rw [if_pos (by decide)]
            rw [if_neg (by simp)] at hq
            rw [hq]
          · rw [h0] at hq ⊢
            rw [if_neg (by decide)]
            rw [if_pos (by decide)] at hq
            rw [hq]
        obtain ⟨q, hq⟩ : ∃ q : Int32, (if R (110 + 6 * a + b) ≠ 0 then (1 : Int32) else 0) = q := ⟨_, rfl⟩
        have hr : f_X11_isFarm R (nI a) = some 1 := h2
        rw [hq] at hhv
        by_cases hqz : q = z
        · left
          refine ⟨by rw [h1, bd_s, if_neg z10, h3, bd_s, if_neg z10, if_neg hab, bd_s, if_neg z10, hhv, bd_s, if_pos hqz], ?_⟩
          rw [h2, bd_s, if_neg z10, h4, bd_s, if_neg z10, if_neg hab, e1, g_nI (by omega) (by decide), ix_nI (by omega), hr0 q hq]
          unfold f_X11_pact_B48
          rw [if_pos hqz]
        · right
          have hga : ∀ {β : Type} {k : Option β}, g_in (nI a) 6 k = k := fun {β k} => g_nI (by omega) (by decide)
          have hgb : ∀ {β : Type} {k : Option β}, g_in (nI b) 6 k = k := fun {β k} => g_nI (by omega) (by decide)
          have hxa : ix (nI a) = a := ix_nI (by omega)
          have hxb : ix (nI b) = b := ix_nI (by omega)
          -- the new bit
          have hbit : decide (z ≠ 0) = !decide (R (110 + 6 * a + b) ≠ 0) := by
            rcases hval with h0 | ⟨-, -, h0⟩
            · rw [h0] at hq ⊢
              rw [if_neg (by simp)] at hq
              rcases hz with rfl | rfl
              · exact absurd hq.symm hqz
              · decide
            · rw [h0] at hq ⊢
              rw [if_pos (by decide)] at hq
              rcases hz with rfl | rfl
              · decide
              · exact absurd hq.symm hqz
          refine ⟨upd (upd pacts a (pacts a ^^^ (1 <<< (nI b &&& 31)))) b (pacts b ^^^ (1 <<< (nI a &&& 31))), a, b, ha, hb, hab', ?_, ?_, ?_, ?_⟩
          · rw [h1, bd_s, if_neg z10, h3, bd_s, if_neg z10, if_neg hab, bd_s, if_neg z10, hhv, bd_s, if_neg hqz]
            unfold f_X9_turnPact
            simp only [hga, hgb, hxa, hxb, lt_, bd_s]
            rw [u_n (fun e => hab' e.symm)]
            rfl
          · rw [h2, bd_s, if_neg z10, h4, bd_s, if_neg z10, if_neg hab, e1, g_nI (by omega) (by decide), ix_nI (by omega), hr0 q hq]
            unfold f_X11_pact_B48
            rw [if_neg hqz, e1]
            have last : ∀ v : Int32, v = z → f_X11_pact_B76 0 R (nI a) (nI b) z v (nI (110 + 6 * a + b)) = some (1, 0, upd (upd R (110 + 6 * a + b) z) (110 + 6 * b + a) z) := by
              intro v hv
              subst hv
              unfold f_X11_pact_B76
              rw [e2, g_nI (by omega) (by decide), ix_nI (by omega)]
              simp only [lt_]
              rw [g_nI (by omega) (by decide), g_nI (by omega) (by decide), ix_nI (by omega)]
              rcases hz with rfl | rfl
              · rw [if_pos rfl]
              · rw [if_neg z10]
            rcases hz with hz0 | hz1
            · rw [if_pos hz0]; exact last 0 hz0.symm
            · rw [if_neg (by rw [hz1]; decide)]; exact last 1 hz1.symm
          · obtain ⟨v1, v2, v3, v4, v5, v6, v7, v8, v9⟩ := hV
            refine ⟨?_, ?_, fun f hf => ?_, fun f hf => ?_, fun f hf => ?_, fun f hf => ?_, fun f hf => ?_, fun c hc => ?_, fun c e hc he => ?_⟩
            · rw [u_n (by omega), u_n (by omega)]; exact v1
            · rw [u_n (by omega), u_n (by omega)]; exact v2
            · rw [u_n (by omega), u_n (by omega)]; exact v3 f hf
            · rw [u_n (by omega), u_n (by omega)]; exact v4 f hf
            · rw [u_n (by omega), u_n (by omega)]; exact v5 f hf
            · rw [u_n (by omega), u_n (by omega)]; exact v6 f hf
            · rw [u_n (by omega), u_n (by omega)]; exact v7 f hf
            · by_cases hcb : c = b
              · subst hcb
                rw [u_s]
                refine ((v8 c hc).tog (y := nI a) rfl (by omega)).cong fun e he => ?_
                show decide (upd (upd R (110 + 6 * a + c) z) (110 + 6 * c + a) z (110 + 6 * c + e) ≠ 0) = if e = a then !decide (R (110 + 6 * c + e) ≠ 0) else decide (R (110 + 6 * c + e) ≠ 0)
                by_cases hea : e = a
                · subst hea
                  rw [u_s, if_pos rfl, hbit, (hS e c ha hc).1]
                · rw [if_neg hea, u_n (by omega), u_n (by omega)]
              · rw [u_n hcb]
                by_cases hca : c = a
                · subst hca
                  rw [u_s]
                  refine ((v8 c hc).tog (y := nI b) rfl (by omega)).cong fun e he => ?_
                  show decide (upd (upd R (110 + 6 * c + b) z) (110 + 6 * b + c) z (110 + 6 * c + e) ≠ 0) = if e = b then !decide (R (110 + 6 * c + e) ≠ 0) else decide (R (110 + 6 * c + e) ≠ 0)
                  rw [u_n (by omega)]
                  by_cases heb : e = b
                  · subst heb
                    rw [u_s, if_pos rfl, hbit]
                  · rw [if_neg heb, u_n (by omega)]
                · rw [u_n hca]
                  refine (v8 c hc).cong fun e he => ?_
                  show decide (upd (upd R (110 + 6 * a + b) z) (110 + 6 * b + a) z (110 + 6 * c + e) ≠ 0) = decide (R (110 + 6 * c + e) ≠ 0)
                  rw [u_n (by omega), u_n (by omega)]
            · by_cases k2 : 110 + 6 * c + e = 110 + 6 * b + a
              · rw [k2, u_s]
                rcases hz with rfl | rfl
                · exact Or.inl rfl
                · exact Or.inr ⟨by omega, by omega, rfl⟩
              · rw [u_n k2]
                by_cases k1 : 110 + 6 * c + e = 110 + 6 * a + b
                · rw [k1, u_s]
                  rcases hz with rfl | rfl
                  · exact Or.inl rfl
                  · exact Or.inr ⟨by omega, by omega, rfl⟩
                · rw [u_n k1]; exact v9 c e hc he
          · intro c d hc hd
            refine ⟨?_, ?_⟩
            · by_cases k2 : 110 + 6 * c + d = 110 + 6 * b + a
              · rw [k2, u_s, show 110 + 6 * d + c = 110 + 6 * a + b by omega, u_n (by omega), u_s]
              · by_cases k1 : 110 + 6 * c + d = 110 + 6 * a + b
                · rw [k1, u_n (by omega), u_s, show 110 + 6 * d + c = 110 + 6 * b + a by omega, u_s]
                · rw [u_n k2, u_n k1, u_n (by omega), u_n (by omega)]; exact (hS c d hc hd).1
            · rw [u_n (by omega), u_n (by omega), u_n (by omega), u_n (by omega)]; exact (hS c d hc hd).2
end WQ
