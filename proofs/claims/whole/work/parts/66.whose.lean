/-! PURE 17: whose, chance -/
theorem g_nz_s {β : Type} {y : Int32} {k : Option β} (h : ¬ y = 0) : g_nz y k = k := by unfold g_nz; rw [if_neg h]
theorem gcd_lt' {a b : Nat} (hb0 : 0 < b) (hb : b < 2 ^ 31) : Nat.gcd a b < 2 ^ 31 := Nat.lt_of_le_of_lt (Nat.le_of_dvd hb0 (Nat.gcd_dvd_right a b)) hb
theorem gcd_nz {a b : Nat} (hb0 : 0 < b) (hb : b < 2 ^ 31) : ¬ nI (Nat.gcd a b) = 0 := nI_ne0 (Nat.gcd_pos_of_pos_right a hb0) (gcd_lt' hb0 hb)
/-- the least terms -/
theorem e_low {a b : Nat} (ha : a < 2 ^ 31) (hb0 : 0 < b) (hb : b < 2 ^ 31) (z : Int32) : f_X10_inLowestTerms (nI a) (nI b) z = some (if z = 0 then nI a / nI (Nat.gcd a b) else nI b / nI (Nat.gcd a b)) := by
  have hg : ¬ nI (Nat.gcd a b) = 0 := gcd_nz hb0 hb
  have part : ∀ s : Int32, f_X10_inLowestTerms_B15 (nI (Nat.gcd a b)) s = some (s / nI (Nat.gcd a b)) := by
    intro s
    unfold f_X10_inLowestTerms_B15
    rw [if_neg hg, g_nz_s hg]
  unfold f_X10_inLowestTerms
  rw [(e_gcd ha hb).1, bd_s, part, part]
  split <;> rfl
/-- the product of how often, over the first bites -/
def od (R : Nat → Int32) (f : Nat) : Nat → Nat
  | 0 => 1
  | k + 1 => od R f k * ix (R (49 + 4 * f + ix (R (182 + k))))
noncomputable def wv (R : Nat → Int32) (f b : Nat) : Nat := if R (10 + 7 * f) ≤ 0 then 0 else od R f b
section WW
variable {n : Nat} {dogs fenced heights partner often bites : Nat → Int32} {R : Nat → Int32} {night : Int32} {g : Int64} {flock hunger lean fed taken pacts : Nat → Int32} {th bitten : Int32} {b : Nat}
theorem od_le (hM : RMo R n dogs fenced heights partner often) (hw : ∀ k, k < b → ∃ w, 1 ≤ w ∧ w ≤ 4 ∧ bites k = nI w ∧ R (182 + k) = nI w) {f : Nat} (hf : f < n) : ∀ k, k ≤ b → od R f k ≤ 9 ^ k := by
  intro k
  induction k with
  | zero => intro _; exact Nat.le_refl _
  | succ k ih =>
    intro hk
    obtain ⟨w, w1, w2, w3, w4⟩ := hw k (by omega)
    obtain ⟨-, t, ht, et⟩ := hM.2.2.2.2.1 f (w - 1) hf (by omega)
    show od R f k * ix (R (49 + 4 * f + ix (R (182 + k)))) ≤ 9 ^ k * 9
    have e : R (49 + 4 * f + ix (R (182 + k))) = nI t := by
      rw [w4, ix_nI (by omega), ← et]
      congr 1; omega
    rw [e, ix_nI (by omega)]
    exact Nat.mul_le_mul (ih (by omega)) ht
theorem od_8 (hM : RMo R n dogs fenced heights partner often) (hb : b ≤ 8) (hw : ∀ k, k < b → ∃ w, 1 ≤ w ∧ w ≤ 4 ∧ bites k = nI w ∧ R (182 + k) = nI w) {f : Nat} (hf : f < n) : od R f b ≤ 43046721 := by
  have h1 := od_le hM hw hf b (Nat.le_refl _)
  have h2 : 9 ^ b ≤ 9 ^ 8 := Nat.pow_le_pow_right (by decide) hb
  have h3 : 9 ^ 8 = 43046721 := by decide
  omega
theorem od_loop (hM : RMo R n dogs fenced heights partner often) (hb : b ≤ 8) (hR4 : R 4 = nI b) (hw : ∀ k, k < b → ∃ w, 1 ≤ w ∧ w ≤ 4 ∧ bites k = nI w ∧ R (182 + k) = nI w) {f : Nat} (hf : f < n) (c : Nat) :
    ∀ (r k g1 g2 : Nat), k + r = b → r < g1 → r < g2 → f_X10_oddsOf_L4 often bites (nI b) g1 (nI f) (nI (od R f k)) (nI k) = some (nI (od R f b)) ∧ f_X11_bitesSo_L17 R g2 (nI f) (nI (c * od R f k)) (nI k) = some (nI (c * od R f b)) := by
  have hn := hM.1
  intro r
  induction r with
  | zero =>
    intro k g1 g2 hk h1 h2
    obtain ⟨g1, rfl⟩ : ∃ z, g1 = z + 1 := ⟨g1 - 1, by omega⟩
    obtain ⟨g2, rfl⟩ : ∃ z, g2 = z + 1 := ⟨g2 - 1, by omega⟩
    have hk : k = b := by omega
    subst hk
    refine ⟨?_, ?_⟩
    · show f_X10_oddsOf_L4b _ _ _ _ _ _ _ = _
      unfold f_X10_oddsOf_L4b
      rw [if_pos (nI_le (Nat.le_refl _) (by omega))]
    · show f_X11_bitesSo_L17b _ _ _ _ _ = _
      unfold f_X11_bitesSo_L17b
      rw [hR4, if_pos (nI_le (Nat.le_refl _) (by omega))]
  | succ r ih =>
    intro k g1 g2 hk h1 h2
    obtain ⟨g1, rfl⟩ : ∃ z, g1 = z + 1 := ⟨g1 - 1, by omega⟩
    obtain ⟨g2, rfl⟩ : ∃ z, g2 = z + 1 := ⟨g2 - 1, by omega⟩
    obtain ⟨w, w1, w2, w3, w4⟩ := hw k (by omega)
    obtain ⟨eo, t, ht, et⟩ := hM.2.2.2.2.1 f (w - 1) hf (by omega)
    have e : R (49 + 4 * f + ix (R (182 + k))) = nI t := by
      rw [w4, ix_nI (by omega), ← et]
      congr 1; omega
    have hod : od R f k * t = od R f (k + 1) := by
      show _ = od R f k * ix (R (49 + 4 * f + ix (R (182 + k))))
      rw [e, ix_nI (by omega)]
    have e1 : ((nI f * 4) + nI w) - 1 = nI (4 * f + (w - 1)) := by rw [show (4 : Int32) = nI 4 from rfl, show (1 : Int32) = nI 1 from rfl, i_mul, i_add, i_sub (by omega)]; congr 1; omega
    have e2 : 182 + nI k = nI (182 + k) := by rw [show (182 : Int32) = nI 182 from rfl, i_add]
    have e3 : ((50 + (4 * nI f)) + nI w) - 1 = nI (50 + 4 * f + (w - 1)) := by rw [show (50 : Int32) = nI 50 from rfl, show (4 : Int32) = nI 4 from rfl, show (1 : Int32) = nI 1 from rfl, i_mul, i_add, i_add, i_sub (by omega)]; congr 1; omega
    obtain ⟨i1, i2⟩ := ih (k + 1) g1 g2 (by omega) (by omega) (by omega)
    refine ⟨?_, ?_⟩
    · show f_X10_oddsOf_L4b _ _ _ _ _ _ _ = _
      unfold f_X10_oddsOf_L4b
      rw [if_neg (nI_ge (by omega) (by omega)), g_nI (by omega) (by decide), ix_nI (by omega), w3]
      unfold f_X5_oftenBites
      rw [e1, g_nI (by omega) (by decide), ix_nI (by omega), bd_s, eo, et]
      simp only [lt_]
      rw [i_mul, hod, ← nI_succ]
      exact i1
    · show f_X11_bitesSo_L17b _ _ _ _ _ = _
      unfold f_X11_bitesSo_L17b
      rw [hR4, if_neg (nI_ge (by omega) (by omega)), e2, g_nI (by omega) (by decide), ix_nI (by omega), w4, e3, g_nI (by omega) (by decide), ix_nI (by omega), et]
      simp only [lt_]
      rw [i_mul, Nat.mul_assoc, hod, ← nI_succ]
      exact i2
theorem e_odds (hM : RMo R n dogs fenced heights partner often) (hb : b ≤ 8) (hR4 : R 4 = nI b) (hw : ∀ k, k < b → ∃ w, 1 ≤ w ∧ w ≤ 4 ∧ bites k = nI w ∧ R (182 + k) = nI w) {f : Nat} (hf : f < n) : f_X10_oddsOf often bites (nI b) (nI f) = some (nI (od R f b)) ∧ f_X11_bitesSo R (nI f) = some (nI (wv R f b)) := by
  have hn := hM.1
  refine ⟨?_, ?_⟩
  · exact (od_loop hM hb hR4 hw hf 0 b 0 FU FU (by omega) (by show b < 5000; omega) (by show b < 5000; omega)).1
  · unfold f_X11_bitesSo wv
    rw [e_of (y := 2) (w := 2) rfl rfl (by omega) (by decide), bd_s, show 8 + 7 * f + 2 = 10 + 7 * f by omega]
    unfold f_X11_bitesSo_B14
    split
    · have := (od_loop hM hb hR4 hw hf 0 b 0 FU FU (by omega) (by show b < 5000; omega) (by show b < 5000; omega)).2
      rw [Nat.zero_mul, Nat.zero_mul] at this
      exact this
    · have := (od_loop hM hb hR4 hw hf 1 b 0 FU FU (by omega) (by show b < 5000; omega) (by show b < 5000; omega)).2
      rw [Nat.one_mul, Nat.one_mul] at this
      exact this
theorem whose_loop (hM : RMo R n dogs fenced heights partner often) (hV : RVa R n night g flock hunger lean fed taken pacts) (hb : b ≤ 8) (hR4 : R 4 = nI b) (hw : ∀ k, k < b → ∃ w, 1 ≤ w ∧ w ≤ 4 ∧ bites k = nI w ∧ R (182 + k) = nI w) {f : Nat} (hf : f < n) (hH : ¬ R (10 + 7 * f) ≤ 0) (z : Int32) :
    ∀ (r e g1 g2 s : Nat), e + r = n → r < g1 → r < g2 → s ≤ 43046721 * e → ∃ o, f_X10_whose_L36 hunger (nI n) often bites (nI b) g1 (nI f) z (nI s) (nI e) = some o ∧ f_X11_whose_L38 R g2 th (nI f) z (nI s) (nI e) = some (o, th) := by
  have hn := hM.1
  intro r
  induction r with
  | zero =>
    intro e g1 g2 s he h1 h2 hs
    obtain ⟨g1, rfl⟩ : ∃ z, g1 = z + 1 := ⟨g1 - 1, by omega⟩
    obtain ⟨g2, rfl⟩ : ∃ z, g2 = z + 1 := ⟨g2 - 1, by omega⟩
    have he : e = n := by omega
    subst he
    show ∃ o, f_X10_whose_L36b _ _ _ _ _ _ _ _ _ _ = some o ∧ f_X11_whose_L38b _ _ _ _ _ _ _ = some (o, th)
    unfold f_X10_whose_L36b f_X11_whose_L38b
    rw [e_farms, bd_s, hM.2.1, if_pos (nI_le (Nat.le_refl _) (by omega)), if_pos (nI_le (Nat.le_refl _) (by omega))]
    by_cases hs0 : s = 0
    · subst hs0
      exact ⟨-1, by rw [if_pos (show nI 0 = 0 from rfl)], by rw [if_pos (show nI 0 = 0 from rfl)]⟩
    · have hsz : ¬ nI s = 0 := nI_ne0 (by omega) (by omega)
      obtain ⟨o1, o2⟩ := e_odds hM hb hR4 hw hf
      have h8 := od_8 hM hb hw hf
      have hwv : wv R f b = od R f b := by unfold wv; rw [if_neg hH]
      have hg := gcd_nz (a := od R f b) (b := s) (by omega) (by omega)
      refine ⟨(if z = 0 then nI (od R f b) / nI (Nat.gcd (od R f b) s) else nI s / nI (Nat.gcd (od R f b) s)), ?_, ?_⟩
      · rw [if_neg hsz, o1, bd_s, e_low (by omega) (by omega) (by omega), bd_s]
      · rw [if_neg hsz, o2, bd_s, hwv, (e_gcd (by omega) (by omega)).2, bd_s, bd_s, g_nz_s hg, g_nz_s hg]
        by_cases hz : z = 0
        · rw [if_pos hz, if_pos hz]
        · rw [if_neg hz, if_neg hz]
  | succ r ih =>
    intro e g1 g2 s he h1 h2 hs
    obtain ⟨g1, rfl⟩ : ∃ z, g1 = z + 1 := ⟨g1 - 1, by omega⟩
    obtain ⟨g2, rfl⟩ : ∃ z, g2 = z + 1 := ⟨g2 - 1, by omega⟩
    have hen : e < n := by omega
    show ∃ o, f_X10_whose_L36b _ _ _ _ _ _ _ _ _ _ = some o ∧ f_X11_whose_L38b _ _ _ _ _ _ _ = some (o, th)
    unfold f_X10_whose_L36b f_X11_whose_L38b
    obtain ⟨o1, o2⟩ := e_odds hM hb hR4 hw hen
    have h8 := od_8 hM hb hw hen
    rw [e_farms, bd_s, hM.2.1, if_neg (nI_ge (by omega) (by omega)), if_neg (nI_ge (by omega) (by omega)), g_nI (by omega) (by decide), ix_nI (by omega), (hV.2.2.2.1 e hen).1, o2, bd_s]
    simp only [lt_, f_X10_whose_B73]
    by_cases hz : R (10 + 7 * e) ≤ 0
    · have hwv : wv R e b = 0 := by unfold wv; rw [if_pos hz]
      rw [if_pos hz, hwv, i_add, Nat.add_zero, ← nI_succ]
      exact ih (e + 1) g1 g2 s (by omega) (by omega) (by omega) (by omega)
    · have hwv : wv R e b = od R e b := by unfold wv; rw [if_neg hz]
      rw [if_neg hz, hwv, o1, bd_s, i_add, ← nI_succ]
      exact ih (e + 1) g1 g2 (s + od R e b) (by omega) (by omega) (by omega) (by omega)
theorem op_whose (hM : RMo R n dogs fenced heights partner often) (hV : RVa R n night g flock hunger lean fed taken pacts) (hI : RBi R bites bitten) (x z : Int32) : ∃ o, f_X10_whose hunger (nI n) often bites bitten x z = some o ∧ f_X11_whose R th x z = some (o, 0) := by
  have hn := hM.1
  obtain ⟨b, hb, rfl, hR4, hw⟩ := hI
  unfold f_X10_whose f_X11_whose
  rcases e_isFarm hn hM.2.1 x with ⟨h1, h2⟩ | ⟨f, hf, rfl, h1, h2⟩
  · exact ⟨-1, by rw [h1, bd_s, if_pos z00], by rw [h2, bd_s, if_pos z00]⟩
  · rw [h1, h2, bd_s, bd_s, if_neg z10, if_neg z10]
    rcases e_within (x := z) (a := 0) (b := 1) (by decide) (by decide) with ⟨h3, h4⟩ | ⟨k, k1, k2, rfl, h3⟩
    · have h3 : f_X11_within z 0 1 = some 0 := h3
      have h4 : z < 0 ∨ (¬ z < 0 ∧ 1 < z) := h4
      refine ⟨-1, ?_, by rw [h3, bd_s, if_pos z00]⟩
      rcases h4 with h4 | ⟨h4, h5⟩
      · rw [if_pos h4]
      · rw [if_neg h4, if_pos h5]
    · have h3 : f_X11_within (nI k) 0 1 = some 1 := h3
      have q1 : ¬ nI k < 0 := nI_pos (by omega)
      have q2 : ¬ 1 < nI k := nI_nlt (a := 1) (b := k) k2 (by decide)
      obtain ⟨eh, H, hH, eH⟩ := hV.2.2.2.1 f hf
      rw [h3, bd_s, if_neg z10, if_neg q1, if_neg q2, g_nI (by omega) (by decide), ix_nI (by omega), e_of (y := 2) (w := 2) rfl rfl (by omega) (by decide), bd_s, show 8 + 7 * f + 2 = 10 + 7 * f by omega, eh]
      by_cases h0 : R (10 + 7 * f) = 0
      · exact ⟨-1, by rw [if_pos h0], by rw [if_pos h0]⟩
      · rw [if_neg h0, if_neg h0]
        have hH0 : ¬ R (10 + 7 * f) ≤ 0 := by
          rw [eH] at h0 ⊢
          refine nI_nle ?_ (by omega)
          by_cases hz : H = 0
          · subst hz; exact absurd rfl h0
          · omega
        exact whose_loop hM hV hb hR4 hw hf hH0 (nI k) n 0 FU FU 0 (by omega) (by show n < 5000; omega) (by show n < 5000; omega) (by omega)
end WW
theorem mk_bits : ∀ m, m < 64 → f_X11_bits (nI m) = some (nI (pc_ m)) := by decide +kernel
theorem mk_full : ∀ n, n < 7 → ((1 : Int32) <<< (nI n &&& 31)) - 1 = nI (2 ^ n - 1) ∧ 2 ^ n - 1 < 64 := by decide +kernel
theorem mk_m1 : ∀ m, m < 64 → nI m &&& (-1) = nI m := by decide +kernel
theorem mk_pos : ∀ m, m < 64 → m ≠ 0 → 0 < pc_ m := by decide +kernel
theorem mk_six : ∀ m, m < 64 → pc_ m ≤ 6 := by decide +kernel
section WC
variable {n : Nat} {dogs fenced heights partner often : Nat → Int32} {R : Nat → Int32} {night : Int32} {g : Int64} {flock hunger lean fed taken pacts : Nat → Int32} {th : Int32}
theorem chance_loop (hM : RMo R n dogs fenced heights partner often) (hV : RVa R n night g flock hunger lean fed taken pacts) (z : Int32) :
    ∀ (r e g1 g2 w m c : Nat) (a : Int32), e + r = n → r < g1 → r < g2 → 0 < w → w ≤ 6 ^ e → m < 64 → c ≤ e → (a = 0 ↔ c = 0) → ∃ o, f_X10_chance_L34 night hunger pacts (nI n) fenced partner g1 z (nI w) (nI m) a (nI e) = some o ∧ f_X11_chance_L33 R g2 th z (nI m) (nI w) (nI c) (nI e) = some (o, th) := by
  have hn := hM.1
  intro r
  induction r with
  | zero =>
    intro e g1 g2 w m c a he h1 h2 hw0 hw hm hc ha
    obtain ⟨g1, rfl⟩ : ∃ z, g1 = z + 1 := ⟨g1 - 1, by omega⟩
    obtain ⟨g2, rfl⟩ : ∃ z, g2 = z + 1 := ⟨g2 - 1, by omega⟩
    have he : e = n := by omega
    subst he
    have h6 : 6 ^ e ≤ 6 ^ 6 := Nat.pow_le_pow_right (by decide) hn
    have h66 : 6 ^ 6 = 46656 := by decide
    have last : ∀ s : Nat, s ≤ 6 → ∃ o, f_X10_chance_B120 night hunger pacts (nI e) fenced partner z (nI w) (nI s) = some o ∧ f_X11_chance_B133 R th z (nI w) (nI s) = some (o, th) := by
      intro s hs
      have hg := gcd_nz (a := s) (b := w) (by omega) (by omega)
      refine ⟨(if z = 0 then nI s / nI (Nat.gcd s w) else nI w / nI (Nat.gcd s w)), ?_, ?_⟩
      · unfold f_X10_chance_B120
        rw [e_low (by omega) (by omega) (by omega), bd_s]
      · unfold f_X11_chance_B133
        rw [(e_gcd (by omega) (by omega)).2, bd_s, g_nz_s hg, g_nz_s hg]
        by_cases hz : z = 0
        · rw [if_pos hz, if_pos hz]
        · rw [if_neg hz, if_neg hz]
    show ∃ o, f_X10_chance_L34b _ _ _ _ _ _ _ _ _ _ _ _ = some o ∧ f_X11_chance_L33b _ _ _ _ _ _ _ _ = some (o, th)
    unfold f_X10_chance_L34b f_X11_chance_L33b
    rw [e_farms, bd_s, hM.2.1, if_pos (nI_le (Nat.le_refl _) (by omega)), if_pos (nI_le (Nat.le_refl _) (by omega))]
    by_cases hc0 : c = 0
    · rw [if_pos (ha.mpr hc0), hc0, if_pos (show nI 0 = 0 from rfl)]
      exact last 1 (by decide)
    · rw [if_neg (fun z => hc0 (ha.mp z)), if_neg (nI_ne0 (by omega) (by omega)), mk_cnt m hm, mk_bits m hm, bd_s, bd_s]
      exact last _ (mk_six m hm)
  | succ r ih =>
    intro e g1 g2 w m c a he h1 h2 hw0 hw hm hc ha
    obtain ⟨g1, rfl⟩ : ∃ z, g1 = z + 1 := ⟨g1 - 1, by omega⟩
    obtain ⟨g2, rfl⟩ : ∃ z, g2 = z + 1 := ⟨g2 - 1, by omega⟩
    have hen : e < n := by omega
    obtain ⟨h, hh, cH, rH⟩ := e_home hM hen
    rw [← hV.1] at cH
    obtain ⟨hne, m', hm', em', -⟩ := e_near hM hV hh
    have cN : f_X9_neighboursOf pacts fenced (nI h) = some (nI m') := by
      unfold f_X9_neighboursOf
      rw [g_nI (by omega) (by decide), g_nI (by omega) (by decide), ix_nI (by omega), em']
    rw [em'] at hne
    have hpow : 6 ^ e ≤ 6 ^ (e + 1) := Nat.pow_le_pow_right (by decide) (Nat.le_succ e)
    have skipC : f_X10_chance_B101 (f_X10_chance_L34 night hunger pacts (nI n) fenced partner g1) night hunger pacts (nI n) fenced partner z (nI w) (nI m) a (nI e) = f_X10_chance_L34 night hunger pacts (nI n) fenced partner g1 z (nI w) (nI m) a (nI (e + 1)) := by
      unfold f_X10_chance_B101
      simp only [lt_]
      rw [← nI_succ]
    have skipM : f_X11_chance_B66 (f_X11_chance_L33 R g2) R th z (nI m) (nI w) (nI c) (nI e) 0 = f_X11_chance_L33 R g2 th z (nI m) (nI w) (nI c) (nI (e + 1)) := by
      unfold f_X11_chance_B66
      rw [if_pos z00]
      unfold f_X11_chance_B80
      simp only [lt_]
      rw [if_pos trivial, mk_m1 m hm]
      unfold f_X11_chance_B98
      rw [if_pos z00]
      unfold f_X11_chance_B111
      simp only [lt_]
      rw [Int32.add_zero, ← nI_succ]
    have hskip := ih (e + 1) g1 g2 w m c a (by omega) (by omega) (by omega) hw0 (by omega) hm (by omega) ha
    rw [← skipC, ← skipM] at hskip
    show ∃ o, f_X10_chance_L34b _ _ _ _ _ _ _ _ _ _ _ _ = some o ∧ f_X11_chance_L33b _ _ _ _ _ _ _ _ = some (o, th)
    unfold f_X10_chance_L34b f_X11_chance_L33b
    rw [e_farms, bd_s, hM.2.1, if_neg (nI_ge (by omega) (by omega)), if_neg (nI_ge (by omega) (by omega)), cH, bd_s, cN, bd_s, g_nI (by omega) (by decide), ix_nI (by omega), e_of (y := 2) (w := 2) rfl rfl (by omega) (by decide), bd_s, show 8 + 7 * e + 2 = 10 + 7 * e by omega, (hV.2.2.2.1 e hen).1, rH, bd_s, hne, bd_s]
    by_cases hz : R (10 + 7 * e) ≤ 0
    · rw [if_pos hz, if_pos hz]; exact hskip
    · rw [if_neg hz, if_neg hz]
      by_cases hm0 : m' = 0
      · subst hm0
        rw [if_pos (show nI 0 = 0 from rfl)]; exact hskip
      · have hmz : ¬ nI m' = 0 := nI_ne0 (by omega) (by omega)
        have h0 := mk_pos m' hm' hm0
        have h6 := mk_six m' hm'
        rw [if_neg hmz]
        unfold f_X10_chance_B101 f_X11_chance_B66
        rw [if_neg hmz]
        unfold f_X11_chance_B80
        simp only [lt_]
        rw [if_neg hmz, mk_cnt m' hm', bd_s, mk_bits m' hm', bd_s]
        unfold f_X11_chance_B98
        rw [if_neg hmz]
        unfold f_X11_chance_B111
        simp only [lt_]
        rw [fa_and, i_mul, ← nI_succ, ← nI_succ]
        refine ih (e + 1) g1 g2 (w * pc_ m') (m &&& m') (c + 1) 1 (by omega) (by omega) (by omega) (Nat.mul_pos hw0 h0) ?_ (Nat.lt_of_le_of_lt Nat.and_le_left hm) (by omega) ⟨fun q => absurd q z10, fun q => absurd q (by omega)⟩
        show w * pc_ m' ≤ 6 ^ e * 6
        exact Nat.mul_le_mul hw h6
theorem op_chance (hM : RMo R n dogs fenced heights partner often) (hV : RVa R n night g flock hunger lean fed taken pacts) (z : Int32) : ∃ o, f_X10_chance night hunger pacts (nI n) fenced partner z = some o ∧ f_X11_chance R th z = some (o, 0) := by
  have hn := hM.1
  unfold f_X10_chance f_X11_chance
  rcases e_within (x := z) (a := 0) (b := 1) (by decide) (by decide) with ⟨h3, h4⟩ | ⟨k, k1, k2, rfl, h3⟩
  · have h3 : f_X11_within z 0 1 = some 0 := h3
    have h4 : z < 0 ∨ (¬ z < 0 ∧ 1 < z) := h4
    refine ⟨-1, ?_, by rw [h3, bd_s, if_pos z00]⟩
    rcases h4 with h4 | ⟨h4, h5⟩
    · rw [if_pos h4]
    · rw [if_neg h4, if_neg (fa_of_lt h5).2.1]
  · have h3 : f_X11_within (nI k) 0 1 = some 1 := h3
    have q1 : ¬ nI k < 0 := nI_pos (by omega)
    have q2 : nI k ≤ 1 := nI_le (b := 1) k2 (by decide)
    obtain ⟨f1, f2⟩ := mk_full n (by omega)
    rw [h3, bd_s, if_neg z10, if_neg q1, if_pos q2, e_farms, bd_s, hM.2.1]
    simp only [lt_]
    rw [f1]
    exact chance_loop hM hV (nI k) n 0 FU FU 1 (2 ^ n - 1) 0 0 (by omega) (by show n < 5000; omega) (by show n < 5000; omega) (by omega) (by omega) f2 (by omega) ⟨fun _ => rfl, fun _ => rfl⟩
end WC
