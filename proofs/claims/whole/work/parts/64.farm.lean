/-! PURE 15: farm -/
theorem mk_top : ∀ m, m < 64 → ∀ n, n < 7 → (∀ e, e < 6 → n ≤ e → m.testBit e = false) → m % 2 ^ n = m := by decide +kernel
section WR
variable {n : Nat} {dogs fenced heights partner often : Nat → Int32} {R : Nat → Int32} {night : Int32} {g : Int64} {flock hunger lean fed taken pacts : Nat → Int32} {th : Int32}
theorem e_near (hM : RMo R n dogs fenced heights partner often) (hV : RVa R n night g flock hunger lean fed taken pacts) {f : Nat} (hf : f < n) : f_X11_near R (nI f) = some (fenced f &&& (pacts f ^^^ (-1))) ∧ Mk (fenced f &&& (pacts f ^^^ (-1))) (nr_ R f) := by
  have hn := hM.1
  have hmk : Mk (fenced f &&& (pacts f ^^^ (-1))) (nr_ R f) := (hM.2.2.2.2.2.1 f hf).neigh (hV.2.2.2.2.2.2.2.1 f hf)
  refine ⟨?_, hmk⟩
  obtain ⟨m, hm, em, hp⟩ := hmk
  have h := near_loop (x := nI f) hM.2.1 hn hm rfl (fun e he => by rw [e_arenear hM hf (by omega), hp e (by omega)]) n 0 FU (by omega) (by show n < 5000; omega)
  unfold f_X11_near
  have ht : m % 2 ^ n = m := mk_top m hm n (by omega) (fun e he hne => by
    rw [hp e he]
    show nr_ R f e = false
    unfold nr_
    rcases hM.2.2.2.2.2.2 f e hf he with h0 | ⟨h1, -⟩
    · rw [h0]; simp
    · omega)
  rw [ht, Nat.pow_zero, Nat.mod_one] at h
  rw [em]
  exact h
/-- the reference's loop over the pacts of a farm -/
theorem farm_loop (hM : RMo R n dogs fenced heights partner often) (hV : RVa R n night g flock hunger lean fed taken pacts) {f m : Nat} (hf : f < n) (hm : m < 64) (hp : ∀ e, e < 6 → m.testBit e = decide (R (110 + 6 * f + e) ≠ 0)) (w : Int32) :
    ∀ (r e gg : Nat), e + r = n → r < gg → f_X11_farm_L30 R gg th (nI f) w (nI (m % 2 ^ e)) (nI e) = (if 4 ≤ w then (if w = 4 then (bd_ (f_X11_homeOf R (nI f)) fun r_3 => (some (r_3, th))) else (if w = 5 then (bd_ (f_X11_near R (nI f)) fun r_2 => (some (r_2, th))) else (some (nI (m % 2 ^ n), th)))) else (bd_ (f_X11_of R (nI f) w) fun r_4 => (some (r_4, th)))) := by
  have hn := hM.1
  intro r
  induction r with
  | zero =>
    intro e gg he hg
    obtain ⟨gg, rfl⟩ : ∃ z, gg = z + 1 := ⟨gg - 1, by omega⟩
    have he : e = n := by omega
    subst he
    show f_X11_farm_L30b _ _ _ _ _ _ _ = _
    unfold f_X11_farm_L30b
    rw [e_farms, bd_s, hM.2.1, if_pos (nI_le (Nat.le_refl _) (by omega))]
  | succ r ih =>
    intro e gg he hg
    obtain ⟨gg, rfl⟩ : ∃ z, gg = z + 1 := ⟨gg - 1, by omega⟩
    have e1 : (110 + (6 * nI f)) + nI e = nI (110 + 6 * f + e) := by rw [show (110 : Int32) = nI 110 from rfl, show (6 : Int32) = nI 6 from rfl, i_mul, i_add, i_add]
    have hi := ih (e + 1) gg (by omega) (by omega)
    have hs := mk_step m hm e (by omega)
    have hb := hp e (by omega)
    show f_X11_farm_L30b _ _ _ _ _ _ _ = _
    unfold f_X11_farm_L30b
    rw [e_farms, bd_s, hM.2.1, if_neg (nI_ge (by omega) (by omega)), e1, g_nI (by omega) (by decide), ix_nI (by omega)]
    rcases hV.2.2.2.2.2.2.2.2 f e hf (by omega) with h0 | ⟨-, -, h0⟩
    · rw [h0, if_pos (by decide)]
      rw [h0] at hb
      rw [if_neg (by rw [hb]; simp)] at hs
      unfold f_X11_farm_B66
      simp only [lt_]
      rw [show (0 : Int32) = nI 0 from rfl, fa_or, hs, ← nI_succ]
      exact hi
    · rw [h0, if_neg (by decide)]
      rw [h0] at hb
      rw [if_pos (by rw [hb]; decide)] at hs
      unfold f_X11_farm_B66
      simp only [lt_]
      rw [mk_one e (by omega), fa_or, hs, ← nI_succ]
      exact hi
set_option maxRecDepth 100000 in
theorem op_farm (hM : RMo R n dogs fenced heights partner often) (hV : RVa R n night g flock hunger lean fed taken pacts) (x z : Int32) : ∃ o, f_X10_farm night flock hunger lean pacts (nI n) dogs fenced partner x z = some o ∧ f_X11_farm R th x z = some (o, 0) := by
  have hn := hM.1
  unfold f_X10_farm f_X11_farm
  rcases e_isFarm hn hM.2.1 x with ⟨h1, h2⟩ | ⟨f, hf, rfl, h1, h2⟩
  · exact ⟨-1, by rw [h1, bd_s, if_pos z00], by rw [h2, bd_s, if_pos z00]⟩
  · have hgi : ∀ {β : Type} {k : Option β}, g_in (nI f) 6 k = k := fun {β k} => g_nI (by omega) (by decide)
    have hix : ix (nI f) = f := ix_nI (by omega)
    rw [h1, h2, bd_s, bd_s, if_neg z10, if_neg z10]
    simp only [hgi, hix]
    rcases e_within (x := z) (a := 0) (b := 6) (by decide) (by decide) with ⟨h3, h4⟩ | ⟨k, k1, k2, rfl, h3⟩
    · have h3 : f_X11_within z 0 6 = some 0 := h3
      have hne : ∀ j, j ≤ 6 → ¬ z = nI j := by
        intro j hj e
        subst e
        rcases h4 with h5 | ⟨-, h5⟩
        · exact nI_nlt (Nat.zero_le _) (by omega) h5
        · exact nI_nlt hj (by decide) h5
      refine ⟨-1, ?_, by rw [h3, bd_s, if_pos z00]⟩
      have n0 : ¬ z = 0 := hne 0 (by omega)
      have n1 : ¬ z = 1 := hne 1 (by omega)
      have n2 : ¬ z = 2 := hne 2 (by omega)
      have n3 : ¬ z = 3 := hne 3 (by omega)
      have n4 : ¬ z = 4 := hne 4 (by omega)
      have n5 : ¬ z = 5 := hne 5 (by omega)
      have n6 : ¬ z = 6 := hne 6 (by omega)
      rw [if_neg n0, if_neg n1, if_neg n2, if_neg n3, if_neg n4, if_neg n5, if_neg n6]
    · have h3 : f_X11_within (nI k) 0 6 = some 1 := h3
      obtain ⟨m, hm, em, hp⟩ := hV.2.2.2.2.2.2.2.1 f hf
      have ht : m % 2 ^ n = m := mk_top m hm n (by omega) (fun e he hne => by
        rw [hp e he]
        show decide (R (110 + 6 * f + e) ≠ 0) = false
        rcases hV.2.2.2.2.2.2.2.2 f e hf he with h0 | ⟨h1, -⟩
        · rw [h0]; simp
        · omega)
      have hl := farm_loop (th := 0) hM hV hf hm hp (nI k) n 0 FU (by omega) (by show n < 5000; omega)
      rw [ht, Nat.pow_zero, Nat.mod_one] at hl
      have hl2 : f_X11_farm_L30 R FU 0 (nI f) (nI k) 0 0 = _ := hl
      rw [h3, bd_s, if_neg z10, hl2]
      obtain ⟨h, hh, cH, rH⟩ := e_home hM hf
      rw [← hV.1] at cH
      have of_ : ∀ w, w < 7 → f_X11_of R (nI f) (nI w) = some (R (8 + 7 * f + w)) := fun w hw => e_of rfl rfl (by omega) hw
      clear hl hl2 ht hp
      match k, k2 with
      | 0, _ => exact ⟨flock f, by rw [if_pos (by decide)], by rw [if_neg (by decide), of_ 0 (by omega), bd_s, (hV.2.2.1 f hf).1, Nat.add_zero]⟩
      | 1, _ => exact ⟨dogs f, by rw [if_neg (by decide), if_pos (by decide)], by rw [if_neg (by decide), of_ 1 (by omega), bd_s, (hM.2.2.1 f hf).1, show 8 + 7 * f + 1 = 9 + 7 * f by omega]⟩
      | 2, _ => exact ⟨hunger f, by rw [if_neg (by decide), if_neg (by decide), if_pos (by decide)], by rw [if_neg (by decide), of_ 2 (by omega), bd_s, (hV.2.2.2.1 f hf).1, show 8 + 7 * f + 2 = 10 + 7 * f by omega]⟩
      | 3, _ => exact ⟨lean f, by rw [if_neg (by decide), if_neg (by decide), if_neg (by decide), if_pos (by decide)], by rw [if_neg (by decide), of_ 3 (by omega), bd_s, hV.2.2.2.2.1 f hf, show 8 + 7 * f + 3 = 11 + 7 * f by omega]⟩
      | 4, _ => exact ⟨nI h, by rw [if_neg (by decide), if_neg (by decide), if_neg (by decide), if_neg (by decide), if_pos (by decide), cH, bd_s], by rw [if_pos (by decide), if_pos (by decide), rH, bd_s]⟩
      | 5, _ =>
        refine ⟨fenced f &&& (pacts f ^^^ (-1)), ?_, by rw [if_pos (by decide), if_neg (by decide), if_pos (by decide), (e_near hM hV hf).1, bd_s]⟩
        rw [if_neg (by decide), if_neg (by decide), if_neg (by decide), if_neg (by decide), if_neg (by decide), if_pos (by decide)]
        unfold f_X9_neighboursOf
        rw [hgi, hgi, hix, bd_s]
      | 6, _ => exact ⟨pacts f, by rw [if_neg (by decide), if_neg (by decide), if_neg (by decide), if_neg (by decide), if_neg (by decide), if_neg (by decide), if_pos (by decide)], by rw [if_pos (by decide), if_neg (by decide), if_neg (by decide), em]⟩
      | k + 7, h7 => exact absurd h7 (by omega)
end WR
