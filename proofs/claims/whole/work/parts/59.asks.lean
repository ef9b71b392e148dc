/-! PURE 10: the calls that only ask, and those that write one thing -/
theorem z10 : ¬ (1 : Int32) = 0 := by decide
theorem z00 : (0 : Int32) = 0 := rfl
theorem rg (x : Int32) {a b : Nat} (hab : a ≤ b) (hb : b < 2 ^ 31) : x < nI a ∨ (¬ x < nI a ∧ nI b < x) ∨ ∃ k, a ≤ k ∧ k ≤ b ∧ x = nI k := by
  rcases w_two x with h | ⟨k, hk, rfl⟩
  · left
    rw [Int32.lt_iff_toInt_lt] at h ⊢
    rw [nI_toInt (by omega)]
    have : (0 : Int32).toInt = 0 := rfl
    omega
  · by_cases h1 : k < a
    · exact Or.inl (nI_lt h1 (by omega))
    · by_cases h2 : b < k
      · exact Or.inr (Or.inl ⟨nI_nlt (by omega) hk, nI_lt h2 hk⟩)
      · exact Or.inr (Or.inr ⟨k, by omega, by omega, rfl⟩)
theorem e_within {x : Int32} {a b : Nat} (hab : a ≤ b) (hb : b < 2 ^ 31) : (f_X11_within x (nI a) (nI b) = some 0 ∧ (x < nI a ∨ (¬ x < nI a ∧ nI b < x))) ∨ ∃ k, a ≤ k ∧ k ≤ b ∧ x = nI k ∧ f_X11_within x (nI a) (nI b) = some 1 := by
  unfold f_X11_within
  rcases rg x hab hb with h | ⟨h, h2⟩ | ⟨k, h1, h2, rfl⟩
  · left; rw [if_pos h]; exact ⟨rfl, Or.inl h⟩
  · left; rw [if_neg h, if_pos h2]; exact ⟨rfl, Or.inr ⟨h, h2⟩⟩
  · right; exact ⟨k, h1, h2, rfl, by rw [if_neg (nI_nlt h1 (by omega)), if_neg (nI_nlt h2 hb)]⟩
theorem e_isFarm {R : Nat → Int32} {n : Nat} (hn : n ≤ 6) (hR0 : R 0 = nI n) (x : Int32) : (f_X10_isFarm (nI n) x = some 0 ∧ f_X11_isFarm R x = some 0) ∨ ∃ f, f < n ∧ x = nI f ∧ f_X10_isFarm (nI n) x = some 1 ∧ f_X11_isFarm R x = some 1 := by
  unfold f_X10_isFarm f_X11_isFarm
  rw [e_farms, bd_s, hR0]
  rcases w_two x with h | ⟨k, hk, rfl⟩
  · left; rw [if_pos h]; exact ⟨rfl, rfl⟩
  · rw [if_neg (nI_pos hk)]
    by_cases h : n ≤ k
    · left; rw [if_pos (nI_le h hk)]; exact ⟨rfl, rfl⟩
    · right; exact ⟨k, by omega, rfl, by rw [if_neg (nI_ge (by omega) (by omega))], by rw [if_neg (nI_ge (by omega) (by omega))]⟩
section WS
variable {n : Nat} {op arg dogs fenced heights partner often : Nat → Int32} {fek fel fer : Nat → Int32} {fes : Int32} {gok gol gor : Nat → Int32} {gos : Int32} {ml : Int32} {levels : Nat → Int32} {R : Nat → Int32} {night : Int32} {g : Int64} {flock hunger lean fed taken pacts kept feuds : Nat → Int32} {bones fall : Int32} {X : Nat} {th : Int32}
theorem op_gone (hM : RMo R n dogs fenced heights partner often) (hV : RVa R n night g flock hunger lean fed taken pacts) (x z : Int32) : ∃ o, f_X10_gone fed taken (nI n) x z = some o ∧ f_X11_gone R th x z = some (o, 0) := by
  have hn := hM.1
  unfold f_X10_gone f_X11_gone
  rcases e_isFarm hn hM.2.1 x with ⟨h1, h2⟩ | ⟨f, hf, rfl, h1, h2⟩
  · exact ⟨-1, by rw [h1, bd_s, if_pos z00], by rw [h2, bd_s, if_pos z00]⟩
  · have hgi : ∀ {β : Type} {k : Option β}, g_in (nI f) 6 k = k := fun {β k} => g_nI (by omega) (by decide)
    rw [h1, h2, bd_s, bd_s, if_neg z10, if_neg z10, hgi, hgi, ix_nI (by omega)]
    by_cases hz : z = 0
    · refine ⟨fed f, by rw [if_pos hz], ?_⟩
      rw [if_pos hz]
      unfold f_X11_gone_B24
      rw [e_of (y := 4) (w := 4) rfl rfl (by omega) (by decide), bd_s, hV.2.2.2.2.2.1 f hf, show 8 + 7 * f + 4 = 12 + 7 * f by omega]
    · refine ⟨taken f, by rw [if_neg hz], ?_⟩
      rw [if_neg hz]
      unfold f_X11_gone_B24
      rw [e_of (y := 5) (w := 5) rfl rfl (by omega) (by decide), bd_s, hV.2.2.2.2.2.2.1 f hf, show 8 + 7 * f + 5 = 13 + 7 * f by omega]
theorem op_tooth (hM : RMo R n dogs fenced heights partner often) (x z : Int32) : ∃ o, f_X10_tooth (nI n) often x z = some o ∧ f_X11_tooth R th x z = some (o, 0) := by
  have hn := hM.1
  unfold f_X10_tooth f_X11_tooth
  rcases e_isFarm hn hM.2.1 x with ⟨h1, h2⟩ | ⟨f, hf, rfl, h1, h2⟩
  · exact ⟨-1, by rw [h1, bd_s, if_pos z00], by rw [h2, bd_s, if_pos z00]⟩
  · rw [h1, h2, bd_s, bd_s, if_neg z10, if_neg z10]
    rcases e_within (x := z) (a := 1) (b := 4) (by decide) (by decide) with ⟨h3, h4⟩ | ⟨k, k1, k2, rfl, h3⟩
    · have h3 : f_X11_within z 1 4 = some 0 := h3
      have h4 : z < 1 ∨ (¬ z < 1 ∧ 4 < z) := h4
      refine ⟨-1, ?_, by rw [h3, bd_s, if_pos z00]⟩
      rcases h4 with h4 | ⟨h4, h5⟩
      · rw [if_pos h4]
      · rw [if_neg h4, if_neg (fa_of_lt h5).2.1]
    · have h3 : f_X11_within (nI k) 1 4 = some 1 := h3
      have e1 : ((nI f * 4) + nI k) - 1 = nI (4 * f + (k - 1)) := by rw [show (4 : Int32) = nI 4 from rfl, show (1 : Int32) = nI 1 from rfl, i_mul, i_add, i_sub (by omega)]; congr 1; omega
      have e2 : ((50 + (4 * nI f)) + nI k) - 1 = nI (50 + 4 * f + (k - 1)) := by rw [show (50 : Int32) = nI 50 from rfl, show (4 : Int32) = nI 4 from rfl, show (1 : Int32) = nI 1 from rfl, i_mul, i_add, i_add, i_sub (by omega)]; congr 1; omega
      refine ⟨often (4 * f + (k - 1)), ?_, ?_⟩
      · have q1 : ¬ nI k < 1 := nI_nlt k1 (by omega)
        have q2 : nI k ≤ 4 := nI_le k2 (by decide)
        rw [if_neg q1, if_pos q2]
        unfold f_X5_oftenBites
        rw [e1, g_nI (by omega) (by decide), ix_nI (by omega), bd_s]
      · rw [h3, bd_s, if_neg z10, e2, g_nI (by omega) (by decide), ix_nI (by omega), (hM.2.2.2.2.1 f (k - 1) hf (by omega)).1]
theorem op_feuds (hM : RMo R n dogs fenced heights partner often) (hB : RBo true X R kept feuds bones fall) (x z : Int32) : ∃ o, f_X10_feuds (nI n) feuds x z = some o ∧ f_X11_feuds R th x z = some (o, 0) := by
  have hn := hM.1
  unfold f_X10_feuds f_X11_feuds f_X10_isPair
  rcases e_isFarm hn hM.2.1 x with ⟨h1, h2⟩ | ⟨f, hf, rfl, h1, h2⟩
  · exact ⟨-1, by rw [h1, bd_s, if_pos z00, bd_s, if_pos z00], by rw [h2, bd_s, if_pos z00]⟩
  · rw [h1, h2, bd_s, bd_s, if_neg z10, if_neg z10]
    rcases e_isFarm hn hM.2.1 z with ⟨h3, h4⟩ | ⟨e, he, rfl, h3, h4⟩
    · exact ⟨-1, by rw [h3, bd_s, if_pos z00, bd_s, if_pos z00], by rw [h4, bd_s, if_pos z00]⟩
    · rw [h3, h4, bd_s, bd_s, if_neg z10, if_neg z10]
      by_cases hfe : nI f = nI e
      · exact ⟨-1, by rw [if_pos hfe, bd_s, if_pos z00], by rw [if_pos hfe]⟩
      · have e1 : (nI f * 6) + nI e = nI (6 * f + e) := by rw [show (6 : Int32) = nI 6 from rfl, i_mul, i_add]; congr 1; omega
        have e2 : (146 + (6 * nI f)) + nI e = nI (146 + (6 * f + e)) := by rw [show (146 : Int32) = nI 146 from rfl, show (6 : Int32) = nI 6 from rfl, i_mul, i_add, i_add]; congr 1; omega
        refine ⟨feuds (6 * f + e), ?_, ?_⟩
        · rw [if_neg hfe, bd_s, if_neg z10, e1, g_nI (by omega) (by decide), ix_nI (by omega)]
        · rw [if_neg hfe, e2, g_nI (by omega) (by decide), ix_nI (by omega), (hB.2.2 rfl).2.2.1 _ (by omega)]
theorem op_bones (hB : RBo true X R kept feuds bones fall) : f_X10_bones bones = some bones ∧ f_X11_bones R th = some (bones, 0) := by
  refine ⟨rfl, ?_⟩
  unfold f_X11_bones
  rw [(hB.2.2 rfl).1]
/-- bone: the class throws where the reference notes that it is thrown -/
theorem op_bone (hB : RBo true X R kept feuds bones fall) (hX : X < 2 ^ 31) (x z : Int32) : (∃ o, f_X10_bone kept bones x z = some (some o) ∧ f_X11_bone R th x z = some (o, 0)) ∨ (f_X10_bone kept bones x z = some none ∧ f_X11_bone R th x z = some (0, 1)) := by
  obtain ⟨⟨B, hBX, eB⟩, -, h3⟩ := hB
  obtain ⟨e1, e2, -, -⟩ := h3 rfl
  have e3 : R 3 = nI B := by rw [← e1, eB]
  have thrown : f_X11_bone_B35 R th x z = some (0, 1) := by
    unfold f_X11_bone_B35 f_X11_bone_B36
    rw [if_neg (by decide)]
  unfold f_X10_bone f_X11_bone f_X0_keeps
  rw [e3, eB]
  rcases w_two x with h | ⟨k, hk, rfl⟩
  · right; rw [if_pos h, if_pos h, bd_s, if_pos z00]; exact ⟨rfl, thrown⟩
  · rw [if_neg (nI_pos hk), if_neg (nI_pos hk)]
    by_cases hkB : B ≤ k
    · right; rw [if_pos (nI_le hkB hk), if_pos (nI_le hkB hk), bd_s, if_pos z00]; exact ⟨rfl, thrown⟩
    · rw [if_neg (nI_ge (by omega) (by omega)), if_neg (nI_ge (by omega) (by omega)), show (200 : Int32) = nI 200 from rfl]
      by_cases hk2 : 200 ≤ k
      · right; rw [if_pos (nI_le hk2 hk), if_pos (nI_le hk2 hk), bd_s, if_pos z00]; exact ⟨rfl, thrown⟩
      · rw [if_neg (nI_ge (by omega) (by omega)), if_neg (nI_ge (by omega) (by omega)), bd_s, if_neg z10]
        rcases e_within (x := z) (a := 0) (b := 3) (by decide) (by decide) with ⟨h4, h5⟩ | ⟨j, j1, j2, rfl, h4⟩
        · right
          have h4 : f_X11_within z 0 3 = some 0 := h4
          have h5 : z < 0 ∨ (¬ z < 0 ∧ nI 3 < z) := h5
          rw [h4, bd_s, if_pos z00]
          refine ⟨?_, thrown⟩
          rcases h5 with h5 | ⟨h5, h6⟩
          · rw [if_pos h5]; rfl
          · have h7 : ¬ z < 4 := by
              rw [Int32.lt_iff_toInt_lt] at h6 ⊢
              rw [nI_toInt (by decide)] at h6
              have : (4 : Int32).toInt = 4 := rfl
              omega
            rw [if_neg h5, if_neg h7]; rfl
        · left
          have h4 : f_X11_within (nI j) 0 3 = some 1 := h4
          have q1 : ¬ nI j < 0 := nI_pos (by omega)
          have q2 : nI j < 4 := nI_lt (b := 4) (by omega) (by decide)
          have a1 : (nI k * 4) + nI j = nI (4 * k + j) := by rw [show (4 : Int32) = nI 4 from rfl, i_mul, i_add]; congr 1; omega
          have a2 : (190 + (4 * nI k)) + nI j = nI (190 + (4 * k + j)) := by rw [show (190 : Int32) = nI 190 from rfl, show (4 : Int32) = nI 4 from rfl, i_mul, i_add, i_add]; congr 1; omega
          refine ⟨kept (4 * k + j), ?_, ?_⟩
          · rw [if_neg q1, if_pos q2, a1, g_nI (by omega) (by decide), ix_nI (by omega)]
          · rw [h4, bd_s, if_neg z10]
            unfold f_X11_bone_B36
            rw [if_pos (by decide), a2, g_nI (by omega) (by decide), ix_nI (by omega), e2 B e3 hBX _ (by omega)]
end WS
