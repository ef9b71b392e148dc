/-! PURE 4: where the wolf goes -/
def sel (m : Nat) : List Nat := (List.range 6).filter (fun i => m.testBit i)
theorem sel_cnt : ∀ m, m < 64 → pc_ m = (sel m).length := by decide +kernel
theorem sel_add : ∀ e, e < 6 → ∀ m, m < 2 ^ e → sel (m ||| 2 ^ e) = sel m ++ [e] ∧ m ||| 2 ^ e < 2 ^ (e + 1) := by decide +kernel
theorem sel_one : ∀ e, e < 6 → sel (2 ^ e) = [e] ∧ 2 ^ e < 2 ^ (e + 1) := by decide +kernel
theorem sel_0 : sel 0 = [] := by decide
theorem sel_ge : ∀ m, m < 64 → ∀ e, e < 6 → (sel m).filter (fun i => decide (e ≤ i)) = if m.testBit e then e :: (sel m).filter (fun i => decide (e + 1 ≤ i)) else (sel m).filter (fun i => decide (e + 1 ≤ i)) := by decide +kernel
theorem sel_6 : ∀ m, m < 64 → (sel m).filter (fun i => decide (6 ≤ i)) = [] := by decide +kernel
theorem sel_all : ∀ m, m < 64 → (sel m).filter (fun i => decide (0 ≤ i)) = sel m := by decide +kernel
theorem sel_len : ∀ m, m < 64 → (sel m).length ≤ 6 := by decide +kernel
theorem sel_mem {m i : Nat} (h : i ∈ sel m) : i < 6 ∧ m.testBit i = true := by
  have h2 := List.mem_filter.mp h
  exact ⟨List.mem_range.mp h2.1, h2.2⟩
theorem pow_64 : ∀ e, e ≤ 6 → 2 ^ e ≤ 64 := by decide
/-- the class's choice among the bits of a mask -/
theorem one_loop (gg : Int64) {m : Nat} (hm : m < 64) : ∀ (r e k g : Nat), e + r = 6 → r < g → k < 2 ^ 31 →
    f_X9_oneOf_L23 g gg (nI m) (nI k) (nI e) = some (match ((sel m).filter (fun i => decide (e ≤ i)))[k]? with | some x => nI x | none => -1, gg) := by
  intro r
  induction r with
  | zero =>
    intro e k g he hg hk
    obtain ⟨g, rfl⟩ : ∃ z, g = z + 1 := ⟨g - 1, by omega⟩
    have he : e = 6 := by omega
    subst he
    rw [sel_6 m hm]
    show f_X9_oneOf_L23b _ _ _ _ _ = _
    unfold f_X9_oneOf_L23b
    rw [if_pos (by decide)]
    rfl
  | succ r ih =>
    intro e k g he hg hk
    obtain ⟨g, rfl⟩ : ∃ z, g = z + 1 := ⟨g - 1, by omega⟩
    rw [sel_ge m hm e (by omega)]
    show f_X9_oneOf_L23b _ _ _ _ _ = _
    unfold f_X9_oneOf_L23b
    have h6 : ¬ (6 : Int32) ≤ nI e := by
      rw [show (6 : Int32) = nI 6 from rfl]
      exact nI_ge (by omega) (by decide)
    rw [if_neg h6]
    by_cases hb : m.testBit e = true
    · rw [if_pos ((mk_bit m hm e (by omega)).mpr hb), if_pos hb]
      by_cases hk0 : k = 0
      · subst hk0
        rw [if_pos (by rfl)]
        rfl
      · obtain ⟨k, rfl⟩ : ∃ z, k = z + 1 := ⟨k - 1, by omega⟩
        rw [if_neg (nI_ne0 (by omega) hk)]
        simp only [lt_, f_X9_oneOf_B50]
        rw [← Int32.sub_eq_add_neg, nI_pred, ← nI_succ, ih (e + 1) k g (by omega) (by omega) (by omega)]
        rfl
    · rw [if_neg (fun z => hb ((mk_bit m hm e (by omega)).mp z)), if_neg hb]
      simp only [lt_, f_X9_oneOf_B50]
      rw [← nI_succ]
      exact ih (e + 1) k g (by omega) (by omega) hk
/-- near, as the reference reckons it -/
def nr_ (R : Nat → Int32) (a e : Nat) : Bool := decide (R (74 + 6 * a + e) ≠ 0) && !decide (R (110 + 6 * a + e) ≠ 0)
theorem e_arenear {R : Nat → Int32} {n : Nat} {dogs fenced heights partner often : Nat → Int32} (h : RMo R n dogs fenced heights partner often) {a e : Nat} (ha : a < n) (he : e < 6) : f_X11_areNear R (nI a) (nI e) = some (if nr_ R a e then 1 else 0) := by
  obtain ⟨hn, -, -, -, -, -, hf⟩ := h
  have e1 : (74 + (6 * nI a)) + nI e = nI (74 + 6 * a + e) := by rw [show (74 : Int32) = nI 74 from rfl, show (6 : Int32) = nI 6 from rfl, i_mul, i_add, i_add]
  have e2 : (110 + (6 * nI a)) + nI e = nI (110 + 6 * a + e) := by rw [show (110 : Int32) = nI 110 from rfl, show (6 : Int32) = nI 6 from rfl, i_mul, i_add, i_add]
  unfold f_X11_areNear nr_
  rw [e1, e2, g_nI (by omega) (by decide), g_nI (by omega) (by decide), ix_nI (by omega), ix_nI (by omega)]
  rcases hf a e ha he with h0 | ⟨-, -, q, hq, h1, -⟩
  · rw [h0, if_pos (by decide)]
    simp
  · rw [h1, if_neg (nI_nle (by omega) (by omega))]
    have hne : nI (q + 1) ≠ 0 := nI_ne0 (by omega) (by omega)
    by_cases hp : R (110 + 6 * a + e) = 0
    · rw [if_pos hp]; simp [hp, hne]
    · rw [if_neg hp]; simp [hp]
/-- what a farm is worth to the wolf -/
theorem e_wants {R op arg : Nat → Int32} {n : Nat} {dogs fenced heights partner often : Nat → Int32} (hM : RMo R n dogs fenced heights partner often) {night : Int32} {g : Int64} {flock hunger lean fed taken pacts : Nat → Int32} (hV : RVa R n night g flock hunger lean fed taken pacts)
    {fek fel fer : Nat → Int32} {fes : Int32} {gok gol gor : Nat → Int32} {gos : Int32} (hL : RLw R op arg fek fel fer fes gok gol gor gos) {w h e : Nat} (hw : w < n) (hh : h < n) (he : e < n) (hnr : nr_ R h e = true) {left : Int32} {facts : Nat → Int32} (hf2 : facts 2 = left) (hf5 : facts 5 = R (11 + 7 * w)) (values mf mp : Nat → Int32) :
    ∃ (v : Int32) (v' mf' mp' : Nat → Int32), f_X3_worth gok gol gor gos (upd (upd (upd facts 0 (flock e)) 1 (dogs e)) 4 (heights (6 * h + e))) values = some (v, v') ∧ f_X11_wants R op arg mf mp (nI w) (nI h) (nI e) left = some (v, mf', mp') := by
  obtain ⟨hn, hR0, hdog, -, -, -, hfe⟩ := hM
  obtain ⟨-, -, hfl, -⟩ := hV
  have e1 : (74 + (6 * nI h)) + nI e = nI (74 + 6 * h + e) := by rw [show (74 : Int32) = nI 74 from rfl, show (6 : Int32) = nI 6 from rfl, i_mul, i_add, i_add]
  have o0 : f_X11_of R (nI e) 0 = some (flock e) := by rw [e_of (y := 0) (w := 0) rfl rfl (by omega) (by decide), Nat.add_zero, (hfl e he).1]
  have o1 : f_X11_of R (nI e) 1 = some (dogs e) := by
    rw [e_of (y := 1) (w := 1) rfl rfl (by omega) (by decide), (hdog e he).1]
    congr 2; omega
  have o3 : f_X11_of R (nI w) 3 = some (R (11 + 7 * w)) := by
    rw [e_of (y := 3) (w := 3) rfl rfl (by omega) (by decide)]
    congr 2; omega
  have hht : R (74 + 6 * h + e) - 1 = heights (6 * h + e) := by
    rcases hfe h e hh (by omega) with h0 | ⟨-, -, q, -, h1, h2⟩
    · unfold nr_ at hnr
      rw [h0] at hnr
      simp at hnr
    · rw [h1, h2, nI_pred]
  obtain ⟨v, v', hv, hv0, hv1⟩ := (hL.gt hR0 (by omega) hn).2 (upd (upd (upd facts 0 (flock e)) 1 (dogs e)) 4 (heights (6 * h + e))) (upd (upd (upd (upd (upd mf 0 (flock e)) 1 (dogs e)) 2 left) 3 (heights (6 * h + e))) 4 (R (11 + 7 * w))) values mp rfl rfl hf2 rfl hf5
  by_cases h6 : R 6 < 0
  · refine ⟨v, v', mf, mp, hv, ?_⟩
    have hn6 : ¬ 0 ≤ R 6 := by
      rw [Int32.le_iff_toInt_le]
      rw [Int32.lt_iff_toInt_lt] at h6
      omega
    unfold f_X11_wants
    rw [if_neg hn6, o0, bd_s, hv0 h6]
    rfl
  · obtain ⟨p', hp'⟩ := hv1 h6
    have h60 : 0 ≤ R 6 := by
      rw [Int32.le_iff_toInt_le]
      rw [Int32.lt_iff_toInt_lt] at h6
      omega
    refine ⟨v, v', upd (upd (upd (upd (upd mf 0 (flock e)) 1 (dogs e)) 2 left) 3 (heights (6 * h + e))) 4 (R (11 + 7 * w)), p', hv, ?_⟩
    unfold f_X11_wants
    rw [if_pos h60, o0, bd_s]
    simp only [lt_, o1, bd_s, e1, g_nI (show 74 + 6 * h + e < 7000 by omega) (show 7000 < 2 ^ 31 by decide), ix_nI (show 74 + 6 * h + e < 2 ^ 31 by omega), o3, hht]
    rw [hp', bd_s]
/-- the end of the reference's going -/
noncomputable def gofin (R mf mp best : Nat → Int32) (k : Nat) : Option (Int32 × (Nat → Int32) × (Nat → Int32) × (Nat → Int32) × (Nat → Int32)) :=
  if k = 0 then some (-1, R, mf, mp, best) else if k = 1 then some (best 0, R, mf, mp, best) else bd_ (f_X11_draw R (nI k)) fun q => g_in q.1 6 (some (best (ix q.1), q.2, mf, mp, best))

/-- the two loops of going, side by side -/
theorem goes_loop {R op arg : Nat → Int32} {n : Nat} {dogs fenced heights partner often : Nat → Int32} (hM : RMo R n dogs fenced heights partner often) {night : Int32} {g : Int64} {flock hunger lean fed taken pacts : Nat → Int32} (hV : RVa R n night g flock hunger lean fed taken pacts)
    {fek fel fer : Nat → Int32} {fes : Int32} {gok gol gor : Nat → Int32} {gos : Int32} (hL : RLw R op arg fek fel fer fes gok gol gor gos) {w h : Nat} (hw : w < n) (hh : h < n) {left msk : Int32} (hmsk : Mk msk (nr_ R h)) :
    ∀ (r e g1 g2 : Nat), e + r = n → r < g1 → r < g2 → ∀ (most : Int32) (m : Nat) (facts values mf mp best : Nat → Int32), m < 2 ^ e → ((m = 0 ∧ most = 0) ∨ (m ≠ 0 ∧ 0 < most)) → (∀ i, i ∈ sel m → i < n ∧ nr_ R h i = true) → (∀ k x, (sel m)[k]? = some x → best k = nI x) → facts 2 = left → facts 5 = R (11 + 7 * w) →
      ∃ (m' : Nat) (facts' values' mf' mp' best' : Nat → Int32), m' < 64 ∧ (∀ i, i ∈ sel m' → i < n ∧ nr_ R h i = true) ∧ (∀ k x, (sel m')[k]? = some x → best' k = nI x) ∧
        f_X9_bestAround_L30 flock pacts (nI n) dogs fenced heights gok gol gor gos g1 facts values (nI h) most (nI m) msk (nI e) = some (nI m', facts', values') ∧
        f_X11_goesTo_L9 op arg g2 R mf mp best (nI w) (nI h) left (nI (sel m).length) most (nI e) = gofin R mf' mp' best' (sel m').length := by
  have hn := hM.1
  have hR0 := hM.2.1
  intro r
  induction r with
  | zero =>
    intro e g1 g2 he h1 h2 most m facts values mf mp best hm hmm hsel hbest hf2 hf5
    obtain ⟨g1, rfl⟩ : ∃ z, g1 = z + 1 := ⟨g1 - 1, by omega⟩
    obtain ⟨g2, rfl⟩ : ∃ z, g2 = z + 1 := ⟨g2 - 1, by omega⟩
    have he : e = n := by omega
    subst he
    have hm64 : m < 64 := Nat.lt_of_lt_of_le hm (pow_64 e hn)
    have hl6 := sel_len m hm64
    refine ⟨m, facts, values, mf, mp, best, hm64, hsel, hbest, ?_, ?_⟩
    · show f_X9_bestAround_L30b _ _ _ _ _ _ _ _ _ _ _ _ _ _ _ _ _ _ = _
      unfold f_X9_bestAround_L30b
      rw [if_pos (nI_le (Nat.le_refl _) (by omega))]
    · show f_X11_goesTo_L9b _ _ _ _ _ _ _ _ _ _ _ _ _ = _
      unfold f_X11_goesTo_L9b
      rw [e_farms, bd_s, hR0, if_pos (nI_le (Nat.le_refl _) (by omega))]
      unfold gofin
      rw [show (0 : Int32) = nI 0 from rfl, show (1 : Int32) = nI 1 from rfl, ifq (by omega) (by decide), ifq (by omega) (by decide)]
  | succ r ih =>
    intro e g1 g2 he h1 h2 most m facts values mf mp best hm hmm hsel hbest hf2 hf5
    obtain ⟨g1, rfl⟩ : ∃ z, g1 = z + 1 := ⟨g1 - 1, by omega⟩
    obtain ⟨g2, rfl⟩ : ∃ z, g2 = z + 1 := ⟨g2 - 1, by omega⟩
    have hen : e < n := by omega
    have hm64 : m < 64 := Nat.lt_of_lt_of_le hm (pow_64 e (by omega))
    have hl6 := sel_len m hm64
    have hgf : ∀ {β : Type} {k : Option β}, g_in (nI e) 6 k = k := fun {β k} => g_nI (by omega) (by decide)
    have hm1 : m < 2 ^ (e + 1) := Nat.lt_trans hm (Nat.pow_lt_pow_right (by decide) (Nat.lt_succ_self e))
    have hmost : ¬ most < 0 := by
      rcases hmm with ⟨-, h0⟩ | ⟨-, h0⟩
      · rw [h0]; decide
      · rw [Int32.lt_iff_toInt_lt] at h0 ⊢
        have : (0 : Int32).toInt = 0 := rfl
        omega
    show ∃ (m' : Nat) (facts' values' mf' mp' best' : Nat → Int32), m' < 64 ∧ _ ∧ _ ∧ f_X9_bestAround_L30b (f_X9_bestAround_L30 flock pacts (nI n) dogs fenced heights gok gol gor gos g1) flock pacts (nI n) dogs fenced heights gok gol gor gos facts values (nI h) most (nI m) msk (nI e) = some (nI m', facts', values') ∧
      f_X11_goesTo_L9b (f_X11_goesTo_L9 op arg g2) op arg R mf mp best (nI w) (nI h) left (nI (sel m).length) most (nI e) = gofin R mf' mp' best' (sel m').length
    unfold f_X9_bestAround_L30b f_X11_goesTo_L9b
    rw [if_neg (nI_ge hen (by omega)), e_farms, bd_s, hR0, if_neg (nI_ge hen (by omega)), e_arenear hM hh (by omega), bd_s]
    by_cases hb : nr_ R h e = true
    · rw [if_pos ((hmsk.bit rfl (by omega)).mpr hb), hb]
      simp only [if_true]
      rw [if_neg (show ¬ (1 : Int32) = 0 by decide)]
      obtain ⟨v, v', mf', mp', hv, hvm⟩ := e_wants hM hV hL hw hh hen hb hf2 hf5 values mf mp
      have hix : ix (nI e) = e := ix_nI (by omega)
      have hhi : (nI h * 6) + nI e = nI (6 * h + e) := by rw [show (6 : Int32) = nI 6 from rfl, i_mul, i_add, Nat.mul_comm]
      simp only [hgf, lt_, hix, hhi, g_nI (show 6 * h + e < 36 by omega) (show 36 < 2 ^ 31 by decide), ix_nI (show 6 * h + e < 2 ^ 31 by omega)]
      rw [hv, bd_s, hvm, bd_s]
      have f2 : (upd (upd (upd facts 0 (flock e)) 1 (dogs e)) 4 (heights (6 * h + e))) 2 = left := hf2
      have f5 : (upd (upd (upd facts 0 (flock e)) 1 (dogs e)) 4 (heights (6 * h + e))) 5 = R (11 + 7 * w) := hf5
      have skip := ih (e + 1) g1 g2 (by omega) (by omega) (by omega) most m (upd (upd (upd facts 0 (flock e)) 1 (dogs e)) 4 (heights (6 * h + e))) v' mf' mp' best hm1 hmm hsel hbest f2 f5
      simp only [f_X9_bestAround_B160, f_X11_goesTo_B41, f_X11_goesTo_B57, f_X11_goesTo_B81, lt_, ← nI_succ]
      by_cases hle : v ≤ most
      · rw [if_pos hle, if_pos hle]
        by_cases heq : v = most
        · subst heq
          rw [if_pos rfl]
          rcases hmm with ⟨hm0, hz⟩ | ⟨hm0, hz⟩
          · subst hz; subst hm0
            rw [if_pos (show nI 0 = 0 from rfl), if_pos (show (0 : Int32) ≤ 0 by decide)]
            exact skip
          · have hmz : ¬ nI m = 0 := nI_ne0 (by omega) (by omega)
            have hvz : ¬ v ≤ 0 := by
              rw [Int32.le_iff_toInt_le]
              rw [Int32.lt_iff_toInt_lt] at hz
              omega
            rw [if_neg hmz, if_neg hvz, if_pos rfl]
            obtain ⟨hs1, hs2⟩ := sel_add e (by omega) m hm
            have hlt : (sel m).length < 6 := by
              have := sel_len (m ||| 2 ^ e) (Nat.lt_of_lt_of_le hs2 (pow_64 (e + 1) (by omega)))
              rw [hs1, List.length_append] at this
              simp at this
              omega
            rw [g_nI hlt (by decide), mk_one e (by omega), fa_or, ix_nI (by omega)]
            have hor : m ||| 2 ^ e ≠ 0 := fun z => hm0 (by
              have h9 : m ≤ m ||| 2 ^ e := Nat.left_le_or
              omega)
            have := ih (e + 1) g1 g2 (by omega) (by omega) (by omega) v (m ||| 2 ^ e) (upd (upd (upd facts 0 (flock e)) 1 (dogs e)) 4 (heights (6 * h + e))) v' mf' mp' (upd best (sel m).length (nI e)) hs2 (Or.inr ⟨hor, hz⟩) (fun i hi => by
              rw [hs1] at hi
              rcases List.mem_append.mp hi with q | q
              · exact hsel i q
              · rw [List.mem_singleton.mp q]; exact ⟨hen, hb⟩) (fun k x hk => by
              rw [hs1] at hk
              by_cases hkl : k < (sel m).length
              · rw [List.getElem?_append_left hkl] at hk
                rw [u_n (by omega)]
                exact hbest k x hk
              · rw [List.getElem?_append_right (by omega)] at hk
                have hk0 : k - (sel m).length = 0 := by
                  have := (List.getElem?_eq_some_iff.mp hk).1
                  simp at this
                  omega
                rw [hk0] at hk
                cases hk
                rw [show k = (sel m).length by omega, u_s]) f2 f5
            rw [hs1, List.length_append, List.length_singleton] at this
            exact this
        · rw [if_neg heq]
          have : ∀ {α : Type} (a b : α), (if v ≤ 0 then a else (if v = most then b else a)) = a := by
            intro α a b
            rw [if_neg heq]
            split <;> rfl
          rw [this]
          exact skip
      · rw [if_neg hle, if_neg hle]
        have hvz : ¬ v ≤ 0 := by
          rw [Int32.le_iff_toInt_le] at hle ⊢
          rw [Int32.lt_iff_toInt_lt] at hmost
          have : (0 : Int32).toInt = 0 := rfl
          omega
        have hvp : 0 < v := by
          rw [Int32.le_iff_toInt_le] at hvz
          rw [Int32.lt_iff_toInt_lt]
          omega
        rw [if_neg hvz, show (0 : Int32) = nI 0 from rfl, g_nI (by decide) (by decide), mk_one e (by omega), ix_nI (by decide)]
        obtain ⟨hs1, hs2⟩ := sel_one e (by omega)
        have := ih (e + 1) g1 g2 (by omega) (by omega) (by omega) v (2 ^ e) (upd (upd (upd facts 0 (flock e)) 1 (dogs e)) 4 (heights (6 * h + e))) v' mf' mp' (upd best 0 (nI e)) hs2 (Or.inr ⟨Nat.ne_of_gt (Nat.two_pow_pos e), hvp⟩) (fun i hi => by
          rw [hs1] at hi
          rw [List.mem_singleton.mp hi]; exact ⟨hen, hb⟩) (fun k x hk => by
          rw [hs1] at hk
          have hk0 : k = 0 := by
            have := (List.getElem?_eq_some_iff.mp hk).1
            simp at this
            omega
          subst hk0
          cases hk
          rw [u_s]) f2 f5
        rw [hs1] at this
        exact this
    · have hb2 : nr_ R h e = false := by simpa using hb
      rw [if_neg (fun z => hb ((hmsk.bit rfl (by omega)).mp z)), hb2]
      simp only [Bool.false_eq_true, if_false]
      rw [if_pos trivial]
      simp only [f_X9_bestAround_B160, f_X11_goesTo_B41, f_X11_goesTo_B57, f_X11_goesTo_B81, lt_, ← nI_succ]
      have hle : (0 : Int32) ≤ most := by
        rw [Int32.le_iff_toInt_le]
        rw [Int32.lt_iff_toInt_lt] at hmost
        omega
      rw [if_pos hle, if_pos (show (0 : Int32) ≤ 0 by decide)]
      exact ih (e + 1) g1 g2 (by omega) (by omega) (by omega) most m facts values mf mp best hm1 hmm hsel hbest hf2 hf5

/-- where the wolf goes: both ways -/
theorem e_goes {R op arg : Nat → Int32} {n : Nat} {dogs fenced heights partner often : Nat → Int32} (hM : RMo R n dogs fenced heights partner often) {night : Int32} {g : Int64} {flock hunger lean fed taken pacts : Nat → Int32} (hV : RVa R n night g flock hunger lean fed taken pacts)
    {fek fel fer : Nat → Int32} {fes : Int32} {gok gol gor : Nat → Int32} {gos : Int32} (hL : RLw R op arg fek fel fer fes gok gol gor gos) {w h a : Nat} (hw : w < n) (hh : h < n) (hg : g = lN a) (hR2 : R 2 = nI a) (ha : a < 2 ^ 31) (left : Int32) (facts values mf mp best : Nat → Int32) :
    ∃ (bits to : Int32) (a' : Nat) (facts' values' mf' mp' best' : Nat → Int32), a' < 2 ^ 31 ∧ (to = -1 ∨ ∃ t, t < n ∧ t ≠ h ∧ to = nI t) ∧
      f_X9_bestAround flock pacts (nI n) dogs fenced heights gok gol gor gos facts values (nI h) left (R (11 + 7 * w)) = some (bits, facts', values') ∧ f_X9_oneOf g bits = some (to, lN a') ∧
      f_X11_goesTo op arg R mf mp best (nI w) (nI h) left = some (to, upd R 2 (nI a'), mf', mp', best') := by
  have hn := hM.1
  have hmsk : Mk ((fenced h) &&& ((pacts h) ^^^ (-1))) (nr_ R h) := (hM.2.2.2.2.2.1 h hh).neigh (hV.2.2.2.2.2.2.2.1 h hh)
  obtain ⟨m', facts', values', mf', mp', best', hm64, hsel, hbest, hc, hr⟩ := goes_loop hM hV hL hw hh (left := left) hmsk n 0 FU FU (by omega) (by show n < 5000; omega) (by show n < 5000; omega) 0 0 (upd (upd facts 2 left) 5 (R (11 + 7 * w))) values mf mp best (by decide) (Or.inl ⟨rfl, rfl⟩) (fun i hi => absurd hi (by rw [sel_0]; exact List.not_mem_nil)) (fun k x hk => by rw [sel_0] at hk; cases hk) rfl rfl
  have hgi : ∀ {β : Type} {k : Option β}, g_in (nI h) 6 k = k := fun {β k} => g_nI (by omega) (by decide)
  have hbA : f_X9_bestAround flock pacts (nI n) dogs fenced heights gok gol gor gos facts values (nI h) left (R (11 + 7 * w)) = some (nI m', facts', values') := by
    unfold f_X9_bestAround f_X9_neighboursOf
    rw [hgi, hgi, ix_nI (by omega), bd_s]
    simp only [lt_]
    exact hc
  have hgo : f_X11_goesTo op arg R mf mp best (nI w) (nI h) left = gofin R mf' mp' best' (sel m').length := by
    unfold f_X11_goesTo
    have h1 := hr
    rw [sel_0] at h1
    exact h1
  have hl6 := sel_len m' hm64
  have hpc : f_J6_bitCount_0f7a4 (nI m') = some (nI (sel m').length) := by rw [mk_cnt m' hm64, sel_cnt m' hm64]
  have one : ∀ (gg : Int64) (k : Nat), k < 2 ^ 31 → f_X9_oneOf_B19 gg (nI m') (nI k) = some (match (sel m')[k]? with | some x => nI x | none => -1, gg) := by
    intro gg k hk
    unfold f_X9_oneOf_B19
    rw [show (0 : Int32) = nI 0 from rfl, one_loop gg hm64 6 0 k FU (by decide) (by decide) hk, sel_all m' hm64]
  have nmem : ∀ {k x : Nat}, (sel m')[k]? = some x → x < n ∧ x ≠ h := by
    intro k x hk
    have hx := hsel x (List.mem_of_getElem? hk)
    refine ⟨hx.1, fun z => ?_⟩
    subst z
    have h2 := hx.2
    unfold nr_ at h2
    rcases hM.2.2.2.2.2.2 x x hh (by omega) with h0 | ⟨-, hne, -⟩
    · rw [h0] at h2; simp at h2
    · exact hne rfl
  have hup : upd R 2 (nI a) = R := fa_upd_same hR2
  unfold gofin at hgo
  by_cases l0 : (sel m').length = 0
  · refine ⟨nI m', -1, a, facts', values', mf', mp', best', ha, Or.inl rfl, hbA, ?_, ?_⟩
    · unfold f_X9_oneOf
      rw [hpc, bd_s, l0, if_pos (by decide), hg, show (0 : Int32) = nI 0 from rfl, one _ 0 (by decide), List.getElem?_eq_none (by omega)]
    · rw [hgo, if_pos l0, hup]
  · by_cases l1 : (sel m').length = 1
    · obtain ⟨x, hx⟩ : ∃ x, (sel m')[0]? = some x := ⟨_, List.getElem?_eq_getElem (by omega)⟩
      refine ⟨nI m', nI x, a, facts', values', mf', mp', best', ha, Or.inr ⟨x, (nmem hx).1, (nmem hx).2, rfl⟩, hbA, ?_, ?_⟩
      · unfold f_X9_oneOf
        rw [hpc, bd_s, l1, if_pos (by decide), hg, show (0 : Int32) = nI 0 from rfl, one _ 0 (by decide), hx]
      · rw [hgo, if_neg l0, if_pos l1, hup, hbest 0 x hx]
    · obtain ⟨d1, d2⟩ := e_draw (R := R) hR2 ha (k := (sel m').length) (by omega) (by omega)
      have hlt : (a * 1103515245 + 12345) % 2147483648 / 65536 % (sel m').length < (sel m').length := Nat.mod_lt _ (by omega)
      have hb : (a * 1103515245 + 12345) % 2147483648 < 2 ^ 31 := Nat.mod_lt _ (by decide)
      generalize (a * 1103515245 + 12345) % 2147483648 / 65536 % (sel m').length = k at d1 d2 hlt
      generalize (a * 1103515245 + 12345) % 2147483648 = b at d1 d2 hb
      obtain ⟨x, hx⟩ : ∃ x, (sel m')[k]? = some x := ⟨_, List.getElem?_eq_getElem hlt⟩
      refine ⟨nI m', nI x, b, facts', values', mf', mp', best', hb, Or.inr ⟨x, (nmem hx).1, (nmem hx).2, rfl⟩, hbA, ?_, ?_⟩
      · unfold f_X9_oneOf
        have hn1 : ¬ nI (sel m').length ≤ 1 := by
          rw [show (1 : Int32) = nI 1 from rfl]
          exact nI_ge (by omega) (by omega)
        rw [hpc, bd_s, if_neg hn1, hg, d1, bd_s]
        simp only
        rw [one _ k (by omega), hx]
      · rw [hgo, if_neg l0, if_neg l1, d2, bd_s, g_nI (by omega) (by decide), ix_nI (by omega), hbest k x hx]
