/-! PURE 3: the mountain and the valley against the rows; home, food -/
/-- what was told: the class's mountain, the reference's rows -/
def RMo (R : Nat → Int32) (n : Nat) (dogs fenced heights partner often : Nat → Int32) : Prop :=
  n ≤ 6 ∧ R 0 = nI n ∧ (∀ f, f < n → dogs f = R (9 + 7 * f) ∧ ∃ d, d ≤ 9 ∧ R (9 + 7 * f) = nI d) ∧
  (∀ f, f < n → (R (14 + 7 * f) = nI 0 ∧ partner f = -1) ∨ ∃ e, e < n ∧ R (14 + 7 * f) = nI (e + 1) ∧ partner f = nI e) ∧
  (∀ f k, f < n → k < 4 → often (4 * f + k) = R (50 + 4 * f + k) ∧ ∃ t, t ≤ 9 ∧ R (50 + 4 * f + k) = nI t) ∧
  (∀ a, a < n → Mk (fenced a) (fun e => decide (R (74 + 6 * a + e) ≠ 0))) ∧
  (∀ a e, a < n → e < 6 → R (74 + 6 * a + e) = 0 ∨ (e < n ∧ e ≠ a ∧ ∃ h, h ≤ 99 ∧ R (74 + 6 * a + e) = nI (h + 1) ∧ heights (6 * a + e) = nI h))
/-- the valley -/
def RVa (R : Nat → Int32) (n : Nat) (night : Int32) (g : Int64) (flock hunger lean fed taken pacts : Nat → Int32) : Prop :=
  night = R 1 ∧ (∃ a, a < 2 ^ 31 ∧ g = lN a ∧ R 2 = nI a) ∧ (∀ f, f < n → flock f = R (8 + 7 * f) ∧ ∃ F, F ≤ 9999 ∧ R (8 + 7 * f) = nI F) ∧
  (∀ f, f < n → hunger f = R (10 + 7 * f) ∧ ∃ H, H ≤ 100 ∧ R (10 + 7 * f) = nI H) ∧ (∀ f, f < n → lean f = R (11 + 7 * f)) ∧ (∀ f, f < n → fed f = R (12 + 7 * f)) ∧ (∀ f, f < n → taken f = R (13 + 7 * f)) ∧
  (∀ a, a < n → Mk (pacts a) (fun e => decide (R (110 + 6 * a + e) ≠ 0))) ∧ (∀ a e, a < n → e < 6 → R (110 + 6 * a + e) = 0 ∨ (e < n ∧ e ≠ a ∧ R (110 + 6 * a + e) = 1))
/-- the two laws, by what they are worth -/
def RLv (R op arg : Nat → Int32) (fek fel fer : Nat → Int32) (fes : Int32) (gok gol gor : Nat → Int32) (gos : Int32) : Prop :=
  (∀ cf rf values pile : Nat → Int32, cf 0 = rf 0 → cf 1 = rf 1 → cf 2 = rf 2 → cf 3 = rf 3 → ∃ (w : Int32) (v' : Nat → Int32), f_X3_worth fek fel fer fes cf values = some (w, v') ∧ (R 5 < 0 → w = 0) ∧ (¬ R 5 < 0 → ∃ p', f_X11_worthAt op arg rf pile (R 5) = some (w, p'))) ∧
  (∀ cf rf values pile : Nat → Int32, cf 0 = rf 0 → cf 1 = rf 1 → cf 2 = rf 2 → cf 4 = rf 3 → cf 5 = rf 4 → ∃ (w : Int32) (v' : Nat → Int32), f_X3_worth gok gol gor gos cf values = some (w, v') ∧ (R 6 < 0 → w = cf 0) ∧ (¬ R 6 < 0 → ∃ p', f_X11_worthAt op arg rf pile (R 6) = some (w, p')))
/-- the same, where there are farms -/
def RLw (R op arg : Nat → Int32) (fek fel fer : Nat → Int32) (fes : Int32) (gok gol gor : Nat → Int32) (gos : Int32) : Prop := R 0 = 0 ∨ RLv R op arg fek fel fer fes gok gol gor gos
theorem RLw.gt {R op arg fek fel fer gok gol gor : Nat → Int32} {fes gos : Int32} {n : Nat} (h : RLw R op arg fek fel fer fes gok gol gor gos) (h0 : R 0 = nI n) (hp : 0 < n) (hn : n ≤ 6) : RLv R op arg fek fel fer fes gok gol gor gos := h.resolve_left (fun q => nI_ne0 hp (by omega) (h0.symm.trans q))
/-- the levels that are set for a game's row, or not -/
def RLe (n : Nat) (ml : Int32) (levels : Nat → Int32) : Prop := (ml < 0 ∧ ∀ f, f < n → levels f = -1) ∨ (¬ ml < 0 ∧ ∀ f, f < n → ∃ v, v ≤ 3 ∧ levels f = nI v ∧ f_X11_levelOf ml (nI f) = some (nI v))
theorem ifl {α : Type} {a b : Nat} (ha : a < 2 ^ 31) (hb : b < 2 ^ 31) (x y : α) : (if nI a < nI b then x else y) = if a < b then x else y := by
  by_cases h : a < b
  · rw [if_pos h, if_pos (nI_lt h hb)]
  · rw [if_neg h, if_neg (nI_nlt (Nat.le_of_not_lt h) ha)]
theorem ife {α : Type} {a b : Nat} (ha : a < 2 ^ 31) (hb : b < 2 ^ 31) (x y : α) : (if nI a ≤ nI b then x else y) = if a ≤ b then x else y := by
  by_cases h : a ≤ b
  · rw [if_pos h, if_pos (nI_le h hb)]
  · rw [if_neg h, if_neg (nI_ge (Nat.lt_of_not_le h) ha)]
theorem ifq {α : Type} {a b : Nat} (ha : a < 2 ^ 31) (hb : b < 2 ^ 31) (x y : α) : (if nI a = nI b then x else y) = if a = b then x else y := by
  by_cases h : a = b
  · rw [if_pos h, if_pos (by rw [h])]
  · rw [if_neg h, if_neg (fun e => h (by rwa [i_eq ha hb] at e))]
theorem nI_m1 {a : Nat} (ha : a < 2 ^ 31) : ¬ nI a = -1 := by
  rw [← Int32.toInt_inj, nI_toInt ha]
  show ¬ (a : Int) = -1
  omega
theorem e_home {R : Nat → Int32} {n : Nat} {dogs fenced heights partner often : Nat → Int32} (h : RMo R n dogs fenced heights partner often) {f : Nat} (hf : f < n) : ∃ e, e < n ∧ f_X9_homeOf (R 1) partner (nI f) = some (nI e) ∧ f_X11_homeOf R (nI f) = some (nI e) := by
  obtain ⟨hn, -, -, hp, -⟩ := h
  have hg : ∀ {β : Type} {k : Option β}, g_in (nI f) 6 k = k := fun {β k} => g_nI (by omega) (by decide)
  have ho : f_X11_of R (nI f) 6 = some (R (14 + 7 * f)) := by
    rw [e_of (y := 6) (w := 6) rfl rfl (by omega) (by decide)]
    congr 2; omega
  rcases hp f hf with ⟨h1, h2⟩ | ⟨e, he, h1, h2⟩
  · refine ⟨f, hf, ?_, ?_⟩
    · unfold f_X9_homeOf
      rw [hg]
      simp only [lt_, ix_nI (show f < 2 ^ 31 by omega), h2, f_X9_homeOf_B28]
      split <;> simp
    · unfold f_X11_homeOf
      rw [ho, bd_s, h1]
      simp only [lt_]
      rw [if_pos (by decide)]
  · by_cases hc : ((R 1 / 28) - (R 1 / 28) / 2 * 2) = 1
    · refine ⟨e, he, ?_, ?_⟩
      · unfold f_X9_homeOf
        rw [hg]
        simp only [lt_, ix_nI (show f < 2 ^ 31 by omega), h2, f_X9_homeOf_B28, if_pos hc]
        rw [if_neg (by decide), if_neg (nI_m1 (by omega))]
      · unfold f_X11_homeOf
        rw [ho, bd_s, h1]
        simp only [lt_]
        rw [nI_pred, if_neg (nI_pos (by omega)), if_pos hc]
    · refine ⟨f, hf, ?_, ?_⟩
      · unfold f_X9_homeOf
        rw [hg]
        simp only [lt_, ix_nI (show f < 2 ^ 31 by omega), h2, f_X9_homeOf_B28, if_neg hc]
        simp
      · unfold f_X11_homeOf
        rw [ho, bd_s, h1]
        simp only [lt_]
        rw [nI_pred, if_neg (nI_pos (by omega)), if_neg hc]
theorem w_two (w : Int32) : w < 0 ∨ ∃ k, k < 2 ^ 31 ∧ w = nI k := by
  by_cases h : w < 0
  · exact Or.inl h
  · right
    rw [Int32.lt_iff_toInt_lt] at h
    have h0 : (0 : Int32).toInt = 0 := rfl
    rw [h0] at h
    have hu := Int32.toInt_lt w
    refine ⟨w.toInt.toNat, by omega, ?_⟩
    rw [← Int32.toInt_inj, nI_toInt (by omega)]
    omega
/-- between nothing and the lesser of two: the class's way -/
theorem clip_c {H F : Nat} (hH : H ≤ 9999) (hF : F ≤ 9999) (w : Int32) : (if (if nI H < nI F then nI H else nI F) < (if w < 0 then 0 else w) then (if nI H < nI F then nI H else nI F) else (if w < 0 then 0 else w)) = nI (if w < 0 then 0 else min w.toInt.toNat (min H F)) := by
  have hm : (if nI H < nI F then nI H else nI F) = nI (min H F) := by
    rw [ifl (show H < 2 ^ 31 by omega) (show F < 2 ^ 31 by omega)]
    split
    · congr 1; omega
    · congr 1; omega
  rw [hm]
  by_cases hw : w < 0
  · rw [if_pos hw, if_pos hw, show (0 : Int32) = nI 0 from rfl, ifl (by omega) (by decide), if_neg (by omega)]
  · obtain ⟨k, hk, rfl⟩ := (w_two w).resolve_left hw
    rw [if_neg hw, if_neg hw, ifl (by omega) hk, nI_toInt hk]
    split
    · congr 1; omega
    · congr 1; omega
/-- the same, the reference's way -/
theorem clip_m {H F : Nat} (hH : H ≤ 9999) (hF : F ≤ 9999) (w : Int32) : (if 0 ≤ w then (if w ≤ nI (min H F) then w else nI (min H F)) else (0 : Int32)) = nI (if w < 0 then 0 else min w.toInt.toNat (min H F)) := by
  rcases w_two w with hw | ⟨k, hk, rfl⟩
  · have hn : ¬ 0 ≤ w := by
      rw [Int32.le_iff_toInt_le]
      rw [Int32.lt_iff_toInt_lt] at hw
      omega
    rw [if_pos hw, if_neg hn]
    rfl
  · rw [if_pos (nI_pos' hk), if_neg (nI_pos hk), ife hk (by omega), nI_toInt hk]
    split
    · congr 1; omega
    · congr 1; omega
theorem e_fedB {R op arg : Nat → Int32} {ml : Int32} {mf mp : Nat → Int32} {h H F : Nat} (hh : h < 6) (hR : R (8 + 7 * h) = nI F) (hH : H ≤ 9999) (hF : F ≤ 9999) (w : Int32) : f_X11_feeds_B81 R op arg ml mf mp (nI h) (nI H) w = some (nI (if w < 0 then 0 else min w.toInt.toNat (min H F)), mf, mp) := by
  have ho : f_X11_of R (nI h) 0 = some (nI F) := by rw [e_of (y := 0) (w := 0) rfl rfl hh (by decide), Nat.add_zero, hR]
  have key : ∀ s0 : Int32, s0 = nI (min H F) → f_X11_feeds_B101 R op arg ml mf mp w s0 = some (nI (if w < 0 then 0 else min w.toInt.toNat (min H F)), mf, mp) := by
    intro s0 hs
    subst hs
    rw [← clip_m hH hF w]
    unfold f_X11_feeds_B101
    split
    · split <;> rfl
    · rfl
  unfold f_X11_feeds_B81
  rw [ho, bd_s, bd_s, ife (show F < 2 ^ 31 by omega) (show H < 2 ^ 31 by omega)]
  split
  · exact key _ (by congr 1; omega)
  · exact key _ (by congr 1; omega)
/-- what is eaten at home -/
theorem e_fed {R op arg : Nat → Int32} {n : Nat} {dogs fenced heights partner often : Nat → Int32} (hM : RMo R n dogs fenced heights partner often) {night : Int32} {g : Int64} {flock hunger lean fed taken pacts : Nat → Int32} (hV : RVa R n night g flock hunger lean fed taken pacts)
    {fek fel fer : Nat → Int32} {fes : Int32} {gok gol gor : Nat → Int32} {gos : Int32} (hL : RLw R op arg fek fel fer fes gok gol gor gos) {ml : Int32} {levels : Nat → Int32} (hE : RLe n ml levels) {h H F : Nat} (hh : h < n) (hF : R (8 + 7 * h) = nI F) (hF9 : F ≤ 9999) (hH : H ≤ 100) (facts values mf mp : Nat → Int32) :
    ∃ (d : Nat) (facts' values' mf' mp' : Nat → Int32), d ≤ F ∧ d ≤ H ∧ f_X9_fedAt night flock levels dogs fek fel fer fes facts values (nI h) (nI H) = some (nI d, facts', values') ∧ f_X11_feeds R op arg ml mf mp (nI h) (nI H) = some (nI d, mf', mp') := by
  obtain ⟨hn, hR0, hdog, -⟩ := hM
  obtain ⟨hnt, -, hfl, -⟩ := hV
  have hg : ∀ {β : Type} {k : Option β}, g_in (nI h) 6 k = k := fun {β k} => g_nI (by omega) (by decide)
  have hix : ix (nI h) = h := ix_nI (by omega)
  have hflh : flock h = nI F := (hfl h hh).1.trans hF
  have cls : ∀ (w : Int32) (fa va : Nat → Int32), f_X9_fedAt_B71 night flock levels dogs fek fel fer fes fa va (nI h) (nI H) w = some (nI (if w < 0 then 0 else min w.toInt.toNat (min H F)), fa, va) := by
    intro w fa va
    unfold f_X9_fedAt_B71
    rw [hg, hix, hflh, clip_c (by omega) hF9 w]
  have bound : ∀ w : Int32, (if w < 0 then 0 else min w.toInt.toNat (min H F)) ≤ F ∧ (if w < 0 then 0 else min w.toInt.toNat (min H F)) ≤ H := by
    intro w
    split
    · exact ⟨Nat.zero_le _, Nat.zero_le _⟩
    · exact ⟨by omega, by omega⟩
  rcases hE with ⟨hml, hlv⟩ | ⟨hml, hlv⟩
  · have hfd : f_X9_fedAt night flock levels dogs fek fel fer fes facts values (nI h) (nI H) = bd_ (f_X3_worth fek fel fer fes (upd (upd (upd (upd facts 0 (nI F)) 1 (dogs h)) 2 (nI H)) 3 night) values) fun q => f_X9_fedAt_B71 night flock levels dogs fek fel fer fes (upd (upd (upd (upd facts 0 (nI F)) 1 (dogs h)) 2 (nI H)) 3 night) q.2 (nI h) (nI H) q.1 := by
      unfold f_X9_fedAt
      simp only [hg, lt_, hix, hlv h hh, hflh, if_true]
    obtain ⟨w, v', hw, hw0, hw1⟩ := (hL.gt hR0 (by omega) hn).1 (upd (upd (upd (upd facts 0 (nI F)) 1 (dogs h)) 2 (nI H)) 3 night) (upd (upd (upd (upd mf 0 (nI F)) 1 (dogs h)) 2 (nI H)) 3 night) values mp rfl rfl rfl rfl
    by_cases h5 : R 5 < 0
    · refine ⟨(if w < 0 then 0 else min w.toInt.toNat (min H F)), upd (upd (upd (upd facts 0 (nI F)) 1 (dogs h)) 2 (nI H)) 3 night, v', mf, mp, (bound w).1, (bound w).2, ?_, ?_⟩
      · rw [hfd, hw, bd_s]; exact cls w _ _
      · unfold f_X11_feeds
        rw [if_pos hml, if_pos h5, hw0 h5]
        exact e_fedB (by omega) hF (by omega) hF9 0
    · obtain ⟨p', hp'⟩ := hw1 h5
      refine ⟨(if w < 0 then 0 else min w.toInt.toNat (min H F)), upd (upd (upd (upd facts 0 (nI F)) 1 (dogs h)) 2 (nI H)) 3 night, v', upd (upd (upd (upd mf 0 (nI F)) 1 (dogs h)) 2 (nI H)) 3 night, p', (bound w).1, (bound w).2, ?_, ?_⟩
      · rw [hfd, hw, bd_s]; exact cls w _ _
      · unfold f_X11_feeds
        have o0 : f_X11_of R (nI h) 0 = some (nI F) := by rw [e_of (y := 0) (w := 0) rfl rfl (by omega) (by decide), Nat.add_zero, hF]
        have o1 : f_X11_of R (nI h) 1 = some (dogs h) := by
          rw [e_of (y := 1) (w := 1) rfl rfl (by omega) (by decide), (hdog h hh).1]
          congr 2; omega
        rw [if_pos hml, if_neg h5, o0, bd_s]
        simp only [lt_, o1, bd_s, ← hnt]
        rw [hp', bd_s]
        exact e_fedB (by omega) hF (by omega) hF9 w
  · obtain ⟨v, hv, hlh, hlo⟩ := hlv h hh
    have hne : ¬ nI v = -1 := nI_m1 (by omega)
    refine ⟨_, facts, values, mf, mp, (bound (nI v)).1, (bound (nI v)).2, ?_, ?_⟩
    · unfold f_X9_fedAt
      rw [hg]
      simp only [lt_, hix, hlh]
      rw [if_neg hne]
      exact cls _ _ _
    · unfold f_X11_feeds
      rw [if_neg hml, hlo, bd_s]
      exact e_fedB (by omega) hF (by omega) hF9 _
