/-! PURE 18: count -/
noncomputable def c01 (x : Int32) : Nat := if x ≤ 0 then 0 else 1
def rs (g : Nat → Nat) : Nat → Nat
  | 0 => 0
  | k + 1 => rs g k + g k
def tri (g : Nat → Nat → Nat) : Nat → Nat
  | 0 => 0
  | k + 1 => tri g k + rs (g k) k
def rsI (g : Nat → Int32) : Nat → Int32
  | 0 => 0
  | k + 1 => rsI g k + g k
def triI (g : Nat → Nat → Int32) : Nat → Int32
  | 0 => 0
  | k + 1 => triI g k + rsI (g k) k
theorem rs_cong {f g : Nat → Nat} : ∀ {k : Nat}, (∀ i, i < k → f i = g i) → rs f k = rs g k
  | 0, _ => rfl
  | k + 1, h => by
    show rs f k + f k = rs g k + g k
    rw [rs_cong (fun i hi => h i (by omega)), h k (by omega)]
theorem tri_cong {f g : Nat → Nat → Nat} : ∀ {k : Nat}, (∀ a e, a < k → e < a → f a e = g a e) → tri f k = tri g k
  | 0, _ => rfl
  | k + 1, h => by
    show tri f k + rs (f k) k = tri g k + rs (g k) k
    rw [tri_cong (fun a e ha he => h a e (by omega) he), rs_cong (fun e he => h k e (by omega) he)]
theorem rs_add (f g : Nat → Nat) : ∀ k, rs (fun i => f i + g i) k = rs f k + rs g k
  | 0 => rfl
  | k + 1 => by
    show rs (fun i => f i + g i) k + (f k + g k) = (rs f k + f k) + (rs g k + g k)
    rw [rs_add f g k]; omega
theorem rs_zero {f : Nat → Nat} {n : Nat} : ∀ {k : Nat}, n ≤ k → (∀ i, n ≤ i → i < k → f i = 0) → rs f k = rs f n := by
  intro k
  induction k with
  | zero => intro h _; rw [show n = 0 by omega]
  | succ k ih =>
    intro h hz
    by_cases e : n = k + 1
    · rw [e]
    · show rs f k + f k = rs f n
      rw [ih (by omega) (fun i h1 h2 => hz i h1 (by omega)), hz k (by omega) (by omega)]; omega
/-- all pairs, both ways: twice those below -/
theorem sq_tri {g : Nat → Nat → Nat} {n : Nat} (hs : ∀ a e, a < n → e < n → g a e = g e a) (hd : ∀ a, a < n → g a a = 0) : ∀ k, k ≤ n → rs (fun a => rs (g a) k) k = 2 * tri g k
  | 0, _ => rfl
  | k + 1, hk => by
    show rs (fun a => rs (g a) k + g a k) k + (rs (g k) k + g k k) = 2 * (tri g k + rs (g k) k)
    rw [rs_add (fun a => rs (g a) k) (fun a => g a k) k, sq_tri hs hd k (by omega), hd k (by omega), rs_cong (f := fun a => g a k) (g := g k) (fun i hi => hs i k (by omega) (by omega))]
    omega
theorem triI_ge {g : Nat → Nat → Int32} {n : Nat} : ∀ {k : Nat}, n ≤ k → (∀ a e, n ≤ a → a < k → e < k → g a e = 0) → triI g k = triI g n := by
  intro k
  induction k with
  | zero => intro h _; rw [show n = 0 by omega]
  | succ k ih =>
    intro h hz
    by_cases e : n = k + 1
    · rw [e]
    · have z : ∀ j, j ≤ k → rsI (g k) j = 0 := by
        intro j
        induction j with
        | zero => intro _; rfl
        | succ j ih2 =>
          intro hj
          show rsI (g k) j + g k j = 0
          rw [ih2 (by omega), hz k j (by omega) (by omega) (by omega)]; rfl
      show triI g k + rsI (g k) k = triI g n
      rw [ih (by omega) (fun a e h1 h2 h3 => hz a e h1 (by omega) (by omega)), z k (Nat.le_refl _), Int32.add_zero]
theorem mk_rs : ∀ m, m < 64 → pc_ m = rs (fun e => if m.testBit e then 1 else 0) 6 := by decide +kernel
theorem Mk.cnt {x : Int32} {p : Nat → Bool} (h : Mk x p) : f_J6_bitCount_0f7a4 x = some (nI (rs (fun e => if p e = true then 1 else 0) 6)) := by
  obtain ⟨m, hm, rfl, hp⟩ := h
  rw [mk_cnt m hm, mk_rs m hm]
  congr 2
  exact rs_cong (fun i hi => by rw [hp i hi])
section WK
variable {R : Nat → Int32} {n : Nat}
theorem pairs_in {o : Nat} (kb : Int32 → Int32 → Int32 → Option Int32) (ho : o ≤ 200) {f : Nat} (hf : f < 6) (B : Nat) : ∀ (r e gg : Nat), e + r = f → r < gg → f_X11_pairs_L15 kb R gg (nI o) (nI (B + rs (fun i => c01 (R (o + 6 * f + i))) e)) (nI f) (nI e) = kb (nI o) (nI (B + rs (fun i => c01 (R (o + 6 * f + i))) f)) (nI (f + 1)) := by
  intro r
  induction r with
  | zero =>
    intro e gg he hg
    obtain ⟨gg, rfl⟩ : ∃ z, gg = z + 1 := ⟨gg - 1, by omega⟩
    have he : e = f := by omega
    subst he
    show f_X11_pairs_L15b _ _ _ _ _ _ _ = _
    unfold f_X11_pairs_L15b
    rw [if_pos (nI_le (Nat.le_refl _) (by omega))]
    simp only [lt_]
    rw [← nI_succ]
  | succ r ih =>
    intro e gg he hg
    obtain ⟨gg, rfl⟩ : ∃ z, gg = z + 1 := ⟨gg - 1, by omega⟩
    have e1 : (nI o + (6 * nI f)) + nI e = nI (o + 6 * f + e) := by rw [show (6 : Int32) = nI 6 from rfl, i_mul, i_add, i_add]
    have hi := ih (e + 1) gg (by omega) (by omega)
    show f_X11_pairs_L15b _ _ _ _ _ _ _ = _
    unfold f_X11_pairs_L15b
    rw [if_neg (nI_ge (by omega) (by omega)), e1, g_nI (by omega) (by decide), ix_nI (by omega)]
    have hs : rs (fun i => c01 (R (o + 6 * f + i))) (e + 1) = rs (fun i => c01 (R (o + 6 * f + i))) e + c01 (R (o + 6 * f + e)) := rfl
    rw [hs] at hi
    simp only [f_X11_pairs_B44, lt_]
    unfold c01 at hi ⊢
    by_cases hz : R (o + 6 * f + e) ≤ 0
    · rw [if_pos hz] at hi ⊢
      rw [Int32.add_zero, ← nI_succ]; exact hi
    · rw [if_neg hz] at hi ⊢
      rw [← nI_succ, ← nI_succ]; exact hi
theorem e_pairs (hn : n ≤ 6) (hR0 : R 0 = nI n) {o : Nat} (ho : o ≤ 200) : f_X11_pairs R (nI o) = some (nI (tri (fun a e => c01 (R (o + 6 * a + e))) n)) := by
  have lp : ∀ (r f gg : Nat), f + r = n → r < gg → f_X11_pairs_L4 R gg (nI o) (nI (tri (fun a e => c01 (R (o + 6 * a + e))) f)) (nI f) = some (nI (tri (fun a e => c01 (R (o + 6 * a + e))) n)) := by
    intro r
    induction r with
    | zero =>
      intro f gg hf hg
      obtain ⟨gg, rfl⟩ : ∃ z, gg = z + 1 := ⟨gg - 1, by omega⟩
      have hf : f = n := by omega
      subst hf
      show f_X11_pairs_L4b _ _ _ _ _ = _
      unfold f_X11_pairs_L4b
      rw [e_farms, bd_s, hR0, if_pos (nI_le (Nat.le_refl _) (by omega))]
    | succ r ih =>
      intro f gg hf hg
      obtain ⟨gg, rfl⟩ : ∃ z, gg = z + 1 := ⟨gg - 1, by omega⟩
      show f_X11_pairs_L4b _ _ _ _ _ = _
      unfold f_X11_pairs_L4b
      rw [e_farms, bd_s, hR0, if_neg (nI_ge (by omega) (by omega))]
      have h := pairs_in (R := R) (f_X11_pairs_L4 R gg) ho (f := f) (by omega) (tri (fun a e => c01 (R (o + 6 * a + e))) f) f 0 FU (by omega) (by show f < 5000; omega)
      exact h.trans (ih (f + 1) gg (by omega) (by omega))
  exact lp n 0 FU (by omega) (by show n < 5000; omega)
theorem shares_loop (hn : n ≤ 6) (hR0 : R 0 = nI n) (tp th : Int32) : ∀ (r f gg : Nat), f + r = n → r < gg → f_X11_count_L98 tp R gg th (nI (rs (fun a => c01 (R (14 + 7 * a))) f)) (nI f) = some (nI (rs (fun a => c01 (R (14 + 7 * a))) n), th) := by
  intro r
  induction r with
  | zero =>
    intro f gg hf hg
    obtain ⟨gg, rfl⟩ : ∃ z, gg = z + 1 := ⟨gg - 1, by omega⟩
    have hf : f = n := by omega
    subst hf
    show f_X11_count_L98b _ _ _ _ _ _ = _
    unfold f_X11_count_L98b
    rw [e_farms, bd_s, hR0, if_pos (nI_le (Nat.le_refl _) (by omega))]
  | succ r ih =>
    intro f gg hf hg
    obtain ⟨gg, rfl⟩ : ∃ z, gg = z + 1 := ⟨gg - 1, by omega⟩
    have hi := ih (f + 1) gg (by omega) (by omega)
    have hs : rs (fun a => c01 (R (14 + 7 * a))) (f + 1) = rs (fun a => c01 (R (14 + 7 * a))) f + c01 (R (14 + 7 * f)) := rfl
    rw [hs] at hi
    show f_X11_count_L98b _ _ _ _ _ _ = _
    unfold f_X11_count_L98b
    rw [e_farms, bd_s, hR0, if_neg (nI_ge (by omega) (by omega)), e_of (y := 6) (w := 6) rfl rfl (by omega) (by decide), bd_s, show 8 + 7 * f + 6 = 14 + 7 * f by omega]
    simp only [f_X11_count_B122, lt_]
    unfold c01 at hi ⊢
    by_cases hz : R (14 + 7 * f) ≤ 0
    · rw [if_pos hz] at hi
      rw [if_pos hz, Int32.add_zero, ← nI_succ]; exact hi
    · rw [if_neg hz] at hi
      rw [if_neg hz, ← nI_succ, ← nI_succ]; exact hi
theorem feud_in {tp th : Int32} (kb : Int32 → Int32 → Int32 → Option (Int32 × Int32)) {f : Nat} (hf : f < 6) (B : Int32) : ∀ (r e gg : Nat), e + r = f → r < gg → f_X11_count_L152 kb tp R gg th (B + rsI (fun i => R (146 + 6 * f + i)) e) (nI f) (nI e) = kb th (B + rsI (fun i => R (146 + 6 * f + i)) f) (nI (f + 1)) := by
  intro r
  induction r with
  | zero =>
    intro e gg he hg
    obtain ⟨gg, rfl⟩ : ∃ z, gg = z + 1 := ⟨gg - 1, by omega⟩
    have he : e = f := by omega
    subst he
    show f_X11_count_L152b _ _ _ _ _ _ _ _ = _
    unfold f_X11_count_L152b
    rw [if_pos (nI_le (Nat.le_refl _) (by omega))]
    simp only [lt_]
    rw [← nI_succ]
  | succ r ih =>
    intro e gg he hg
    obtain ⟨gg, rfl⟩ : ∃ z, gg = z + 1 := ⟨gg - 1, by omega⟩
    have e1 : (146 + (6 * nI f)) + nI e = nI (146 + 6 * f + e) := by rw [show (146 : Int32) = nI 146 from rfl, show (6 : Int32) = nI 6 from rfl, i_mul, i_add, i_add]
    have hi := ih (e + 1) gg (by omega) (by omega)
    have hs : rsI (fun i => R (146 + 6 * f + i)) (e + 1) = rsI (fun i => R (146 + 6 * f + i)) e + R (146 + 6 * f + e) := rfl
    rw [hs] at hi
    show f_X11_count_L152b _ _ _ _ _ _ _ _ = _
    unfold f_X11_count_L152b
    rw [if_neg (nI_ge (by omega) (by omega)), e1, g_nI (by omega) (by decide), ix_nI (by omega)]
    simp only [lt_]
    rw [Int32.add_assoc, ← nI_succ]; exact hi
theorem feud_all (hn : n ≤ 6) (hR0 : R 0 = nI n) (tp th : Int32) : ∀ (r f gg : Nat), f + r = n → r < gg → f_X11_count_L141 tp R gg th (triI (fun a e => R (146 + 6 * a + e)) f) (nI f) = some (triI (fun a e => R (146 + 6 * a + e)) n, th) := by
  intro r
  induction r with
  | zero =>
    intro f gg hf hg
    obtain ⟨gg, rfl⟩ : ∃ z, gg = z + 1 := ⟨gg - 1, by omega⟩
    have hf : f = n := by omega
    subst hf
    show f_X11_count_L141b _ _ _ _ _ _ = _
    unfold f_X11_count_L141b
    rw [e_farms, bd_s, hR0, if_pos (nI_le (Nat.le_refl _) (by omega))]
  | succ r ih =>
    intro f gg hf hg
    obtain ⟨gg, rfl⟩ : ∃ z, gg = z + 1 := ⟨gg - 1, by omega⟩
    show f_X11_count_L141b _ _ _ _ _ _ = _
    unfold f_X11_count_L141b
    rw [e_farms, bd_s, hR0, if_neg (nI_ge (by omega) (by omega))]
    have h := feud_in (R := R) (tp := tp) (th := th) (f_X11_count_L141 tp R gg) (f := f) (by omega) (triI (fun a e => R (146 + 6 * a + e)) f) f 0 FU (by omega) (by show f < 5000; omega)
    have h0 : triI (fun a e => R (146 + 6 * a + e)) f + rsI (fun i => R (146 + 6 * f + i)) 0 = triI (fun a e => R (146 + 6 * a + e)) f := Int32.add_zero _
    rw [h0] at h
    exact h.trans (ih (f + 1) gg (by omega) (by omega))
theorem tri_low : triI (fun a e => R (146 + 6 * a + e)) 6 = fsum R lowF := by
  simp only [triI, rsI, fsum, lowF, List.foldr, Int32.zero_add, Int32.add_zero, Int32.add_assoc]
/-- fences and shares, counted -/
def RCn (R : Nat → Int32) (n : Nat) (fences shares : Int32) : Prop := fences = nI (tri (fun a e => c01 (R (74 + 6 * a + e))) n) ∧ shares = nI (rs (fun a => c01 (R (14 + 7 * a))) n)
variable {dogs fenced heights partner often bites : Nat → Int32} {night : Int32} {g : Int64} {flock hunger lean fed taken pacts kept feuds : Nat → Int32} {th bitten bones fall fences shares : Int32} {X : Nat}
theorem pacts_loop (hn : n ≤ 6) {G : Nat → Nat → Nat} (hG : ∀ a, a < n → f_J6_bitCount_0f7a4 (pacts a) = some (nI (rs (G a) 6))) (hS : rs (fun a => rs (G a) 6) n < 2 ^ 31) : ∀ (r f gg : Nat), f + r = n → r < gg → f_X9_pactsInAll_L4 pacts (nI n) gg (nI (rs (fun a => rs (G a) 6) f)) (nI f) = some (nI (rs (fun a => rs (G a) 6) n / 2)) := by
  intro r
  induction r with
  | zero =>
    intro f gg hf hg
    obtain ⟨gg, rfl⟩ : ∃ z, gg = z + 1 := ⟨gg - 1, by omega⟩
    have hf : f = n := by omega
    subst hf
    show f_X9_pactsInAll_L4b _ _ _ _ _ = _
    unfold f_X9_pactsInAll_L4b
    rw [if_pos (nI_le (Nat.le_refl _) (by omega)), show (2 : Int32) = nI 2 from rfl, pk_div hS (by decide) (by decide)]
  | succ r ih =>
    intro f gg hf hg
    obtain ⟨gg, rfl⟩ : ∃ z, gg = z + 1 := ⟨gg - 1, by omega⟩
    have hi := ih (f + 1) gg (by omega) (by omega)
    show f_X9_pactsInAll_L4b _ _ _ _ _ = _
    unfold f_X9_pactsInAll_L4b
    rw [if_neg (nI_ge (by omega) (by omega)), g_nI (by omega) (by decide), ix_nI (by omega), hG f (by omega), bd_s]
    simp only [lt_]
    rw [i_add, ← nI_succ]
    exact hi
theorem rs_le {f : Nat → Nat} {B : Nat} : ∀ {k : Nat}, (∀ i, i < k → f i ≤ B) → rs f k ≤ B * k
  | 0, _ => Nat.zero_le _
  | k + 1, h => by
    show rs f k + f k ≤ B * (k + 1)
    have h1 := rs_le (f := f) (B := B) (k := k) (fun i hi => h i (by omega))
    have h2 := h k (by omega)
    rw [Nat.mul_add]; omega
theorem e_pactsAll (hn : n ≤ 6) (hV : RVa R n night g flock hunger lean fed taken pacts) (hS : RSy R n) : f_X9_pactsInAll pacts (nI n) = some (nI (tri (fun a e => c01 (R (110 + 6 * a + e))) n)) := by
  obtain ⟨-, -, -, -, -, -, -, v8, v9⟩ := hV
  have hv : ∀ a e, a < n → e < 6 → (if decide (R (110 + 6 * a + e) ≠ 0) = true then 1 else 0) = c01 (R (110 + 6 * a + e)) := by
    intro a e ha he
    rcases v9 a e ha he with h | ⟨-, -, h⟩
    · rw [h]; rfl
    · rw [h]; rfl
  have hG : ∀ a, a < n → f_J6_bitCount_0f7a4 (pacts a) = some (nI (rs (fun e => c01 (R (110 + 6 * a + e))) 6)) := by
    intro a ha
    rw [(v8 a ha).cnt]
    congr 2
    exact rs_cong (fun e he => hv a e ha he)
  have h6 : rs (fun a => rs (fun e => c01 (R (110 + 6 * a + e))) 6) n = 2 * tri (fun a e => c01 (R (110 + 6 * a + e))) n := by
    have hz : ∀ a, a < n → rs (fun e => c01 (R (110 + 6 * a + e))) 6 = rs (fun e => c01 (R (110 + 6 * a + e))) n := by
      intro a ha
      refine rs_zero hn (fun i h1 h2 => ?_)
      rcases v9 a i ha h2 with h | ⟨h, -⟩
      · show c01 (R (110 + 6 * a + i)) = 0
        rw [h]; rfl
      · omega
    rw [rs_cong (f := fun a => rs (fun e => c01 (R (110 + 6 * a + e))) 6) (g := fun a => rs (fun e => c01 (R (110 + 6 * a + e))) n) (fun a ha => hz a ha)]
    refine sq_tri (g := fun a e => c01 (R (110 + 6 * a + e))) (n := n) (fun a e ha he => ?_) (fun a ha => ?_) n (Nat.le_refl _)
    · show c01 (R (110 + 6 * a + e)) = c01 (R (110 + 6 * e + a))
      rw [(hS a e ha he).1]
    · show c01 (R (110 + 6 * a + a)) = 0
      rcases v9 a a ha (by omega) with h | ⟨-, h, -⟩
      · rw [h]; rfl
      · omega
  have hle : rs (fun a => rs (fun e => c01 (R (110 + 6 * a + e))) 6) n ≤ 6 * n := rs_le (fun a _ => by
    have := rs_le (f := fun e => c01 (R (110 + 6 * a + e))) (B := 1) (k := 6) (fun i _ => by show c01 _ ≤ 1; unfold c01; split <;> omega)
    exact this)
  have h := pacts_loop (pacts := pacts) hn hG (by omega) n 0 FU (by omega) (by show n < 5000; omega)
  unfold f_X9_pactsInAll
  rw [h6, show 2 * tri (fun a e => c01 (R (110 + 6 * a + e))) n / 2 = tri (fun a e => c01 (R (110 + 6 * a + e))) n by omega] at h
  exact h
theorem op_count (hM : RMo R n dogs fenced heights partner often) (hV : RVa R n night g flock hunger lean fed taken pacts) (hS : RSy R n) (hC : RCn R n fences shares) (hB : RBo true X R kept feuds bones fall) (hI : RBi R bites bitten) (len z : Int32) : ∃ o, f_X10_count night pacts (nI n) fences shares fall bitten len z = some o ∧ f_X11_count len R th z = some (o, 0) := by
  have hn := hM.1
  have hR0 := hM.2.1
  obtain ⟨c1, c2⟩ := hC
  unfold f_X10_count f_X11_count
  by_cases z0 : z = 0
  · exact ⟨nI n, by rw [if_pos z0], by rw [if_pos z0, e_farms, bd_s, hR0]⟩
  rw [if_neg z0, if_neg z0]
  by_cases z1 : z = 1
  · exact ⟨night, by rw [if_pos z1], by rw [if_pos z1, hV.1]⟩
  rw [if_neg z1, if_neg z1]
  by_cases z2 : z = 2
  · exact ⟨night / 28, by rw [if_pos z2], by rw [if_pos z2, hV.1]⟩
  rw [if_neg z2, if_neg z2]
  by_cases z3 : z = 3
  · exact ⟨fences, by rw [if_pos z3], by rw [if_pos z3, show (74 : Int32) = nI 74 from rfl, e_pairs hn hR0 (by decide), bd_s, c1]⟩
  rw [if_neg z3, if_neg z3]
  by_cases z4 : z = 4
  · exact ⟨_, by rw [if_pos z4, e_pactsAll hn hV hS, bd_s], by rw [if_pos z4, show (110 : Int32) = nI 110 from rfl, e_pairs hn hR0 (by decide), bd_s]⟩
  rw [if_neg z4, if_neg z4]
  by_cases z5 : z = 5
  · exact ⟨shares, by rw [if_pos z5], by rw [if_pos z5, c2]; exact shares_loop hn hR0 len 0 n 0 FU (by omega) (by show n < 5000; omega)⟩
  rw [if_neg z5, if_neg z5]
  by_cases z6 : z = 6
  · obtain ⟨b, -, e1, e2, -⟩ := hI
    exact ⟨bitten, by rw [if_pos z6], by rw [if_pos z6, e1, e2]⟩
  rw [if_neg z6, if_neg z6]
  by_cases z7 : z = 7
  · refine ⟨fall, by rw [if_pos z7], ?_⟩
    obtain ⟨-, -, -, e4, e5⟩ := hB.2.2 rfl
    have ht : triI (fun a e => R (146 + 6 * a + e)) n = fall := by
      rw [e4, ← tri_low]
      exact (triI_ge (n := n) hn (fun a e h1 h2 h3 => e5 n a e hn hR0 h1 h2 h3)).symm
    rw [if_pos z7, ← ht]
    exact feud_all hn hR0 len 0 n 0 FU (by omega) (by show n < 5000; omega)
  rw [if_neg z7, if_neg z7]
  by_cases z8 : z = 8
  · exact ⟨len, by rw [if_pos z8], by rw [if_pos z8]⟩
  · exact ⟨-1, by rw [if_neg z8], by rw [if_neg z8]⟩
end WK
