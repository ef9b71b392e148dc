/-! PURE 1: numbers and bounds -/
theorem i_lt {a b : Nat} (ha : a < 2 ^ 31) (hb : b < 2 ^ 31) : (nI a < nI b) = (a < b) := by
  rw [eq_iff_iff, Int32.lt_iff_toInt_lt, nI_toInt ha, nI_toInt hb]; omega
theorem i_le {a b : Nat} (ha : a < 2 ^ 31) (hb : b < 2 ^ 31) : (nI a ≤ nI b) = (a ≤ b) := by
  rw [eq_iff_iff, Int32.le_iff_toInt_le, nI_toInt ha, nI_toInt hb]; omega
theorem i_eq {a b : Nat} (ha : a < 2 ^ 31) (hb : b < 2 ^ 31) : (nI a = nI b) = (a = b) := by
  rw [eq_iff_iff, ← Int32.toInt_inj, nI_toInt ha, nI_toInt hb]; omega
theorem i_add (a b : Nat) : nI a + nI b = nI (a + b) := nI_add a b
theorem i_sub {a b : Nat} (h : b ≤ a) : nI a - nI b = nI (a - b) := by
  obtain ⟨c, rfl⟩ : ∃ c, a = b + c := ⟨a - b, by omega⟩
  rw [← nI_add, Nat.add_sub_cancel_left]
  apply Int32.toBitVec_inj.mp
  rw [Int32.toBitVec_sub, Int32.toBitVec_add]
  rw [BitVec.add_comm]
  exact BitVec.add_sub_cancel _ _
theorem i_mul (a b : Nat) : nI a * nI b = nI (a * b) := by
  apply Int32.toBitVec_inj.mp
  rw [Int32.toBitVec_mul]
  show BitVec.ofNat 32 a * BitVec.ofNat 32 b = BitVec.ofNat 32 (a * b)
  rw [BitVec.ofNat_mul]
theorem g_nI {β : Type} {k n : Nat} {x : Option β} (h : k < n) (hn : n < 2 ^ 31) : g_in (nI k) n x = x := by
  unfold g_in
  rw [if_neg (nI_in h hn)]
theorem u_s (f : Nat → Int32) (i : Nat) (x : Int32) : upd f i x i = x := pk_us
theorem u_n {f : Nat → Int32} {i j : Nat} {x : Int32} (h : j ≠ i) : upd f i x j = f j := pk_un h
/-! ## the tape -/
def ChOK (x : Int32) : Prop := ∃ c : Nat, x = nI c ∧ (c = 10 ∨ (32 ≤ c ∧ c ≤ 126))
/-- the tape of the class and of the reference -/
def RT (sg tp : Nat → Int32) (n : Nat) : Prop := n ≤ 1000 ∧ ∀ k, k < n → sg k = tp k ∧ ChOK (sg k)
theorem RT.push {sg tp : Nat → Int32} {n c : Nat} (h : RT sg tp n) (hn : n < 1000) (hc : c = 10 ∨ (32 ≤ c ∧ c ≤ 126)) : RT (upd sg n (nI c)) (upd tp n (nI c)) (n + 1) := by
  refine ⟨by omega, fun k hk => ?_⟩
  by_cases e : k = n
  · subst e
    rw [u_s, u_s]
    exact ⟨rfl, c, rfl, hc⟩
  · rw [u_n e, u_n e]
    exact h.2 k (by omega)
theorem by_sl : ∀ s, s < 64 → (Int32.toInt64 (nI s) &&& 63).toBitVec.smod 64 = BitVec.ofNat 64 s := by decide +kernel
theorem bt_64 (y : Int64) {i : Nat} (hi : i < 32) : bt (Int64.toInt32 y) i = y.toBitVec.getLsbD i := by
  unfold bt
  rw [Int64.toBitVec_toInt32, BitVec.getLsbD_signExtend]
  simp [hi, show i < 64 by omega]
/-- the byte at s: both ways of taking it -/
theorem by_eq (x : Int64) {s : Nat} (hs : s ≤ 56) : ∃ c : Nat, c < 256 ∧ (Int64.toInt32 (x >>> (Int32.toInt64 (nI s) &&& 63))) &&& 255 = nI c ∧ (Int64.toInt32 (lushr_ x (nI s))) &&& 255 = nI c := by
  have e : (Int64.toInt32 (x >>> (Int32.toInt64 (nI s) &&& 63))) &&& 255 = (Int64.toInt32 (lushr_ x (nI s))) &&& 255 := by
    apply b_ext
    intro i hi
    rw [b_and, b_and, b_255]
    by_cases h8 : i < 8
    · have h1 : bt (Int64.toInt32 (x >>> (Int32.toInt64 (nI s) &&& 63))) i = x.toBitVec.getLsbD (s + i) := by
        rw [bt_64 _ hi, Int64.toBitVec_shiftRight]
        show (x.toBitVec.sshiftRight ((Int32.toInt64 (nI s) &&& 63).toBitVec.smod 64).toNat).getLsbD i = _
        rw [by_sl s (by omega), BitVec.getLsbD_sshiftRight, BitVec.toNat_ofNat, Nat.mod_eq_of_lt (by omega)]
        simp [show i < 64 by omega, show s + i < 64 by omega]
      have h2 : bt (Int64.toInt32 (lushr_ x (nI s))) i = x.toBitVec.getLsbD (s + i) := by
        obtain ⟨n, hn, rfl⟩ := wb_of x
        unfold lushr_
        rw [wb_shr hn (by omega), bt_64 _ hi, wb_tb, wb_tb, BitVec.getLsbD_ofNat, BitVec.getLsbD_ofNat, Nat.testBit_div_two_pow]
        simp [show i < 64 by omega, show s + i < 64 by omega, Nat.add_comm]
      rw [h1, h2]
    · simp [h8]
  obtain ⟨n, hn, hx⟩ := wb_of32 (Int64.toInt32 (lushr_ x (nI s)))
  refine ⟨n % 256, Nat.mod_lt _ (by decide), ?_, ?_⟩
  · rw [e, hx]; exact fa_mask n 8
  · rw [hx]; exact fa_mask n 8
theorem nar_c : ∀ c, c < 256 → vp_nar .char (i2c_ (nI c)) = nI c := by decide +kernel
theorem put_lay (x : Int64) : ∀ (j f : Nat) (sg tp : Nat → Int32) (n : Nat) (l3 : Int32), j ≤ 8 → j < f → l3 = nI (8 * j) - 8 → RT sg tp n →
    ∃ (sg' tp' : Nat → Int32) (n' : Nat), f_X8_put_L3 f sg (nI n) x l3 = some (sg', nI n') ∧ f_X11_lay_L3 f tp (nI n) x l3 = some (tp', nI n') ∧ RT sg' tp' n' := by
  intro j
  induction j with
  | zero =>
    intro f sg tp n l3 _ hf hl h
    obtain ⟨f, rfl⟩ : ∃ g, f = g + 1 := ⟨f - 1, by omega⟩
    subst hl
    exact ⟨sg, tp, n, by show f_X8_put_L3b _ _ _ _ _ = _; unfold f_X8_put_L3b; rw [if_pos (by decide)], by show f_X11_lay_L3b _ _ _ _ _ = _; unfold f_X11_lay_L3b; rw [if_pos (by decide)], h⟩
  | succ j ih =>
    intro f sg tp n l3 hj hf hl h
    obtain ⟨f, rfl⟩ : ∃ g, f = g + 1 := ⟨f - 1, by omega⟩
    have hl3 : l3 = nI (8 * j) := by rw [hl, show (8 : Int32) = nI 8 from rfl, i_sub (by omega)]; congr 1
    have hnx : l3 + -8 = nI (8 * j) - 8 := by rw [hl3, Int32.sub_eq_add_neg]
    obtain ⟨c, hc, e1, e2⟩ := by_eq x (s := 8 * j) (by omega)
    have hneg : ¬ l3 < 0 := by rw [hl3]; exact nI_pos (by omega)
    have hn2 := h.1
    show ∃ (sg' tp' : Nat → Int32) (n' : Nat), f_X8_put_L3b (f_X8_put_L3 f) sg (nI n) x l3 = some (sg', nI n') ∧ f_X11_lay_L3b (f_X11_lay_L3 f) tp (nI n) x l3 = some (tp', nI n') ∧ RT sg' tp' n'
    unfold f_X8_put_L3b f_X11_lay_L3b
    rw [if_neg hneg, if_neg hneg]
    simp only [lt_, f_X8_put_B38, f_X8_put_B42, f_X8_put_B43, f_X8_put_B82, f_X11_lay_B38, f_X11_lay_B69]
    rw [hl3, e1, e2, ← hl3, hnx, nar_c c hc]
    rw [show (10 : Int32) = nI 10 from rfl, show (32 : Int32) = nI 32 from rfl, show (126 : Int32) = nI 126 from rfl, show (1000 : Int32) = nI 1000 from rfl, show (1 : Int32) = nI 1 from rfl]
    simp only [i_eq (show c < 2 ^ 31 by omega) (show 10 < 2 ^ 31 by decide), i_lt (show c < 2 ^ 31 by omega) (show 32 < 2 ^ 31 by decide), i_lt (show 126 < 2 ^ 31 by decide) (show c < 2 ^ 31 by omega), i_le (show 1000 < 2 ^ 31 by decide) (show n < 2 ^ 31 by omega), i_add]
    have skip := ih f sg tp n (nI (8 * j) - 8) (by omega) (by omega) rfl h
    by_cases full : 1000 ≤ n
    · simp only [if_pos full]
      by_cases c1 : c = 10
      · simp only [if_pos c1]; exact skip
      · by_cases c2 : c < 32
        · simp only [if_neg c1, if_pos c2]; exact skip
        · by_cases c3 : 126 < c
          · simp only [if_neg c1, if_neg c2, if_pos c3]; exact skip
          · simp only [if_neg c1, if_neg c2, if_neg c3]; exact skip
    · have hg : ∀ {k : Option ((Nat → Int32) × Int32)}, g_in (nI n) 1000 k = k := fun {k} => g_nI (by omega) (by decide)
      simp only [if_neg full, hg, ix_nI (show n < 2 ^ 31 by omega)]
      have put : ∀ hc : c = 10 ∨ (32 ≤ c ∧ c ≤ 126), _ := fun hc => ih f _ _ (n + 1) (nI (8 * j) - 8) (by omega) (by omega) rfl (h.push (by omega) hc)
      by_cases c1 : c = 10
      · simp only [if_pos c1]; exact put (Or.inl c1)
      · by_cases c2 : c < 32
        · simp only [if_neg c1, if_pos c2]; exact skip
        · by_cases c3 : 126 < c
          · simp only [if_neg c1, if_neg c2, if_pos c3]; exact skip
          · simp only [if_neg c1, if_neg c2, if_neg c3]; exact put (Or.inr ⟨by omega, by omega⟩)
theorem put_lay1 (x : Int64) {sg tp : Nat → Int32} {n : Nat} (h : RT sg tp n) : ∃ (sg' tp' : Nat → Int32) (n' : Nat), f_X8_put sg (nI n) x = some (sg', nI n') ∧ f_X11_lay tp (nI n) x = some (tp', nI n') ∧ RT sg' tp' n' :=
  put_lay x 8 FU sg tp n 56 (by decide) (by decide) (by decide) h
/-- feed -/
theorem op_feed {sg tp : Nat → Int32} {n : Nat} {th : Int32} (h : RT sg tp n) (a b c : Int64) : ∃ (sg' tp' : Nat → Int32) (n' : Nat), f_X10_feed sg (nI n) a b c = some (nI n', sg', nI n') ∧ f_X11_feed th tp (nI n) a b c = some (nI n', 0, tp', nI n') ∧ RT sg' tp' n' := by
  obtain ⟨s1, t1, n1, a1, b1, h1⟩ := put_lay1 a h
  obtain ⟨s2, t2, n2, a2, b2, h2⟩ := put_lay1 b h1
  obtain ⟨s3, t3, n3, a3, b3, h3⟩ := put_lay1 c h2
  refine ⟨s3, t3, n3, ?_, ?_, h3⟩
  · simp only [f_X10_feed, a1, bd_s, a2, a3]
  · simp only [f_X11_feed, b1, bd_s, b2, b3]
