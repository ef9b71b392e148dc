/-! PURE 28: the tokens of both -/
def TK (so : Int32) (va W : Int64) (U G E : Int32) : Prop :=
  (so = 0 ∧ W = 0 ∧ U = -1 ∧ G = 0 ∧ E = 1) ∨
  (so = 1 ∧ (∃ l, l ≠ [] ∧ l.length ≤ 8 ∧ Lt l ∧ va = lN (en 37 0 l) ∧ W = lN (en 256 96 l)) ∧ U = -1 ∧ G = 0 ∧ E = 0) ∨
  (so = 2 ∧ W = 0 ∧ (∃ v, v ≤ 9999 ∧ va = lN v ∧ U = nI v) ∧ G = 0 ∧ E = 0) ∨
  (so = 3 ∧ W = 0 ∧ U = -1 ∧ (∃ c, isS c ∧ va = lN c ∧ G = nI c) ∧ E = 0) ∨
  (so = 4 ∧ W = 0 ∧ U = -1 ∧ G = 0 ∧ E = 0)
theorem l_sub {a b : Nat} (h : b ≤ a) : lN a - lN b = lN (a - b) := by
  obtain ⟨c, rfl⟩ : ∃ c, a = b + c := ⟨a - b, by omega⟩
  rw [Nat.add_sub_cancel_left, ← lN_add]
  apply Int64.toBitVec_inj.mp
  rw [Int64.toBitVec_sub, Int64.toBitVec_add, BitVec.add_comm]
  exact BitVec.add_sub_cancel _ _
theorem r_L1 {c : Nat} (hc : c ≤ 126) (h : isL c) : f_X11_isLetter (nI c) = some 1 := by
  have a : ∀ c, c < 127 → f_X11_isLetter (nI c) = some (if 97 ≤ c ∧ c ≤ 122 then 1 else 0) := by decide +kernel
  rw [a c (by omega)]
  exact congrArg some (if_pos h)
theorem r_L0 {c : Nat} (hc : c ≤ 126) (h : ¬ isL c) : f_X11_isLetter (nI c) = some 0 := by
  have a : ∀ c, c < 127 → f_X11_isLetter (nI c) = some (if 97 ≤ c ∧ c ≤ 122 then 1 else 0) := by decide +kernel
  rw [a c (by omega)]
  exact congrArg some (if_neg h)
theorem r_D1 {c : Nat} (hc : c ≤ 126) (h : isD c) : f_X11_isDigit (nI c) = some 1 := by
  have a : ∀ c, c < 127 → f_X11_isDigit (nI c) = some (if 48 ≤ c ∧ c ≤ 57 then 1 else 0) := by decide +kernel
  rw [a c (by omega)]
  exact congrArg some (if_pos h)
theorem r_D0 {c : Nat} (hc : c ≤ 126) (h : ¬ isD c) : f_X11_isDigit (nI c) = some 0 := by
  have a : ∀ c, c < 127 → f_X11_isDigit (nI c) = some (if 48 ≤ c ∧ c ≤ 57 then 1 else 0) := by decide +kernel
  rw [a c (by omega)]
  exact congrArg some (if_neg h)
theorem r_S1 {c : Nat} (hc : c ≤ 126) (h : isS c) : f_X11_isSignOf (nI c) = some 1 := by
  have a : ∀ c, c < 127 → f_X11_isSignOf (nI c) = some (if c = 40 ∨ c = 41 ∨ c = 60 ∨ c = 61 ∨ c = 43 ∨ c = 45 ∨ c = 42 ∨ c = 59 then 1 else 0) := by decide +kernel
  rw [a c (by omega)]
  exact congrArg some (if_pos h)
theorem r_S0 {c : Nat} (hc : c ≤ 126) (h : ¬ isS c) : f_X11_isSignOf (nI c) = some 0 := by
  have a : ∀ c, c < 127 → f_X11_isSignOf (nI c) = some (if c = 40 ∨ c = 41 ∨ c = 60 ∨ c = 61 ∨ c = 43 ∨ c = 45 ∨ c = 42 ∨ c = 59 then 1 else 0) := by decide +kernel
  rw [a c (by omega)]
  exact congrArg some (if_neg h)
section CU
variable {tp : Nat → Int32} {ch : Nat → Nat} {len : Nat}
theorem rf_let (hlen : len ≤ 1000) (hch : ∀ k, k < len → tp k = nI (ch k) ∧ ch k ≤ 126) (kb : Int32 → Int32 → (Nat → Int32) → (Nat → Int32) → (Nat → Int64) → Int32 → Int32 → Int32 → Int32 → Option (Int32 × Int32 × (Nat → Int32) × (Nat → Int32) × (Nat → Int64) × Int32 × Int32)) (tz : Int32) (so pl : Nat → Int32) (va : Nat → Int64) (at_ ft x : Int32) {b a : Nat} (hal : a ≤ len) (hL : ∀ i, b ≤ i → i < a → isL (ch i)) (hs : a < len → ¬ isL (ch a)) :
    ∀ (r k gg : Nat) (V : Int64), k + r = a → r < gg → b ≤ k → (k - b ≤ 8 → V = lN (en 37 0 (lts ch b (k - b)))) → ∃ V', (a - b ≤ 8 → V' = lN (en 37 0 (lts ch b (a - b)))) ∧ f_X11_cutAll_L70 kb tp gg tz (nI len) so pl va at_ ft x (nI k) (nI b) V = f_X11_cutAll_B129 kb tp tz (nI len) so pl va at_ ft x (nI a) (nI b) V' := by
  intro r
  induction r with
  | zero =>
    intro k gg V hk hg hb hV
    obtain ⟨gg, rfl⟩ : ∃ z, gg = z + 1 := ⟨gg - 1, by omega⟩
    have hk : k = a := by omega
    subst hk
    refine ⟨V, hV, ?_⟩
    show f_X11_cutAll_L70b _ _ _ _ _ _ _ _ _ _ _ _ _ _ = _
    unfold f_X11_cutAll_L70b
    rw [ife (by omega) (by omega)]
    by_cases h : len ≤ k
    · rw [if_pos h]
    · obtain ⟨e1, e2⟩ := hch k (by omega)
      have := hs (by omega)
      rw [if_neg h, g_nI (by omega) (by decide), ix_nI (by omega), e1, r_L0 e2 this, bd_s, if_pos z00]
  | succ r ih =>
    intro k gg V hk hg hb hV
    obtain ⟨gg, rfl⟩ : ∃ z, gg = z + 1 := ⟨gg - 1, by omega⟩
    obtain ⟨e1, e2⟩ := hch k (by omega)
    have hLk := hL k hb (by omega)
    have hrank : f_X11_rank (nI (ch k)) = some (nI (ch k - 96)) := by
      unfold f_X11_rank
      rw [r_L1 e2 hLk, bd_s, if_neg z10, show (96 : Int32) = nI 96 from rfl, i_sub (by unfold isL at hLk; omega)]
    have h8 : (8 : Int32) ≤ nI k - nI b ↔ 8 ≤ k - b := by
      rw [i_sub hb, show (8 : Int32) = nI 8 from rfl, i_le (by decide) (by omega)]
    obtain ⟨V', v1, v2⟩ := ih (k + 1) gg (if 8 ≤ k - b then V else (37 * V) + (Int32.toInt64 (nI (ch k - 96)))) (by omega) (by omega) (by omega) (fun h => by
      rw [if_neg (by omega), hV (by omega), nI_l (by omega), show (37 : Int64) = lN 37 from rfl, lN_mul, lN_add]
      refine congrArg lN ?_
      rw [show k + 1 - b = (k - b) + 1 by omega]
      show _ = 37 * en 37 0 (lts ch b (k - b)) + (0 + (ch (b + (k - b)) - 96))
      rw [show b + (k - b) = k by omega, Nat.zero_add])
    refine ⟨V', v1, ?_⟩
    show f_X11_cutAll_L70b _ _ _ _ _ _ _ _ _ _ _ _ _ _ = _
    unfold f_X11_cutAll_L70b
    rw [if_neg (nI_ge (by omega) (by omega)), g_nI (by omega) (by decide), ix_nI (by omega), e1, r_L1 e2 hLk, bd_s, if_neg z10, g_nI (by omega) (by decide), hrank, bd_s]
    simp only [f_X11_cutAll_B121, lt_]
    rw [← nI_succ]
    by_cases h : 8 ≤ k - b
    · rw [if_pos h] at v2
      rw [if_pos (h8.mpr h)]; exact v2
    · rw [if_neg h] at v2
      rw [if_neg (fun q => h (h8.mp q))]; exact v2
theorem rf_dig (hlen : len ≤ 1000) (hch : ∀ k, k < len → tp k = nI (ch k) ∧ ch k ≤ 126) (kb : Int32 → Int32 → (Nat → Int32) → (Nat → Int32) → (Nat → Int64) → Int32 → Int32 → Int32 → Int32 → Option (Int32 × Int32 × (Nat → Int32) × (Nat → Int32) × (Nat → Int64) × Int32 × Int32)) (tz : Int32) (so pl : Nat → Int32) (va : Nat → Int64) (at_ ft x : Int32) {b a : Nat} (hal : a ≤ len) (hL : ∀ i, b ≤ i → i < a → isD (ch i)) (hs : a < len → ¬ isD (ch a)) :
    ∀ (r k gg : Nat) (V : Int64), k + r = a → r < gg → b ≤ k → (k - b ≤ 4 → V = lN (dv ch b (k - b))) → ∃ V', (a - b ≤ 4 → V' = lN (dv ch b (a - b))) ∧ f_X11_cutAll_L159 kb tp gg tz (nI len) so pl va at_ ft x (nI k) (nI b) V = f_X11_cutAll_B218 kb tp tz (nI len) so pl va at_ ft x (nI a) (nI b) V' := by
  intro r
  induction r with
  | zero =>
    intro k gg V hk hg hb hV
    obtain ⟨gg, rfl⟩ : ∃ z, gg = z + 1 := ⟨gg - 1, by omega⟩
    have hk : k = a := by omega
    subst hk
    refine ⟨V, hV, ?_⟩
    show f_X11_cutAll_L159b _ _ _ _ _ _ _ _ _ _ _ _ _ _ = _
    unfold f_X11_cutAll_L159b
    rw [ife (by omega) (by omega)]
    by_cases h : len ≤ k
    · rw [if_pos h]
    · obtain ⟨e1, e2⟩ := hch k (by omega)
      have := hs (by omega)
      rw [if_neg h, g_nI (by omega) (by decide), ix_nI (by omega), e1, r_D0 e2 this, bd_s, if_pos z00]
  | succ r ih =>
    intro k gg V hk hg hb hV
    obtain ⟨gg, rfl⟩ : ∃ z, gg = z + 1 := ⟨gg - 1, by omega⟩
    obtain ⟨e1, e2⟩ := hch k (by omega)
    have hLk := hL k hb (by omega)
    have h48 : 48 ≤ ch k := by unfold isD at hLk; omega
    have h8 : (4 : Int32) ≤ nI k - nI b ↔ 4 ≤ k - b := by
      rw [i_sub hb, show (4 : Int32) = nI 4 from rfl, i_le (by decide) (by omega)]
    obtain ⟨V', v1, v2⟩ := ih (k + 1) gg (if 4 ≤ k - b then V else ((10 * V) + (Int32.toInt64 (nI (ch k)))) - 48) (by omega) (by omega) (by omega) (fun h => by
      rw [if_neg (by omega), hV (by omega), nI_l (by omega), show (10 : Int64) = lN 10 from rfl, show (48 : Int64) = lN 48 from rfl, lN_mul, lN_add, l_sub (by omega)]
      refine congrArg lN ?_
      rw [show k + 1 - b = (k - b) + 1 by omega]
      show _ = 10 * dv ch b (k - b) + (ch (b + (k - b)) - 48)
      rw [show b + (k - b) = k by omega]
      omega)
    refine ⟨V', v1, ?_⟩
    show f_X11_cutAll_L159b _ _ _ _ _ _ _ _ _ _ _ _ _ _ = _
    unfold f_X11_cutAll_L159b
    rw [if_neg (nI_ge (by omega) (by omega)), g_nI (by omega) (by decide), ix_nI (by omega), e1, r_D1 e2 hLk, bd_s, if_neg z10, g_nI (by omega) (by decide)]
    simp only [f_X11_cutAll_B210, lt_]
    rw [← nI_succ]
    by_cases h : 4 ≤ k - b
    · rw [if_pos h] at v2
      rw [if_pos (h8.mpr h)]; exact v2
    · rw [if_neg h] at v2
      rw [if_neg (fun q => h (h8.mp q))]; exact v2
/-- one token is cut -/
theorem rf_tok (hlen : len ≤ 1000) (hch : ∀ k, k < len → tp k = nI (ch k) ∧ ch k ≤ 126) (tz at_ ft : Int32) (so pl : Nat → Int32) (va : Nat → Int64) {i b a : Nat} {W : Int64} {U G E : Int32} (hi : i ≤ 1000) : ∀ (r k gg : Nat), k + r = b → NXT ch len k b a W U G E → len - k < gg →
    (b = len → f_X11_cutAll_L17 tp gg tz (nI len) so pl va at_ ft (nI i) (nI k) = some (tz, nI len, upd so i 0, upd pl i (nI len), va, 0, 0) ∧ TK 0 (va i) W U G E ∧ a = len) ∧
    (b < len → ∃ (gg' : Nat) (s : Int32) (v : Int64), len - a < gg' ∧ b < a ∧ a ≤ len ∧ f_X11_cutAll_L17 tp gg tz (nI len) so pl va at_ ft (nI i) (nI k) = f_X11_cutAll_L17 tp gg' tz (nI len) (upd so i s) (upd pl i (nI b)) (vp_updL va i v) at_ ft (nI (i + 1)) (nI a) ∧ TK s v W U G E ∧ s ≠ 0) := by
  intro r
  induction r with
  | zero =>
    intro k gg hk hN hg
    obtain ⟨gg, rfl⟩ : ∃ z, gg = z + 1 := ⟨gg - 1, by omega⟩
    have hk : k = b := by omega
    subst hk
    obtain ⟨-, n2, -, n4⟩ := hN
    refine ⟨fun h => ?_, fun h => ?_⟩
    · rcases n4 with ⟨-, q2, q3, q4, q5, q6⟩ | ⟨q1, -⟩
      · refine ⟨?_, Or.inl ⟨rfl, q3, q4, q5, q6⟩, by omega⟩
        show f_X11_cutAll_L17b _ _ _ _ _ _ _ _ _ _ _ = _
        unfold f_X11_cutAll_L17b
        rw [if_pos (nI_le (by omega) (by omega)), g_nI (by omega) (by decide), ix_nI (by omega)]
        simp only [lt_]
        rw [g_nI (by omega) (by decide)]
      · omega
    · rcases n4 with ⟨q1, -⟩ | ⟨-, hnb, hba, hal, hE, q⟩
      · omega
      · obtain ⟨e1, e2⟩ := hch k h
        obtain ⟨-, -, -, -, c1, c2⟩ := chd e2
        unfold isB at hnb
        have hhead : f_X11_cutAll_L17 tp (gg + 1) tz (nI len) so pl va at_ ft (nI i) (nI k) = (bd_ (f_X11_isLetter (nI (ch k))) fun r_1 => (if r_1 = 0 then (bd_ (f_X11_isDigit (nI (ch k))) fun r_2 => (if r_2 = 0 then (lt_ (Int32.toInt64 (nI (ch k))) fun l5_1 => (bd_ (f_X11_isSignOf (nI (ch k))) fun r_3 => (if r_3 = 0 then (f_X11_cutAll_B261 (f_X11_cutAll_L17 tp gg) tp tz (nI len) so (upd pl i (nI k)) va at_ ft (nI i) (nI k) l5_1 4 (nI i)) else (f_X11_cutAll_B261 (f_X11_cutAll_L17 tp gg) tp tz (nI len) so (upd pl i (nI k)) va at_ ft (nI i) (nI k) l5_1 3 (nI i))))) else (f_X11_cutAll_L159 (f_X11_cutAll_L17 tp gg) tp FU tz (nI len) so (upd pl i (nI k)) va at_ ft (nI i) (nI k) (nI k) 0))) else (f_X11_cutAll_L70 (f_X11_cutAll_L17 tp gg) tp FU tz (nI len) so (upd pl i (nI k)) va at_ ft (nI i) (nI k) (nI k) 0))) := by
          show f_X11_cutAll_L17b _ _ _ _ _ _ _ _ _ _ _ = _
          unfold f_X11_cutAll_L17b
          rw [if_neg (nI_ge (by omega) (by omega)), g_nI (by omega) (by decide), ix_nI (show k < 2 ^ 31 by omega), e1]
          simp only [lt_]
          rw [if_neg (fun z => hnb (Or.inl (c1.mp z))), if_neg (fun z => hnb (Or.inr (c2.mp z))), g_nI (by omega) (by decide), ix_nI (by omega)]
        have store : ∀ (s : Int32) (v : Int64), f_X11_cutAll_B148 (f_X11_cutAll_L17 tp gg) tp tz (nI len) so (upd pl i (nI k)) va at_ ft (nI i) (nI a) v s (nI i) = f_X11_cutAll_L17 tp gg tz (nI len) (upd so i s) (upd pl i (nI k)) (vp_updL va i v) at_ ft (nI (i + 1)) (nI a) := by
          intro s v
          unfold f_X11_cutAll_B148 f_X11_cutAll_B265
          rw [g_nI (by omega) (by decide), ix_nI (by omega)]
          simp only [lt_]
          rw [g_nI (by omega) (by decide), ← nI_succ]
        have store2 : ∀ (s : Int32) (v : Int64), f_X11_cutAll_B236 (f_X11_cutAll_L17 tp gg) tp tz (nI len) so (upd pl i (nI k)) va at_ ft (nI i) (nI a) v s (nI i) = f_X11_cutAll_L17 tp gg tz (nI len) (upd so i s) (upd pl i (nI k)) (vp_updL va i v) at_ ft (nI (i + 1)) (nI a) := by
          intro s v
          unfold f_X11_cutAll_B236 f_X11_cutAll_B265
          rw [g_nI (by omega) (by decide), ix_nI (by omega)]
          simp only [lt_]
          rw [g_nI (by omega) (by decide), ← nI_succ]
        rcases q with ⟨p1, p2, p3, p4, p5⟩ | ⟨p1, p2, p3, p4, p5⟩ | ⟨p1, p2, p3, p4, p5, p6⟩
        · have hLk := p1 k (Nat.le_refl _) hba
          obtain ⟨V', v1, v2⟩ := rf_let hlen hch (f_X11_cutAll_L17 tp gg) tz so (upd pl i (nI k)) va at_ ft (nI i) hal p1 p2 (a - k) k FU 0 (by omega) (by show a - k < 5000; omega) (Nat.le_refl _) (fun _ => by rw [Nat.sub_self]; rfl)
          refine ⟨gg, (if a - k ≤ 8 then 1 else 4), V', by omega, hba, hal, ?_, ?_, by split <;> decide⟩
          · rw [hhead, r_L1 e2 hLk, bd_s, if_neg z10, v2]
            unfold f_X11_cutAll_B129
            rw [i_sub (by omega), show (8 : Int32) = nI 8 from rfl, ife (by omega) (by decide), store, store]
            split <;> rfl
          · by_cases h8 : a - k ≤ 8
            · rw [if_pos h8] at p5 ⊢
              refine Or.inr (Or.inl ⟨rfl, ⟨lts ch k (a - k), ?_, by rw [lts_len]; exact h8, lts_L (fun j hj => p1 (k + j) (by omega) (by omega)), v1 h8, p5⟩, p3, p4, hE⟩)
              intro z
              have := lts_len ch k (a - k)
              rw [z] at this
              have : 0 = a - k := this
              omega
            · rw [if_neg h8] at p5 ⊢
              exact Or.inr (Or.inr (Or.inr (Or.inr ⟨rfl, p5, p3, p4, hE⟩)))
        · have hDk := p1 k (Nat.le_refl _) hba
          have hnL : ¬ isL (ch k) := by unfold isD at hDk; unfold isL; omega
          obtain ⟨V', v1, v2⟩ := rf_dig hlen hch (f_X11_cutAll_L17 tp gg) tz so (upd pl i (nI k)) va at_ ft (nI i) hal p1 p2 (a - k) k FU 0 (by omega) (by show a - k < 5000; omega) (Nat.le_refl _) (fun _ => by rw [Nat.sub_self]; rfl)
          refine ⟨gg, (if a - k ≤ 4 then 2 else 4), V', by omega, hba, hal, ?_, ?_, by split <;> decide⟩
          · rw [hhead, r_L0 e2 hnL, bd_s, if_pos z00, r_D1 e2 hDk, bd_s, if_neg z10, v2]
            unfold f_X11_cutAll_B218
            rw [i_sub (by omega), show (4 : Int32) = nI 4 from rfl, ife (by omega) (by decide), store2, store2]
            split <;> rfl
          · by_cases h8 : a - k ≤ 4
            · rw [if_pos h8] at p5 ⊢
              have hd := dv_lt (ch := ch) (p := k) (j := a - k) (fun j hj => p1 (k + j) (by omega) (by omega))
              have hp : 10 ^ (a - k) ≤ 10 ^ 4 := Nat.pow_le_pow_right (by decide) h8
              exact Or.inr (Or.inr (Or.inl ⟨rfl, p3, ⟨dv ch k (a - k), by omega, v1 h8, p5⟩, p4, hE⟩))
            · rw [if_neg h8] at p5 ⊢
              exact Or.inr (Or.inr (Or.inr (Or.inr ⟨rfl, p3, p5, p4, hE⟩)))
        · have store3 : ∀ (s : Int32) (v : Int64), f_X11_cutAll_B261 (f_X11_cutAll_L17 tp gg) tp tz (nI len) so (upd pl i (nI k)) va at_ ft (nI i) (nI k) v s (nI i) = f_X11_cutAll_L17 tp gg tz (nI len) (upd so i s) (upd pl i (nI k)) (vp_updL va i v) at_ ft (nI (i + 1)) (nI a) := by
            intro s v
            unfold f_X11_cutAll_B261 f_X11_cutAll_B265
            rw [g_nI (by omega) (by decide), ix_nI (by omega)]
            simp only [lt_]
            rw [← nI_succ, ← nI_succ, g_nI (by omega) (by decide), p3]
          have hh : ∀ s, f_X11_isSignOf (nI (ch k)) = some s → f_X11_cutAll_L17 tp (gg + 1) tz (nI len) so pl va at_ ft (nI i) (nI k) = f_X11_cutAll_L17 tp gg tz (nI len) (upd so i (if s = 0 then 4 else 3)) (upd pl i (nI k)) (vp_updL va i (lN (ch k))) at_ ft (nI (i + 1)) (nI a) := by
            intro s hs
            rw [hhead, r_L0 e2 p1, bd_s, if_pos z00, r_D0 e2 p2, bd_s, if_pos z00, nI_l (by omega)]
            simp only [lt_]
            rw [hs, bd_s, store3, store3]
            split <;> rfl
          rcases p6 with ⟨s1, s2⟩ | ⟨s1, s2⟩
          · refine ⟨gg, 3, lN (ch k), by omega, hba, hal, ?_, Or.inr (Or.inr (Or.inr (Or.inl ⟨rfl, p4, p5, ⟨ch k, s1, rfl, s2⟩, hE⟩))), by decide⟩
            have := hh 1 (r_S1 e2 s1)
            rw [if_neg z10] at this
            exact this
          · refine ⟨gg, 4, lN (ch k), by omega, hba, hal, ?_, Or.inr (Or.inr (Or.inr (Or.inr ⟨rfl, p4, p5, s2, hE⟩))), by decide⟩
            have := hh 0 (r_S0 e2 s1)
            rw [if_pos z00] at this
            exact this
  | succ r ih =>
    intro k gg hk hN hg
    obtain ⟨gg, rfl⟩ : ∃ z, gg = z + 1 := ⟨gg - 1, by omega⟩
    obtain ⟨n1, n2, n3, n4⟩ := hN
    obtain ⟨e1, e2⟩ := hch k (by omega)
    obtain ⟨-, -, -, -, c1, c2⟩ := chd e2
    have hb := n3 k (Nat.le_refl _) (by omega)
    have hhead : f_X11_cutAll_L17 tp (gg + 1) tz (nI len) so pl va at_ ft (nI i) (nI k) = f_X11_cutAll_L17 tp gg tz (nI len) so pl va at_ ft (nI i) (nI (k + 1)) := by
      show f_X11_cutAll_L17b _ _ _ _ _ _ _ _ _ _ _ = _
      unfold f_X11_cutAll_L17b
      rw [if_neg (nI_ge (by omega) (by omega)), g_nI (by omega) (by decide), ix_nI (show k < 2 ^ 31 by omega), e1]
      simp only [f_X11_cutAll_B44, lt_]
      rw [← nI_succ]
      unfold isB at hb
      rcases hb with hb | hb
      · rw [if_pos (c1.mpr hb)]
      · rw [if_neg (fun z => by have := c1.mp z; omega), if_pos (c2.mpr hb)]
    rw [hhead]
    exact ih (k + 1) gg (by omega) ⟨by omega, n2, fun j h1 h2 => n3 j (by omega) h2, n4⟩ (by omega)
def CN (sg : Nat → Int32) (len : Nat) (A P : Nat → Nat) (W : Nat → Int64) (U G E : Nat → Int32) (k j : Nat) : Prop := ∀ p w u g e, f_X8_next sg (nI len) (nI k) p w u g e = some (nI (A j), nI (P j), W j, U j, G j, E j)
/-- all tokens, of both -/
theorem seq {sg : Nat → Int32} (hlen : len ≤ 1000) (hcs : ∀ k, k < len → sg k = nI (ch k) ∧ ch k ≤ 126) (hch : ∀ k, k < len → tp k = nI (ch k) ∧ ch k ≤ 126) (tz at_ ft : Int32) : ∀ (m k i gg : Nat) (so pl : Nat → Int32) (va : Nat → Int64), len - k ≤ m → k ≤ len → i ≤ k → len - k < gg →
    ∃ (N : Nat) (A P : Nat → Nat) (W : Nat → Int64) (U G E so' pl' : Nat → Int32) (va' : Nat → Int64), i ≤ N ∧ N ≤ i + (len - k) ∧ f_X11_cutAll_L17 tp gg tz (nI len) so pl va at_ ft (nI i) (nI k) = some (tz, nI len, so', pl', va', 0, 0) ∧
      (∀ j, j < i → so' j = so j ∧ pl' j = pl j ∧ va' j = va j) ∧ (∀ j, i ≤ j → j ≤ N → pl' j = nI (P j) ∧ P j ≤ 1000 ∧ A j ≤ 1000 ∧ TK (so' j) (va' j) (W j) (U j) (G j) (E j) ∧ (so' j = 0 ↔ j = N)) ∧
      CN sg len A P W U G E k i ∧ (∀ j, i ≤ j → j < N → CN sg len A P W U G E (A j) (j + 1)) ∧ CN sg len A P W U G E (A N) N := by
  intro m
  induction m with
  | zero =>
    intro k i gg so pl va hm hk hi hg
    have hk : k = len := by omega
    subst hk
    obtain ⟨b, a, W, U, G, E, hN, hc⟩ := nx_cls (sg := sg) hlen hcs (Nat.le_refl k)
    have hb : b = k := by have := hN.1; have := hN.2.1; omega
    obtain ⟨t1, t2, t3⟩ := (rf_tok hlen hch tz at_ ft so pl va (i := i) (by omega) (b - k) k gg (by omega) hN hg).1 hb
    refine ⟨i, fun _ => a, fun _ => b, fun _ => W, fun _ => U, fun _ => G, fun _ => E, upd so i 0, upd pl i (nI k), va, Nat.le_refl _, by omega, t1, fun j hj => ⟨u_n (by omega), u_n (by omega), rfl⟩, fun j h1 h2 => ?_, hc, fun j h1 h2 => absurd h1 (by omega), ?_⟩
    · have hj : j = i := by omega
      subst hj
      rw [u_s, u_s]
      exact ⟨by rw [hb], (show b ≤ 1000 by omega), (show a ≤ 1000 by omega), t2, fun _ => rfl, fun _ => rfl⟩
    · intro p w u g e
      show f_X8_next sg (nI k) (nI a) p w u g e = some (nI a, nI b, W, U, G, E)
      have h2 := hc p w u g e
      rw [t3] at h2 ⊢
      exact h2
  | succ m ih =>
    intro k i gg so pl va hm hk hi hg
    obtain ⟨b, a, W, U, G, E, hN, hc⟩ := nx_cls (sg := sg) hlen hcs hk
    have hkb := hN.1
    by_cases hb : b = len
    · obtain ⟨t1, t2, t3⟩ := (rf_tok hlen hch tz at_ ft so pl va (i := i) (by omega) (b - k) k gg (by omega) hN hg).1 hb
      refine ⟨i, fun _ => a, fun _ => b, fun _ => W, fun _ => U, fun _ => G, fun _ => E, upd so i 0, upd pl i (nI len), va, Nat.le_refl _, by omega, t1, fun j hj => ⟨u_n (by omega), u_n (by omega), rfl⟩, fun j h1 h2 => ?_, hc, fun j h1 h2 => absurd h1 (by omega), ?_⟩
      · have hj : j = i := by omega
        subst hj
        rw [u_s, u_s]
        exact ⟨by rw [hb], (show b ≤ 1000 by omega), (show a ≤ 1000 by omega), t2, fun _ => rfl, fun _ => rfl⟩
      · intro p w u g e
        show f_X8_next sg (nI len) (nI a) p w u g e = some (nI a, nI b, W, U, G, E)
        obtain ⟨b2, a2, W2, U2, G2, E2, hN2, hc2⟩ := nx_cls (sg := sg) hlen hcs (Nat.le_refl len)
        have hb2 : b2 = len := by have := hN2.1; have := hN2.2.1; omega
        rw [t3, hc2]
        rcases hN2.2.2.2 with ⟨-, q2, q3, q4, q5, q6⟩ | ⟨q1, -⟩
        · rcases hN.2.2.2 with ⟨-, p2, p3, p4, p5, p6⟩ | ⟨p1, -⟩
          · rw [q2, q3, q4, q5, q6, hb2, p3, p4, p5, p6, hb]
          · omega
        · omega
    · obtain ⟨gg', s, v, g1, g2, g3, g4, g5, g6⟩ := (rf_tok hlen hch tz at_ ft so pl va (i := i) (by omega) (b - k) k gg (by omega) hN hg).2 (by have := hN.2.1; omega)
      obtain ⟨N, A, P, W', U', G', E', so', pl', va', n1, n2, n3, n4, n5, n6, n7, n8⟩ := ih a (i + 1) gg' (upd so i s) (upd pl i (nI b)) (vp_updL va i v) (by omega) g3 (by omega) g1
      have cg : ∀ k j, j ≠ i → CN sg len A P W' U' G' E' k j → CN sg len (fun j => if j = i then a else A j) (fun j => if j = i then b else P j) (fun j => if j = i then W else W' j) (fun j => if j = i then U else U' j) (fun j => if j = i then G else G' j) (fun j => if j = i then E else E' j) k j := by
        intro k j hj h p w u g e
        rw [h p w u g e]
        simp only [if_neg hj]
      refine ⟨N, fun j => if j = i then a else A j, fun j => if j = i then b else P j, fun j => if j = i then W else W' j, fun j => if j = i then U else U' j, fun j => if j = i then G else G' j, fun j => if j = i then E else E' j, so', pl', va', by omega, by omega, by rw [g4]; exact n3, fun j hj => ?_, fun j h1 h2 => ?_, ?_, fun j h1 h2 => ?_, ?_⟩
      · obtain ⟨q1, q2, q3⟩ := n4 j (by omega)
        rw [u_n (by omega)] at q1 q2
        rw [pk_uLn (by omega)] at q3
        exact ⟨q1, q2, q3⟩
      · by_cases hj : j = i
        · subst hj
          obtain ⟨q1, q2, q3⟩ := n4 j (by omega)
          rw [u_s] at q1 q2
          rw [pk_uLs] at q3
          simp only [if_true]
          rw [q1, q2, q3]
          exact ⟨rfl, by omega, by omega, g5, fun z => absurd z g6, fun z => by omega⟩
        · simp only [if_neg hj]
          exact n5 j (by omega) h2
      · intro p w u g e
        rw [hc p w u g e]
        simp only [if_true]
      · by_cases hj : j = i
        · subst hj
          simp only [if_true]
          exact cg a (j + 1) (by omega) n6
        · simp only [if_neg hj]
          exact cg (A j) (j + 1) (by omega) (n7 j (by omega) h2)
      · simp only [if_neg (show N ≠ i by omega)]
        exact cg (A N) N (by omega) n8
/-- what the reader of both stands on -/
def TKS (sg : Nat → Int32) (len N : Nat) (so pl : Nat → Int32) (va : Nat → Int64) (A P : Nat → Nat) (W : Nat → Int64) (U G E : Nat → Int32) : Prop :=
  N ≤ 1000 ∧ (∀ j, j ≤ N → pl j = nI (P j) ∧ P j ≤ 1000 ∧ A j ≤ 1000 ∧ TK (so j) (va j) (W j) (U j) (G j) (E j) ∧ (so j = 0 ↔ j = N)) ∧ (∀ j, j ≤ N → CN sg len A P W U G E (A j) (min (j + 1) N))
theorem tok_all {sg : Nat → Int32} (h : RT sg tp len) (so pl : Nat → Int32) (va : Nat → Int64) (at_ ft sz : Int32) : ∃ (N : Nat) (A P : Nat → Nat) (W : Nat → Int64) (U G E so' pl' : Nat → Int32) (va' : Nat → Int64), f_X11_cutAll tp (nI len) sz so pl va at_ ft = some (0, nI len, so', pl', va', 0, 0) ∧ CN sg len A P W U G E 0 0 ∧ TKS sg len N so' pl' va' A P W U G E := by
  obtain ⟨hlen, hk⟩ := h
  have hcs : ∀ k, k < len → sg k = nI (ix (sg k)) ∧ ix (sg k) ≤ 126 := by
    intro k hkl
    obtain ⟨-, c, e, hc⟩ := hk k hkl
    rw [e, ix_nI (by omega)]
    exact ⟨rfl, by omega⟩
  have hch : ∀ k, k < len → tp k = nI (ix (sg k)) ∧ ix (sg k) ≤ 126 := by
    intro k hkl
    rw [← (hk k hkl).1]
    exact hcs k hkl
  obtain ⟨N, A, P, W, U, G, E, so', pl', va', n1, n2, n3, n4, n5, n6, n7, n8⟩ := seq (sg := sg) (ch := fun k => ix (sg k)) hlen hcs hch 0 at_ ft len 0 0 FU so pl va (by omega) (by omega) (by omega) (by show len - 0 < 5000; omega)
  refine ⟨N, A, P, W, U, G, E, so', pl', va', ?_, n6, by omega, fun j hj => n5 j (by omega) hj, fun j hj => ?_⟩
  · unfold f_X11_cutAll
    exact n3
  · by_cases hjN : j = N
    · rw [hjN, show min (N + 1) N = N by omega]; exact n8
    · rw [show min (j + 1) N = j + 1 by omega]; exact n7 j (by omega) (by omega)
end CU
