/-! PURE 27: tokens: letters as numbers, what comes next on the tape -/
theorem lc_eq {x y : Int64} : lg_cmp x y = 0 ↔ x = y := by
  unfold lg_cmp
  by_cases h : x = y
  · subst h
    rw [if_neg (by rw [gt_iff_lt, Int64.lt_iff_toInt_lt]; omega), if_pos rfl]
    exact ⟨fun _ => rfl, fun _ => rfl⟩
  · rw [if_neg h]
    constructor
    · intro q
      split at q
      · exact absurd q z10
      · exact absurd q (by decide)
    · intro q; exact absurd q h
theorem lc_lt {a b : Nat} (ha : a < 2 ^ 63) (hb : b < 2 ^ 63) : (lg_cmp (lN a) (lN b) < 0 ↔ a < b) ∧ (lg_cmp (lN a) (lN b) ≤ 0 ↔ a ≤ b) := by
  unfold lg_cmp
  have h1 : (lN a > lN b) = (b < a) := by
    rw [eq_iff_iff, gt_iff_lt, Int64.lt_iff_toInt_lt, pf_lI ha, pf_lI hb]; omega
  have h2 : (lN a = lN b) = (a = b) := by
    rw [eq_iff_iff, ← Int64.toInt_inj, pf_lI ha, pf_lI hb]; omega
  by_cases c1 : b < a
  · rw [if_pos (by rw [h1]; exact c1)]
    exact ⟨⟨fun q => absurd q (by decide), fun q => by omega⟩, ⟨fun q => absurd q (by decide), fun q => by omega⟩⟩
  · rw [if_neg (by rw [h1]; exact c1)]
    by_cases c2 : a = b
    · rw [if_pos (by rw [h2]; exact c2)]
      exact ⟨⟨fun q => absurd q (by decide), fun q => by omega⟩, ⟨fun _ => by omega, fun _ => by decide⟩⟩
    · rw [if_neg (by rw [h2]; exact c2)]
      exact ⟨⟨fun _ => by omega, fun _ => by decide⟩, ⟨fun _ => by omega, fun _ => by decide⟩⟩
theorem lN_ne {a b : Nat} (ha : a < 2 ^ 63) (hb : b < 2 ^ 63) : lN a = lN b ↔ a = b := by
  rw [← Int64.toInt_inj, pf_lI ha, pf_lI hb]; omega
/-- letters (the last one first) as a number -/
def en (B o : Nat) : List Nat → Nat
  | [] => 0
  | d :: t => B * en B o t + (o + d)
def Lt (l : List Nat) : Prop := ∀ d, d ∈ l → 1 ≤ d ∧ d ≤ 26
theorem en_inj {B o : Nat} (hB : o + 26 < B) : ∀ {l k : List Nat}, Lt l → Lt k → en B o l = en B o k → l = k
  | [], [], _, _, _ => rfl
  | [], d :: t, _, hk, h => by
    have h : 0 = B * en B o t + (o + d) := h
    have := hk d List.mem_cons_self
    omega
  | d :: t, [], hl, _, h => by
    have h : B * en B o t + (o + d) = 0 := h
    have := hl d List.mem_cons_self
    omega
  | d :: t, e :: u, hl, hk, h => by
    have h : B * en B o t + (o + d) = B * en B o u + (o + e) := h
    have h1 := hl d List.mem_cons_self
    have h2 := hk e List.mem_cons_self
    have hm : (B * en B o t + (o + d)) % B = (B * en B o u + (o + e)) % B := by rw [h]
    rw [Nat.mul_add_mod, Nat.mul_add_mod, Nat.mod_eq_of_lt (by omega), Nat.mod_eq_of_lt (by omega)] at hm
    have hd : d = e := by omega
    subst hd
    have ht : en B o t = en B o u := Nat.eq_of_mul_eq_mul_left (show 0 < B by omega) (by omega)
    rw [en_inj hB (fun x hx => hl x (List.mem_cons_of_mem _ hx)) (fun x hx => hk x (List.mem_cons_of_mem _ hx)) ht]
theorem en_37 : ∀ {l : List Nat}, Lt l → en 37 0 l < 37 ^ l.length
  | [], _ => Nat.zero_lt_one
  | d :: t, h => by
    show 37 * en 37 0 t + (0 + d) < 37 ^ t.length * 37
    have h1 := en_37 (l := t) (fun x hx => h x (List.mem_cons_of_mem _ hx))
    have h2 := h d List.mem_cons_self
    omega
theorem en_256 : ∀ {l : List Nat}, Lt l → 2 * en 256 96 l < 256 ^ l.length
  | [], _ => Nat.zero_lt_one
  | d :: t, h => by
    show 2 * (256 * en 256 96 t + (96 + d)) < 256 ^ t.length * 256
    have h1 := en_256 (l := t) (fun x hx => h x (List.mem_cons_of_mem _ hx))
    have h2 := h d List.mem_cons_self
    omega
theorem en_37b {l : List Nat} (h : Lt l) (h8 : l.length ≤ 8) : en 37 0 l < 2 ^ 63 := by
  have h1 := en_37 h
  have h2 : 37 ^ l.length ≤ 37 ^ 8 := Nat.pow_le_pow_right (by decide) h8
  have h3 : 37 ^ 8 = 3512479453921 := by decide
  omega
theorem en_256b {l : List Nat} (h : Lt l) (h8 : l.length ≤ 8) : en 256 96 l < 2 ^ 63 := by
  have h1 := en_256 h
  have h2 : 256 ^ l.length ≤ 256 ^ 8 := Nat.pow_le_pow_right (by decide) h8
  have h3 : 256 ^ 8 = 2 ^ 64 := by decide
  omega
/-- two words: the same by either number -/
theorem en_same {l k : List Nat} (hl : Lt l) (hk : Lt k) (l8 : l.length ≤ 8) (k8 : k.length ≤ 8) : (lN (en 37 0 l) = lN (en 37 0 k) ↔ l = k) ∧ (lN (en 256 96 l) = lN (en 256 96 k) ↔ l = k) := by
  refine ⟨⟨fun h => ?_, fun h => by rw [h]⟩, ⟨fun h => ?_, fun h => by rw [h]⟩⟩
  · rw [lN_ne (en_37b hl l8) (en_37b hk k8)] at h
    exact en_inj (by decide) hl hk h
  · rw [lN_ne (en_256b hl l8) (en_256b hk k8)] at h
    exact en_inj (by decide) hl hk h
theorem en_pos {l : List Nat} (h : Lt l) (hn : l ≠ []) (h8 : l.length ≤ 8) : lN (en 256 96 l) ≠ 0 := by
  intro q
  have q : lN (en 256 96 l) = lN 0 := q
  rw [lN_ne (en_256b h h8) (by decide)] at q
  cases l with
  | nil => exact hn rfl
  | cons d t =>
    have q : 256 * en 256 96 t + (96 + d) = 0 := q
    omega
/-! ## characters -/
def isL (c : Nat) : Prop := 97 ≤ c ∧ c ≤ 122
def isD (c : Nat) : Prop := 48 ≤ c ∧ c ≤ 57
def isB (c : Nat) : Prop := c = 10 ∨ c = 32
def isS (c : Nat) : Prop := c = 40 ∨ c = 41 ∨ c = 60 ∨ c = 61 ∨ c = 43 ∨ c = 45 ∨ c = 42 ∨ c = 59
def lts (ch : Nat → Nat) (p : Nat) : Nat → List Nat
  | 0 => []
  | j + 1 => (ch (p + j) - 96) :: lts ch p j
theorem lts_len (ch : Nat → Nat) (p : Nat) : ∀ j, (lts ch p j).length = j
  | 0 => rfl
  | j + 1 => by show (lts ch p j).length + 1 = j + 1; rw [lts_len ch p j]
theorem lts_L {ch : Nat → Nat} {p : Nat} : ∀ {j : Nat}, (∀ i, i < j → isL (ch (p + i))) → Lt (lts ch p j)
  | 0, _ => fun d hd => by cases hd
  | j + 1, h => by
    intro d hd
    rcases List.mem_cons.mp hd with e | e
    · have := h j (by omega)
      unfold isL at this
      omega
    · exact lts_L (fun i hi => h i (by omega)) d e
def dv (ch : Nat → Nat) (p : Nat) : Nat → Nat
  | 0 => 0
  | j + 1 => 10 * dv ch p j + (ch (p + j) - 48)
theorem dv_lt {ch : Nat → Nat} {p : Nat} : ∀ {j : Nat}, (∀ i, i < j → isD (ch (p + i))) → dv ch p j < 10 ^ j
  | 0, _ => Nat.zero_lt_one
  | j + 1, h => by
    show 10 * dv ch p j + (ch (p + j) - 48) < 10 ^ j * 10
    have h1 := dv_lt (ch := ch) (p := p) (j := j) (fun i hi => h i (by omega))
    have h2 := h j (by omega)
    unfold isD at h2
    omega
theorem chd {c : Nat} (h : c ≤ 126) : (nI c < 97 ↔ c < 97) ∧ (122 < nI c ↔ 122 < c) ∧ (nI c < 48 ↔ c < 48) ∧ (57 < nI c ↔ 57 < c) ∧ (nI c = 10 ↔ c = 10) ∧ (nI c = 32 ↔ c = 32) := by
  have a : ∀ c, c < 127 → (nI c < 97 ↔ c < 97) ∧ (122 < nI c ↔ 122 < c) ∧ (nI c < 48 ↔ c < 48) ∧ (57 < nI c ↔ 57 < c) ∧ (nI c = 10 ↔ c = 10) ∧ (nI c = 32 ↔ c = 32) := by decide +kernel
  exact a c (by omega)
/-- what comes next from k on: its place b, the place behind it a, and what it is -/
def NXT (ch : Nat → Nat) (len k b a : Nat) (W : Int64) (U G E : Int32) : Prop :=
  k ≤ b ∧ b ≤ len ∧ (∀ i, k ≤ i → i < b → isB (ch i)) ∧
  ((b = len ∧ a = b ∧ W = 0 ∧ U = -1 ∧ G = 0 ∧ E = 1) ∨
   (b < len ∧ ¬ isB (ch b) ∧ b < a ∧ a ≤ len ∧ E = 0 ∧
    (((∀ i, b ≤ i → i < a → isL (ch i)) ∧ (a < len → ¬ isL (ch a)) ∧ U = -1 ∧ G = 0 ∧ W = (if a - b ≤ 8 then lN (en 256 96 (lts ch b (a - b))) else 0)) ∨
     ((∀ i, b ≤ i → i < a → isD (ch i)) ∧ (a < len → ¬ isD (ch a)) ∧ W = 0 ∧ G = 0 ∧ U = (if a - b ≤ 4 then nI (dv ch b (a - b)) else -1)) ∨
     (¬ isL (ch b) ∧ ¬ isD (ch b) ∧ a = b + 1 ∧ W = 0 ∧ U = -1 ∧ ((isS (ch b) ∧ G = nI (ch b)) ∨ (¬ isS (ch b) ∧ G = 0))))))
section TK
variable {sg tp : Nat → Int32} {ch : Nat → Nat} {len : Nat}
/-- the class reads letters -/
theorem nx_let (hlen : len ≤ 1000) (hch : ∀ k, k < len → sg k = nI (ch k) ∧ ch k ≤ 126) (b : Nat) : ∀ (r k gg : Nat) (W : Int64), k + r = len → r < gg → b ≤ k → (∀ i, b ≤ i → i < k → isL (ch i)) → (k - b ≤ 8 → W = lN (en 256 96 (lts ch b (k - b)))) →
    ∃ (a : Nat) (W' : Int64), k ≤ a ∧ a ≤ len ∧ (∀ i, b ≤ i → i < a → isL (ch i)) ∧ (a < len → ¬ isL (ch a)) ∧ (a - b ≤ 8 → W' = lN (en 256 96 (lts ch b (a - b)))) ∧ ∀ p u g e, f_X8_next_L95 sg (nI len) gg (nI k) p W u g e = f_X8_next_B169 sg (nI len) (nI a) p W' u g e := by
  intro r
  induction r with
  | zero =>
    intro k gg W hk hg hbk hl hW
    obtain ⟨gg, rfl⟩ : ∃ z, gg = z + 1 := ⟨gg - 1, by omega⟩
    have hk : k = len := by omega
    refine ⟨k, W, Nat.le_refl _, by omega, hl, fun h => by omega, hW, fun p u g e => ?_⟩
    show f_X8_next_L95b _ _ _ _ _ _ _ _ _ = _
    unfold f_X8_next_L95b
    rw [if_pos (nI_le (by omega) (by omega))]
  | succ r ih =>
    intro k gg W hk hg hbk hl hW
    obtain ⟨gg, rfl⟩ : ∃ z, gg = z + 1 := ⟨gg - 1, by omega⟩
    obtain ⟨hs, hc⟩ := hch k (by omega)
    obtain ⟨c1, c2, -⟩ := chd hc
    have stop : ¬ isL (ch k) → ∃ (a : Nat) (W' : Int64), k ≤ a ∧ a ≤ len ∧ (∀ i, b ≤ i → i < a → isL (ch i)) ∧ (a < len → ¬ isL (ch a)) ∧ (a - b ≤ 8 → W' = lN (en 256 96 (lts ch b (a - b)))) ∧ ∀ p u g e, f_X8_next_B169 sg (nI len) (nI k) p W u g e = f_X8_next_B169 sg (nI len) (nI a) p W' u g e := fun h => ⟨k, W, Nat.le_refl _, by omega, hl, fun _ => h, hW, fun _ _ _ _ => rfl⟩
    have hhead : ∀ p u g e, f_X8_next_L95 sg (nI len) (gg + 1) (nI k) p W u g e = if ch k < 97 then f_X8_next_B169 sg (nI len) (nI k) p W u g e else if 122 < ch k then f_X8_next_B169 sg (nI len) (nI k) p W u g e else f_X8_next_L95 sg (nI len) gg (nI (k + 1)) p ((W <<< (Int32.toInt64 8 &&& 63)) ||| (Int32.toInt64 (nI (ch k)))) u g e := by
      intro p u g e
      show f_X8_next_L95b _ _ _ _ _ _ _ _ _ = _
      unfold f_X8_next_L95b
      rw [if_neg (nI_ge (by omega) (by omega)), g_nI (by omega) (by decide), g_nI (by omega) (by decide), g_nI (by omega) (by decide), ix_nI (by omega), hs]
      simp only [lt_, c1, c2]
      rw [← nI_succ]
    by_cases h1 : ch k < 97
    · obtain ⟨a, W', a1, a2, a3, a4, a5, a6⟩ := stop (by unfold isL; omega)
      exact ⟨a, W', a1, a2, a3, a4, a5, fun p u g e => by rw [hhead, if_pos h1]; exact a6 p u g e⟩
    · by_cases h2 : 122 < ch k
      · obtain ⟨a, W', a1, a2, a3, a4, a5, a6⟩ := stop (by unfold isL; omega)
        exact ⟨a, W', a1, a2, a3, a4, a5, fun p u g e => by rw [hhead, if_neg h1, if_pos h2]; exact a6 p u g e⟩
      · have hLk : isL (ch k) := by unfold isL; omega
        obtain ⟨a, W', a1, a2, a3, a4, a5, a6⟩ := ih (k + 1) gg ((W <<< (Int32.toInt64 8 &&& 63)) ||| (Int32.toInt64 (nI (ch k)))) (by omega) (by omega) (by omega) (fun i h3 h4 => by
          by_cases q : i = k
          · rw [q]; exact hLk
          · exact hl i h3 (by omega)) (fun h8 => by
          have hlt : Lt (lts ch b (k - b)) := lts_L (fun i hi => hl (b + i) (by omega) (by omega))
          have hb := en_256 hlt
          rw [lts_len] at hb
          have hp : 256 ^ (k - b) ≤ 256 ^ 7 := Nat.pow_le_pow_right (by decide) (by omega)
          have hp7 : 256 ^ 7 = 72057594037927936 := by decide
          rw [hW (by omega), show (8 : Int32) = nI 8 from rfl, wb_shl _ (by decide), nI_l (by omega), show (2 : Nat) ^ 8 = 256 from rfl, g_or (k := 8) (p := 256) rfl (by omega) (by omega)]
          refine congrArg lN ?_
          rw [show k + 1 - b = (k - b) + 1 by omega]
          show _ = 256 * en 256 96 (lts ch b (k - b)) + (96 + (ch (b + (k - b)) - 96))
          rw [show b + (k - b) = k by omega, Nat.mul_comm]
          omega)
        exact ⟨a, W', by omega, a2, a3, a4, a5, fun p u g e => by rw [hhead, if_neg h1, if_neg h2]; exact a6 p u g e⟩
/-- the class reads figures -/
theorem nx_dig (hlen : len ≤ 1000) (hch : ∀ k, k < len → sg k = nI (ch k) ∧ ch k ≤ 126) (b : Nat) : ∀ (r k gg : Nat) (V : Int32), k + r = len → r < gg → b ≤ k → (∀ i, b ≤ i → i < k → isD (ch i)) → (k - b ≤ 4 → V = nI (dv ch b (k - b))) →
    ∃ (a : Nat) (V' : Int32), k ≤ a ∧ a ≤ len ∧ (∀ i, b ≤ i → i < a → isD (ch i)) ∧ (a < len → ¬ isD (ch a)) ∧ (a - b ≤ 4 → V' = nI (dv ch b (a - b))) ∧ ∀ p w u g e, f_X8_next_L209 sg (nI len) gg (nI k) p w u g e V = f_X8_next_B279 sg (nI len) (nI a) p w u g e V' := by
  intro r
  induction r with
  | zero =>
    intro k gg V hk hg hbk hl hV
    obtain ⟨gg, rfl⟩ : ∃ z, gg = z + 1 := ⟨gg - 1, by omega⟩
    have hk : k = len := by omega
    refine ⟨k, V, Nat.le_refl _, by omega, hl, fun h => by omega, hV, fun p w u g e => ?_⟩
    show f_X8_next_L209b _ _ _ _ _ _ _ _ _ _ = _
    unfold f_X8_next_L209b
    rw [if_pos (nI_le (by omega) (by omega))]
  | succ r ih =>
    intro k gg V hk hg hbk hl hV
    obtain ⟨gg, rfl⟩ : ∃ z, gg = z + 1 := ⟨gg - 1, by omega⟩
    obtain ⟨hs, hc⟩ := hch k (by omega)
    obtain ⟨-, -, c1, c2, -⟩ := chd hc
    have stop : ¬ isD (ch k) → ∃ (a : Nat) (V' : Int32), k ≤ a ∧ a ≤ len ∧ (∀ i, b ≤ i → i < a → isD (ch i)) ∧ (a < len → ¬ isD (ch a)) ∧ (a - b ≤ 4 → V' = nI (dv ch b (a - b))) ∧ ∀ p w u g e, f_X8_next_B279 sg (nI len) (nI k) p w u g e V = f_X8_next_B279 sg (nI len) (nI a) p w u g e V' := fun h => ⟨k, V, Nat.le_refl _, by omega, hl, fun _ => h, hV, fun _ _ _ _ _ => rfl⟩
    have hhead : ∀ p w u g e, f_X8_next_L209 sg (nI len) (gg + 1) (nI k) p w u g e V = if ch k < 48 then f_X8_next_B279 sg (nI len) (nI k) p w u g e V else if 57 < ch k then f_X8_next_B279 sg (nI len) (nI k) p w u g e V else f_X8_next_L209 sg (nI len) gg (nI (k + 1)) p w u g e ((V * 10) + (nI (ch k) - 48)) := by
      intro p w u g e
      show f_X8_next_L209b _ _ _ _ _ _ _ _ _ _ = _
      unfold f_X8_next_L209b
      rw [if_neg (nI_ge (by omega) (by omega)), g_nI (by omega) (by decide), g_nI (by omega) (by decide), g_nI (by omega) (by decide), ix_nI (by omega), hs]
      simp only [lt_, c1, c2]
      rw [← nI_succ]
    by_cases h1 : ch k < 48
    · obtain ⟨a, V', a1, a2, a3, a4, a5, a6⟩ := stop (by unfold isD; omega)
      exact ⟨a, V', a1, a2, a3, a4, a5, fun p w u g e => by rw [hhead, if_pos h1]; exact a6 p w u g e⟩
    · by_cases h2 : 57 < ch k
      · obtain ⟨a, V', a1, a2, a3, a4, a5, a6⟩ := stop (by unfold isD; omega)
        exact ⟨a, V', a1, a2, a3, a4, a5, fun p w u g e => by rw [hhead, if_neg h1, if_pos h2]; exact a6 p w u g e⟩
      · have hDk : isD (ch k) := by unfold isD; omega
        obtain ⟨a, V', a1, a2, a3, a4, a5, a6⟩ := ih (k + 1) gg ((V * 10) + (nI (ch k) - 48)) (by omega) (by omega) (by omega) (fun i h3 h4 => by
          by_cases q : i = k
          · rw [q]; exact hDk
          · exact hl i h3 (by omega)) (fun h4 => by
          rw [hV (by omega), show (10 : Int32) = nI 10 from rfl, show (48 : Int32) = nI 48 from rfl, i_mul, i_sub (by omega), i_add, show k + 1 - b = (k - b) + 1 by omega]
          refine congrArg nI ?_
          show _ = 10 * dv ch b (k - b) + (ch (b + (k - b)) - 48)
          rw [show b + (k - b) = k by omega, Nat.mul_comm])
        exact ⟨a, V', by omega, a2, a3, a4, a5, fun p w u g e => by rw [hhead, if_neg h1, if_neg h2]; exact a6 p w u g e⟩
theorem g_c_s {β : Type} {c : Nat} {k : Option β} (h : c < 65536) : g_c (nI c) k = k := by
  unfold g_c
  rw [if_pos ⟨c, h, rfl⟩]
/-- the sign under the class's eye -/
theorem nx_sig {c : Nat} (hc : c ≤ 126) : ∃ G : Int32, ((isS c ∧ G = nI c) ∨ (¬ isS c ∧ G = 0)) ∧ ∀ (sg : Nat → Int32) (L a p : Int32) (w : Int64) (u g e : Int32), (if nI c = 40 then (f_X8_next_B382 sg L a p w u g e (nI c)) else (if nI c = 41 then (f_X8_next_B382 sg L a p w u g e (nI c)) else (if nI c = 60 then (f_X8_next_B382 sg L a p w u g e (nI c)) else (if nI c = 61 then (f_X8_next_B382 sg L a p w u g e (nI c)) else (if nI c = 43 then (f_X8_next_B382 sg L a p w u g e (nI c)) else (if nI c = 45 then (f_X8_next_B382 sg L a p w u g e (nI c)) else (if nI c = 42 then (f_X8_next_B382 sg L a p w u g e (nI c)) else (if nI c = 59 then (f_X8_next_B382 sg L a p w u g e (nI c)) else (f_X8_next_B387 sg L a p w u g e (nI c) 0))))))))) = some (a + 1, p, w, u, G, e) := by
  have yes : ∀ (sg : Nat → Int32) (L a p : Int32) (w : Int64) (u g e : Int32), f_X8_next_B382 sg L a p w u g e (nI c) = some (a + 1, p, w, u, nI c, e) := by
    intro sg L a p w u g e
    unfold f_X8_next_B382 f_X8_next_B387
    rw [if_neg z10]
    unfold f_X8_next_B398
    rw [g_c_s (by omega)]
    rfl
  have no : ∀ (sg : Nat → Int32) (L a p : Int32) (w : Int64) (u g e : Int32), f_X8_next_B387 sg L a p w u g e (nI c) 0 = some (a + 1, p, w, u, 0, e) := by
    intro sg L a p w u g e
    unfold f_X8_next_B387
    rw [if_pos z00]
    unfold f_X8_next_B398
    rw [show (0 : Int32) = nI 0 from rfl, g_c_s (by decide)]
    rfl
  have e1 : (nI c = 40) = (c = 40) := by rw [show (40 : Int32) = nI 40 from rfl]; exact i_eq (by omega) (by decide)
  have e2 : (nI c = 41) = (c = 41) := by rw [show (41 : Int32) = nI 41 from rfl]; exact i_eq (by omega) (by decide)
  have e3 : (nI c = 60) = (c = 60) := by rw [show (60 : Int32) = nI 60 from rfl]; exact i_eq (by omega) (by decide)
  have e4 : (nI c = 61) = (c = 61) := by rw [show (61 : Int32) = nI 61 from rfl]; exact i_eq (by omega) (by decide)
  have e5 : (nI c = 43) = (c = 43) := by rw [show (43 : Int32) = nI 43 from rfl]; exact i_eq (by omega) (by decide)
  have e6 : (nI c = 45) = (c = 45) := by rw [show (45 : Int32) = nI 45 from rfl]; exact i_eq (by omega) (by decide)
  have e7 : (nI c = 42) = (c = 42) := by rw [show (42 : Int32) = nI 42 from rfl]; exact i_eq (by omega) (by decide)
  have e8 : (nI c = 59) = (c = 59) := by rw [show (59 : Int32) = nI 59 from rfl]; exact i_eq (by omega) (by decide)
  simp only [e1, e2, e3, e4, e5, e6, e7, e8]
  by_cases h : isS c
  · refine ⟨nI c, Or.inl ⟨h, rfl⟩, fun sg L a p w u g e => ?_⟩
    simp only [yes]
    unfold isS at h
    rcases h with h | h | h | h | h | h | h | h <;> subst h <;> simp
  · refine ⟨0, Or.inr ⟨h, rfl⟩, fun sg L a p w u g e => ?_⟩
    unfold isS at h
    rw [if_neg (by omega), if_neg (by omega), if_neg (by omega), if_neg (by omega), if_neg (by omega), if_neg (by omega), if_neg (by omega), if_neg (by omega)]
    exact no sg L a p w u g e
/-- what comes next, by the class -/
theorem nx_cls (hlen : len ≤ 1000) (hch : ∀ k, k < len → sg k = nI (ch k) ∧ ch k ≤ 126) {k : Nat} (hk : k ≤ len) : ∃ (b a : Nat) (W : Int64) (U G E : Int32), NXT ch len k b a W U G E ∧ ∀ p w u g e, f_X8_next sg (nI len) (nI k) p w u g e = some (nI a, nI b, W, U, G, E) := by
  -- behind the blanks
  have tail : ∀ b, b ≤ len → (b < len → ¬ isB (ch b)) → ∃ (a : Nat) (W : Int64) (U G E : Int32), ((b = len ∧ a = b ∧ W = 0 ∧ U = -1 ∧ G = 0 ∧ E = 1) ∨ (b < len ∧ ¬ isB (ch b) ∧ b < a ∧ a ≤ len ∧ E = 0 ∧ (((∀ i, b ≤ i → i < a → isL (ch i)) ∧ (a < len → ¬ isL (ch a)) ∧ U = -1 ∧ G = 0 ∧ W = (if a - b ≤ 8 then lN (en 256 96 (lts ch b (a - b))) else 0)) ∨ ((∀ i, b ≤ i → i < a → isD (ch i)) ∧ (a < len → ¬ isD (ch a)) ∧ W = 0 ∧ G = 0 ∧ U = (if a - b ≤ 4 then nI (dv ch b (a - b)) else -1)) ∨ (¬ isL (ch b) ∧ ¬ isD (ch b) ∧ a = b + 1 ∧ W = 0 ∧ U = -1 ∧ ((isS (ch b) ∧ G = nI (ch b)) ∨ (¬ isS (ch b) ∧ G = 0)))))) ∧ ∀ p w u g e, f_X8_next_B52 sg (nI len) (nI b) p w u g e = some (nI a, nI b, W, U, G, E) := by
    intro b hb hnb
    have hB52 : ∀ p w u g e, f_X8_next_B52 sg (nI len) (nI b) p w u g e = f_X8_next_L95 sg (nI len) FU (nI b) (nI b) 0 (-1) 0 (if b < len then 0 else 1) := by
      intro p w u g e
      unfold f_X8_next_B52 f_X8_next_B77 g_z
      rw [ifl (show b < 2 ^ 31 by omega) (show len < 2 ^ 31 by omega), if_pos (Or.inl rfl), if_pos (Or.inr rfl)]
      split <;> rfl
    obtain ⟨a, W', a1, a2, a3, a4, a5, a6⟩ := nx_let (sg := sg) hlen hch b (len - b) b FU 0 (by omega) (by show len - b < 5000; omega) (Nat.le_refl _) (fun i h1 h2 => by omega) (fun _ => by rw [Nat.sub_self]; rfl)
    by_cases hab : b < a
    · refine ⟨a, (if a - b ≤ 8 then lN (en 256 96 (lts ch b (a - b))) else 0), -1, 0, 0, Or.inr ⟨by omega, hnb (by omega), hab, a2, rfl, Or.inl ⟨a3, a4, rfl, rfl, rfl⟩⟩, fun p w u g e => ?_⟩
      rw [hB52, if_pos (by omega), a6]
      unfold f_X8_next_B169
      rw [if_neg (nI_ge hab (by omega)), show (8 : Int32) = nI 8 from rfl, i_sub (by omega), ifl (by decide) (by omega)]
      by_cases h8 : a - b ≤ 8
      · rw [if_neg (by omega), if_pos h8, a5 h8]
      · rw [if_pos (by omega), if_neg h8]
    · have hab : a = b := by omega
      subst hab
      obtain ⟨d, V', d1, d2, d3, d4, d5, d6⟩ := nx_dig (sg := sg) hlen hch a (len - a) a FU 0 (by omega) (by show len - a < 5000; omega) (Nat.le_refl _) (fun i h1 h2 => by omega) (fun _ => by rw [Nat.sub_self]; rfl)
      have hW : W' = 0 := by
        have := a5 (by omega)
        rw [Nat.sub_self] at this
        exact this
      have h95 : ∀ e, f_X8_next_L95 sg (nI len) FU (nI a) (nI a) 0 (-1) 0 e = f_X8_next_B279 sg (nI len) (nI d) (nI a) 0 (-1) 0 e V' := by
        intro e
        rw [a6, hW]
        unfold f_X8_next_B169
        rw [if_pos (nI_le (Nat.le_refl _) (by omega))]
        exact d6 _ _ _ _ _
      by_cases had : a < d
      · refine ⟨d, 0, (if d - a ≤ 4 then nI (dv ch a (d - a)) else -1), 0, 0, Or.inr ⟨by omega, hnb (by omega), had, d2, rfl, Or.inr (Or.inl ⟨d3, d4, rfl, rfl, rfl⟩)⟩, fun p w u g e => ?_⟩
        rw [hB52, if_pos (by omega), h95]
        unfold f_X8_next_B279
        rw [if_neg (nI_ge had (by omega)), show (4 : Int32) = nI 4 from rfl, i_sub (by omega), ifl (by decide) (by omega)]
        by_cases h4 : d - a ≤ 4
        · rw [if_neg (by omega), if_pos h4, d5 h4]
        · rw [if_pos (by omega), if_neg h4]
      · have had : d = a := by omega
        subst had
        by_cases hbl : d < len
        · obtain ⟨hs, hc⟩ := hch d hbl
          obtain ⟨G, g1, g2⟩ := nx_sig hc
          refine ⟨d + 1, 0, -1, G, 0, Or.inr ⟨hbl, hnb hbl, by omega, by omega, rfl, Or.inr (Or.inr ⟨a4 hbl, d4 hbl, rfl, rfl, rfl, g1⟩)⟩, fun p w u g e => ?_⟩
          rw [hB52, if_pos hbl, h95]
          unfold f_X8_next_B279
          rw [if_pos (nI_le (Nat.le_refl _) (by omega)), if_neg (nI_ge hbl (by omega)), g_nI (by omega) (by decide), ix_nI (by omega), hs]
          simp only [lt_]
          rw [g2, ← nI_succ]
        · refine ⟨d, 0, -1, 0, 1, Or.inl ⟨by omega, rfl, rfl, rfl, rfl, rfl⟩, fun p w u g e => ?_⟩
          rw [hB52, if_neg hbl, h95]
          unfold f_X8_next_B279
          rw [if_pos (nI_le (Nat.le_refl _) (by omega)), if_pos (nI_le (by omega) (by omega))]
  have lp : ∀ (r k gg : Nat), k + r = len → r < gg → ∃ (b a : Nat) (W : Int64) (U G E : Int32), NXT ch len k b a W U G E ∧ ∀ p w u g e, f_X8_next_L0 sg (nI len) gg (nI k) p w u g e = some (nI a, nI b, W, U, G, E) := by
    intro r
    induction r with
    | zero =>
      intro k gg hk hg
      obtain ⟨gg, rfl⟩ : ∃ z, gg = z + 1 := ⟨gg - 1, by omega⟩
      obtain ⟨a, W, U, G, E, t1, t2⟩ := tail k (by omega) (fun h => by omega)
      refine ⟨k, a, W, U, G, E, ⟨Nat.le_refl _, by omega, fun i h1 h2 => by omega, t1⟩, fun p w u g e => ?_⟩
      show f_X8_next_L0b _ _ _ _ _ _ _ _ _ = _
      unfold f_X8_next_L0b
      rw [if_pos (nI_le (by omega) (by omega))]
      exact t2 p w u g e
    | succ r ih =>
      intro k gg hk hg
      obtain ⟨gg, rfl⟩ : ∃ z, gg = z + 1 := ⟨gg - 1, by omega⟩
      obtain ⟨hs, hc⟩ := hch k (by omega)
      obtain ⟨-, -, -, -, c1, c2⟩ := chd hc
      have hhead : ∀ p w u g e, f_X8_next_L0 sg (nI len) (gg + 1) (nI k) p w u g e = if ch k = 10 then f_X8_next_L0 sg (nI len) gg (nI (k + 1)) p w u g e else if ch k = 32 then f_X8_next_L0 sg (nI len) gg (nI (k + 1)) p w u g e else f_X8_next_B52 sg (nI len) (nI k) p w u g e := by
        intro p w u g e
        show f_X8_next_L0b _ _ _ _ _ _ _ _ _ = _
        unfold f_X8_next_L0b
        rw [if_neg (nI_ge (by omega) (by omega)), g_nI (by omega) (by decide), g_nI (by omega) (by decide), ix_nI (by omega), hs]
        simp only [f_X8_next_B39, lt_, c1, c2]
        rw [← nI_succ]
      by_cases hb : isB (ch k)
      · obtain ⟨b, a, W, U, G, E, ⟨n1, n2, n3, n4⟩, t2⟩ := ih (k + 1) gg (by omega) (by omega)
        refine ⟨b, a, W, U, G, E, ⟨by omega, n2, fun i h1 h2 => ?_, n4⟩, fun p w u g e => ?_⟩
        · by_cases q : i = k
          · rw [q]; exact hb
          · exact n3 i (by omega) h2
        · rw [hhead]
          unfold isB at hb
          rcases hb with hb | hb
          · rw [if_pos hb]; exact t2 p w u g e
          · rw [if_neg (by omega), if_pos hb]; exact t2 p w u g e
      · obtain ⟨a, W, U, G, E, t1, t2⟩ := tail k (by omega) (fun _ => hb)
        refine ⟨k, a, W, U, G, E, ⟨Nat.le_refl _, by omega, fun i h1 h2 => by omega, t1⟩, fun p w u g e => ?_⟩
        rw [hhead]
        unfold isB at hb
        rw [if_neg (by omega), if_neg (by omega)]
        exact t2 p w u g e
  exact lp (len - k) k FU (by omega) (by show len - k < 5000; omega)
end TK
