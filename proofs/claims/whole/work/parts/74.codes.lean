/-! PURE 25: the reference's rows of groups: codes -/
def cd (num : Nat → Nat) : Nat → Nat
  | 0 => 0
  | k + 1 => cd num k + num k * 8 ^ k
theorem cd_cong {f g : Nat → Nat} : ∀ {k : Nat}, (∀ i, i < k → f i = g i) → cd f k = cd g k
  | 0, _ => rfl
  | k + 1, h => by
    show cd f k + f k * 8 ^ k = cd g k + g k * 8 ^ k
    rw [cd_cong (fun i hi => h i (by omega)), h k (by omega)]
theorem cd_lt {num : Nat → Nat} : ∀ {k : Nat}, (∀ i, i < k → num i < 8) → cd num k < 8 ^ k
  | 0, _ => Nat.zero_lt_one
  | k + 1, h => by
    show cd num k + num k * 8 ^ k < 8 ^ k * 8
    have h1 := cd_lt (num := num) (k := k) (fun i hi => h i (by omega))
    have h2 : num k * 8 ^ k ≤ 7 * 8 ^ k := Nat.mul_le_mul_right _ (by have := h k (by omega); omega)
    omega
theorem cd_dig {num : Nat → Nat} : ∀ {k : Nat}, (∀ i, i < k → num i < 8) → ∀ f, f < k → cd num k / 8 ^ f % 8 = num f
  | 0, _, f, hf => by omega
  | k + 1, h, f, hf => by
    show (cd num k + num k * 8 ^ k) / 8 ^ f % 8 = num f
    have hp : 0 < 8 ^ f := Nat.pow_pos (by decide)
    by_cases e : f = k
    · subst e
      rw [Nat.add_mul_div_right _ _ hp, Nat.div_eq_of_lt (cd_lt (fun i hi => h i (by omega))), Nat.zero_add, Nat.mod_eq_of_lt (h f (by omega))]
    · have h8 : 8 ^ k = 8 ^ (k - f - 1) * 8 * 8 ^ f := by
        rw [← Nat.pow_succ, ← Nat.pow_add]; congr 1; omega
      rw [h8, ← Nat.mul_assoc, Nat.add_mul_div_right _ _ hp, ← Nat.mul_assoc, Nat.add_mul_mod_self_right]
      exact cd_dig (fun i hi => h i (by omega)) f (by omega)
theorem bt_nI {c i : Nat} (hi : i < 32) : bt (nI c) i = c.testBit i := by
  unfold bt
  show (BitVec.ofNat 32 c).getLsbD i = _
  rw [BitVec.getLsbD_ofNat]
  simp [hi]
theorem sh_nI {c s : Nat} (hc : c < 2 ^ 31) (hs : s < 32) : nI c >>> (nI s &&& 31) = nI (c / 2 ^ s) := by
  apply b_ext
  intro i hi
  rw [b_sshr s hs _ hi, bt_nI hi, Nat.testBit_div_two_pow, Nat.add_comm i s]
  by_cases h : s + i < 32
  · rw [if_pos h, bt_nI h]
  · rw [if_neg h, bt_nI (by decide), Nat.testBit_lt_two_pow hc, Nat.testBit_lt_two_pow (Nat.lt_of_lt_of_le hc (Nat.pow_le_pow_right (by decide) (by omega)))]
theorem e_groupOf {c f : Nat} (hc : c < 2 ^ 31) (hf : f < 6) : f_X11_groupOf (nI c) (nI f) = some (nI (c / 8 ^ f % 8)) := by
  unfold f_X11_groupOf
  rw [show (3 : Int32) = nI 3 from rfl, i_mul, sh_nI hc (by omega), show (7 : Int32) = nI (2 ^ 3 - 1) from rfl, fa_mask, show (8 : Nat) = 2 ^ 3 from rfl, ← Nat.pow_mul]
def codeOf (n row : Nat) : Nat := cd (sp n row) n
theorem p8 : ∀ n, n < 6 → 8 ^ n < 2 ^ 31 := by decide
theorem code_lt {n row : Nat} (hn : n ≤ 5) : codeOf n row < 2 ^ 31 := by
  have h := cd_lt (num := sp n row) (k := n) (fun i hi => by have := sp_le n row i hi; omega)
  have := p8 n (by omega)
  unfold codeOf; omega
theorem code_dig {n row f : Nat} (hn : n ≤ 5) (hf : f < n) : f_X11_groupOf (nI (codeOf n row)) (nI f) = some (nI (sp n row f)) := by
  rw [e_groupOf (code_lt hn) (by omega)]
  unfold codeOf
  rw [cd_dig (fun i hi => by have := sp_le n row i hi; omega) f hf]
/-- all ways to go on -/
def extr : Nat → Nat → Nat → Nat → List Nat
  | 0, _, c, _ => [c]
  | r + 1, k, c, m => (List.range (m + 1)).flatMap (fun g => extr r (k + 1) (c + g * 8 ^ k) (if g = m then m + 1 else m))
def vrl (n : Nat) : Nat → List Nat
  | 0 => []
  | k + 1 => if vB n k then vrl n k ++ [k] else vrl n k
def VR (n : Nat) : List Nat := vrl n (fac n)
set_option maxRecDepth 100000 in
theorem ext_vr : ∀ n, n < 6 → extr n 0 0 0 = (VR n).map (codeOf n) := by decide +kernel
set_option maxRecDepth 100000 in
theorem vr_len : ∀ n, n < 6 → (VR n).length ≤ 52 := by decide +kernel
set_option maxRecDepth 100000 in
theorem vr_nd : ∀ n, n < 6 → ((VR n).map (codeOf n)).Nodup := by decide +kernel
theorem vrl_mem (n : Nat) : ∀ k x, x ∈ vrl n k ↔ (x < k ∧ vB n x = true)
  | 0, x => by simp [vrl]
  | k + 1, x => by
    show x ∈ (if vB n k then vrl n k ++ [k] else vrl n k) ↔ _
    cases h : vB n k with
    | true =>
      rw [if_pos rfl, List.mem_append, vrl_mem n k x, List.mem_singleton]
      constructor
      · rintro (⟨a, b⟩ | rfl)
        · exact ⟨by omega, b⟩
        · exact ⟨by omega, h⟩
      · rintro ⟨a, b⟩
        by_cases e : x = k
        · exact Or.inr e
        · exact Or.inl ⟨by omega, b⟩
    | false =>
      rw [if_neg (by decide), vrl_mem n k x]
      constructor
      · rintro ⟨a, b⟩; exact ⟨by omega, b⟩
      · rintro ⟨a, b⟩
        refine ⟨?_, b⟩
        by_cases e : x = k
        · subst e; rw [h] at b; cases b
        · omega
/-- a list laid behind what is there -/
def AP (gm : Nat) (gr gr' : Nat → Int32) (l : List Nat) : Prop := (∀ i, i < gm → gr' i = gr i) ∧ ∀ i x, l[i]? = some x → gr' (gm + i) = nI x
theorem AP.app {gm : Nat} {gr r1 r2 : Nat → Int32} {l1 l2 : List Nat} (h1 : AP gm gr r1 l1) (h2 : AP (gm + l1.length) r1 r2 l2) : AP gm gr r2 (l1 ++ l2) := by
  refine ⟨fun i hi => by rw [h2.1 i (by omega)]; exact h1.1 i hi, fun i x hx => ?_⟩
  by_cases h : i < l1.length
  · rw [List.getElem?_append_left h] at hx
    rw [h2.1 (gm + i) (by omega)]; exact h1.2 i x hx
  · rw [List.getElem?_append_right (by omega)] at hx
    have := h2.2 _ _ hx
    rw [show gm + l1.length + (i - l1.length) = gm + i by omega] at this
    exact this
theorem shl3 : ∀ k, k < 6 → ∀ g, g < 7 → nI g <<< ((3 * nI k) &&& 31) = nI (2 ^ (3 * k) * g) := by decide +kernel
theorem e_dig {c g k : Nat} (hk : k < 6) (hg : g < 7) (hc : c < 8 ^ k) : nI c ||| (nI g <<< ((3 * nI k) &&& 31)) = nI (c + g * 8 ^ k) := by
  have h8 : 8 ^ k = 2 ^ (3 * k) := by rw [show (8 : Nat) = 2 ^ 3 from rfl, ← Nat.pow_mul]
  rw [shl3 k hk g hg, fa_or, Nat.or_comm, ← fa_or, fa_or_sum (k := 3 * k) g (by rw [← h8]; exact hc), h8]
  congr 1
  rw [Nat.mul_comm, Nat.add_comm]
theorem fgr {R : Nat → Int32} {n : Nat} (hn : n ≤ 5) (hR0 : R 0 = nI n) : ∀ (r k c m gm d : Nat) (gr : Nat → Int32), k + r = n → r < d → c < 8 ^ k → m ≤ k → gm + (extr r k c m).length ≤ 52 →
    ∃ gr', f_X11_findGroups d R (nI gm) gr (nI k) (nI c) (nI m) = some (nI (gm + (extr r k c m).length), gr') ∧ AP gm gr gr' (extr r k c m) := by
  intro r
  induction r with
  | zero =>
    intro k c m gm d gr hk hd hc hm hlen
    obtain ⟨d, rfl⟩ : ∃ z, d = z + 1 := ⟨d - 1, by omega⟩
    have hk : k = n := by omega
    subst hk
    have h1 : (extr 0 k c m).length = 1 := rfl
    rw [h1] at hlen ⊢
    refine ⟨upd gr gm (nI c), ?_, fun i hi => u_n (by omega), fun i x hx => ?_⟩
    · show f_X11_findGroups_b _ _ _ _ _ _ _ = _
      unfold f_X11_findGroups_b
      rw [e_farms, bd_s, hR0, if_pos rfl, g_nI (by omega) (by decide), ix_nI (by omega)]
      simp only [lt_]
      rw [← nI_succ]
    · have hx : [c][i]? = some x := hx
      cases i with
      | zero => cases hx; exact u_s _ _ _
      | succ i => cases hx
  | succ r ih =>
    intro k c m gm d gr hk hd hc hm hlen
    obtain ⟨d, rfl⟩ : ∃ z, d = z + 1 := ⟨d - 1, by omega⟩
    have hne : ¬ nI k = nI n := by rw [i_eq (by omega) (by omega)]; omega
    have lp : ∀ (j g gg gm : Nat) (gr : Nat → Int32), g + j = m + 1 → j < gg → gm + ((List.range' g j).flatMap (fun g => extr r (k + 1) (c + g * 8 ^ k) (if g = m then m + 1 else m))).length ≤ 52 →
        ∃ gr', f_X11_findGroups_L32 (f_X11_findGroups d) R gg (nI gm) gr (nI k) (nI c) (nI m) (nI g) = some (nI (gm + ((List.range' g j).flatMap (fun g => extr r (k + 1) (c + g * 8 ^ k) (if g = m then m + 1 else m))).length), gr') ∧ AP gm gr gr' ((List.range' g j).flatMap (fun g => extr r (k + 1) (c + g * 8 ^ k) (if g = m then m + 1 else m))) := by
      intro j
      induction j with
      | zero =>
        intro g gg gm gr hg hgg _
        obtain ⟨gg, rfl⟩ : ∃ z, gg = z + 1 := ⟨gg - 1, by omega⟩
        refine ⟨gr, ?_, fun i hi => rfl, fun i x hx => by cases hx⟩
        show f_X11_findGroups_L32b _ _ _ _ _ _ _ _ _ = _
        unfold f_X11_findGroups_L32b
        rw [if_pos (nI_lt (by omega) (by omega))]
        rfl
      | succ j ih2 =>
        intro g gg gm gr hg hgg hlen
        obtain ⟨gg, rfl⟩ : ∃ z, gg = z + 1 := ⟨gg - 1, by omega⟩
        rw [List.range'_succ, List.flatMap_cons, List.length_append] at hlen ⊢
        have hc8 : c + g * 8 ^ k < 8 ^ (k + 1) := by
          rw [Nat.pow_succ]
          have : g * 8 ^ k ≤ 7 * 8 ^ k := Nat.mul_le_mul_right _ (by omega)
          omega
        have hcode : nI c ||| (nI g <<< ((3 * nI k) &&& 31)) = nI (c + g * 8 ^ k) := e_dig (by omega) (by omega) hc
        obtain ⟨gr1, a1, a2⟩ := ih (k + 1) (c + g * 8 ^ k) (if g = m then m + 1 else m) gm d gr (by omega) (by omega) hc8 (by split <;> omega) (by omega)
        obtain ⟨gr2, b1, b2⟩ := ih2 (g + 1) gg (gm + (extr r (k + 1) (c + g * 8 ^ k) (if g = m then m + 1 else m)).length) gr1 (by omega) (by omega) (by omega)
        refine ⟨gr2, ?_, a2.app b2⟩
        show f_X11_findGroups_L32b _ _ _ _ _ _ _ _ _ = _
        unfold f_X11_findGroups_L32b
        rw [if_neg (nI_nlt (by omega) (by omega)), ifq (by omega) (by omega)]
        unfold f_X11_findGroups_B63
        rw [hcode, ← nI_succ, ← nI_succ]
        rw [Nat.add_assoc] at b1
        by_cases hgm : g = m
        · rw [if_pos hgm] at a1 b1 ⊢
          rw [a1, bd_s]
          simp only [lt_]
          rw [if_pos hgm, ← nI_succ]
          exact b1
        · rw [if_neg hgm] at a1 b1 ⊢
          rw [a1, bd_s]
          simp only [lt_]
          rw [if_neg hgm, ← nI_succ]
          exact b1
    have hx : extr (r + 1) k c m = (List.range' 0 (m + 1)).flatMap (fun g => extr r (k + 1) (c + g * 8 ^ k) (if g = m then m + 1 else m)) := by
      show (List.range (m + 1)).flatMap _ = _
      rw [List.range_eq_range']
    rw [hx] at hlen ⊢
    obtain ⟨gr', a1, a2⟩ := lp (m + 1) 0 FU gm gr (by omega) (by show m + 1 < 5000; omega) hlen
    refine ⟨gr', ?_, a2⟩
    show f_X11_findGroups_b _ _ _ _ _ _ _ = _
    unfold f_X11_findGroups_b
    rw [e_farms, bd_s, hR0, if_neg hne]
    exact a1
theorem e_findGroups {R : Nat → Int32} {n : Nat} (hn : n ≤ 5) (hR0 : R 0 = nI n) (gr : Nat → Int32) : ∃ gr', f_X11_findGroups RU R 0 gr 0 0 0 = some (nI (VR n).length, gr') ∧ ∀ i x, (VR n)[i]? = some x → gr' i = nI (codeOf n x) := by
  have he := ext_vr n (by omega)
  have hl := vr_len n (by omega)
  have hlen : (extr n 0 0 0).length = (VR n).length := by rw [he, List.length_map]
  obtain ⟨gr', a1, a2⟩ := fgr hn hR0 n 0 0 0 0 RU gr (by omega) (by show n < 10; omega) (by decide) (Nat.le_refl _) (by omega)
  rw [Nat.zero_add, hlen] at a1
  refine ⟨gr', a1, fun i x hx => ?_⟩
  have := a2.2 i (codeOf n x) (by rw [he, List.getElem?_map, hx]; rfl)
  rw [Nat.zero_add] at this
  exact this
theorem cn_same {G : Nat → Nat} : ∀ (k : Nat) (e e' : Nat), e < k → e' < k → G e = G e' → (cn G k).1 e = (cn G k).1 e'
  | 0, e, e', h, _, _ => by omega
  | k + 1, e, e', h, h', hG => by
    have one : ∀ a, a < k → G a = G k → (cn G (k + 1)).1 a = (cn G (k + 1)).1 k := by
      intro a ha hGa
      rw [cn_old ha]
      cases hl : lkp G (cn G k).1 k k with
      | none => exact absurd hGa (lkp_none hl a ha)
      | some x =>
        obtain ⟨b, hb, hGb, hx⟩ := lkp_some hl
        rw [cn_s hl]
        show _ = (if k = k then x else _)
        rw [if_pos rfl, hx]
        exact cn_same k a b ha hb (hGa.trans hGb.symm)
    by_cases c1 : e = k
    · by_cases c2 : e' = k
      · rw [c1, c2]
      · rw [c1]; exact (one e' (by omega) (by rw [← hG, c1])).symm
    · by_cases c2 : e' = k
      · rw [c2]; exact one e (by omega) (by rw [hG, c2])
      · rw [cn_old (by omega), cn_old (by omega)]
        exact cn_same k e e' (by omega) (by omega) hG
section WZ
variable {R gr : Nat → Int32} {n row i s : Nat}
/-- the search for an earlier farm in the same group -/
theorem w23 (hn : n ≤ 5) (hs : s < 64) (hi : i < 52) (hgr : gr i = nI (codeOf n row)) (kb : Int32 → Int32 → Int32 → Int32 → Int32 → Option Int32) (nxt : Int32) {k : Nat} (hk : k < n) : ∀ (r e gg : Nat) (l6 : Int32), e + r = k → r < gg → ((l6 = -1 ∧ ∀ a, a < e → Go n row s a ≠ Go n row s k) ∨ ∃ a, a < e ∧ Go n row s a = Go n row s k ∧ l6 = nI ((cn (Go n row s) k).1 a)) →
    ∃ l6', ((l6' = -1 ∧ ∀ a, a < k → Go n row s a ≠ Go n row s k) ∨ ∃ a, a < k ∧ Go n row s a = Go n row s k ∧ l6' = nI ((cn (Go n row s) k).1 a)) ∧
      f_X11_without_L23 kb R gr gg (nI i) (nI s) (nI (cd (cn (Go n row s) k).1 k)) nxt (nI k) l6 (nI e) = (if 0 ≤ l6' then (f_X11_without_B149 kb R gr (nI i) (nI s) nxt (nI k) l6' l6' (nI (cd (cn (Go n row s) k).1 k))) else (f_X11_without_B149 kb R gr (nI i) (nI s) nxt (nI k) l6' nxt (nI (cd (cn (Go n row s) k).1 k)))) := by
  intro r
  induction r with
  | zero =>
    intro e gg l6 he hg hl
    obtain ⟨gg, rfl⟩ : ∃ z, gg = z + 1 := ⟨gg - 1, by omega⟩
    have he : e = k := by omega
    subst he
    refine ⟨l6, hl, ?_⟩
    show f_X11_without_L23b _ _ _ _ _ _ _ _ _ _ _ = _
    unfold f_X11_without_L23b
    rw [if_pos (nI_le (Nat.le_refl _) (by omega))]
  | succ r ih =>
    intro e gg l6 he hg hl
    obtain ⟨gg, rfl⟩ : ∃ z, gg = z + 1 := ⟨gg - 1, by omega⟩
    obtain ⟨hc1, hc2⟩ := cn_lt (G := Go n row s) k
    have hcd := cd_lt (num := (cn (Go n row s) k).1) (k := k) (fun a ha => by have := hc2 a ha; omega)
    have hp8 : 8 ^ k < 2 ^ 31 := p8 k (by omega)
    have hse := sp_le n row e (by omega)
    have hsk := sp_le n row k hk
    -- the two ways on
    have yes : Go n row s e = Go n row s k → ∃ l6', ((l6' = -1 ∧ ∀ a, a < k → Go n row s a ≠ Go n row s k) ∨ ∃ a, a < k ∧ Go n row s a = Go n row s k ∧ l6' = nI ((cn (Go n row s) k).1 a)) ∧ f_X11_without_B117 kb (f_X11_without_L23 kb R gr gg) R gr (nI i) (nI s) (nI (cd (cn (Go n row s) k).1 k)) nxt (nI k) (nI e) = (if 0 ≤ l6' then (f_X11_without_B149 kb R gr (nI i) (nI s) nxt (nI k) l6' l6' (nI (cd (cn (Go n row s) k).1 k))) else (f_X11_without_B149 kb R gr (nI i) (nI s) nxt (nI k) l6' nxt (nI (cd (cn (Go n row s) k).1 k)))) := by
      intro hG
      obtain ⟨l6', a1, a2⟩ := ih (e + 1) gg (nI ((cn (Go n row s) k).1 e)) (by omega) (by omega) (Or.inr ⟨e, by omega, hG, rfl⟩)
      refine ⟨l6', a1, ?_⟩
      unfold f_X11_without_B117 f_X11_without_B128
      rw [e_groupOf (by omega) (by omega), bd_s, cd_dig (fun a ha => by have := hc2 a ha; omega) e (by omega)]
      simp only [lt_]
      rw [← nI_succ]
      exact a2
    have no : Go n row s e ≠ Go n row s k → ∃ l6', ((l6' = -1 ∧ ∀ a, a < k → Go n row s a ≠ Go n row s k) ∨ ∃ a, a < k ∧ Go n row s a = Go n row s k ∧ l6' = nI ((cn (Go n row s) k).1 a)) ∧ f_X11_without_B128 kb (f_X11_without_L23 kb R gr gg) R gr (nI i) (nI s) (nI (cd (cn (Go n row s) k).1 k)) nxt (nI k) (nI e) l6 = (if 0 ≤ l6' then (f_X11_without_B149 kb R gr (nI i) (nI s) nxt (nI k) l6' l6' (nI (cd (cn (Go n row s) k).1 k))) else (f_X11_without_B149 kb R gr (nI i) (nI s) nxt (nI k) l6' nxt (nI (cd (cn (Go n row s) k).1 k)))) := by
      intro hG
      obtain ⟨l6', a1, a2⟩ := ih (e + 1) gg l6 (by omega) (by omega) (by
        rcases hl with ⟨q1, q2⟩ | ⟨a, q1, q2, q3⟩
        · refine Or.inl ⟨q1, fun a ha => ?_⟩
          by_cases h : a = e
          · rw [h]; exact hG
          · exact q2 a (by omega)
        · exact Or.inr ⟨a, by omega, q2, q3⟩)
      refine ⟨l6', a1, ?_⟩
      unfold f_X11_without_B128
      simp only [lt_]
      rw [← nI_succ]
      exact a2
    have bit1 : ∀ {f : Nat}, f < 6 → (((nI s >>> (nI f &&& 31)) &&& 1) = 1 ↔ s.testBit f = true) := fun {f} hf => mk_bit s hs f hf
    have bit0 : ∀ {f : Nat}, f < 6 → (((nI s >>> (nI f &&& 31)) &&& 1) = 0 ↔ ¬ s.testBit f = true) := by
      intro f hf
      have : ∀ s, s < 64 → ∀ f, f < 6 → (((nI s >>> (nI f &&& 31)) &&& 1) = 0 ↔ ¬ s.testBit f = true) := by decide +kernel
      exact this s hs f hf
    have gk : Go n row s k = if s.testBit k then 5 else sp n row k := rfl
    have ge : Go n row s e = if s.testBit e then 5 else sp n row e := rfl
    show ∃ l6', _ ∧ f_X11_without_L23b _ _ _ _ _ _ _ _ _ _ _ = _
    unfold f_X11_without_L23b
    rw [if_neg (nI_ge (by omega) (by omega))]
    unfold f_X11_without_B54 f_X11_without_B55
    by_cases bk : s.testBit k = true
    · rw [if_pos ((bit1 (by omega)).mpr bk), if_neg (fun q => (bit0 (by omega)).mp q bk), if_neg (fun q => (bit0 (by omega)).mp q bk)]
      unfold f_X11_without_B104 f_X11_without_B105
      rw [if_pos bk] at gk
      by_cases be : s.testBit e = true
      · rw [if_pos ((bit1 (by omega)).mpr be), if_neg z10]
        rw [if_pos be] at ge
        exact yes (ge.trans gk.symm)
      · rw [if_neg (fun q => be ((bit1 (by omega)).mp q)), if_pos z00, if_pos z00]
        rw [if_neg be] at ge
        exact no (by rw [ge, gk]; omega)
    · rw [if_neg (fun q => bk ((bit1 (by omega)).mp q)), if_pos ((bit0 (by omega)).mpr bk)]
      rw [if_neg bk] at gk
      by_cases be : s.testBit e = true
      · rw [if_neg (fun q => (bit0 (by omega)).mp q be)]
        unfold f_X11_without_B104 f_X11_without_B105
        rw [if_pos z00, if_pos z00]
        rw [if_pos be] at ge
        exact no (by rw [ge, gk]; omega)
      · rw [if_pos ((bit0 (by omega)).mpr be), g_nI (by omega) (by decide), ix_nI (by omega), hgr, code_dig hn hk, bd_s, g_nI (by omega) (by decide), code_dig hn (by omega), bd_s, ifq (by omega) (by omega)]
        rw [if_neg be] at ge
        unfold f_X11_without_B104 f_X11_without_B105
        by_cases hq : sp n row k = sp n row e
        · rw [if_pos hq, if_pos z00, if_neg z10]
          exact yes (by rw [ge, gk, hq])
        · rw [if_neg hq, if_pos z00, if_pos z00]
          exact no (by rw [ge, gk]; exact fun z => hq z.symm)
/-- where the row lies in the list -/
theorem w180 (hgr : ∀ j x, (VR n)[j]? = some x → gr j = nI (codeOf n x)) (hn : n ≤ 5) {w j0 : Nat} (hw : (VR n)[j0]? = some w) : ∀ (r j gg : Nat), j + r = j0 → r < gg → f_X11_without_L180 R gr gg (nI (codeOf n w)) (nI j) = some (nI j0) := by
  have hl := vr_len n (by omega)
  have hj0 : j0 < (VR n).length := (List.getElem?_eq_some_iff.mp hw).1
  intro r
  induction r with
  | zero =>
    intro j gg hj hg
    obtain ⟨gg, rfl⟩ : ∃ z, gg = z + 1 := ⟨gg - 1, by omega⟩
    have hj : j = j0 := by omega
    subst hj
    show f_X11_without_L180b _ _ _ _ _ = _
    unfold f_X11_without_L180b
    rw [g_nI (by omega) (by decide), ix_nI (by omega), hgr j w hw, if_pos rfl]
  | succ r ih =>
    intro j gg hj hg
    obtain ⟨gg, rfl⟩ : ∃ z, gg = z + 1 := ⟨gg - 1, by omega⟩
    have hx : (VR n)[j]? = some (VR n)[j] := List.getElem?_eq_getElem (by omega)
    have hne : ¬ codeOf n (VR n)[j] = codeOf n w := by
      intro q
      have h1 : ((VR n).map (codeOf n))[j]? = ((VR n).map (codeOf n))[j0]? := by
        rw [List.getElem?_map, List.getElem?_map, hx, hw]
        show some _ = some _
        rw [q]
      have := (List.getElem?_inj (by rw [List.length_map]; omega) (vr_nd n (by omega))).mp h1
      omega
    show f_X11_without_L180b _ _ _ _ _ = _
    unfold f_X11_without_L180b
    rw [g_nI (by omega) (by decide), ix_nI (by omega), hgr j _ hx, if_neg (by rw [i_eq (code_lt hn) (code_lt hn)]; exact hne)]
    simp only [lt_]
    rw [← nI_succ]
    exact ih (j + 1) gg (by omega) (by omega)
theorem wo_in {n row s : Nat} : ∃ j : Nat, (VR n)[j]? = some (wo n row s) := by
  have : wo n row s ∈ VR n := (vrl_mem n (fac n) _).mpr ⟨wo_lt, wo_v⟩
  obtain ⟨j, hj, e⟩ := List.mem_iff_getElem.mp this
  exact ⟨j, by rw [List.getElem?_eq_getElem hj, e]⟩
theorem e_without (hn : n ≤ 5) (hR0 : R 0 = nI n) (hs : s < 64) (hgr : ∀ j x, (VR n)[j]? = some x → gr j = nI (codeOf n x)) (hi : (VR n)[i]? = some row) : ∃ j, (VR n)[j]? = some (wo n row s) ∧ f_X11_without R gr (nI i) (nI s) = some (nI j) := by
  have hl := vr_len n (by omega)
  have hi52 : i < (VR n).length := (List.getElem?_eq_some_iff.mp hi).1
  obtain ⟨j, hj⟩ := wo_in (n := n) (row := row) (s := s)
  refine ⟨j, hj, ?_⟩
  have hj52 : j < (VR n).length := (List.getElem?_eq_some_iff.mp hj).1
  have hcode : codeOf n (wo n row s) = cd (cn (Go n row s) n).1 n := by
    unfold codeOf
    exact cd_cong (fun a ha => wo_sp ha)
  have lp : ∀ (r k gg : Nat), k + r = n → r < gg → f_X11_without_L8 R gr gg (nI i) (nI s) (nI (cd (cn (Go n row s) k).1 k)) (nI (cn (Go n row s) k).2) (nI k) = some (nI j) := by
    intro r
    induction r with
    | zero =>
      intro k gg hk hg
      obtain ⟨gg, rfl⟩ : ∃ z, gg = z + 1 := ⟨gg - 1, by omega⟩
      have hk : k = n := by omega
      subst hk
      show f_X11_without_L8b _ _ _ _ _ _ _ _ = _
      unfold f_X11_without_L8b
      rw [e_farms, bd_s, hR0, if_pos (nI_le (Nat.le_refl _) (by omega)), ← hcode]
      exact w180 hgr hn hj j 0 FU (by omega) (by show j < 5000; omega)
    | succ r ih =>
      intro k gg hk hg
      obtain ⟨gg, rfl⟩ : ∃ z, gg = z + 1 := ⟨gg - 1, by omega⟩
      have hi' := ih (k + 1) gg (by omega) (by omega)
      obtain ⟨hc1, hc2⟩ := cn_lt (G := Go n row s) k
      have hcd := cd_lt (num := (cn (Go n row s) k).1) (k := k) (fun a ha => by have := hc2 a ha; omega)
      have hcs : ∀ num : Nat → Nat, (∀ a, a < k → num a = (cn (Go n row s) k).1 a) → cd num (k + 1) = cd (cn (Go n row s) k).1 k + num k * 8 ^ k := by
        intro num h
        show cd num k + num k * 8 ^ k = _
        rw [cd_cong h]
      obtain ⟨l6, q1, q2⟩ := w23 (R := R) (gr := gr) (i := i) (s := s) (row := row) hn hs (by omega) (hgr i row hi) (f_X11_without_L8 R gr gg) (nI (cn (Go n row s) k).2) (k := k) (by omega) k 0 FU (-1) (by omega) (by show k < 5000; omega) (Or.inl ⟨rfl, fun a ha => absurd ha (by omega)⟩)
      show f_X11_without_L8b _ _ _ _ _ _ _ _ = _
      unfold f_X11_without_L8b
      rw [e_farms, bd_s, hR0, if_neg (nI_ge (by omega) (by omega))]
      refine q2.trans ?_
      rcases q1 with ⟨rfl, hno⟩ | ⟨a, ha, hGa, rfl⟩
      · have hlk : lkp (Go n row s) (cn (Go n row s) k).1 k k = none := by
          cases h : lkp (Go n row s) (cn (Go n row s) k).1 k k with
          | none => rfl
          | some x =>
            obtain ⟨b, hb, hGb, -⟩ := lkp_some h
            exact absurd hGb (hno b hb)
        have hcn := cn_n hlk
        have hnum : (cn (Go n row s) (k + 1)).1 k = (cn (Go n row s) k).2 := by rw [hcn]; show (if k = k then _ else _) = _; rw [if_pos rfl]
        have hnxt : (cn (Go n row s) (k + 1)).2 = (cn (Go n row s) k).2 + 1 := by rw [hcn]
        rw [hcs (cn (Go n row s) (k + 1)).1 (fun a ha => cn_old ha), hnum, hnxt] at hi'
        rw [if_neg (by decide)]
        unfold f_X11_without_B149
        show (if (0 : Int32) ≤ -1 then f_X11_without_B168 (f_X11_without_L8 R gr gg) R gr (nI i) (nI s) (nI (cd (cn (Go n row s) k).fst k) ||| nI (cn (Go n row s) k).snd <<< (3 * nI k &&& 31)) (nI k) 0 (nI (cn (Go n row s) k).snd) else f_X11_without_B168 (f_X11_without_L8 R gr gg) R gr (nI i) (nI s) (nI (cd (cn (Go n row s) k).fst k) ||| nI (cn (Go n row s) k).snd <<< (3 * nI k &&& 31)) (nI k) 1 (nI (cn (Go n row s) k).snd)) = _
        rw [if_neg (by decide)]
        unfold f_X11_without_B168
        simp only [lt_]
        rw [e_dig (by omega) (by omega) hcd, ← nI_succ, ← nI_succ]
        exact hi'
      · obtain ⟨x, hx⟩ : ∃ x, lkp (Go n row s) (cn (Go n row s) k).1 k k = some x := by
          cases h : lkp (Go n row s) (cn (Go n row s) k).1 k k with
          | none => exact absurd hGa (lkp_none h a ha)
          | some x => exact ⟨x, rfl⟩
        obtain ⟨b, hb, hGb, hxb⟩ := lkp_some hx
        have hsame : (cn (Go n row s) k).1 a = x := by rw [hxb]; exact cn_same k a b ha hb (hGa.trans hGb.symm)
        have hxl := hc2 a ha
        have hcn := cn_s hx
        have hnum : (cn (Go n row s) (k + 1)).1 k = x := by rw [hcn]; show (if k = k then _ else _) = _; rw [if_pos rfl]
        have hnxt : (cn (Go n row s) (k + 1)).2 = (cn (Go n row s) k).2 := by rw [hcn]
        rw [hcs (cn (Go n row s) (k + 1)).1 (fun a ha => cn_old ha), hnum, hnxt] at hi'
        rw [hsame] at hxl ⊢
        rw [if_pos (nI_pos' (by omega))]
        unfold f_X11_without_B149
        show (if (0 : Int32) ≤ nI x then f_X11_without_B168 (f_X11_without_L8 R gr gg) R gr (nI i) (nI s) (nI (cd (cn (Go n row s) k).fst k) ||| nI x <<< (3 * nI k &&& 31)) (nI k) 0 (nI (cn (Go n row s) k).snd) else _) = _
        rw [if_pos (nI_pos' (by omega))]
        unfold f_X11_without_B168
        simp only [lt_]
        rw [e_dig (by omega) (by omega) hcd, Int32.add_zero, ← nI_succ]
        exact hi'
  exact lp n 0 FU (by omega) (by show n < 5000; omega)
/-- firm, by the reference -/
theorem e_isFirm (hn : n ≤ 5) (hR0 : R 0 = nI n) (hgr : ∀ j x, (VR n)[j]? = some x → gr j = nI (codeOf n x)) {lo : Nat → Nat → Int32} {gl : Nat → Int32} (hgl : ∀ j x, (VR n)[j]? = some x → ∀ f, f < n → gl (5 * j + f) = lo x f) (hi : (VR n)[i]? = some row) : f_X11_isFirm R gr gl (nI i) = some (if fB lo n row (2 ^ n) then 1 else 0) := by
  have hl := vr_len n (by omega)
  have hi52 : i < (VR n).length := (List.getElem?_eq_some_iff.mp hi).1
  obtain ⟨hp1, hp2⟩ := p2n n (by omega)
  -- the farms of a set
  have in_ : ∀ (s j : Nat) (kb : Int32 → Int32 → Option Int32), s < 64 → (VR n)[j]? = some (wo n row s) → ∀ (r k gg : Nat), k + r = n → r < gg → f_X11_isFirm_L25 kb R gr gl gg (nI i) (nI s) (nI j) (if wl lo n row s k then 1 else 0) (nI k) = if wl lo n row s n then some 0 else kb (nI i) (nI (s + 1)) := by
    intro s j kb hs hj r
    have hj52 : j < (VR n).length := (List.getElem?_eq_some_iff.mp hj).1
    induction r with
    | zero =>
      intro k gg hk hg
      obtain ⟨gg, rfl⟩ : ∃ z, gg = z + 1 := ⟨gg - 1, by omega⟩
      have hk : k = n := by omega
      subst hk
      show f_X11_isFirm_L25b _ _ _ _ _ _ _ _ _ _ = _
      unfold f_X11_isFirm_L25b
      rw [e_farms, bd_s, hR0, if_pos (nI_le (Nat.le_refl _) (by omega))]
      cases wl lo k row s k
      · simp only [lt_]
        rw [← nI_succ]
        rfl
      · rfl
    | succ r ih =>
      intro k gg hk hg
      obtain ⟨gg, rfl⟩ : ∃ z, gg = z + 1 := ⟨gg - 1, by omega⟩
      have hi' := ih (k + 1) gg (by omega) (by omega)
      have hsx : wl lo n row s (k + 1) = (wl lo n row s k && (!s.testBit k || decide (lo (wo n row s) k < lo row k))) := rfl
      rw [hsx] at hi'
      show f_X11_isFirm_L25b _ _ _ _ _ _ _ _ _ _ = _
      unfold f_X11_isFirm_L25b
      rw [e_farms, bd_s, hR0, if_neg (nI_ge (by omega) (by omega))]
      simp only [f_X11_isFirm_B77, f_X11_isFirm_B73, f_X11_isFirm_B78, lt_]
      rw [← nI_succ]
      cases hw : wl lo n row s k with
      | false =>
        rw [hw] at hi'
        exact hi'
      | true =>
        rw [hw] at hi'
        simp only [if_true]
        rw [if_neg z10]
        have bit0 : (((nI s >>> (nI k &&& 31)) &&& 1) = 0 ↔ ¬ s.testBit k = true) := by
          have : ∀ s, s < 64 → ∀ f, f < 6 → (((nI s >>> (nI f &&& 31)) &&& 1) = 0 ↔ ¬ s.testBit f = true) := by decide +kernel
          exact this s hs k (by omega)
        by_cases hb : s.testBit k = true
        · have e1 : (5 * nI j) + nI k = nI (5 * j + k) := by rw [show (5 : Int32) = nI 5 from rfl, i_mul, i_add]
          have e2 : (5 * nI i) + nI k = nI (5 * i + k) := by rw [show (5 : Int32) = nI 5 from rfl, i_mul, i_add]
          rw [if_neg (fun q => bit0.mp q hb), e1, e2, g_nI (by omega) (by decide), g_nI (by omega) (by decide), ix_nI (by omega), ix_nI (by omega), hgl i row hi k (by omega), hgl j _ hj k (by omega)]
          rw [hb] at hi'
          by_cases hc : lo (wo n row s) k < lo row k
          · rw [if_neg (fa_of_lt hc).2.1]
            rw [decide_eq_true hc] at hi'
            exact hi'
          · rw [if_pos (fa_of_nlt hc)]
            rw [decide_eq_false hc] at hi'
            exact hi'
        · rw [if_pos (bit0.mpr hb)]
          rw [ts_nt hb] at hi'
          exact hi'
  have lp : ∀ (r s gg : Nat), s + r = 2 ^ n → r < gg → 1 ≤ s → fB lo n row s = true → f_X11_isFirm_L2 R gr gl gg (nI i) (nI s) = some (if fB lo n row (2 ^ n) then 1 else 0) := by
    intro r
    induction r with
    | zero =>
      intro s gg hs hg h1 ht
      obtain ⟨gg, rfl⟩ : ∃ z, gg = z + 1 := ⟨gg - 1, by omega⟩
      have hs : s = 2 ^ n := by omega
      show f_X11_isFirm_L2b _ _ _ _ _ _ = _
      unfold f_X11_isFirm_L2b
      rw [e_farms, bd_s, hR0, hp1, if_pos (nI_le (by omega) (by omega)), ← hs, ht]
      rfl
    | succ r ih =>
      intro s gg hs hg h1 ht
      obtain ⟨gg, rfl⟩ : ∃ z, gg = z + 1 := ⟨gg - 1, by omega⟩
      obtain ⟨j, hj, hjw⟩ := e_without (s := s) hn hR0 (by omega) hgr hi
      have hq := in_ s j (f_X11_isFirm_L2 R gr gl gg) (by omega) hj n 0 FU (by omega) (by show n < 5000; omega)
      have hsx : fB lo n row (s + 1) = (fB lo n row s && (decide (s = 0) || !wl lo n row s n)) := rfl
      show f_X11_isFirm_L2b _ _ _ _ _ _ = _
      unfold f_X11_isFirm_L2b
      rw [e_farms, bd_s, hR0, hp1, if_neg (nI_ge (by omega) (by omega)), hjw, bd_s]
      refine Eq.trans hq ?_
      cases hc : wl lo n row s n with
      | false => exact ih (s + 1) gg (by omega) (by omega) (by omega) (by rw [hsx, ht, hc]; simp)
      | true =>
        have : fB lo n row (2 ^ n) = false := fB_no (j := s + 1) (by rw [hsx, hc]; simp; omega) (by omega)
        rw [this]
        rfl
  have hpow : 0 < 2 ^ n := Nat.pow_pos (by decide)
  exact lp (2 ^ n - 1) 1 FU (by omega) (by show 2 ^ n - 1 < 5000; omega) (Nat.le_refl _) rfl
end WZ
