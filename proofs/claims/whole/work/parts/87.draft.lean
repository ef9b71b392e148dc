/-! PURE 38: a mountain that is being read, at both -/
def sh (R : Nat → Int32) : Nat → Int32 := fun k => R (1000 + k)
theorem sh_u (R : Nat → Int32) (j : Nat) (x : Int32) : sh (upd R (1000 + j) x) = upd (sh R) j x := by
  funext k
  unfold sh
  by_cases h : k = j
  · rw [h, u_s, u_s]
  · rw [u_n (by omega), u_n h]
theorem mk_set : ∀ m, m < 64 → ∀ e, e < 6 → nI m ||| nI (2 ^ e) = nI (m ||| 2 ^ e) ∧ m ||| 2 ^ e < 64 := by decide +kernel
theorem mk_setb : ∀ m, m < 64 → ∀ e, e < 6 → ∀ i, i < 6 → (m ||| 2 ^ e).testBit i = (if i = e then true else m.testBit i) := by decide +kernel
theorem Mk.set {x : Int32} {p : Nat → Bool} (h : Mk x p) {y : Int32} {e : Nat} (hy : y = nI e) (he : e < 6) : Mk (x ||| (1 <<< (y &&& 31))) (fun i => if i = e then true else p i) := by
  obtain ⟨m, hm, rfl, hp⟩ := h
  refine ⟨m ||| 2 ^ e, (mk_set m hm e he).2, by rw [hy, mk_one e he, (mk_set m hm e he).1], fun i hi => ?_⟩
  rw [mk_setb m hm e he i hi, hp i hi]
def DF (T : Nat → Int32) (n : Nat) (nc nr : Nat → Int64) (flock dogs hunger : Nat → Int32) : Prop := n ≤ 6 ∧ T 0 = nI n ∧ NMR n nc nr ∧ ∀ f, f < n → (flock f = T (8 + 7 * f) ∧ ∃ x, x ≤ 9999 ∧ T (8 + 7 * f) = nI x) ∧ (dogs f = T (9 + 7 * f) ∧ ∃ x, x ≤ 9 ∧ T (9 + 7 * f) = nI x) ∧ (hunger f = T (10 + 7 * f) ∧ ∃ x, x ≤ 99 ∧ T (10 + 7 * f) = nI x)
def DP (T : Nat → Int32) (n : Nat) (partner : Nat → Int32) (shares : Int32) : Prop := (∀ f, f < 6 → (T (14 + 7 * f) = 0 ∧ partner f = -1) ∨ ∃ e, f < n ∧ e < n ∧ T (14 + 7 * f) = nI (e + 1) ∧ partner f = nI e) ∧ shares = nI (rs (fun a => c01 (T (14 + 7 * a))) 6)
def DO (T often : Nat → Int32) : Prop := ∀ f k, f < 6 → k < 4 → often (4 * f + k) = T (50 + 4 * f + k) ∧ ∃ t, t ≤ 9 ∧ T (50 + 4 * f + k) = nI t
def DX (o : Nat) (T : Nat → Int32) (n : Nat) (msk : Nat → Int32) (V : Nat → Nat → Int32 → Prop) : Prop := (∀ a, a < 6 → Mk (msk a) (fun e => decide (T (o + 6 * a + e) ≠ 0))) ∧ (∀ a e, a < 6 → e < 6 → T (o + 6 * a + e) = 0 ∨ (a < n ∧ e < n ∧ e ≠ a ∧ V a e (T (o + 6 * a + e)))) ∧ ∀ a e, a < 6 → e < 6 → T (o + 6 * a + e) = T (o + 6 * e + a)
def DC (T : Nat → Int32) (fences : Int32) : Prop := fences = nI (tri (fun a e => c01 (T (74 + 6 * a + e))) 6)
def hV (heights : Nat → Int32) (a e : Nat) (x : Int32) : Prop := ∃ h, h ≤ 99 ∧ x = nI (h + 1) ∧ heights (6 * a + e) = nI h
def zc (k : Nat) : Prop := k = 1 ∨ k = 2 ∨ k = 3 ∨ k = 4 ∨ k = 7 ∨ 146 ≤ k ∨ (8 ≤ k ∧ k < 50 ∧ 3 ≤ (k - 8) % 7 ∧ (k - 8) % 7 ≤ 5)
def DZ (T : Nat → Int32) : Prop := ∀ k, k < 1000 → zc k → T k = 0
section DD
variable {T T' : Nat → Int32} {n : Nat} {nc nr : Nat → Int64} {flock dogs hunger partner often msk : Nat → Int32} {shares fences : Int32} {V V' : Nat → Nat → Int32 → Prop} {o : Nat}
theorem DF.fr (h : DF T n nc nr flock dogs hunger) (hk : ∀ k, k = 0 ∨ (8 ≤ k ∧ k < 50 ∧ (k - 8) % 7 ≤ 2) → T' k = T k) : DF T' n nc nr flock dogs hunger := by
  obtain ⟨h1, h2, h3, h4⟩ := h
  refine ⟨h1, by rw [hk 0 (Or.inl rfl)]; exact h2, h3, fun f hf => ?_⟩
  rw [hk (8 + 7 * f) (by omega), hk (9 + 7 * f) (by omega), hk (10 + 7 * f) (by omega)]
  exact h4 f hf
theorem DP.fr (h : DP T n partner shares) (hk : ∀ k, 8 ≤ k ∧ k < 50 ∧ (k - 8) % 7 = 6 → T' k = T k) : DP T' n partner shares := by
  refine ⟨fun f hf => by rw [hk (14 + 7 * f) (by omega)]; exact h.1 f hf, ?_⟩
  rw [h.2]
  exact congrArg nI (rs_cong (fun a ha => by rw [hk (14 + 7 * a) (by omega)]))
theorem DO.fr (h : DO T often) (hk : ∀ k, 50 ≤ k ∧ k < 74 → T' k = T k) : DO T' often := fun f k hf hk4 => by
  rw [hk (50 + 4 * f + k) (by omega)]
  exact h f k hf hk4
theorem DX.fr (h : DX o T n msk V) (hk : ∀ k, o ≤ k ∧ k < o + 36 → T' k = T k) : DX o T' n msk V := by
  obtain ⟨h1, h2, h3⟩ := h
  refine ⟨fun a ha => (h1 a ha).cong (fun e he => by rw [hk (o + 6 * a + e) (by omega)]), fun a e ha he => by rw [hk (o + 6 * a + e) (by omega)]; exact h2 a e ha he, fun a e ha he => by rw [hk (o + 6 * a + e) (by omega), hk (o + 6 * e + a) (by omega)]; exact h3 a e ha he⟩
theorem DC.fr (h : DC T fences) (hk : ∀ k, 74 ≤ k ∧ k < 110 → T' k = T k) : DC T' fences := by
  unfold DC at h ⊢
  rw [h]
  exact congrArg nI (tri_cong (fun a e ha he => by rw [hk (74 + 6 * a + e) (by omega)]))
theorem DZ.fr (h : DZ T) (hk : ∀ k, zc k → T' k = T k) : DZ T' := fun k h1 h2 => by rw [hk k h2]; exact h k h1 h2
theorem DP.up (h : DP T n partner shares) : DP T (n + 1) partner shares := ⟨fun f hf => by
  rcases h.1 f hf with q | ⟨e, e1, e2, e3⟩
  · exact Or.inl q
  · exact Or.inr ⟨e, by omega, by omega, e3⟩, h.2⟩
theorem DX.up (h : DX o T n msk V) : DX o T (n + 1) msk V := ⟨h.1, fun a e ha he => by
  rcases h.2.1 a e ha he with q | ⟨e1, e2, e3⟩
  · exact Or.inl q
  · exact Or.inr ⟨by omega, by omega, e3⟩, h.2.2⟩
theorem DX.add (h : DX o T n msk V) {a b : Nat} (ha : a < n) (hb : b < n) (hn : n ≤ 6) (hab : a ≠ b) {z : Int32} (hz : z ≠ 0) (v1 : V' a b z) (v2 : V' b a z) (v3 : ∀ c e x, ¬ (c = a ∧ e = b) → ¬ (c = b ∧ e = a) → c < 6 → e < 6 → V c e x → V' c e x) : DX o (upd (upd T (o + 6 * a + b) z) (o + 6 * b + a) z) n (upd (upd msk a (msk a ||| (1 <<< (nI b &&& 31)))) b (msk b ||| (1 <<< (nI a &&& 31)))) V' := by
  obtain ⟨h1, h2, h3⟩ := h
  have out : ∀ c e, c < 6 → e < 6 → ¬ (c = a ∧ e = b) → ¬ (c = b ∧ e = a) → upd (upd T (o + 6 * a + b) z) (o + 6 * b + a) z (o + 6 * c + e) = T (o + 6 * c + e) := by
    intro c e hc he q1 q2
    rw [u_n (by omega), u_n (by omega)]
  have inb : upd (upd T (o + 6 * a + b) z) (o + 6 * b + a) z (o + 6 * b + a) = z := u_s _ _ _
  have ina : upd (upd T (o + 6 * a + b) z) (o + 6 * b + a) z (o + 6 * a + b) = z := by rw [u_n (by omega), u_s]
  refine ⟨fun c hc => ?_, fun c e hc he => ?_, fun c e hc he => ?_⟩
  · by_cases hcb : c = b
    · subst hcb
      rw [u_s]
      refine ((h1 c hc).set (y := nI a) rfl (by omega)).cong fun e he => ?_
      show decide (upd (upd T (o + 6 * a + c) z) (o + 6 * c + a) z (o + 6 * c + e) ≠ 0) = if e = a then true else decide (T (o + 6 * c + e) ≠ 0)
      by_cases hea : e = a
      · rw [hea, if_pos rfl, inb]; exact decide_eq_true hz
      · rw [if_neg hea, out c e hc he (by omega) (by omega)]
    · rw [u_n hcb]
      by_cases hca : c = a
      · subst hca
        rw [u_s]
        refine ((h1 c hc).set (y := nI b) rfl (by omega)).cong fun e he => ?_
        show decide (upd (upd T (o + 6 * c + b) z) (o + 6 * b + c) z (o + 6 * c + e) ≠ 0) = if e = b then true else decide (T (o + 6 * c + e) ≠ 0)
        by_cases hea : e = b
        · rw [hea, if_pos rfl, ina]; exact decide_eq_true hz
        · rw [if_neg hea, out c e hc he (by omega) (by omega)]
      · rw [u_n hca]
        exact (h1 c hc).cong fun e he => by rw [out c e hc he (by omega) (by omega)]
  · by_cases q1 : c = a ∧ e = b
    · obtain ⟨rfl, rfl⟩ := q1
      rw [ina]
      exact Or.inr ⟨ha, hb, fun q => hab q.symm, v1⟩
    · by_cases q2 : c = b ∧ e = a
      · obtain ⟨rfl, rfl⟩ := q2
        rw [inb]
        exact Or.inr ⟨hb, ha, hab, v2⟩
      · rw [out c e hc he q1 q2]
        rcases h2 c e hc he with q | ⟨e1, e2, e3, e4⟩
        · exact Or.inl q
        · exact Or.inr ⟨e1, e2, e3, v3 c e _ q1 q2 hc he e4⟩
  · by_cases q1 : c = a ∧ e = b
    · obtain ⟨rfl, rfl⟩ := q1
      rw [ina, inb]
    · by_cases q2 : c = b ∧ e = a
      · obtain ⟨rfl, rfl⟩ := q2
        rw [ina, inb]
      · rw [out c e hc he q1 q2, out e c he hc (by omega) (by omega)]
        exact h3 c e hc he
theorem tri_add (f g : Nat → Nat → Nat) : ∀ k, tri (fun a e => f a e + g a e) k = tri f k + tri g k
  | 0 => rfl
  | k + 1 => by
    show tri (fun a e => f a e + g a e) k + rs (fun i => f k i + g k i) k = (tri f k + rs (f k) k) + (tri g k + rs (g k) k)
    rw [tri_add f g k, rs_add]
    omega
theorem tri_one : ∀ p, p < 6 → ∀ q, q < 6 → p ≠ q → tri (fun x y => if (x = p ∧ y = q) ∨ (x = q ∧ y = p) then 1 else 0) 6 = 1 := by decide +kernel
theorem rs_one : ∀ p, p < 6 → rs (fun x => if x = p then 1 else 0) 6 = 1 := by decide +kernel
theorem DC.add (h : DC T fences) {a b : Nat} (ha : a < 6) (hb : b < 6) (hab : a ≠ b) {z : Int32} (hz : ¬ z ≤ 0) (h1 : T (74 + 6 * a + b) = 0) (h2 : T (74 + 6 * b + a) = 0) : DC (upd (upd T (74 + 6 * a + b) z) (74 + 6 * b + a) z) (fences + 1) := by
  unfold DC at h ⊢
  have e : tri (fun x y => c01 (upd (upd T (74 + 6 * a + b) z) (74 + 6 * b + a) z (74 + 6 * x + y))) 6 = tri (fun x y => c01 (T (74 + 6 * x + y)) + (if (x = a ∧ y = b) ∨ (x = b ∧ y = a) then 1 else 0)) 6 := by
    refine tri_cong (fun x y hx hy => ?_)
    have cz : c01 z = 1 := by unfold c01; rw [if_neg hz]
    have c0 : c01 0 = 0 := by unfold c01; rw [if_pos (by decide)]
    by_cases q : (x = a ∧ y = b) ∨ (x = b ∧ y = a)
    · rw [if_pos q]
      rcases q with ⟨rfl, rfl⟩ | ⟨rfl, rfl⟩
      · rw [u_n (by omega), u_s, h1, cz, c0]
      · rw [u_s, h2, cz, c0]
    · rw [if_neg q, u_n (by omega), u_n (by omega), Nat.add_zero]
  rw [e, tri_add, tri_one a ha b hb hab, h, show (1 : Int32) = nI 1 from rfl, i_add]
theorem DP.add (h : DP T n partner shares) {a b : Nat} (ha : a < n) (hb : b < n) (hn : n ≤ 6) (h1 : T (14 + 7 * a) = 0) : DP (upd T (14 + 7 * a) (nI (b + 1))) n (upd partner a (nI b)) (shares + 1) := by
  obtain ⟨p1, p2⟩ := h
  refine ⟨fun f hf => ?_, ?_⟩
  · by_cases q : f = a
    · subst q
      rw [u_s, u_s]
      exact Or.inr ⟨b, ha, hb, rfl, rfl⟩
    · rw [u_n (by omega), u_n q]
      exact p1 f hf
  · have e : rs (fun x => c01 (upd T (14 + 7 * a) (nI (b + 1)) (14 + 7 * x))) 6 = rs (fun x => c01 (T (14 + 7 * x)) + (if x = a then 1 else 0)) 6 := by
      refine rs_cong (fun x hx => ?_)
      have cz : c01 (nI (b + 1)) = 1 := by unfold c01; rw [if_neg (nI_nle (by omega) (by omega))]
      have c0 : c01 0 = 0 := by unfold c01; rw [if_pos (by decide)]
      by_cases q : x = a
      · rw [if_pos q, q, u_s, h1, cz, c0]
      · rw [if_neg q, u_n (by omega), Nat.add_zero]
    rw [e, rs_add, rs_one a (by omega), p2, show (1 : Int32) = nI 1 from rfl, i_add]
end DD
