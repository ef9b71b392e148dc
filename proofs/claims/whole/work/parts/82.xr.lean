/-! PURE 33: an E at both -/
/-- an E, at both: the class's step x, the reference's n codes from p on -/
def XR (feed : Bool) (ks ls rs : Nat → Int32) (m x : Nat) (o ar : Nat → Int32) (p n : Nat) : Prop := x < m ∧ ∀ cf rf, (∀ k j, FA feed k j → cf k = rf j) → ∃ v, CE ks ls rs m cf x v ∧ ME o ar rf p n v
theorem XR.ext {feed : Bool} {ks ls rs ks' ls' rs' o ar o' ar' : Nat → Int32} {m m' x p n : Nat} (h : XR feed ks ls rs m x o ar p n) (h1 : EXT ks ls rs m ks' ls' rs' m') (h2 : ∀ k, k < p + n → o' k = o k ∧ ar' k = ar k) : XR feed ks' ls' rs' m' x o' ar' p n :=
  ⟨Nat.lt_of_lt_of_le h.1 h1.1, fun cf rf hf => by
    obtain ⟨v, a, b⟩ := h.2 cf rf hf
    exact ⟨v, a.ext h1, ME_sh (fun k hk => h2 (p + k) (by omega)) b⟩⟩
theorem sv_new {ks ls rs cf V : Nat → Int32} {m : Nat} {a b c : Int32} (h : CV (upd ks m a) (upd ls m b) (upd rs m c) cf V (m + 1)) : V m = (if a = 0 then b else if a = 1 then cf (ix b) else if a = 2 then (if V (ix b) = 0 then 1 else 0) else bo2 (kOf (ix a)) (V (ix b)) (V (ix c))) := by
  have := h m (by omega)
  unfold stp at this
  rw [u_s, u_s, u_s] at this
  exact this
theorem ext_up (ks ls rs : Nat → Int32) (m : Nat) (a b c : Int32) : EXT ks ls rs m (upd ks m a) (upd ls m b) (upd rs m c) (m + 1) :=
  ⟨by omega, fun j hj => ⟨u_n (by omega), u_n (by omega), u_n (by omega)⟩⟩
theorem WFs.up {ks ls rs : Nat → Int32} {m : Nat} {a b c : Int32} (h : WFs ks ls rs m) (h1 : WF1 a b c m) : WFs (upd ks m a) (upd ls m b) (upd rs m c) (m + 1) := by
  intro j hj
  by_cases q : j = m
  · rw [q, u_s, u_s, u_s]; exact h1
  · rw [u_n q, u_n q, u_n q]; exact h j (by omega)
/-- two joined -/
theorem XR.bin {feed : Bool} {ks ls rs o ar : Nat → Int32} {m x y p n q k c : Nat} {z : Int32} (h : XR feed ks ls rs m x o ar p n) (h2 : XR feed ks ls rs m y o ar (p + n) q) (hm : m ≤ 1000) (hk : KC k c) : XR feed (upd ks m (nI k)) (upd ls m (nI x)) (upd rs m (nI y)) (m + 1) m (upd o (p + n + q) (nI c)) (upd ar (p + n + q) z) p (n + q + 1) := by
  refine ⟨by omega, fun cf rf hf => ?_⟩
  obtain ⟨v, a1, a2⟩ := h.2 cf rf hf
  obtain ⟨w, b1, b2⟩ := h2.2 cf rf hf
  obtain ⟨k1, k2, k3, c1, c2⟩ := hk.k
  have hx := h.1
  have hy := h2.1
  refine ⟨bo2 c v w, ⟨by omega, fun V hV => ?_⟩, ME_bin (ME_sh (fun j hj => ⟨u_n (by omega), u_n (by omega)⟩) a2) (ME_sh (fun j hj => ⟨u_n (by omega), u_n (by omega)⟩) b2) c1 c2 (u_s _ _ _)⟩
  have hs := sv_new hV
  have hV0 := hV.ext (ext_up ks ls rs m (nI k) (nI x) (nI y))
  have n0 : ¬ nI k = 0 := nI_ne0 (by omega) (by omega)
  have n1 : ¬ nI k = 1 := by rw [show (1 : Int32) = nI 1 from rfl, i_eq (by omega) (by decide)]; omega
  have n2 : ¬ nI k = 2 := by rw [show (2 : Int32) = nI 2 from rfl, i_eq (by omega) (by decide)]; omega
  rw [hs, if_neg n0, if_neg n1, if_neg n2, ix_nI (show k < 2 ^ 31 by omega), ix_nI (show x < 2 ^ 31 by omega), ix_nI (show y < 2 ^ 31 by omega), k1, a1.2 V hV0, b1.2 V hV0]
theorem XR.nt {feed : Bool} {ks ls rs o ar : Nat → Int32} {m x p n : Nat} {z r : Int32} (h : XR feed ks ls rs m x o ar p n) (hm : m ≤ 1000) : XR feed (upd ks m 2) (upd ls m (nI x)) (upd rs m r) (m + 1) m (upd o (p + n) 3) (upd ar (p + n) z) p (n + 1) := by
  refine ⟨by omega, fun cf rf hf => ?_⟩
  obtain ⟨v, a1, a2⟩ := h.2 cf rf hf
  have hx := h.1
  refine ⟨if v = 0 then 1 else 0, ⟨by omega, fun V hV => ?_⟩, ME_not (ME_sh (fun j hj => ⟨u_n (by omega), u_n (by omega)⟩) a2) (u_s _ _ _)⟩
  have hs := sv_new hV
  have hV0 := hV.ext (ext_up ks ls rs m 2 (nI x) r)
  rw [hs, if_neg (by decide), if_neg (by decide), if_pos rfl, ix_nI (by omega), a1.2 V hV0]
theorem XR.num {feed : Bool} (ks ls rs o ar : Nat → Int32) (m p : Nat) (v r : Int32) : XR feed (upd ks m 0) (upd ls m v) (upd rs m r) (m + 1) m (upd o p 1) (upd ar p v) p 1 := by
  refine ⟨by omega, fun cf rf hf => ⟨v, ⟨by omega, fun V hV => ?_⟩, ?_⟩⟩
  · rw [sv_new hV, if_pos rfl]
  · have := ME_num (o := upd o p 1) (ar := upd ar p v) (rf := rf) (p := p) (u_s _ _ _)
    rw [u_s] at this
    exact this
theorem FA.lt {feed : Bool} {k j : Nat} (h : FA feed k j) : k < 6 ∧ j < 5 := by
  unfold FA at h
  cases feed with
  | true =>
    have h : k = j ∧ k ≤ 3 := h
    omega
  | false =>
    have h : (k = j ∧ k ≤ 2) ∨ (k = 4 ∧ j = 3) ∨ (k = 5 ∧ j = 4) := h
    omega
theorem XR.fact {feed : Bool} (ks ls rs o ar : Nat → Int32) (m p : Nat) (r : Int32) {k j : Nat} (h : FA feed k j) : XR feed (upd ks m 1) (upd ls m (nI k)) (upd rs m r) (m + 1) m (upd o p 2) (upd ar p (nI j)) p 1 := by
  have hlt := h.lt
  refine ⟨by omega, fun cf rf hf => ⟨rf j, ⟨by omega, fun V hV => ?_⟩, ME_fact (u_s _ _ _) (by omega) (u_s _ _ _)⟩⟩
  rw [sv_new hV, if_neg z10, if_pos rfl, ix_nI (by omega)]
  exact hf k j h
