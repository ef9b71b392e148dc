/-! THE CALLS 8: the start, all calls (gen/genops.py) -/
theorem P_swap {D : va_G} {cl : List vw_C} {a b b2 : Nat × va_E} {r : va_W} {H : Heap} (h : va_P D cl (a :: b :: r) H) (hb : va_at D cl b H → va_at D cl b2 H) : va_P D cl (a :: b2 :: r) H := by
  intro k q hk
  match k, hk with
  | 0, hk => exact h 0 q hk
  | 1, hk =>
    have e : some b2 = some q := hk
    cases e
    exact hb (h 1 b rfl)
  | k + 2, hk => exact h (k + 2) q hk
theorem D_swap {A : Nat → Prop} {a b b2 : Nat × va_E} {r : va_W} (h : va_D A (a :: b :: r)) (e : b2.1 = b.1) : va_D A (a :: b2 :: r) := by
  have key : ∀ (i : Nat) (p : Nat × va_E), (a :: b2 :: r)[i]? = some p → ∃ p0 : Nat × va_E, (a :: b :: r)[i]? = some p0 ∧ p0.1 = p.1 := by
    intro i p hp
    match i, hp with
    | 0, hp => exact ⟨p, hp, rfl⟩
    | 1, hp =>
      have e2 : some b2 = some p := hp
      cases e2
      exact ⟨b, rfl, e.symm⟩
    | i + 2, hp => exact ⟨p, hp, rfl⟩
  refine ⟨fun i j p q hp hq hpq => ?_, fun k q hq => ?_⟩
  · obtain ⟨p0, h1, h2⟩ := key i p hp
    obtain ⟨q0, h3, h4⟩ := key j q hq
    exact h.1 i j p0 q0 h1 h3 (by rw [h2, h4, hpq])
  · obtain ⟨q0, h3, h4⟩ := key k q hq
    rw [← h4]
    exact h.2 k q0 h3
theorem arr_same {cI : ClassId} {N : Nat} {f g : Nat → Value} (h : ∀ j, j < N → f j = g j) : arrV cI N f = arrV cI N g := by
  unfold arrV
  congr 1
  congr 1
  funext j
  exact h j.val j.isLt
theorem mk_same (a b c d : Nat) : ∀ j, j < 4 → (va_up (va_up (va_up (va_up (fun _ => none) 0 (some a)) 1 (some b)) 2 (some c)) 3 (some d)) j = mk4 a b c d j := by
  intro j hj
  match j, hj with
  | 0, _ => rfl
  | 1, _ => rfl
  | 2, _ => rfl
  | 3, _ => rfl
  | j + 4, h => omega
def WS1 (G : GG) (q qa2 qa3 qa4 qa6 qa8 qa9 qa10 qa12 qa14 qa16 qa18 qa20 qa22 qa24 qa27 qa28 qa29 qa31 qa32 qa33 qa35 qa36 qa37 qa39 qa40 qa41 qm : Nat → Nat) (qo : Nat) : List va_W := [wX10 G q (qa6 0) (qa12 0) (qa14 0) (qa16 0) (qa18 0) (qa20 0) (qa22 0) (qa24 0) (mk4 (qa27 0) (qa31 0) (qa35 0) (qa39 0)) (qa8 0), wX11 G qm 0 (fun _ => 0) 0 0 (fun _ => 0) (fun _ => 0) (fun _ => 0) 0 0 (vp_updL (vp_updL (vp_updL (vp_updL (vp_updL (vp_updL (vp_updL (vp_updL (vp_updL (vp_updL (vp_updL (vp_updL (vp_updL (vp_updL (vp_updL (vp_updL (fun _ => 0) 0 305966) 1 11873459) 2 223425) 3 1186004) 4 11517513) 5 811948) 6 36016323) 7 38264298) 8 310952) 9 274) 10 19741) 11 1891) 12 573) 13 594827965) 14 26704030) 15 614732) (upd (upd (fun _ => 0) 5 (-1)) 6 (-1)) (fun _ => 0) (fun _ => 0) 0 (fun _ => 0) 0 0 (upd (upd (upd (upd (fun _ => 0) 0 1) 1 2) 2 13) 3 14) (upd (upd (upd (upd (upd (fun _ => 0) 0 1) 1 2) 2 13) 3 4) 4 15) (fun _ => 0) (fun _ => 0) (-1) (fun _ => 0) (fun _ => 0) (fun _ => 0) (fun _ => 0) 0 (fun _ => 0) (fun _ => 0) (fun _ => 0), [(qo, .inl (G.2 1, 1, .inr (.inl (fun _ => 0))))], wX8 G qa6 (fun _ => 0) 0 0 0 0 0 0 0, wX7 G qa12 (qa6 0) (qa8 0) (qa9 0) 0, wX5 G qa2 0 0 0 (fun _ => 0) (fun _ => 0) (fun _ => 0) (fun _ => 0) (fun _ => 0) (fun _ => 0) (fun _ => 0) (fun _ => 0) (fun _ => 0) 0 (qa3 0) (qa4 0), wX3 G qa3 (fun _ => 0) (fun _ => 0) (fun _ => 0) (fun _ => 0) 0, wX3 G qa4 (fun _ => 0) (fun _ => 0) (fun _ => 0) (fun _ => 0) 0, wX5 G qa8 0 0 0 (fun _ => 0) (fun _ => 0) (fun _ => 0) (fun _ => 0) (fun _ => 0) (fun _ => 0) (fun _ => 0) (fun _ => 0) (fun _ => 0) 0 (qa9 0) (qa10 0), wX3 G qa9 (fun _ => 0) (fun _ => 0) (fun _ => 0) (fun _ => 0) 0, wX3 G qa10 (fun _ => 0) (fun _ => 0) (fun _ => 0) (fun _ => 0) 0, wX9 G qa14 (qa2 0) 0 0 (fun _ => 0) (fun _ => 0) (fun _ => 0) (fun _ => 0) (fun _ => 0) (fun _ => 0) (fun _ => 0) (fun _ => 0), wX0 G qa16 (fun _ => 0) (fun _ => 0) (fun _ => 0) 0 0 0, wX9 G qa18 (qa2 0) 0 0 (fun _ => 0) (fun _ => 0) (fun _ => 0) (fun _ => 0) (fun _ => 0) (fun _ => 0) (fun _ => 0) (fun _ => 0), wX0 G qa20 (fun _ => 0) (fun _ => 0) (fun _ => 0) 0 0 0, wX1 G qa22 (qa14 0) (qa18 0) (qa20 0) 4 (fun _ => 0) (fun _ => 0) (fun _ => 0) 0 0 0 (fun _ => 0) 0, wX2 G qa24 (qa14 0) (qa18 0) (qa20 0) 5 (fun _ => 0) (fun _ => 0) (fun _ => 0) 0 0 0 (fun _ => 0) (fun _ => 0), wX4 G qa27 (qa28 0) (qa29 0) 0, wX9 G qa28 (qa2 0) 0 0 (fun _ => 0) (fun _ => 0) (fun _ => 0) (fun _ => 0) (fun _ => 0) (fun _ => 0) (fun _ => 0) (fun _ => 0), wX0 G qa29 (fun _ => 0) (fun _ => 0) (fun _ => 0) 0 0 0, wX4 G qa31 (qa32 0) (qa33 0) 0, wX9 G qa32 (qa2 0) 0 0 (fun _ => 0) (fun _ => 0) (fun _ => 0) (fun _ => 0) (fun _ => 0) (fun _ => 0) (fun _ => 0) (fun _ => 0), wX0 G qa33 (fun _ => 0) (fun _ => 0) (fun _ => 0) 0 0 0, wX4 G qa35 (qa36 0) (qa37 0) 0, wX9 G qa36 (qa2 0) 0 0 (fun _ => 0) (fun _ => 0) (fun _ => 0) (fun _ => 0) (fun _ => 0) (fun _ => 0) (fun _ => 0) (fun _ => 0), wX0 G qa37 (fun _ => 0) (fun _ => 0) (fun _ => 0) 0 0 0, wX4 G qa39 (qa40 0) (qa41 0) 0, wX9 G qa40 (qa2 0) 0 0 (fun _ => 0) (fun _ => 0) (fun _ => 0) (fun _ => 0) (fun _ => 0) (fun _ => 0) (fun _ => 0) (fun _ => 0), wX0 G qa41 (fun _ => 0) (fun _ => 0) (fun _ => 0) 0 0 0]
theorem hw0 : HW (vp_updL (vp_updL (vp_updL (vp_updL (vp_updL (vp_updL (vp_updL (vp_updL (vp_updL (vp_updL (vp_updL (vp_updL (vp_updL (vp_updL (vp_updL (vp_updL (fun _ => 0) 0 305966) 1 11873459) 2 223425) 3 1186004) 4 11517513) 5 811948) 6 36016323) 7 38264298) 8 310952) 9 274) 10 19741) 11 1891) 12 573) 13 594827965) 14 26704030) 15 614732) := by
  have h : ∀ w, w < 16 → (vp_updL (vp_updL (vp_updL (vp_updL (vp_updL (vp_updL (vp_updL (vp_updL (vp_updL (vp_updL (vp_updL (vp_updL (vp_updL (vp_updL (vp_updL (vp_updL (fun _ => 0) 0 305966) 1 11873459) 2 223425) 3 1186004) 4 11517513) 5 811948) 6 36016323) 7 38264298) 8 310952) 9 274) 10 19741) 11 1891) 12 573) 13 594827965) 14 26704030) 15 614732) w = lN (en 37 0 (wdl w)) := by decide +kernel
  exact h
theorem hf0 : HF (upd (upd (upd (upd (fun _ => 0) 0 1) 1 2) 2 13) 3 14) (upd (upd (upd (upd (upd (fun _ => 0) 0 1) 1 2) 2 13) 3 4) 4 15) := by
  have h1 : ∀ k, k < 4 → (upd (upd (upd (upd (fun _ => 0) 0 1) 1 2) 2 13) 3 14) k = nI (fwl k) := by decide +kernel
  have h2 : ∀ k, k < 5 → (upd (upd (upd (upd (upd (fun _ => 0) 0 1) 1 2) 2 13) 3 4) 4 15) k = nI (gwl k) := by decide +kernel
  exact ⟨h1, h2⟩
theorem row0 : ROW (XJ 0) (upd (upd (fun _ => 0) 5 (-1)) 6 (-1)) (fun _ => 0) (fun _ => 0) 0 0 0 (fun _ => 0) (fun _ => 0) (fun _ => 0) (fun _ => 0) (fun _ => 0) (fun _ => 0) (fun _ => 0) (fun _ => 0) 0 (fun _ => 0) (fun _ => 0) (fun _ => 0) 0 0 0 (fun _ => 0) (fun _ => 0) (fun _ => 0) (fun _ => 0) (fun _ => 0) (fun _ => 0) (fun _ => 0) (fun _ => 0) (fun _ => 0) (fun _ => 0) 0 0 0 := by
  have z : ∀ k, k ≠ 5 → k ≠ 6 → ((upd (upd (fun _ => 0) 5 (-1)) 6 (-1)) : Nat → Int32) k = 0 := fun k h1 h2 => by rw [u_n h2, u_n h1]
  refine ⟨⟨by decide, rfl, fun f hf => absurd hf (by omega), fun f hf => absurd hf (by omega), fun f k hf => absurd hf (by omega), fun a ha => absurd ha (by omega), fun a e ha => absurd ha (by omega)⟩, ⟨rfl, ⟨0, by decide, rfl, rfl⟩, fun f hf => absurd hf (by omega), fun f hf => absurd hf (by omega), fun f hf => absurd hf (by omega), fun f hf => absurd hf (by omega), fun f hf => absurd hf (by omega), fun a ha => absurd ha (by omega), fun a e ha => absurd ha (by omega)⟩, fun o2 a2 _ => Or.inl rfl, Or.inl ⟨by decide, fun f hf => absurd hf (by omega)⟩, ⟨⟨0, Nat.zero_le _, rfl⟩, ⟨0, Nat.zero_le _, rfl⟩, fun _ => ⟨rfl, fun B hB hX k hk => ?_, fun k hk => (z _ (by omega) (by omega)).symm, ?_, fun n f e _ _ _ hf he => z _ (by omega) (by omega)⟩⟩, ⟨0, by decide, rfl, rfl, fun k hk => absurd hk (by omega)⟩, fun a b ha => absurd ha (by omega), rfl, rfl⟩
  · have h0 : B = 0 := by unfold XJ at hX; omega
    rw [h0] at hk
    exact absurd hk (by omega)
  · have h : fsum (upd (upd (fun _ => 0) 5 (-1)) 6 (-1)) lowF = 0 := by decide +kernel
    exact h.symm
/-- between two calls -/
def PA (G : GG) (q qa2 qa3 qa4 qa6 qa8 qa9 qa10 qa12 qa14 qa16 qa18 qa20 qa22 qa24 qa27 qa28 qa29 qa31 qa32 qa33 qa35 qa36 qa37 qa39 qa40 qa41 qm : Nat → Nat) (qo : Nat) (j : Nat) (Ws : List va_W) : Prop := PP G q qm qa6 qa12 qa14 qa16 qa18 qa20 qa22 qa24 qa27 qa28 qa29 qa31 qa32 qa33 qa35 qa36 qa37 qa39 qa40 qa41 qo qa2 qa3 qa4 qa8 qa9 qa10 true j Ws ∨ PP G q qm qa6 qa12 qa14 qa16 qa18 qa20 qa22 qa24 qa27 qa28 qa29 qa31 qa32 qa33 qa35 qa36 qa37 qa39 qa40 qa41 qo qa8 qa9 qa10 qa2 qa3 qa4 false j Ws
set_option maxHeartbeats 4000000 in
set_option maxRecDepth 100000 in
theorem PA_0 (G : GG) (q qa2 qa3 qa4 qa6 qa8 qa9 qa10 qa12 qa14 qa16 qa18 qa20 qa22 qa24 qa27 qa28 qa29 qa31 qa32 qa33 qa35 qa36 qa37 qa39 qa40 qa41 qm : Nat → Nat) (qo : Nat) : PA G q qa2 qa3 qa4 qa6 qa8 qa9 qa10 qa12 qa14 qa16 qa18 qa20 qa22 qa24 qa27 qa28 qa29 qa31 qa32 qa33 qa35 qa36 qa37 qa39 qa40 qa41 qm qo 0 (WS1 G q qa2 qa3 qa4 qa6 qa8 qa9 qa10 qa12 qa14 qa16 qa18 qa20 qa22 qa24 qa27 qa28 qa29 qa31 qa32 qa33 qa35 qa36 qa37 qa39 qa40 qa41 qm qo) := Or.inl (PP.mk (n := 0) (len := 0) ⟨⟨by decide, fun k hk => absurd hk (by omega)⟩, hw0, hf0, row0, ⟨0, Nat.zero_le _, rfl⟩, Or.inl rfl, Or.inl rfl, Or.inl ⟨rfl, rfl⟩, Or.inl ⟨rfl, rfl⟩, Or.inl ⟨rfl, rfl⟩, Or.inl ⟨rfl, rfl⟩⟩)
section C7
variable {l : Launch} {G : GG} {q qm qt qr qv qb qah qsc qga qjo qk0 qkv0 qkb0 qk1 qkv1 qkb1 qk2 qkv2 qkb2 qk3 qkv3 qkb3 : Nat → Nat} {qo : Nat} {qn qnf qng qd qdf qdg : Nat → Nat} {bb : Bool} {j : Nat}
set_option maxHeartbeats 4000000 in
set_option maxRecDepth 100000 in
theorem PP.up {Ws : List va_W} (hj : j < 600) (h : PP G q qm qt qr qv qb qah qsc qga qjo qk0 qkv0 qkb0 qk1 qkv1 qkb1 qk2 qkv2 qkb2 qk3 qkv3 qkb3 qo qn qnf qng qd qdf qdg bb j Ws) : PP G q qm qt qr qv qb qah qsc qga qjo qk0 qkv0 qkb0 qk1 qkv1 qkb1 qk2 qkv2 qkb2 qk3 qkv3 qkb3 qo qn qnf qng qd qdf qdg bb (j + 1) Ws := by
  refine h (fun W => PP G q qm qt qr qv qb qah qsc qga qjo qk0 qkv0 qkb0 qk1 qkv1 qkb1 qk2 qkv2 qkb2 qk3 qkv3 qkb3 qo qn qnf qng qd qdf qdg bb (j + 1) W) ?_
  intros
  rename_i hI
  obtain ⟨hRT, hWd, hFd, hR, hsb, hG, hJ, m0, m1, m2, m3⟩ := hI
  have hXle := XJ_le j
  have hXb := XJ_b hj
  exact PP.mk ⟨hRT, hWd, hFd, hR.up hXle hXb, up_ex hsb hXle, hG, hJ, m0.low (by decide) (fun _ _ _ => rfl) (fun _ _ => ⟨rfl, rfl⟩) hXle hXb, m1.low (by decide) (fun _ _ _ => rfl) (fun _ _ => ⟨rfl, rfl⟩) hXle hXb, m2.low (by decide) (fun _ _ _ => rfl) (fun _ _ => ⟨rfl, rfl⟩) hXle hXb, m3.low (by decide) (fun _ _ _ => rfl) (fun _ _ => ⟨rfl, rfl⟩) hXle hXb⟩
set_option maxHeartbeats 4000000 in
set_option maxRecDepth 100000 in
theorem PP.rc {Ws : List va_W} (h : PP G q qm qt qr qv qb qah qsc qga qjo qk0 qkv0 qkb0 qk1 qkv1 qkb1 qk2 qkv2 qkb2 qk3 qkv3 qkb3 qo qn qnf qng qd qdf qdg bb j Ws) : Rc G (q 0) (qm 0) qo Ws := by
  refine h (fun W => Rc G (q 0) (qm 0) qo W) ?_
  intros
  exact ⟨⟨_, _, rfl, rfl⟩, ⟨_, _, rfl, rfl⟩, _, rfl⟩
set_option maxHeartbeats 4000000 in
set_option maxRecDepth 100000 in
theorem px_0 (hj : j < 600) {Ws : List va_W} (h : PP G q qm qt qr qv qb qah qsc qga qjo qk0 qkv0 qkb0 qk1 qkv1 qkb1 qk2 qkv2 qkb2 qk3 qkv3 qkb3 qo qn qnf qng qd qdf qdg bb j Ws) {Pn : List va_W → Prop} (hP : ∀ Wn, PP G q qm qt qr qv qb qah qsc qga qjo qk0 qkv0 qkb0 qk1 qkv1 qkb1 qk2 qkv2 qkb2 qk3 qkv3 qkb3 qo qn qnf qng qd qdf qdg bb (j + 1) Wn → Pn Wn) : OP0 l G (q 0) (qm 0) qo Pn Ws := by
  refine h (fun W => OP0 l G (q 0) (qm 0) qo Pn W) ?_
  intros
  rename_i hI
  exact pp_0 hj hI hP
set_option maxHeartbeats 4000000 in
set_option maxRecDepth 100000 in
theorem px_1 (hj : j < 600) (hfg : qdg 0 ≠ qdf 0) {Ws : List va_W} (h : PP G q qm qt qr qv qb qah qsc qga qjo qk0 qkv0 qkb0 qk1 qkv1 qkb1 qk2 qkv2 qkb2 qk3 qkv3 qkb3 qo qn qnf qng qd qdf qdg bb j Ws) {Pn : List va_W → Prop} (hP2 : ∀ Wn, PP G q qm qt qr qv qb qah qsc qga qjo qk0 qkv0 qkb0 qk1 qkv1 qkb1 qk2 qkv2 qkb2 qk3 qkv3 qkb3 qo qd qdf qdg qn qnf qng (!bb) (j + 1) Wn → Pn Wn) (hP : ∀ Wn, PP G q qm qt qr qv qb qah qsc qga qjo qk0 qkv0 qkb0 qk1 qkv1 qkb1 qk2 qkv2 qkb2 qk3 qkv3 qkb3 qo qn qnf qng qd qdf qdg bb (j + 1) Wn → Pn Wn) : OP1 l G (q 0) (qm 0) qo Pn Ws := by
  refine h (fun W => OP1 l G (q 0) (qm 0) qo Pn W) ?_
  intros
  rename_i hI
  exact pp_1 hj hfg hI hP2 hP
set_option maxHeartbeats 4000000 in
set_option maxRecDepth 100000 in
theorem px_2 (hj : j < 600) {Ws : List va_W} (h : PP G q qm qt qr qv qb qah qsc qga qjo qk0 qkv0 qkb0 qk1 qkv1 qkb1 qk2 qkv2 qkb2 qk3 qkv3 qkb3 qo qn qnf qng qd qdf qdg bb j Ws) {Pn : List va_W → Prop} (hP : ∀ Wn, PP G q qm qt qr qv qb qah qsc qga qjo qk0 qkv0 qkb0 qk1 qkv1 qkb1 qk2 qkv2 qkb2 qk3 qkv3 qkb3 qo qn qnf qng qd qdf qdg bb (j + 1) Wn → Pn Wn) : OP2 l G (q 0) (qm 0) qo Pn Ws := by
  refine h (fun W => OP2 l G (q 0) (qm 0) qo Pn W) ?_
  intros
  rename_i hI
  exact pp_2 hj hI hP
set_option maxHeartbeats 4000000 in
set_option maxRecDepth 100000 in
theorem px_3 (hj : j < 600) {Ws : List va_W} (h : PP G q qm qt qr qv qb qah qsc qga qjo qk0 qkv0 qkb0 qk1 qkv1 qkb1 qk2 qkv2 qkb2 qk3 qkv3 qkb3 qo qn qnf qng qd qdf qdg bb j Ws) {Pn : List va_W → Prop} (hP : ∀ Wn, PP G q qm qt qr qv qb qah qsc qga qjo qk0 qkv0 qkb0 qk1 qkv1 qkb1 qk2 qkv2 qkb2 qk3 qkv3 qkb3 qo qn qnf qng qd qdf qdg bb (j + 1) Wn → Pn Wn) : OP3 l G (q 0) (qm 0) qo Pn Ws := by
  refine h (fun W => OP3 l G (q 0) (qm 0) qo Pn W) ?_
  intros
  rename_i hI
  exact pp_3 hj hI hP
set_option maxHeartbeats 4000000 in
set_option maxRecDepth 100000 in
theorem px_4 (hj : j < 600) {Ws : List va_W} (h : PP G q qm qt qr qv qb qah qsc qga qjo qk0 qkv0 qkb0 qk1 qkv1 qkb1 qk2 qkv2 qkb2 qk3 qkv3 qkb3 qo qn qnf qng qd qdf qdg bb j Ws) {Pn : List va_W → Prop} (hP : ∀ Wn, PP G q qm qt qr qv qb qah qsc qga qjo qk0 qkv0 qkb0 qk1 qkv1 qkb1 qk2 qkv2 qkb2 qk3 qkv3 qkb3 qo qn qnf qng qd qdf qdg bb (j + 1) Wn → Pn Wn) : OP4 l G (q 0) (qm 0) qo Pn Ws := by
  refine h (fun W => OP4 l G (q 0) (qm 0) qo Pn W) ?_
  intros
  rename_i hI
  exact pp_4 hj hI hP
set_option maxHeartbeats 4000000 in
set_option maxRecDepth 100000 in
theorem px_5 (hj : j < 600) {Ws : List va_W} (h : PP G q qm qt qr qv qb qah qsc qga qjo qk0 qkv0 qkb0 qk1 qkv1 qkb1 qk2 qkv2 qkb2 qk3 qkv3 qkb3 qo qn qnf qng qd qdf qdg bb j Ws) {Pn : List va_W → Prop} (hP : ∀ Wn, PP G q qm qt qr qv qb qah qsc qga qjo qk0 qkv0 qkb0 qk1 qkv1 qkb1 qk2 qkv2 qkb2 qk3 qkv3 qkb3 qo qn qnf qng qd qdf qdg bb (j + 1) Wn → Pn Wn) : OP5 l G (q 0) (qm 0) qo Pn Ws := by
  refine h (fun W => OP5 l G (q 0) (qm 0) qo Pn W) ?_
  intros
  rename_i hI
  exact pp_5 hj hI hP
set_option maxHeartbeats 4000000 in
set_option maxRecDepth 100000 in
theorem px_6 (hj : j < 600) {Ws : List va_W} (h : PP G q qm qt qr qv qb qah qsc qga qjo qk0 qkv0 qkb0 qk1 qkv1 qkb1 qk2 qkv2 qkb2 qk3 qkv3 qkb3 qo qn qnf qng qd qdf qdg bb j Ws) {Pn : List va_W → Prop} (hP : ∀ Wn, PP G q qm qt qr qv qb qah qsc qga qjo qk0 qkv0 qkb0 qk1 qkv1 qkb1 qk2 qkv2 qkb2 qk3 qkv3 qkb3 qo qn qnf qng qd qdf qdg bb (j + 1) Wn → Pn Wn) : OP6 l G (q 0) (qm 0) qo Pn Ws := by
  refine h (fun W => OP6 l G (q 0) (qm 0) qo Pn W) ?_
  intros
  rename_i hI
  exact pp_6 hj hI hP
set_option maxHeartbeats 4000000 in
set_option maxRecDepth 100000 in
theorem px_7 (hj : j < 600) {Ws : List va_W} (h : PP G q qm qt qr qv qb qah qsc qga qjo qk0 qkv0 qkb0 qk1 qkv1 qkb1 qk2 qkv2 qkb2 qk3 qkv3 qkb3 qo qn qnf qng qd qdf qdg bb j Ws) {Pn : List va_W → Prop} (hP : ∀ Wn, PP G q qm qt qr qv qb qah qsc qga qjo qk0 qkv0 qkb0 qk1 qkv1 qkb1 qk2 qkv2 qkb2 qk3 qkv3 qkb3 qo qn qnf qng qd qdf qdg bb (j + 1) Wn → Pn Wn) : OP7 l G (q 0) (qm 0) qo Pn Ws := by
  refine h (fun W => OP7 l G (q 0) (qm 0) qo Pn W) ?_
  intros
  rename_i hI
  exact pp_7 hj hI hP
set_option maxHeartbeats 4000000 in
set_option maxRecDepth 100000 in
theorem px_8 (hj : j < 600) (hl : l.stackTraces = false) {Ws : List va_W} (h : PP G q qm qt qr qv qb qah qsc qga qjo qk0 qkv0 qkb0 qk1 qkv1 qkb1 qk2 qkv2 qkb2 qk3 qkv3 qkb3 qo qn qnf qng qd qdf qdg bb j Ws) {Pn : List va_W → Prop} (hP : ∀ Wn, PP G q qm qt qr qv qb qah qsc qga qjo qk0 qkv0 qkb0 qk1 qkv1 qkb1 qk2 qkv2 qkb2 qk3 qkv3 qkb3 qo qn qnf qng qd qdf qdg bb (j + 1) Wn → Pn Wn) : OP8 l G (q 0) (qm 0) qo Pn Ws := by
  refine h (fun W => OP8 l G (q 0) (qm 0) qo Pn W) ?_
  intros
  rename_i hI
  exact pp_8 hj hl hI hP
set_option maxHeartbeats 4000000 in
set_option maxRecDepth 100000 in
theorem px_9 (hj : j < 600) {Ws : List va_W} (h : PP G q qm qt qr qv qb qah qsc qga qjo qk0 qkv0 qkb0 qk1 qkv1 qkb1 qk2 qkv2 qkb2 qk3 qkv3 qkb3 qo qn qnf qng qd qdf qdg bb j Ws) {Pn : List va_W → Prop} (hP : ∀ Wn, PP G q qm qt qr qv qb qah qsc qga qjo qk0 qkv0 qkb0 qk1 qkv1 qkb1 qk2 qkv2 qkb2 qk3 qkv3 qkb3 qo qn qnf qng qd qdf qdg bb (j + 1) Wn → Pn Wn) : OP9 l G (q 0) (qm 0) qo Pn Ws := by
  refine h (fun W => OP9 l G (q 0) (qm 0) qo Pn W) ?_
  intros
  rename_i hI
  exact pp_9 hj hI hP
set_option maxHeartbeats 4000000 in
set_option maxRecDepth 100000 in
theorem px_10 (hj : j < 600) {Ws : List va_W} (h : PP G q qm qt qr qv qb qah qsc qga qjo qk0 qkv0 qkb0 qk1 qkv1 qkb1 qk2 qkv2 qkb2 qk3 qkv3 qkb3 qo qn qnf qng qd qdf qdg bb j Ws) {Pn : List va_W → Prop} (hP : ∀ Wn, PP G q qm qt qr qv qb qah qsc qga qjo qk0 qkv0 qkb0 qk1 qkv1 qkb1 qk2 qkv2 qkb2 qk3 qkv3 qkb3 qo qn qnf qng qd qdf qdg bb (j + 1) Wn → Pn Wn) : OP10 l G (q 0) (qm 0) qo Pn Ws := by
  refine h (fun W => OP10 l G (q 0) (qm 0) qo Pn W) ?_
  intros
  rename_i hI
  exact pp_10 hj hI hP
set_option maxHeartbeats 4000000 in
set_option maxRecDepth 100000 in
theorem px_11 (hj : j < 600) {Ws : List va_W} (h : PP G q qm qt qr qv qb qah qsc qga qjo qk0 qkv0 qkb0 qk1 qkv1 qkb1 qk2 qkv2 qkb2 qk3 qkv3 qkb3 qo qn qnf qng qd qdf qdg bb j Ws) {Pn : List va_W → Prop} (hP : ∀ Wn, PP G q qm qt qr qv qb qah qsc qga qjo qk0 qkv0 qkb0 qk1 qkv1 qkb1 qk2 qkv2 qkb2 qk3 qkv3 qkb3 qo qn qnf qng qd qdf qdg bb (j + 1) Wn → Pn Wn) : OP11 l G (q 0) (qm 0) qo Pn Ws := by
  refine h (fun W => OP11 l G (q 0) (qm 0) qo Pn W) ?_
  intros
  rename_i hI
  exact pp_11 hj hI hP
set_option maxHeartbeats 4000000 in
set_option maxRecDepth 100000 in
theorem px_12 (hj : j < 600) {Ws : List va_W} (h : PP G q qm qt qr qv qb qah qsc qga qjo qk0 qkv0 qkb0 qk1 qkv1 qkb1 qk2 qkv2 qkb2 qk3 qkv3 qkb3 qo qn qnf qng qd qdf qdg bb j Ws) {Pn : List va_W → Prop} (hP : ∀ Wn, PP G q qm qt qr qv qb qah qsc qga qjo qk0 qkv0 qkb0 qk1 qkv1 qkb1 qk2 qkv2 qkb2 qk3 qkv3 qkb3 qo qn qnf qng qd qdf qdg bb (j + 1) Wn → Pn Wn) : OP12 l G (q 0) (qm 0) qo Pn Ws := by
  refine h (fun W => OP12 l G (q 0) (qm 0) qo Pn W) ?_
  intros
  rename_i hI
  exact pp_12 hj hI hP
set_option maxHeartbeats 4000000 in
set_option maxRecDepth 100000 in
theorem px_13 (hj : j < 600) {Ws : List va_W} (h : PP G q qm qt qr qv qb qah qsc qga qjo qk0 qkv0 qkb0 qk1 qkv1 qkb1 qk2 qkv2 qkb2 qk3 qkv3 qkb3 qo qn qnf qng qd qdf qdg bb j Ws) {Pn : List va_W → Prop} (hP : ∀ Wn, PP G q qm qt qr qv qb qah qsc qga qjo qk0 qkv0 qkb0 qk1 qkv1 qkb1 qk2 qkv2 qkb2 qk3 qkv3 qkb3 qo qn qnf qng qd qdf qdg bb (j + 1) Wn → Pn Wn) : OP13 l G (q 0) (qm 0) qo Pn Ws := by
  refine h (fun W => OP13 l G (q 0) (qm 0) qo Pn W) ?_
  intros
  rename_i hI
  exact pp_13 hj hI hP
set_option maxHeartbeats 4000000 in
set_option maxRecDepth 100000 in
theorem px_14 (hj : j < 600) {Ws : List va_W} (h : PP G q qm qt qr qv qb qah qsc qga qjo qk0 qkv0 qkb0 qk1 qkv1 qkb1 qk2 qkv2 qkb2 qk3 qkv3 qkb3 qo qn qnf qng qd qdf qdg bb j Ws) {Pn : List va_W → Prop} (hP : ∀ Wn, PP G q qm qt qr qv qb qah qsc qga qjo qk0 qkv0 qkb0 qk1 qkv1 qkb1 qk2 qkv2 qkb2 qk3 qkv3 qkb3 qo qn qnf qng qd qdf qdg bb (j + 1) Wn → Pn Wn) : OP14 l G (q 0) (qm 0) qo Pn Ws := by
  refine h (fun W => OP14 l G (q 0) (qm 0) qo Pn W) ?_
  intros
  rename_i hI
  exact pp_14 hj hI hP
set_option maxHeartbeats 4000000 in
set_option maxRecDepth 100000 in
theorem px_15 (hj : j < 600) {Ws : List va_W} (h : PP G q qm qt qr qv qb qah qsc qga qjo qk0 qkv0 qkb0 qk1 qkv1 qkb1 qk2 qkv2 qkb2 qk3 qkv3 qkb3 qo qn qnf qng qd qdf qdg bb j Ws) {Pn : List va_W → Prop} (hP : ∀ Wn, PP G q qm qt qr qv qb qah qsc qga qjo qk0 qkv0 qkb0 qk1 qkv1 qkb1 qk2 qkv2 qkb2 qk3 qkv3 qkb3 qo qn qnf qng qd qdf qdg bb (j + 1) Wn → Pn Wn) : OP15 l G (q 0) (qm 0) qo Pn Ws := by
  refine h (fun W => OP15 l G (q 0) (qm 0) qo Pn W) ?_
  intros
  rename_i hI
  exact pp_15 hj hI hP
set_option maxHeartbeats 4000000 in
set_option maxRecDepth 100000 in
theorem px_16 (hj : j < 600) {Ws : List va_W} (h : PP G q qm qt qr qv qb qah qsc qga qjo qk0 qkv0 qkb0 qk1 qkv1 qkb1 qk2 qkv2 qkb2 qk3 qkv3 qkb3 qo qn qnf qng qd qdf qdg bb j Ws) {Pn : List va_W → Prop} (hP : ∀ Wn, PP G q qm qt qr qv qb qah qsc qga qjo qk0 qkv0 qkb0 qk1 qkv1 qkb1 qk2 qkv2 qkb2 qk3 qkv3 qkb3 qo qn qnf qng qd qdf qdg bb (j + 1) Wn → Pn Wn) : OP16 l G (q 0) (qm 0) qo Pn Ws := by
  refine h (fun W => OP16 l G (q 0) (qm 0) qo Pn W) ?_
  intros
  rename_i hI
  exact pp_16 hj hI hP
set_option maxHeartbeats 4000000 in
set_option maxRecDepth 100000 in
theorem px_17 (hj : j < 600) {Ws : List va_W} (h : PP G q qm qt qr qv qb qah qsc qga qjo qk0 qkv0 qkb0 qk1 qkv1 qkb1 qk2 qkv2 qkb2 qk3 qkv3 qkb3 qo qn qnf qng qd qdf qdg bb j Ws) {Pn : List va_W → Prop} (hP : ∀ Wn, PP G q qm qt qr qv qb qah qsc qga qjo qk0 qkv0 qkb0 qk1 qkv1 qkb1 qk2 qkv2 qkb2 qk3 qkv3 qkb3 qo qn qnf qng qd qdf qdg bb (j + 1) Wn → Pn Wn) : OP17 l G (q 0) (qm 0) qo Pn Ws := by
  refine h (fun W => OP17 l G (q 0) (qm 0) qo Pn W) ?_
  intros
  rename_i hI
  exact pp_17 hj hI hP
set_option maxHeartbeats 4000000 in
set_option maxRecDepth 100000 in
theorem px_18 (hj : j < 600) (hl : l.stackTraces = false) {Ws : List va_W} (h : PP G q qm qt qr qv qb qah qsc qga qjo qk0 qkv0 qkb0 qk1 qkv1 qkb1 qk2 qkv2 qkb2 qk3 qkv3 qkb3 qo qn qnf qng qd qdf qdg bb j Ws) {Pn : List va_W → Prop} (hP : ∀ Wn, PP G q qm qt qr qv qb qah qsc qga qjo qk0 qkv0 qkb0 qk1 qkv1 qkb1 qk2 qkv2 qkb2 qk3 qkv3 qkb3 qo qn qnf qng qd qdf qdg bb (j + 1) Wn → Pn Wn) : OP18 l G (q 0) (qm 0) qo Pn Ws := by
  refine h (fun W => OP18 l G (q 0) (qm 0) qo Pn W) ?_
  intros
  rename_i hI
  exact pp_18 hj hl hI hP
set_option maxHeartbeats 4000000 in
set_option maxRecDepth 100000 in
theorem px_19 (hj : j < 600) {Ws : List va_W} (h : PP G q qm qt qr qv qb qah qsc qga qjo qk0 qkv0 qkb0 qk1 qkv1 qkb1 qk2 qkv2 qkb2 qk3 qkv3 qkb3 qo qn qnf qng qd qdf qdg bb j Ws) {Pn : List va_W → Prop} (hP : ∀ Wn, PP G q qm qt qr qv qb qah qsc qga qjo qk0 qkv0 qkb0 qk1 qkv1 qkb1 qk2 qkv2 qkb2 qk3 qkv3 qkb3 qo qn qnf qng qd qdf qdg bb (j + 1) Wn → Pn Wn) : OP19 l G (q 0) (qm 0) qo Pn Ws := by
  refine h (fun W => OP19 l G (q 0) (qm 0) qo Pn W) ?_
  intros
  rename_i hI
  exact pp_19 hj hI hP
set_option maxHeartbeats 4000000 in
set_option maxRecDepth 100000 in
theorem px_20 (hj : j < 600) {Ws : List va_W} (h : PP G q qm qt qr qv qb qah qsc qga qjo qk0 qkv0 qkb0 qk1 qkv1 qkb1 qk2 qkv2 qkb2 qk3 qkv3 qkb3 qo qn qnf qng qd qdf qdg bb j Ws) {Pn : List va_W → Prop} (hP : ∀ Wn, PP G q qm qt qr qv qb qah qsc qga qjo qk0 qkv0 qkb0 qk1 qkv1 qkb1 qk2 qkv2 qkb2 qk3 qkv3 qkb3 qo qn qnf qng qd qdf qdg bb (j + 1) Wn → Pn Wn) : OP20 l G (q 0) (qm 0) qo Pn Ws := by
  refine h (fun W => OP20 l G (q 0) (qm 0) qo Pn W) ?_
  intros
  rename_i hI
  exact pp_20 hj hI hP
set_option maxHeartbeats 4000000 in
set_option maxRecDepth 100000 in
theorem px_21 (hj : j < 600) {Ws : List va_W} (h : PP G q qm qt qr qv qb qah qsc qga qjo qk0 qkv0 qkb0 qk1 qkv1 qkb1 qk2 qkv2 qkb2 qk3 qkv3 qkb3 qo qn qnf qng qd qdf qdg bb j Ws) {Pn : List va_W → Prop} (hP : ∀ Wn, PP G q qm qt qr qv qb qah qsc qga qjo qk0 qkv0 qkb0 qk1 qkv1 qkb1 qk2 qkv2 qkb2 qk3 qkv3 qkb3 qo qn qnf qng qd qdf qdg bb (j + 1) Wn → Pn Wn) : OP21 l G (q 0) (qm 0) qo Pn Ws := by
  refine h (fun W => OP21 l G (q 0) (qm 0) qo Pn W) ?_
  intros
  rename_i hI
  exact pp_21 hj hI hP
set_option maxHeartbeats 4000000 in
set_option maxRecDepth 100000 in
theorem px_22 (hj : j < 600) {Ws : List va_W} (h : PP G q qm qt qr qv qb qah qsc qga qjo qk0 qkv0 qkb0 qk1 qkv1 qkb1 qk2 qkv2 qkb2 qk3 qkv3 qkb3 qo qn qnf qng qd qdf qdg bb j Ws) {Pn : List va_W → Prop} (hP : ∀ Wn, PP G q qm qt qr qv qb qah qsc qga qjo qk0 qkv0 qkb0 qk1 qkv1 qkb1 qk2 qkv2 qkb2 qk3 qkv3 qkb3 qo qn qnf qng qd qdf qdg bb (j + 1) Wn → Pn Wn) : OP22 l G (q 0) (qm 0) qo Pn Ws := by
  refine h (fun W => OP22 l G (q 0) (qm 0) qo Pn W) ?_
  intros
  rename_i hI
  exact pp_22 hj hI hP
set_option maxHeartbeats 4000000 in
set_option maxRecDepth 100000 in
theorem px_23 (hj : j < 600) {Ws : List va_W} (h : PP G q qm qt qr qv qb qah qsc qga qjo qk0 qkv0 qkb0 qk1 qkv1 qkb1 qk2 qkv2 qkb2 qk3 qkv3 qkb3 qo qn qnf qng qd qdf qdg bb j Ws) {Pn : List va_W → Prop} (hP : ∀ Wn, PP G q qm qt qr qv qb qah qsc qga qjo qk0 qkv0 qkb0 qk1 qkv1 qkb1 qk2 qkv2 qkb2 qk3 qkv3 qkb3 qo qn qnf qng qd qdf qdg bb (j + 1) Wn → Pn Wn) : OP23 l G (q 0) (qm 0) qo Pn Ws := by
  refine h (fun W => OP23 l G (q 0) (qm 0) qo Pn W) ?_
  intros
  rename_i hI
  exact pp_23 hj hI hP
end C7
set_option maxHeartbeats 4000000 in
set_option maxRecDepth 100000 in
theorem PA_ops {l : Launch} (hl : l.stackTraces = false) (G : GG) (q qa2 qa3 qa4 qa6 qa8 qa9 qa10 qa12 qa14 qa16 qa18 qa20 qa22 qa24 qa27 qa28 qa29 qa31 qa32 qa33 qa35 qa36 qa37 qa39 qa40 qa41 qm : Nat → Nat) (qo : Nat) (h1 : qa10 0 ≠ qa9 0) (h2 : qa4 0 ≠ qa3 0) : OPS l G (q 0) (qm 0) qo (PA G q qa2 qa3 qa4 qa6 qa8 qa9 qa10 qa12 qa14 qa16 qa18 qa20 qa22 qa24 qa27 qa28 qa29 qa31 qa32 qa33 qa35 qa36 qa37 qa39 qa40 qa41 qm qo) := by
  intro j Ws hj h
  rcases h with h | h
  · exact ⟨h.rc, fun Wn hw => hw.elim (fun z => Or.inl (z.up hj)) (fun z => Or.inr (z.up hj)), px_0 hj h (fun _ z => Or.inl z), px_1 hj h1 h (fun _ z => Or.inr z) (fun _ z => Or.inl z), px_2 hj h (fun _ z => Or.inl z), px_3 hj h (fun _ z => Or.inl z), px_4 hj h (fun _ z => Or.inl z), px_5 hj h (fun _ z => Or.inl z), px_6 hj h (fun _ z => Or.inl z), px_7 hj h (fun _ z => Or.inl z), px_8 hj hl h (fun _ z => Or.inl z), px_9 hj h (fun _ z => Or.inl z), px_10 hj h (fun _ z => Or.inl z), px_11 hj h (fun _ z => Or.inl z), px_12 hj h (fun _ z => Or.inl z), px_13 hj h (fun _ z => Or.inl z), px_14 hj h (fun _ z => Or.inl z), px_15 hj h (fun _ z => Or.inl z), px_16 hj h (fun _ z => Or.inl z), px_17 hj h (fun _ z => Or.inl z), px_18 hj hl h (fun _ z => Or.inl z), px_19 hj h (fun _ z => Or.inl z), px_20 hj h (fun _ z => Or.inl z), px_21 hj h (fun _ z => Or.inl z), px_22 hj h (fun _ z => Or.inl z), px_23 hj h (fun _ z => Or.inl z)⟩
  · exact ⟨h.rc, fun Wn hw => hw.elim (fun z => Or.inl (z.up hj)) (fun z => Or.inr (z.up hj)), px_0 hj h (fun _ z => Or.inr z), px_1 hj h2 h (fun _ z => Or.inl z) (fun _ z => Or.inr z), px_2 hj h (fun _ z => Or.inr z), px_3 hj h (fun _ z => Or.inr z), px_4 hj h (fun _ z => Or.inr z), px_5 hj h (fun _ z => Or.inr z), px_6 hj h (fun _ z => Or.inr z), px_7 hj h (fun _ z => Or.inr z), px_8 hj hl h (fun _ z => Or.inr z), px_9 hj h (fun _ z => Or.inr z), px_10 hj h (fun _ z => Or.inr z), px_11 hj h (fun _ z => Or.inr z), px_12 hj h (fun _ z => Or.inr z), px_13 hj h (fun _ z => Or.inr z), px_14 hj h (fun _ z => Or.inr z), px_15 hj h (fun _ z => Or.inr z), px_16 hj h (fun _ z => Or.inr z), px_17 hj h (fun _ z => Or.inr z), px_18 hj hl h (fun _ z => Or.inr z), px_19 hj h (fun _ z => Or.inr z), px_20 hj h (fun _ z => Or.inr z), px_21 hj h (fun _ z => Or.inr z), px_22 hj h (fun _ z => Or.inr z), px_23 hj h (fun _ z => Or.inr z)⟩
set_option maxHeartbeats 4000000 in
set_option maxRecDepth 100000 in
/-- from the entry of the law to its end -/
theorem start_2 {l : Launch} {p : Program} {e : Env} {s : State} {m : MethodId} {below : List Frame} {meth : Method} {c : Code} {b L : Nat} {xs : Nat → Int32} (hl : l.stackTraces = false) (hL : L ≤ 3584) (C0 : lw_At p s m meth c b L xs) : W p l e room_1 s m #[Value.ref b] below meth c s.heap [] 0 0 (lw_Z below #[Value.ref b] s) (entryFrame m ([Value.ref b] : List Value).toArray 7) := by
  obtain ⟨hx, hb, hr, hml, hown, hts, hX, hbl, hlocks, hgv⟩ := C0
  have hT : ∀ w ∈ TT, w.before #[Value.ref b] s = true := fun w hw => hts w (List.mem_filter.mp hw).1
  obtain ⟨G, hK⟩ := gg_of hts
  have hSN := sn_of hts hgv
  have hR : RlW l G b L xs (AtB p l e room_1 s m #[Value.ref b] below meth c (fun q : Nat => s.heap.size ≤ q) G 7 (lw_Z below #[Value.ref b] s)) := ⟨p, e, s, m, below, meth, c, hx, hb, hml, hown, hT, hK, hSN, hX, hbl, hlocks, hr, rfl⟩
  have hF : RlF l G RL cL_law 7 room_1 meth.name (AtB p l e room_1 s m #[Value.ref b] below meth c (fun q : Nat => s.heap.size ≤ q) G 7 (lw_Z below #[Value.ref b] s)) := ⟨p, e, s, m, _, below, meth, c, _, _, hx, hb, hml, hown, hT, hK, fun _ h => h, hSN, rfl, rfl⟩
  rw [lg_entry_eq]
  refine start hR hF (fun q qa2 qa3 qa4 qa6 qa8 qa9 qa10 qa12 qa14 qa16 qa18 qa20 qa22 qa24 qa27 qa28 qa29 qa31 qa32 qa33 qa35 qa36 qa37 qa39 qa40 qa41 qm qo => ?_) s.heap [] _ (fun k q h => by cases h) ⟨fun i j p q h => (by cases h), fun k q h => by cases h⟩ va_S.rf (lv_entry [.ref b] (Nat.le_of_ble_eq_true rfl))
  intro H locs ls hP hD hS hl2
  have hP2 : va_P G.1 vwCl (WS1 G q qa2 qa3 qa4 qa6 qa8 qa9 qa10 qa12 qa14 qa16 qa18 qa20 qa22 qa24 qa27 qa28 qa29 qa31 qa32 qa33 qa35 qa36 qa37 qa39 qa40 qa41 qm qo).flatten H := P_swap hP (fun h => by
    show H[q 1]? = some (vp_cell (G.2 4) (4, .inr (.inr (.inr (.inr (mk4 (qa27 0) (qa31 0) (qa35 0) (qa39 0)))))))
    have h : H[q 1]? = some (vp_cell (G.2 4) (4, .inr (.inr (.inr (.inr (va_up (va_up (va_up (va_up (fun _ => none) 0 (some (qa27 0))) 1 (some (qa31 0))) 2 (some (qa35 0))) 3 (some (qa39 0)))))))) := h
    rw [h, vp_cell_q, vp_cell_q, arr_same (fun j hj => congrArg va_rf (mk_same (qa27 0) (qa31 0) (qa35 0) (qa39 0) j hj))])
  have hD2 : va_D (fun q : Nat => s.heap.size ≤ q) (WS1 G q qa2 qa3 qa4 qa6 qa8 qa9 qa10 qa12 qa14 qa16 qa18 qa20 qa22 qa24 qa27 qa28 qa29 qa31 qa32 qa33 qa35 qa36 qa37 qa39 qa40 qa41 qm qo).flatten := D_swap hD rfl
  have h1 : qa10 0 ≠ qa9 0 := fun h => absurd (hD2.1 62 57 _ _ rfl rfl h) (by decide)
  have h2 : qa4 0 ≠ qa3 0 := fun h => absurd (hD2.1 42 37 _ _ rfl rfl h) (by decide)
  exact walk hR hL (PA_ops hl G q qa2 qa3 qa4 qa6 qa8 qa9 qa10 qa12 qa14 qa16 qa18 qa20 qa22 qa24 qa27 qa28 qa29 qa31 qa32 qa33 qa35 qa36 qa37 qa39 qa40 qa41 qm qo h1 h2) 513 0 0 160 44226 _ 0 rfl (Nat.zero_le _) (by omega) (Nat.le_of_ble_eq_true rfl) (Nat.le_of_ble_eq_true rfl) (Nat.le_of_ble_eq_true rfl) (PA_0 G q qa2 qa3 qa4 qa6 qa8 qa9 qa10 qa12 qa14 qa16 qa18 qa20 qa22 qa24 qa27 qa28 qa29 qa31 qa32 qa33 qa35 qa36 qa37 qa39 qa40 qa41 qm qo) H locs ls hP2 hD2 hS hl2
