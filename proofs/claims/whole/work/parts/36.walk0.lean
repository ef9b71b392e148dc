/-! THE LAW'S WALK: over any invariant of the chunks -/
/-- the method does its work on some of the chunks -/
def Ca (l : Launch) (G : GG) (y : MethodName) (b : ByteArray) (n : Nat) (ret : Option FieldType) (av : List Value) (Ws : List va_W) (o : Option Value) (Ws' : List va_W) : Prop :=
  ∃ (d : Nat) (isC : List Nat) (WsC WsC' : List va_W), d ≤ 1000 ∧ MC l G y b n ret (RM d) av WsC o WsC' ∧ isC.map (fun i => Ws[i]?) = WsC.map some ∧ va_nd isC = true ∧ WsC'.length = WsC.length ∧ putC Ws isC WsC' = Ws'
def Caw (l : Launch) (G : GG) (y : MethodName) (b : ByteArray) (n : Nat) (hh : List (Nat × Nat × Nat × Nat)) (av : List Value) (Ws : List va_W) (o : Int32) (Ws' : List va_W) : Prop :=
  ∃ (d : Nat) (isC : List Nat) (WsC WsC' : List va_W), d ≤ 1000 ∧ MCw l G y b n hh d av WsC o WsC' ∧ isC.map (fun i => Ws[i]?) = WsC.map some ∧ va_nd isC = true ∧ WsC'.length = WsC.length ∧ putC Ws isC WsC' = Ws'
/-- where the two objects and the law's array of one long are -/
def Rc (G : GG) (qw qm qo : Nat) (Ws : List va_W) : Prop :=
  (∃ (w : va_W) (fs : List Value), Ws[0]? = some w ∧ w[0]? = some (qw, .inr (9, fs))) ∧ (∃ (w : va_W) (fs : List Value), Ws[1]? = some w ∧ w[0]? = some (qm, .inr (10, fs))) ∧ ∃ f : Nat → Int64, Ws[2]? = some [(qo, .inl (G.2 1, 1, .inr (.inl f)))]
def Op2 (l : Launch) (G : GG) (qw qm qo : Nat) (P : List va_W → Prop) (yX : MethodName) (bX : ByteArray) (nX : Nat) (yM : MethodName) (bM : ByteArray) (nM : Nat) (ret : Option FieldType) (av : List Value) (Ws : List va_W) : Prop :=
  ∃ (o : Int32) (Wc Wn : List va_W), Ca l G yX bX nX ret (.ref qw :: av) Ws (some (.int o)) Wc ∧ Rc G qw qm qo Wc ∧ Ca l G yM bM nM ret (.ref qm :: av) Wc (some (.int o)) Wn ∧ P Wn
def OpB (l : Launch) (G : GG) (qw qm qo : Nat) (P : List va_W → Prop) (yL : MethodName) (bL : ByteArray) (yM : MethodName) (bM : ByteArray) (nM : Nat) (x y : Int32) (Ws : List va_W) : Prop :=
  ∃ (k o : Int32) (f : Nat → Int64) (Wc Wn Wo : List va_W), Caw l G yL bL 5 [(0, 10, 13, 13)] [.ref qw, .int x, .int y, .ref qo] Ws k Wc ∧ Rc G qw qm qo Wc ∧ Ca l G yM bM nM (some .int) [.ref qm, .int x, .int y] Wc (some (.int o)) Wn ∧ Rc G qw qm qo Wn ∧ Ca l G yX11_thrown cX11_thrown 1 (some .int) [.ref qm] Wn (some (.int k)) Wo ∧ P Wo ∧ Wo[2]? = some [(qo, .inl (G.2 1, 1, .inr (.inl f)))] ∧ (k = 0 → f 0 = o.toInt64)
def RlW (l : Launch) (G : GG) (b L : Nat) (xs : Nat → Int32) (KF : Nat → Nat → KT) : Prop :=
  ∃ (p : Program) (e : Env) (s : State) (m : MethodId) (below : List Frame) (meth : Method) (c : Code), p.tables.exec = Jvm.exec ∧ c.code = cL_law ∧ c.maxLocals = 7 ∧ s.vm.findClass RL = some m.cls ∧ (∀ w ∈ TT, w.before #[Value.ref b] s = true) ∧ va_K G.1 vwCl (tysG G) s ∧ (SN (fun q : Nat => s.heap.size ≤ q) s s.heap ∧ NW s) ∧ va_X b L xs s s.heap ∧ b < s.heap.size ∧ meth.locks = false ∧ meth.sig.returnType = ret ∧ KF = AtB p l e room_1 s m #[Value.ref b] below meth c (fun q : Nat => s.heap.size ≤ q) G 7 (lw_Z below #[Value.ref b] s)
section WK
variable {l : Launch} {G : GG} {b L : Nat} {xs : Nat → Int32} {KF : Nat → Nat → KT}
theorem RlW.rl (h : RlW l G b L xs KF) {cn sn : Nat} (h1 : cn ≤ 601024) (h2 : sn ≤ 7293034) : Rl l G RL cL_law 7 room_1 (KF cn sn) := by
  obtain ⟨p, e, s, m, below, meth, c, hx, hb, hml, hown, hts, hK, hN, hX, hbl, hlk, hr, rfl⟩ := h
  exact ⟨p, e, s, m, _, below, meth, c, _, _, cn, sn, hx, hb, hml, hown, hts, hK, fun _ h => h, hN, ⟨h1, h2⟩, rfl⟩
theorem st_sld (h : RlW l G b L xs KF) {cn sn pc pc' : Nat} (hdg : decode cL_law pc = .ok (.iaload, 1)) {i v : Int32} (hin : vp_in i L) (hv : xs i.toNatClampNeg = v) (hp : pc + 1 = pc') {Ws : List va_W} {lv : List (Nat × Value)} {st : List Value} (k : KF cn sn Ws lv pc' (.int v :: st)) : KF cn sn Ws lv pc (.int i :: .ref b :: st) := by
  obtain ⟨p, e, s, m, below, meth, c, hx, hb, hml, hown, hts, hK, hN, hX, hbl, hlk, hr, rfl⟩ := h
  subst hp; subst hv
  intro H locs ls hP hD hS hl
  exact va_sld hx hb hX hbl (Nat.not_le.mpr hbl) hS hin hdg (k H locs ls hP hD hS hl)
theorem st_slen (h : RlW l G b L xs KF) {cn sn pc pc' : Nat} (hdg : decode cL_law pc = .ok (.arraylength, 1)) (hp : pc + 1 = pc') {Ws : List va_W} {lv : List (Nat × Value)} {st : List Value} (k : KF cn sn Ws lv pc' (.int (nI L) :: st)) : KF cn sn Ws lv pc (.ref b :: st) := by
  obtain ⟨p, e, s, m, below, meth, c, hx, hb, hml, hown, hts, hK, hN, hX, hbl, hlk, hr, rfl⟩ := h
  subst hp
  intro H locs ls hP hD hS hl
  exact va_slen hx hb hX hbl (Nat.not_le.mpr hbl) hS hdg (k H locs ls hP hD hS hl)
theorem st_end (h : RlW l G b L xs KF) {cn sn pc : Nat} (hdg : decode cL_law pc = .ok (.ireturn, 1)) (h1 : cn ≤ 601024) (h2 : sn ≤ 7293034) {Ws : List va_W} {lv : List (Nat × Value)} : KF cn sn Ws lv pc [.int 1] := by
  obtain ⟨p, e, s, m, below, meth, c, hx, hb, hml, hown, hts, hK, hN, hX, hbl, hlk, hr, rfl⟩ := h
  intro H locs ls hP hD hS hl
  refine va_forget (fun q hq => hS.2.2 q hq) ?_
  refine W.widen h1 h2 ?_
  exact lw_ret hx hb hr hlk hdg
theorem st_ca (hR : RlW l G b L xs KF) {cn sn : Nat} (h1 : cn ≤ 601024) (h2 : sn ≤ 7293034) {y : MethodName} {bb : ByteArray} {n np idx a ci N : Nat} {ret : Option FieldType} {av rest st : List Value} {Ws Wn : List va_W} {o : Option Value} {w : va_W} {fs : List Value} {T : u_T} (hM : Ca l G y bb n ret (.ref a :: av) Ws o Wn) (hC : CFV RL idx y bb n ret np) (hn : n ≤ 100)
    (j : Nat) (hj : Ws[j]? = some w) (hk : w[0]? = some (a, .inr (ci, fs))) (hci : vwCl[ci]? = some (y.cls, T, N)) (hnp : av.length = np) (hst : av.reverse ++ .ref a :: rest = st) (hcat : (rest.map fun v => v.category).sum ≤ 8)
    {pc pc' : Nat} (hdg : decode cL_law pc = .ok (.invokevirtual idx, 3)) (hpc : pc + 3 = pc') {lv : List (Nat × Value)} (kk : KF cn sn Wn lv pc' (o.toList ++ rest)) : KF cn sn Ws lv pc st := by
  obtain ⟨d, isC, WsC, WsC', hd, hMM, hsel, hnd, hlen, hput⟩ := hM
  exact st_callV (hR.rl h1 h2) hMM hC ⟨by show d + 1 ≤ 2048; omega, by show 8 + (n + 11) + 40 * d ≤ 84000; omega⟩ isC hsel hnd hlen j 0 ci N hj hk hci hnp hst hcat hdg hpc hput kk
end WK
theorem w_callW {p : Program} {l : Launch} {e : Env} {R : Room} {s : State} {m : MethodId} {args : Array Value} {below : List Frame} {meth : Method} {c : Code} {H : Heap} {locs : List Loc} {cn sn : Nat} {Q : State → Prop} {G : GG} {Ws WsC WsC' : List va_W} {o : Option Value} {pc : Nat} {ls : Array Slot} {st0 rest : List Value} {a : Array Value} {A : Nat → Prop} {isC : List Nat}
    (hr : va_Run p l e R s m args below meth c H locs cn sn 1 6 (F0 m pc ls st0) rest (postW G WsC H.size o WsC' a) (va_A WsC.flatten H.size)) (hP : va_P G.1 vwCl Ws.flatten H) (hD : va_D A Ws.flatten) (hS : va_S A s.heap H locs) (hA : ∀ q, s.heap.size ≤ q → A q)
    (hsel : isC.map (fun i => Ws[i]?) = WsC.map some) (hnd : va_nd isC = true) (hlen : WsC'.length = WsC.length)
    (kk : ∀ (H1 : Heap) (locs1 : List Loc), va_P G.1 vwCl (putC Ws isC WsC').flatten H1 → va_D A (putC Ws isC WsC').flatten → va_S A s.heap H1 locs1 → W p l e R s m args below meth c H1 locs1 (cn + 1) (sn + 6) Q (F0 m (pc + 3) ls (o.toList ++ rest))) : W p l e R s m args below meth c H locs cn sn Q (F0 m pc ls st0) := by
  intro T hT X
  obtain ⟨v, st₀, t, T', L, h0, X', hL, e1, e2, ⟨⟨hv, hP1, hD1⟩, hz, hk⟩, st⟩ := hr T hT X
  cases hv
  rw [h0] at hz hk
  obtain ⟨f1, f2, f3⟩ := w_left hP hD hS hA hsel hnd hlen hP1 hD1 hz hk hL
  obtain ⟨t2, a1, b1⟩ := kk T'.heap (locs ++ L) (by rw [e1]; exact f1) f2 (by rw [e1]; exact f3) T' rfl X'
  exact ⟨t2, st t2 a1, b1⟩
def CFW (own : String) (idx : Nat) (y : MethodName) (b : ByteArray) (n : Nat) (hh : List (Nat × Nat × Nat × Nat)) (np : Nat) : Prop :=
  (∀ w ∈ va_wsS own idx y [.codeWith y b n (some .int) hh], w ∈ TT) ∧ (y.cls ≠ "java/lang/invoke/MethodHandle" ∧ y.cls ≠ "java/lang/invoke/VarHandle") ∧ (parseMethodDescriptor y.desc).map (fun d => d.parameters.length) = some np
theorem st_caw {l : Launch} {G : GG} {b L : Nat} {xs : Nat → Int32} {KF : Nat → Nat → KT} (hR : RlW l G b L xs KF) {cn sn : Nat} (h1 : cn + 1 ≤ 601024) (h2 : sn + 6 ≤ 7293034) {y : MethodName} {bb : ByteArray} {n np idx : Nat} {hh : List (Nat × Nat × Nat × Nat)} {av rest st : List Value} {Ws Wn : List va_W} {o : Int32} (hM : Caw l G y bb n hh av Ws o Wn) (hC : CFW RL idx y bb n hh np) (hn : n ≤ 100)
    (hnp : av.length = np) (hst : av.reverse ++ rest = st) (hcat : (rest.map fun v => v.category).sum ≤ 8)
    {pc pc' : Nat} (hdg : decode cL_law pc = .ok (.invokestatic idx, 3)) (hpc : pc + 3 = pc') {lv : List (Nat × Value)} (kk : KF (cn + 1) (sn + 6) Wn lv pc' (.int o :: rest)) : KF cn sn Ws lv pc st := by
  obtain ⟨d, isC, WsC, WsC', hd, hMM, hsel, hnd, hlen, hput⟩ := hM
  obtain ⟨p, e, s, m, below, meth, c, hx, hb, hml, hown, hts, hK, hN, hX, hbl, hlk, hr, rfl⟩ := hR
  subst hput; subst hpc; subst hst
  intro H locs ls hP hD hS hl
  obtain ⟨hC1, hC2, hC3⟩ := hC
  have hA : ∀ q : Nat, s.heap.size ≤ q → (fun q : Nat => s.heap.size ≤ q) q := fun _ h => h
  obtain ⟨hp1, hp2⟩ := w_pre (av := av) hK hN hP hD hS hA hsel hnd
  have hG : GoodIn TT (va_wsS RL idx y (.codeWith y bb n (some .int) hh :: TT)) := tt_GoodIn (fun _ h => h) fun w hw => by
    unfold va_wsS at hw
    rcases List.mem_append.mp hw with h3 | h3
    · exact hC1 w (by unfold va_wsS; exact List.mem_append_left _ h3)
    · rcases List.mem_cons.mp h3 with h4 | h4
      · exact hC1 w (by unfold va_wsS; exact List.mem_append_right _ (by rw [h4]; exact List.mem_cons_self))
      · exact h4
  refine w_callW (o := some (.int o)) (vx_runSW (As := av) (rest := rest) ⟨hx, hb, hml, hown, hts⟩ (hMM H.size) (vx_cwSW np hts hG rfl rfl rfl ⟨hC2.1, hC2.2, hC3⟩ ⟨by show d + 1 ≤ 2048; omega, by show 8 + (n + 11) + 40 * d ≤ 84000; omega⟩) ⟨hp1, hp2⟩ rfl hnp hl.1 rfl (lv_room hcat) hdg ⟨h1, h2⟩) hP hD hS hA hsel hnd hlen fun H1 locs1 hP1 hD1 hS1 => kk H1 locs1 ls hP1 hD1 hS1 hl
theorem rd_in {i k L : Nat} {l4 x : Int32} (hi : l4 = nI i) (hx : x = nI k) (h : i + k < L) (hL : L ≤ 3584) : vp_in (l4 + x) L := by
  rw [hi, hx, nI_add]
  exact vp_in_nI h (by omega)
theorem rd_0 {i L : Nat} {l4 : Int32} (hi : l4 = nI i) (h : i < L) (hL : L ≤ 3584) : vp_in l4 L := by
  rw [hi]
  exact vp_in_nI h (by omega)
