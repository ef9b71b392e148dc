/-! CORE 4: making objects and arrays; constructors -/
/-- K at each count of new cells and slots -/
def RlF (l : Launch) (G : GG) (own : String) (cc : ByteArray) (nL : Nat) (R : Room) (nm : String) (KF : Nat → Nat → KT) : Prop :=
  ∃ (p : Program) (e : Env) (s : State) (m : MethodId) (args : Array Value) (below : List Frame) (meth : Method) (c : Code) (A : Nat → Prop) (Q : State → Prop), p.tables.exec = Jvm.exec ∧ c.code = cc ∧ c.maxLocals = nL ∧ s.vm.findClass own = some m.cls ∧ (∀ w ∈ TT, w.before args s = true) ∧ va_K G.1 vwCl (tysG G) s ∧ (∀ q, s.heap.size ≤ q → A q) ∧ (SN A s s.heap ∧ NW s) ∧ meth.name = nm ∧ KF = AtB p l e R s m args below meth c A G nL Q
theorem RlF.rl {l : Launch} {G : GG} {own : String} {cc : ByteArray} {nL : Nat} {R : Room} {nm : String} {KF : Nat → Nat → KT} (h : RlF l G own cc nL R nm KF) {cn sn : Nat} (h1 : cn ≤ R.cells) (h2 : sn ≤ R.slots) : Rl l G own cc nL R (KF cn sn) := by
  obtain ⟨p, e, s, m, args, below, meth, c, A, Q, hx, hb, hml, hown, hts, hK, hA, hN, hnm, rfl⟩ := h
  exact ⟨p, e, s, m, args, below, meth, c, A, Q, cn, sn, hx, hb, hml, hown, hts, hK, hA, hN, ⟨h1, h2⟩, rfl⟩
abbrev RMn (d mc ms : Nat) : Room := { frames := d, cells := mc, slots := ms, locals := 40 * d }
def postN (G : GG) (Ws : List va_W) (sz : Nat) (P : List va_W → Prop) : Array Value → State → Outcome → State → Prop := fun _ st oc t =>
  (∃ Ws' : List va_W, P Ws' ∧ oc = .returned none ∧ va_P G.1 vwCl Ws'.flatten t.heap ∧ va_D (va_A Ws.flatten sz) Ws'.flatten ∧ Ws'.length = Ws.length) ∧ va_F (va_A Ws.flatten sz) st t
/-- a constructor's contract: what comes is one of P -/
def MCn (l : Launch) (G : GG) (y : MethodName) (b : ByteArray) (n d mc ms : Nat) (av : List Value) (Ws : List va_W) (P : List va_W → Prop) : Prop :=
  ∀ sz : Nat, Met l y (.code y b n none :: TT) (RMn d mc ms) (va_Pc av (preW G Ws sz)) (postN G Ws sz P) mc ms (va_A Ws.flatten sz)
theorem MCn.of {l : Launch} {G : GG} {y : MethodName} {b : ByteArray} {n d mc ms : Nat} {av : List Value} {Ws : List va_W} {P : List va_W → Prop} (hy : plainName y.cls = true) (hav : (lg_sl av).length ≤ n)
    (body : ∀ KF : Nat → Nat → KT, RlF l G y.cls b n (RMn d mc ms) y.name KF → (∀ (Ws' : List va_W) (lv : List (Nat × Value)) (pc : Nat), decode b pc = .ok (.return_, 1) → P Ws' → Ws'.length = Ws.length → KF mc ms Ws' lv pc []) → KF 0 0 Ws (lv_args 0 av) 0 []) : MCn l G y b n d mc ms av Ws P := by
  intro sz
  refine Met.ofW (cc := b) (maxL := n) (ret := none) hy rfl ?_
  intro p e s m args below meth c s₁ B hml hv
  obtain ⟨rfl, hsz, hP, hK, hD0, hN⟩ := hv
  subst hsz
  have hts : ∀ w ∈ TT, w.before av.toArray s = true := fun w hw => atoms_spec (ws := .code y b n none :: TT) B.pre w (List.mem_cons_of_mem _ hw)
  have hown : s.vm.findClass y.cls = some m.cls := findClass_of_methodNamed B.named
  have hnm : meth.name = y.name := (name_of_methodNamed B.named B.method).1
  have hlocks := B.notSynchronized
  have hr := B.returns
  have hx := B.exec
  have hb := B.bytes
  have hA : ∀ q : Nat, s.heap.size ≤ q → va_A Ws.flatten s.heap.size q := fun q h => Or.inr h
  rw [lg_entry_eq]
  refine body (AtB p l e (RMn d mc ms) s m av.toArray below meth c (va_A Ws.flatten s.heap.size) G n (MQ below (postN G Ws s.heap.size P) av.toArray s mc ms (va_A Ws.flatten s.heap.size))) ⟨p, e, s, m, av.toArray, below, meth, c, _, _, hx, hb, hml, hown, hts, hK, hA, hN, hnm, rfl⟩ ?_ s.heap [] _ hP (hD0.self (sz := s.heap.size)) va_S.rf (lv_entry av hav)
  intro Ws' lv pc hdg hPw hlen H locs ls hP1 hD1 hS1 hl1
  exact W.vret hx hb hr (fun t ht _ => ⟨⟨Ws', hPw, rfl, by rw [ht]; exact hP1, hD1, hlen⟩, hS1.F ht⟩) hS1.2.2 hdg
section WC
variable {p : Program} {l : Launch} {e : Env} {R : Room} {s : State} {m : MethodId} {args : Array Value} {below : List Frame} {meth : Method} {c : Code} {H : Heap} {locs : List Loc} {cn sn : Nat} {Q : State → Prop}
theorem w_callN {G : GG} {Ws WsC : List va_W} {P : List va_W → Prop} {mc ms : Nat} {pc : Nat} {ls : Array Slot} {st0 rest : List Value} {a : Array Value} {A : Nat → Prop} {isC : List Nat}
    (hr : va_Run p l e R s m args below meth c H locs cn sn mc ms (F0 m pc ls st0) rest (postN G WsC H.size P a) (va_A WsC.flatten H.size)) (hP : va_P G.1 vwCl Ws.flatten H) (hD : va_D A Ws.flatten) (hS : va_S A s.heap H locs) (hA : ∀ q, s.heap.size ≤ q → A q)
    (hsel : isC.map (fun i => Ws[i]?) = WsC.map some) (hnd : va_nd isC = true)
    (kk : ∀ (WsC' : List va_W) (H1 : Heap) (locs1 : List Loc), P WsC' → va_P G.1 vwCl (putC Ws isC WsC').flatten H1 → va_D A (putC Ws isC WsC').flatten → va_S A s.heap H1 locs1 → W p l e R s m args below meth c H1 locs1 (cn + mc) (sn + ms) Q (F0 m (pc + 3) ls rest)) : W p l e R s m args below meth c H locs cn sn Q (F0 m pc ls st0) := by
  intro T hT X
  obtain ⟨v, st₀, t, T', L, h0, X', hL, e1, e2, ⟨⟨WsC', hPw, hv, hP1, hD1, hlen⟩, hz, hk⟩, st⟩ := hr T hT X
  cases hv
  rw [h0] at hz hk
  obtain ⟨Rr, hp, hp'⟩ := put_perm hsel hnd
  have hPp := wd_P_iff.mp (wd_P_perm hp hP)
  have hDp := wd_D_iff.mp (wd_D_perm hp hD)
  have hpw := List.pairwise_append.mp hDp.1
  have hD1' := wd_D_iff.mp hD1
  have hR1 : ∀ q ∈ Rr, q.1 < H.size := fun q hq => (hPp q (List.mem_append_right _ hq)).lt
  have hR2 : ∀ q ∈ Rr, ¬ va_A WsC.flatten H.size q.1 := by
    intro q hq h
    rcases h with ⟨k, ee, h⟩ | h
    · exact hpw.2.2 _ (List.mem_of_getElem? h) _ hq rfl
    · exact absurd (hR1 q hq) (by omega)
  have hF : ∀ q, va_A WsC.flatten H.size q → A q := by
    intro q h
    rcases h with ⟨k, ee, h⟩ | h
    · exact hDp.2 (q, ee) (List.mem_append_left _ (List.mem_of_getElem? h))
    · exact hA q (Nat.le_trans hS.1 h)
  have hPn : va_P G.1 vwCl (WsC'.flatten ++ Rr) t.heap := by
    refine wd_P_iff.mpr fun q hq => ?_
    rcases List.mem_append.mp hq with h | h
    · exact wd_P_iff.mp hP1 q h
    · exact (hPp q (List.mem_append_right _ h)).kept (hk q.1 (hR1 q h) (hR2 q h))
  have hDn : va_D A (WsC'.flatten ++ Rr) := by
    refine wd_D_iff.mpr ⟨List.pairwise_append.mpr ⟨hD1'.1, hpw.2.1, fun x hx y hy ee => ?_⟩, fun q hq => ?_⟩
    · exact hR2 y hy (by rw [← ee]; exact hD1'.2 x hx)
    · rcases List.mem_append.mp hq with h | h
      · exact hF _ (hD1'.2 q h)
      · exact hDp.2 q (List.mem_append_right _ h)
  have hpn := (hp' WsC' hlen).symm
  obtain ⟨t2, a1, b1⟩ := kk WsC' T'.heap (locs ++ L) hPw (by rw [e1]; exact wd_P_perm hpn hPn) (wd_D_perm hpn hDn)
    ⟨Nat.le_trans hS.1 (by rw [e1]; exact hz), fun q h1 h2 => by rw [e1, hk q (Nat.lt_of_lt_of_le h1 hS.1) (fun z => h2 (hF q z))]; exact hS.2.1 q h1 h2, fun q hq => by
      rcases List.mem_append.mp hq with h | h
      · exact hS.2.2 q h
      · exact hF _ (hL q h)⟩ T' rfl X'
  exact ⟨t2, st t2 a1, b1⟩
end WC
def CFI (own : String) (idx : Nat) (y : MethodName) (b : ByteArray) (n np : Nat) : Prop :=
  (∀ w ∈ ([.instanceMethod y, .initialized y.cls] : List Cond) ++ [.code y b n none], w ∈ TT) ∧ (Cond.methodLink own idx y ∈ TT ∨ ∃ host : String, Cond.methodLinkNest own idx y host ∈ TL) ∧ (y.cls ≠ "java/lang/invoke/MethodHandle" ∧ y.cls ≠ "java/lang/invoke/VarHandle") ∧ (parseMethodDescriptor y.desc).map (fun d => d.parameters.length) = some np ∧ y.name = "<init>"
section ST
variable {l : Launch} {G : GG} {own : String} {cc : ByteArray} {nL : Nat} {R : Room} {nm : String} {KF : Nat → Nat → KT}
/-- the same cells, in other chunks -/
theorem st_flat (hF : RlF l G own cc nL R nm KF) {cn sn : Nat} {Ws Ws2 : List va_W} {lv : List (Nat × Value)} {pc : Nat} {st : List Value} (h : Ws.flatten = Ws2.flatten) (k : KF cn sn Ws2 lv pc st) : KF cn sn Ws lv pc st := by
  obtain ⟨p, e, s, m, args, below, meth, c, A, Q, hx, hb, hml, hown, hts, hK, hA, hN, hnm, rfl⟩ := hF
  intro H locs ls hP hD hS hl
  rw [h] at hP hD
  exact k H locs ls hP hD hS hl
theorem st_widen (hF : RlF l G own cc nL R nm KF) {cn sn cn' sn' : Nat} {Ws : List va_W} {lv : List (Nat × Value)} {pc : Nat} {st : List Value} (h1 : cn ≤ cn') (h2 : sn ≤ sn') (k : KF cn' sn' Ws lv pc st) : KF cn sn Ws lv pc st := by
  obtain ⟨p, e, s, m, args, below, meth, c, A, Q, hx, hb, hml, hown, hts, hK, hA, hN, hnm, rfl⟩ := hF
  intro H locs ls hP hD hS hl
  exact W.widen h1 h2 (k H locs ls hP hD hS hl)
theorem st_new (hF : RlF l G own cc nL R nm KF) {pc idx : Nat} (hdg : decode cc pc = .ok (.new idx, 3)) {C : String} {T : u_T} {N ci : Nat} (hc : vwCl[ci]? = some (C, T, N)) (hin : ∀ w ∈ u_ws C T N, w ∈ TT) {ty : Nat → FieldType} (hty : ∀ k, k < N → parseFieldDescriptor (T k).2.2.1 = some (ty k)) (hw : Cond.classLink own idx C ∈ TT ∧ Cond.instantiable C N ∈ TT ∧ Cond.initialized C ∈ TT) {fs : List Value} (hfs : ∀ j, j < N → defaultValue (ty j) = vp_V fs j)
    {cn sn cn' sn' : Nat} (h1 : cn + 1 = cn') (h2 : sn + N = sn') (h3 : cn' ≤ R.cells) (h4 : sn' ≤ R.slots) {pc' : Nat} (hp : pc + 3 = pc') {Ws : List va_W} {lv : List (Nat × Value)} {st : List Value} (k : ∀ q : Nat, KF cn' sn' (Ws ++ [[(q, .inr (ci, fs))]]) lv pc' (.ref q :: st)) : KF cn sn Ws lv pc st := by
  obtain ⟨p, e, s, m, args, below, meth, c, A, Q, hx, hb, hml, hown, hts, hK, hA, hN, hnm, rfl⟩ := hF
  subst hp; subst h1; subst h2
  intro H locs ls hP hD hS hl
  refine va_new hx hb hts hin ty hty hown (hts _ hw.1) (hts _ hw.2.1) (hts _ hw.2.2) hK hP hD hS hA hc hfs h3 h4 hdg (fun q H1 hP1 hD1 hS1 => k q H1 locs ls ?_ ?_ hS1 hl)
  · simpa using hP1
  · simpa using hD1
theorem st_newa (hF : RlF l G own cc nL R nm KF) {pc : Nat} {at_ : ArrayType} (hdg : decode cc pc = .ok (.newarray at_, 2)) (t : Nat) {ty : FieldType} (hty : newarray.typeOf at_ = ty) (ht : (tysG G)[t]? = some (G.2 t, ty)) (hprim : ∀ C, ty ≠ .object C) (harr : Cond.arrayClass (newarray.typeOf at_) ∈ TT) {N : Nat} {x : (Nat → Int32) ⊕ (Nat → Int64) ⊕ (Nat → UInt32) ⊕ (Nat → UInt64) ⊕ (Nat → Option Nat)} (ha : ∀ cA : ClassId, vp_cell cA (N, x) = arrV cA N (fun _ => defaultValue ty)) {n : Int32} (hn : ¬ n < 0) (hN' : n.toNatClampNeg = N) (hbytes : N * componentBytes ty ≤ 536870912)
    {cn sn cn' sn' : Nat} (h1 : cn + 1 = cn') (h2 : sn + N = sn') (h3 : cn' ≤ R.cells) (h4 : sn' ≤ R.slots) {pc' : Nat} (hp : pc + 2 = pc') {Ws : List va_W} {lv : List (Nat × Value)} {st : List Value} (k : ∀ q : Nat, KF cn' sn' (Ws ++ [[(q, .inl (G.2 t, N, x))]]) lv pc' (.ref q :: st)) : KF cn sn Ws lv pc (.int n :: st) := by
  obtain ⟨p, e, s, m, args, below, meth, c, A, Q, hx, hb, hml, hown, hts, hK, hA, hN, hnm, rfl⟩ := hF
  subst hp; subst h1; subst h2
  intro H locs ls hP hD hS hl
  refine va_newa hx hb (hts _ harr) hty hK hP hD hS hA ha hn hN' hbytes h3 h4 hdg (fun q cA H1 hK1 hP1 hD1 hS1 => ?_)
  have e1 := (hK.2 t _ ht).2
  have e2 := (hK1.2 ((tysG G).length) (cA, ty) (by simp)).2
  have e3 : cA = G.2 t := by
    cases ty with
    | object C => exact absurd rfl (hprim C)
    | _ => exact Option.some.inj (e2.symm.trans e1)
  subst e3
  refine k q H1 locs ls ?_ ?_ hS1 hl
  · simpa using hP1
  · simpa using hD1
theorem st_newq (hF : RlF l G own cc nL R nm KF) {pc idx : Nat} (hdg : decode cc pc = .ok (.anewarray idx, 3)) (hcl : Cond.classLink own idx "WolfHalf$Mark" ∈ TT) {N : Nat} {n : Int32} (hn : ¬ n < 0) (hN' : n.toNatClampNeg = N) (hbytes : N * 4 ≤ 536870912)
    {cn sn cn' sn' : Nat} (h1 : cn + 1 = cn') (h2 : sn + N = sn') (h3 : cn' ≤ R.cells) (h4 : sn' ≤ R.slots) {pc' : Nat} (hp : pc + 3 = pc') {Ws : List va_W} {lv : List (Nat × Value)} {st : List Value} (k : ∀ q : Nat, KF cn' sn' (Ws ++ [[(q, .inl (G.2 4, N, .inr (.inr (.inr (.inr (fun _ => none))))))]]) lv pc' (.ref q :: st)) : KF cn sn Ws lv pc (.int n :: st) := by
  obtain ⟨p, e, s, m, args, below, meth, c, A, Q, hx, hb, hml, hown, hts, hK, hA, hN, hnm, rfl⟩ := hF
  subst hp; subst h1; subst h2
  intro H locs ls hP hD hS hl
  refine va_newq hx hb hown (hts _ hcl) hN.2.2.1 hK hP hD hS hA hn hN' hbytes h3 h4 hdg (fun q cA H1 hK1 hP1 hD1 hS1 => ?_)
  have e1 := (hK.2 4 (G.2 4, .object "WolfHalf$Mark") rfl).2
  have e2 := (hK1.2 ((tysG G).length) (cA, .object "WolfHalf$Mark") (by simp)).2
  have e3 : cA = G.2 4 := by
    obtain ⟨_, _, _, _, _, f1⟩ := e1
    obtain ⟨_, _, _, _, _, f2⟩ := e2
    exact Option.some.inj (f2.symm.trans f1)
  subst e3
  refine k q H1 locs ls ?_ ?_ hS1 hl
  · simpa using hP1
  · simpa using hD1
/-- a final field, in a constructor -/
def FPF (own : String) (idx ci f : Nat) (ty : FieldType) : Prop := ∃ (C : String) (T : u_T) (N : Nat) (ty0 : Nat → FieldType), vwCl[ci]? = some (C, T, N) ∧ f < N ∧ (∀ w ∈ u_ws C T N, w ∈ TT) ∧ Cond.fieldLink own idx (T f).1 (T f).2.1 (T f).2.2.1 ∈ TT ∧ (∀ k, k < N → parseFieldDescriptor (T k).2.2.1 = some (ty0 k)) ∧ (∀ a, a < N → ∀ b, b < N → a ≠ b → (T a).2.1 ≠ (T b).2.1) ∧ (T f).2.2.2 = true ∧ (T f).1 = own ∧ parseFieldDescriptor (T f).2.2.1 = some ty
theorem st_putF (hF : RlF l G own cc nL R "<init>" KF) {pc idx : Nat} (hdg : decode cc pc = .ok (.putfield idx, 3)) {ci f : Nat} {ty : FieldType} (hFF : FPF own idx ci f ty) (j k0 : Nat) {Ws : List va_W} {w : va_W} {a : Nat} {fs : List Value} {v : Value} (hj : Ws[j]? = some w) (hk : w[k0]? = some (a, .inr (ci, fs))) (hlen : f < fs.length) (hn : narrow ty v = v) (hfit : fits ty v = true) {pc' : Nat} (hp : pc + 3 = pc') {cn sn : Nat} {lv : List (Nat × Value)} {st : List Value} {W' : List va_W} (hW : Ws.set j (w.set k0 (a, .inr (ci, fs.set f v))) = W') (k : KF cn sn W' lv pc' st) : KF cn sn Ws lv pc (v :: .ref a :: st) := by
  obtain ⟨p, e, s, m, args, below, meth, c, A, Q, hx, hb, hml, hown, hts, hK, hA, hN, hnm, rfl⟩ := hF
  subst hp; subst hW
  intro H locs ls hP hD hS hl
  obtain ⟨q0, hq0, hq1⟩ := ch_at hj hk
  obtain ⟨C, T, N, ty0, hc, hf, hin, hlk, hty, hnmm, hfin, hdecl, hd⟩ := hFF
  refine va_putF hx hb hts hin ty0 hty hnmm hown hK hP hD hS q0 hq0 hc f hf (hts _ hlk) (fun _ h => h) hfin hnm hdecl hd hn hfit hlen hdg (fun H1 locs1 hP1 hD1 hS1 => ?_)
  rw [hq1] at hP1 hD1
  exact k H1 locs1 ls hP1 hD1 hS1 hl
theorem st_oinit (hF : RlF l G own cc nL R nm KF) {pc idx : Nat} (hdg : decode cc pc = .ok (.invokespecial idx, 3)) (hw : Cond.methodLink own idx Lib.objectInit ∈ TT ∧ Cond.instanceMethod Lib.objectInit ∈ TT ∧ Cond.code Lib.objectInit ⟨#[0xb1]⟩ 1 none ∈ TT) (hfr : 1 ≤ R.frames) {a : Nat} {rest : List Value} (hlo : (rest.map fun v => v.category).sum + 12 ≤ R.locals) {pc' : Nat} (hp : pc + 3 = pc') {cn sn : Nat} {Ws : List va_W} {lv : List (Nat × Value)} (k : KF cn sn Ws lv pc' rest) : KF cn sn Ws lv pc (.ref a :: rest) := by
  obtain ⟨p, e, s, m, args, below, meth, c, A, Q, hx, hb, hml, hown, hts, hK, hA, hN, hnm, rfl⟩ := hF
  subst hp
  intro H locs ls hP hD hS hl
  refine W.objInit hx hb hown (hts _ hw.1) (hts _ hw.2.1) (hts _ hw.2.2) rfl (by rw [hml]; exact hl.1) rfl hdg hfr (by show 2 * 0 + _ + 12 ≤ _; omega) ?_
  exact k H locs ls hP hD hS hl
theorem st_callI (hF : RlF l G own cc nL R nm KF) {y : MethodName} {b : ByteArray} {n np idx d mc ms : Nat} {a : Nat} {av rest st : List Value} {WsC Ws : List va_W} {P : List va_W → Prop}
    (hM : MCn l G y b n d mc ms (.ref a :: av) WsC P) (hC : CFI own idx y b n np) (hroom : d + 1 ≤ R.frames ∧ 8 + (n + 11) + 40 * d ≤ R.locals) (isC : List Nat) (hsel : isC.map (fun i => Ws[i]?) = WsC.map some) (hnd : va_nd isC = true)
    (hnp : av.length = np) (hst : av.reverse ++ .ref a :: rest = st) (hcat : (rest.map fun v => v.category).sum ≤ 8)
    {pc pc' : Nat} (hdg : decode cc pc = .ok (.invokespecial idx, 3)) (hpc : pc + 3 = pc') {cn sn cn' sn' : Nat} (h1 : cn + mc = cn') (h2 : sn + ms = sn') (h3 : cn' ≤ R.cells) (h4 : sn' ≤ R.slots) {lv : List (Nat × Value)} (kk : ∀ WsC' : List va_W, P WsC' → KF cn' sn' (putC Ws isC WsC') lv pc' rest) : KF cn sn Ws lv pc st := by
  obtain ⟨p, e, s, m, args, below, meth, c, A, Q, hx, hb, hml, hown, hts, hK, hA, hN, hnm, rfl⟩ := hF
  subst hpc; subst hst; subst h1; subst h2
  intro H locs ls hP hD hS hl
  obtain ⟨hC1, hC2, hC3, hC4, hC5⟩ := hC
  obtain ⟨hp1, hp2⟩ := w_pre (av := .ref a :: av) hK hN hP hD hS hA hsel hnd
  have hG : GoodIn TT (.code y b n none :: TT) := cf_ws (pre := []) fun w hw => hC1 w (List.mem_append_right _ hw)
  rcases hC2 with hlk | ⟨host, hlk⟩
  · refine w_callN (va_runI (As := av) (rest := rest) ⟨hx, hb, hml, hown, hts⟩ (hM H.size) (cwI np hts hG rfl rfl rfl (hts _ (hC1 _ (by simp))) (hts _ hlk) (hts _ (hC1 _ (by simp))) hC5 ⟨hC3.1, hC3.2, hC4⟩ hroom) ⟨hp1, hp2⟩ rfl hnp hl.1 rfl (lv_room hcat) hdg ⟨h3, h4⟩) hP hD hS hA hsel hnd fun WsC' H1 locs1 hPw hP1 hD1 hS1 => kk WsC' hPw H1 locs1 ls hP1 hD1 hS1 hl
  · refine w_callN (va_runIN (As := av) (rest := rest) ⟨hx, hb, hml, hown, hts⟩ (hM H.size) ⟨va_cnB np hts hG rfl rfl rfl (hN.2.1 _ hlk) (hts _ (hC1 _ (by simp))) ⟨hC3.1, hC3.2, hC4⟩ hroom, hC5, hts _ (hC1 _ (by simp))⟩ ⟨hp1, hp2⟩ rfl hnp hl.1 rfl (lv_room hcat) hdg ⟨h3, h4⟩) hP hD hS hA hsel hnd fun WsC' H1 locs1 hPw hP1 hD1 hS1 => kk WsC' hPw H1 locs1 ls hP1 hD1 hS1 hl
theorem st_astq (hF : RlF l G own cc nL R nm KF) {pc : Nat} (hdg : decode cc pc = .ok (.aastore, 1)) (j k0 j1 k1 : Nat) {Ws : List va_W} {w w1 : va_W} {a n v : Nat} {f : Nat → Option Nat} {vs : List Value} (hj : Ws[j]? = some w) (hk : w[k0]? = some (a, .inl (G.2 4, n, .inr (.inr (.inr (.inr f)))))) (hj1 : Ws[j1]? = some w1) (hk1 : w1[k1]? = some (v, .inr (4, vs))) {i : Int32} {x : Nat} (hin : vp_in i n) (hix : i.toNatClampNeg = x) {pc' : Nat} (hp : pc + 1 = pc') {cn sn : Nat} {lv : List (Nat × Value)} {st : List Value} {W' : List va_W} (hW : Ws.set j (w.set k0 (a, .inl (G.2 4, n, .inr (.inr (.inr (.inr (va_up f x (some v)))))))) = W') (k : KF cn sn W' lv pc' st) : KF cn sn Ws lv pc (.ref v :: .int i :: .ref a :: st) := by
  obtain ⟨p, e, s, m, args, below, meth, c, A, Q, hx, hb, hml, hown, hts, hK, hA, hN, hnm, rfl⟩ := hF
  subst hp; subst hW; subst hix
  intro H locs ls hP hD hS hl
  obtain ⟨q0, hq0, hq1⟩ := ch_at hj hk
  obtain ⟨q2, hq2, -⟩ := ch_at hj1 hk1
  refine va_astq hx hb hK hP hD hS q0 4 q2 4 (r := (RX4, TX4, 3)) hq0 rfl hq2 rfl hin hdg (fun H1 locs1 hP1 hD1 hS1 => ?_)
  rw [hq1] at hP1 hD1
  exact k H1 locs1 ls hP1 hD1 hS1 hl
end ST
section ST
variable {l : Launch} {G : GG} {own : String} {cc : ByteArray} {nL : Nat} {R : Room} {nm : String} {KF : Nat → Nat → KT}
/-- some of the chunks, in another order -/
theorem st_pick (hF : RlF l G own cc nL R nm KF) {cn sn : Nat} (is : List Nat) {Ws Ws2 : List va_W} {lv : List (Nat × Value)} {pc : Nat} {st : List Value} (hsel : is.map (fun i => Ws[i]?) = Ws2.map some) (hnd : va_nd is = true) (k : KF cn sn Ws2 lv pc st) : KF cn sn Ws lv pc st := by
  obtain ⟨p, e, s, m, args, below, meth, c, A, Q, hx, hb, hml, hown, hts, hK, hA, hN, hnm, rfl⟩ := hF
  intro H locs ls hP hD hS hl
  obtain ⟨Rr, hp, -⟩ := put_perm hsel hnd
  have hPp := wd_P_iff.mp (wd_P_perm hp hP)
  have hDp := wd_D_iff.mp (wd_D_perm hp hD)
  exact k H locs ls (wd_P_iff.mpr fun q hq => hPp q (List.mem_append_left _ hq)) (wd_D_iff.mpr ⟨(List.pairwise_append.mp hDp.1).1, fun q hq => hDp.2 q (List.mem_append_left _ hq)⟩) hS hl
end ST
