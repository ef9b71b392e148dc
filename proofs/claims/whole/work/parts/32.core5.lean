/-! CORE 5: methods that may throw, and the law's methods that catch -/
def postX (G : GG) (Ws : List va_W) (sz : Nat) (r : Option Int32) (Ws' : List va_W) : Array Value → State → Outcome → State → Prop := fun _ st oc t =>
  (∃ v : Int32, r = some v ∧ oc = .returned (some (.int v)) ∧ va_P G.1 vwCl Ws'.flatten t.heap ∧ va_D (va_A Ws.flatten sz) Ws'.flatten) ∧ va_F (va_A Ws.flatten sz) st t
def exX (G : GG) (Ws : List va_W) (sz : Nat) (r : Option Int32) (Ws' : List va_W) : String → State → State → Prop := fun E st t =>
  (r = none ∧ E = NSE ∧ va_P G.1 vwCl Ws'.flatten t.heap ∧ va_D (va_A Ws.flatten sz) Ws'.flatten) ∧ va_F (va_A Ws.flatten sz) st t
/-- a contract of a method that answers r, or throws where r is none -/
def MCx (l : Launch) (G : GG) (y : MethodName) (b : ByteArray) (n d : Nat) (av : List Value) (Ws : List va_W) (r : Option Int32) (Ws' : List va_W) : Prop :=
  ∀ sz : Nat, vx_Met l y (.code y b n (some .int) :: TT) (RMn d 1 6) (va_Pc av (preW G Ws sz)) (postX G Ws sz r Ws') (exX G Ws sz r Ws') 1 6 (va_A Ws.flatten sz)
theorem MCx.of {l : Launch} {G : GG} {y : MethodName} {b : ByteArray} {n d : Nat} {av : List Value} {Ws Ws' : List va_W} {r : Option Int32} (hl : l.stackTraces = false) (hy : plainName y.cls = true) (hyc : y.cls = RX10) (hd : 5 < d) (hav : (lg_sl av).length ≤ n)
    (body : ∀ K : KT, Rl l G y.cls b n (RMn d 1 6) K → (∀ (v : Int32) (lv : List (Nat × Value)) (pc : Nat), decode b pc = .ok (.ireturn, 1) → r = some v → K Ws' lv pc [.int v]) →
      (∀ (lv : List (Nat × Value)) (pc is : Nat), (is = 162 ∨ is = 218) → decode b pc = .ok (.new 160, 3) → decode b (pc + 3) = .ok (.dup, 1) → decode b (pc + 4) = .ok (.ldc is, 2) → decode b (pc + 6) = .ok (.invokespecial 164, 3) → decode b (pc + 9) = .ok (.athrow, 1) → r = none → K Ws' lv pc []) → K Ws (lv_args 0 av) 0 []) : MCx l G y b n d av Ws r Ws' := by
  intro sz
  refine vx_ofW (cc := b) (maxL := n) (ret := some .int) hy rfl ?_
  intro p e s m args below meth c s₁ B hml hnt hv
  obtain ⟨rfl, hsz, hP, hK, hD0, hN⟩ := hv
  subst hsz
  have hts : ∀ w ∈ TT, w.before av.toArray s = true := fun w hw => atoms_spec (ws := .code y b n (some .int) :: TT) B.pre w (List.mem_cons_of_mem _ hw)
  have hown : s.vm.findClass y.cls = some m.cls := findClass_of_methodNamed B.named
  have hlocks := B.notSynchronized
  have hr := B.returns
  have hx := B.exec
  have hb := B.bytes
  have hA : ∀ q : Nat, s.heap.size ≤ q → va_A Ws.flatten s.heap.size q := fun q h => Or.inr h
  rw [lg_entry_eq]
  refine body (AtB p l e (RMn d 1 6) s m av.toArray below meth c (va_A Ws.flatten s.heap.size) G n (vx_MQ below (postX G Ws s.heap.size r Ws') (exX G Ws s.heap.size r Ws') av.toArray s 1 6 (va_A Ws.flatten s.heap.size)) 0 0) ⟨p, e, s, m, av.toArray, below, meth, c, _, _, 0, 0, hx, hb, hml, hown, hts, hK, hA, hN, ⟨Nat.zero_le _, Nat.zero_le _⟩, rfl⟩ ?_ ?_ s.heap [] _ hP (hD0.self (sz := s.heap.size)) va_S.rf (lv_entry av hav)
  · intro v lv pc hdg hrv H locs ls hP1 hD1 hS1 hl1
    refine W.widen (k := 1) (n := 6) (by decide) (by decide) (vx_ret ?_)
    exact W.zret hx hb hr rfl (fun t ht _ => ⟨⟨v, hrv, rfl, by rw [ht]; exact hP1, hD1⟩, hS1.F ht⟩) hS1.2.2 hdg
  · intro lv pc is his d0 d3 d4 d6 d9 hrv H locs ls hP1 hD1 hS1 hl1
    have ow : s.vm.findClass RX10 = some m.cls := by rw [← hyc]; exact hown
    have hsm : ls.size = c.maxLocals := hl1.1.trans hml.symm
    have hxc : ∀ t : State, s.vm.Alike t.vm → H.size ≤ t.heap.size → (∀ q : Nat, q < H.size → t.heap[q]? = H[q]?) → exX G Ws s.heap.size r Ws' NSE s t := fun t _ h1 h2 =>
      ⟨⟨hrv, rfl, wd_P_iff.mpr fun q hq => (wd_P_iff.mp hP1 q hq).kept (h2 q.1 (wd_P_iff.mp hP1 q hq).lt), hD1⟩, Nat.le_trans hS1.1 h1, fun q hq hn => (h2 q (Nat.lt_of_lt_of_le hq hS1.1)).trans (hS1.2.1 q hq hn)⟩
    rcases his with rfl | rfl
    · obtain ⟨sa, hsa⟩ := hN.2.2.2.1
      exact ns_throw hx hb hl ow hts hN hsa hS1 hsm d0 d3 d4 d6 d9 (fun x hx' => (hnt x hx').elim) hd (by show 0 + 82 ≤ 40 * d; omega) (Nat.le_refl _) (Nat.le_refl _) hlocks hxc hS1.2.2 (Nat.le_refl _) (Nat.le_refl _)
    · obtain ⟨sa, hsa⟩ := hN.2.2.2.2
      exact ns_throw hx hb hl ow hts hN hsa hS1 hsm d0 d3 d4 d6 d9 (fun x hx' => (hnt x hx').elim) hd (by show 0 + 82 ≤ 40 * d; omega) (Nat.le_refl _) (Nat.le_refl _) hlocks hxc hS1.2.2 (Nat.le_refl _) (Nat.le_refl _)
section WC
variable {p : Program} {l : Launch} {e : Env} {R : Room} {s : State} {m : MethodId} {args : Array Value} {below : List Frame} {meth : Method} {c : Code} {H : Heap} {locs : List Loc} {cn sn : Nat} {Q : State → Prop}
/-- what a callee leaves, in the caller's chunks -/
theorem w_left {G : GG} {Ws WsC WsC' : List va_W} {A : Nat → Prop} {isC : List Nat} {H1 : Heap} {L : List Loc} (hP : va_P G.1 vwCl Ws.flatten H) (hD : va_D A Ws.flatten) (hS : va_S A s.heap H locs) (hA : ∀ q, s.heap.size ≤ q → A q)
    (hsel : isC.map (fun i => Ws[i]?) = WsC.map some) (hnd : va_nd isC = true) (hlen : WsC'.length = WsC.length) (hP1 : va_P G.1 vwCl WsC'.flatten H1) (hD1 : va_D (va_A WsC.flatten H.size) WsC'.flatten) (hz : H.size ≤ H1.size) (hk : ∀ q, q < H.size → ¬ va_A WsC.flatten H.size q → H1[q]? = H[q]?) (hL : ∀ q ∈ L, va_A WsC.flatten H.size q.base) :
    va_P G.1 vwCl (putC Ws isC WsC').flatten H1 ∧ va_D A (putC Ws isC WsC').flatten ∧ va_S A s.heap H1 (locs ++ L) := by
  obtain ⟨Rr, hp, hp'⟩ := put_perm hsel hnd
  have hPp := wd_P_iff.mp (wd_P_perm hp hP)
  have hDp := wd_D_iff.mp (wd_D_perm hp hD)
  have hpw := List.pairwise_append.mp hDp.1
  have hD1' := wd_D_iff.mp hD1
  have hR1 : ∀ q ∈ Rr, q.1 < H.size := fun q hq => (hPp q (List.mem_append_right _ hq)).lt
  have hR2 : ∀ q ∈ Rr, ¬ va_A WsC.flatten H.size q.1 := by
    intro q hq h
    rcases h with ⟨k, ee, h⟩ | h
    · exact hpw.2.2 _ (List.mem_of_getElem? h) _ hq rfl
    · exact absurd (hR1 q hq) (by omega)
  have hF : ∀ q, va_A WsC.flatten H.size q → A q := by
    intro q h
    rcases h with ⟨k, ee, h⟩ | h
    · exact hDp.2 (q, ee) (List.mem_append_left _ (List.mem_of_getElem? h))
    · exact hA q (Nat.le_trans hS.1 h)
  have hPn : va_P G.1 vwCl (WsC'.flatten ++ Rr) H1 := by
    refine wd_P_iff.mpr fun q hq => ?_
    rcases List.mem_append.mp hq with h | h
    · exact wd_P_iff.mp hP1 q h
    · exact (hPp q (List.mem_append_right _ h)).kept (hk q.1 (hR1 q h) (hR2 q h))
  have hDn : va_D A (WsC'.flatten ++ Rr) := by
    refine wd_D_iff.mpr ⟨List.pairwise_append.mpr ⟨hD1'.1, hpw.2.1, fun x hx y hy ee => ?_⟩, fun q hq => ?_⟩
    · exact hR2 y hy (by rw [← ee]; exact hD1'.2 x hx)
    · rcases List.mem_append.mp hq with h | h
      · exact hF _ (hD1'.2 q h)
      · exact hDp.2 q (List.mem_append_right _ h)
  have hpn := (hp' WsC' hlen).symm
  refine ⟨wd_P_perm hpn hPn, wd_D_perm hpn hDn, Nat.le_trans hS.1 hz, fun q h1 h2 => ?_, fun q hq => ?_⟩
  · rw [hk q (Nat.lt_of_lt_of_le h1 hS.1) (fun z => h2 (hF q z))]; exact hS.2.1 q h1 h2
  · rcases List.mem_append.mp hq with h | h
    · exact hS.2.2 q h
    · exact hF _ (hL q h)
theorem w_callX {G : GG} {Ws WsC WsC' : List va_W} {r : Option Int32} {pc : Nat} {ls : Array Slot} {st0 rest : List Value} {a : Array Value} {A : Nat → Prop} {isC : List Nat}
    (hr : vx_Run p l e R s m args below meth c H locs cn sn 1 6 (F0 m pc ls st0) rest (postX G WsC H.size r WsC' a) (exX G WsC H.size r WsC') (va_A WsC.flatten H.size)) (hP : va_P G.1 vwCl Ws.flatten H) (hD : va_D A Ws.flatten) (hS : va_S A s.heap H locs) (hA : ∀ q, s.heap.size ≤ q → A q)
    (hsel : isC.map (fun i => Ws[i]?) = WsC.map some) (hnd : va_nd isC = true) (hlen : WsC'.length = WsC.length)
    (kk : ∀ (v : Int32) (H1 : Heap) (locs1 : List Loc), r = some v → va_P G.1 vwCl (putC Ws isC WsC').flatten H1 → va_D A (putC Ws isC WsC').flatten → va_S A s.heap H1 locs1 → W p l e R s m args below meth c H1 locs1 (cn + 1) (sn + 6) Q (F0 m (pc + 3) ls (.int v :: rest)))
    (kx : ∀ (q : Addr) (ce : Cell) (H1 : Heap) (locs1 : List Loc), r = none → H1[q]? = some ce → ce.vm = .none → s.vm.findClass NSE = some ce.cls → va_P G.1 vwCl (putC Ws isC WsC').flatten H1 → va_D A (putC Ws isC WsC').flatten → va_S A s.heap H1 locs1 → vx_W p l e R s m args below meth c H1 locs1 (cn + 1) (sn + 6) Q (F0 m pc ls rest) q) : W p l e R s m args below meth c H locs cn sn Q (F0 m pc ls st0) := by
  intro T hT X
  rcases hr T hT X with ⟨v, st₀, t, T', L, h0, X', hL, e1, e2, ⟨⟨v', hrv, hv, hP1, hD1⟩, hz, hk⟩, st⟩ | ⟨q, st₀, t, T', L, E, ce, h0, X', hL, e1, e2, ⟨⟨hrn, rfl, hP1, hD1⟩, hz, hk⟩, hce, hcv, hcl, st⟩
  · cases hv
    rw [h0] at hz hk
    obtain ⟨f1, f2, f3⟩ := w_left hP hD hS hA hsel hnd hlen hP1 hD1 hz hk hL
    obtain ⟨t2, a1, b1⟩ := kk v' T'.heap (locs ++ L) hrv (by rw [e1]; exact f1) f2 (by rw [e1]; exact f3) T' rfl X'
    exact ⟨t2, st t2 a1, b1⟩
  · rw [h0] at hz hk
    obtain ⟨f1, f2, f3⟩ := w_left hP hD hS hA hsel hnd hlen hP1 hD1 hz hk hL
    obtain ⟨t2, a1, b1⟩ := kx q ce T'.heap (locs ++ L) hrn (by rw [e1]; exact hce) hcv hcl (by rw [e1]; exact f1) f2 (by rw [e1]; exact f3) T' rfl X'
    exact ⟨t2, st.trans a1, b1⟩
end WC
/-- K at each count, in a method with the exception table hh -/
def RlX (l : Launch) (G : GG) (own : String) (cc : ByteArray) (nL : Nat) (R : Room) (hh : List (Nat × Nat × Nat × Nat)) (KF : Nat → Nat → KT) : Prop :=
  ∃ (p : Program) (e : Env) (s : State) (m : MethodId) (args : Array Value) (below : List Frame) (meth : Method) (c : Code) (A : Nat → Prop) (Q : State → Prop), p.tables.exec = Jvm.exec ∧ c.code = cc ∧ c.maxLocals = nL ∧ s.vm.findClass own = some m.cls ∧ (∀ w ∈ TT, w.before args s = true) ∧ va_K G.1 vwCl (tysG G) s ∧ (∀ q, s.heap.size ≤ q → A q) ∧ (SN A s s.heap ∧ NW s) ∧ c.exceptionTable.toList = tableOf hh ∧ KF = AtB p l e R s m args below meth c A G nL Q
theorem RlX.rl {l : Launch} {G : GG} {own : String} {cc : ByteArray} {nL : Nat} {R : Room} {hh : List (Nat × Nat × Nat × Nat)} {KF : Nat → Nat → KT} (h : RlX l G own cc nL R hh KF) {cn sn : Nat} (h1 : cn ≤ R.cells) (h2 : sn ≤ R.slots) : Rl l G own cc nL R (KF cn sn) := by
  obtain ⟨p, e, s, m, args, below, meth, c, A, Q, hx, hb, hml, hown, hts, hK, hA, hN, hnm, rfl⟩ := h
  exact ⟨p, e, s, m, args, below, meth, c, A, Q, cn, sn, hx, hb, hml, hown, hts, hK, hA, hN, ⟨h1, h2⟩, rfl⟩
/-- the law's way of calling a method that may throw: NoSuchElementException is caught at the handler -/
theorem st_callX {l : Launch} {G : GG} {own : String} {cc : ByteArray} {nL : Nat} {R : Room} {pc0 pc1 hpc ct : Nat} {KF : Nat → Nat → KT} (hR : RlX l G own cc nL R [(pc0, pc1, hpc, ct)] KF) {y : MethodName} {b : ByteArray} {n np idx d : Nat} {a : Nat} {av rest st : List Value} {WsC WsC' Ws Wn : List va_W} {r : Option Int32}
    (hM : MCx l G y b n d (.ref a :: av) WsC r WsC') (hC : CFV own idx y b n (some .int) np) (hroom : d + 1 ≤ R.frames ∧ 8 + (n + 11) + 40 * d ≤ R.locals) (hcs : 1 ≤ R.cells ∧ 6 ≤ R.slots) (isC : List Nat) (hsel : isC.map (fun i => Ws[i]?) = WsC.map some) (hnd : va_nd isC = true) (hlen : WsC'.length = WsC.length)
    (j k ci N : Nat) {w : va_W} {fs : List Value} {T : u_T} (hj : Ws[j]? = some w) (hk : w[k]? = some (a, .inr (ci, fs))) (hci : vwCl[ci]? = some (y.cls, T, N)) (hnp : av.length = np) (hst : av.reverse ++ .ref a :: rest = st) (hcat : (rest.map fun v => v.category).sum ≤ 8)
    {pc pc' : Nat} (hdg : decode cc pc = .ok (.invokevirtual idx, 3)) (hpc' : pc + 3 = pc') (hcov : pc0 ≤ pc ∧ pc < pc1) (hct : ct ≠ 0) (hlink : Cond.classLink own ct NSE ∈ TT) (hcast : Cond.castable NSE NSE ∈ TL) {lv : List (Nat × Value)} (hW : putC Ws isC WsC' = Wn)
    (kk : ∀ v : Int32, r = some v → KF 1 6 Wn lv pc' (.int v :: rest)) (kx : r = none → ∀ q : Nat, KF 1 6 Wn lv hpc [.ref q]) : KF 0 0 Ws lv pc st := by
  obtain ⟨p, e, s, m, args, below, meth, c, A, Q, hx, hb, hml, hown, hts, hK, hA, hN, htab, rfl⟩ := hR
  subst hW; subst hpc'; subst hst
  intro H locs ls hP hD hS hl
  obtain ⟨hC1, hC2, hC3⟩ := hC
  obtain ⟨q0, hq0, -⟩ := ch_at hj hk
  obtain ⟨hp1, hp2⟩ := w_pre (av := .ref a :: av) hK hN hP hD hS hA hsel hnd
  refine w_callX (vx_runV (As := av) (rest := rest) ⟨hx, hb, hml, hown, hts⟩ (hM H.size) (cwV np hts (cf_ws hC1) rfl rfl rfl ⟨rfl, hC2.1, hC2.2, hC3⟩ hroom) ⟨hp1, va_recv hK hP (ci := ci) (q0 := q0) hci hq0, hp2⟩ rfl hnp hl.1 rfl (lv_room hcat) hdg (by simpa using hcs)) hP hD hS hA hsel hnd hlen (fun v H1 locs1 hrv hP1 hD1 hS1 => kk v hrv H1 locs1 ls hP1 hD1 hS1 hl) (fun q ce H1 locs1 hrn hce hcv hcl hP1 hD1 hS1 => ?_)
  refine vx_catch (own := own) (name := NSE) (E := NSE) hown [] ⟨pc0, pc1, hpc, ct⟩ [] htab (fun z hz => absurd hz List.not_mem_nil) ?_ hct (hts _ hlink) (va_tabs (loose_on (List.mem_filter.mp hcast).2) rfl (hN.2.1 _ hcast)) hce hcv hcl (kx hrn q H1 locs1 ls hP1 hD1 hS1 hl)
  simp [covers, hcov.1, hcov.2]
/-- a contract of a method with an exception table that doesn't throw -/
def MCw (l : Launch) (G : GG) (y : MethodName) (b : ByteArray) (n : Nat) (hh : List (Nat × Nat × Nat × Nat)) (d : Nat) (av : List Value) (Ws : List va_W) (o : Int32) (Ws' : List va_W) : Prop :=
  ∀ sz : Nat, Met l y (.codeWith y b n (some .int) hh :: TT) (RMn d 1 6) (va_Pc av (preW G Ws sz)) (postW G Ws sz (some (.int o)) Ws') 1 6 (va_A Ws.flatten sz)
theorem MCw.of {l : Launch} {G : GG} {y : MethodName} {b : ByteArray} {n d : Nat} {hh : List (Nat × Nat × Nat × Nat)} {av : List Value} {Ws Ws' : List va_W} {o : Int32} (hy : plainName y.cls = true) (hav : (lg_sl av).length ≤ n)
    (body : ∀ KF : Nat → Nat → KT, RlX l G y.cls b n (RMn d 1 6) hh KF → (∀ (lv : List (Nat × Value)) (pc : Nat), decode b pc = .ok (.ireturn, 1) → KF 1 6 Ws' lv pc [.int o]) → KF 0 0 Ws (lv_args 0 av) 0 []) : MCw l G y b n hh d av Ws o Ws' := by
  intro sz
  have h : vx_Met l y (.codeWith y b n (some .int) hh :: TT) (RMn d 1 6) (va_Pc av (preW G Ws sz)) (postW G Ws sz (some (.int o)) Ws') (fun _ _ _ => False) 1 6 (va_A Ws.flatten sz) := by
    refine vx_ofWH (cc := b) (maxL := n) (ret := some .int) hy rfl ?_
    intro p e s m args below meth c s₁ B hml hv
    obtain ⟨rfl, hsz, hP, hK, hD0, hN⟩ := hv
    subst hsz
    have hts0 : ∀ w ∈ (Cond.codeWith y b n (some .int) hh :: TT), w.before av.toArray s = true := atoms_spec (ws := .codeWith y b n (some .int) hh :: TT) B.pre
    have hts : ∀ w ∈ TT, w.before av.toArray s = true := fun w hw => hts0 w (List.mem_cons_of_mem _ hw)
    have hown : s.vm.findClass y.cls = some m.cls := findClass_of_methodNamed B.named
    have hlocks := B.notSynchronized
    have hr := B.returns
    have hx := B.exec
    have hb := B.bytes
    have hA : ∀ q : Nat, s.heap.size ≤ q → va_A Ws.flatten s.heap.size q := fun q h => Or.inr h
    rw [lg_entry_eq]
    refine body (AtB p l e (RMn d 1 6) s m av.toArray below meth c (va_A Ws.flatten s.heap.size) G n (vx_MQ below (postW G Ws s.heap.size (some (.int o)) Ws') (fun _ _ _ => False) av.toArray s 1 6 (va_A Ws.flatten s.heap.size))) ⟨p, e, s, m, av.toArray, below, meth, c, _, _, hx, hb, hml, hown, hts, hK, hA, hN, vx_table (x := y) B (hts0 _ List.mem_cons_self), rfl⟩ ?_ s.heap [] _ hP (hD0.self (sz := s.heap.size)) va_S.rf (lv_entry av hav)
    intro lv pc hdg H locs ls hP1 hD1 hS1 hl1
    refine vx_ret ?_
    exact W.zret hx hb hr rfl (fun t ht _ => ⟨⟨rfl, by rw [ht]; exact hP1, hD1⟩, hS1.F ht⟩) hS1.2.2 hdg
  refine MetFree.mono h (fun _ _ h => h) (fun _ _ _ _ _ h => h) (fun a st o t _ hq => ?_)
  rcases hq with h1 | ⟨q, -, E, ce, L, hx, -⟩
  · exact h1
  · exact hx.elim
