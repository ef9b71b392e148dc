/-! CORE 5: methods that may throw, and the law's methods that catch -/
def postX (G : GG) (Ws : List va_W) (sz : Nat) (r : Option Int32) (Ws' : List va_W) : Array Value → State → Outcome → State → Prop := fun _ st oc t =>
  (∃ v : Int32, r = some v ∧ oc = .returned (some (.int v)) ∧ va_P G.1 vwCl Ws'.flatten t.heap ∧ va_D (va_A Ws.flatten sz) Ws'.flatten) ∧ va_F (va_A Ws.flatten sz) st t
def exX (G : GG) (Ws : List va_W) (sz : Nat) (r : Option Int32) (Ws' : List va_W) : String → State → State → Prop := fun E st t =>
  (r = none ∧ E = NSE ∧ va_P G.1 vwCl Ws'.flatten t.heap ∧ va_D (va_A Ws.flatten sz) Ws'.flatten) ∧ va_F (va_A Ws.flatten sz) st t
/-- a contract of a method that answers r, or throws where r is none -/
def MCx (l : Launch) (G : GG) (y : MethodName) (b : ByteArray) (n d : Nat) (av : List Value) (Ws : List va_W) (r : Option Int32) (Ws' : List va_W) : Prop :=
  ∀ sz : Nat, vx_Met l y (.code y b n (some .int) :: TT) (RMn d 1 6) (va_Pc av (preW G Ws sz)) (postX G Ws sz r Ws') (exX G Ws sz r Ws') 1 6 (va_A Ws.flatten sz)
theorem MCx.of {l : Launch} {G : GG} {y : MethodName} {b : ByteArray} {n d : Nat} {av : List Value} {Ws Ws' : List va_W} {r : Option Int32} (hl : l.stackTraces = false) (hy : plainName y.cls = true) (hyc : y.cls = RX10) (hd : 5 < d) (hav : (lg_sl av).length ≤ n)
    (body : ∀ K : KT, Rl l G y.cls b n (RMn d 1 6) K → (∀ (v : Int32) (lv : List (Nat × Value)) (pc : Nat), decode b pc = .ok (.ireturn, 1) → r = some v → K Ws' lv pc [.int v]) →
      (∀ (lv : List (Nat × Value)) (pc is : Nat), (is = 162 ∨ is = 218) → decode b pc = .ok (.new 160, 3) → decode b (pc + 3) = .ok (.dup, 1) → decode b (pc + 4) = .ok (.ldc is, 2) → decode b (pc + 6) = .ok (.invokespecial 164, 3) → decode b (pc + 9) = .ok (.athrow, 1) → r = none → K Ws' lv pc []) → K Ws (lv_args 0 av) 0 []) : MCx l G y b n d av Ws r Ws' := by
  intro sz
  refine vx_ofW (cc := b) (maxL := n) (ret := some .int) hy rfl ?_
  intro p e s m args below meth c s₁ B hml hnt hv
  obtain ⟨rfl, hsz, hP, hK, hD0, hN⟩ := hv
  subst hsz
  have hts : ∀ w ∈ TT, w.before av.toArray s = true := fun w hw => atoms_spec (ws := .code y b n (some .int) :: TT) B.pre w (List.mem_cons_of_mem _ hw)
  have hown : s.vm.findClass y.cls = some m.cls := findClass_of_methodNamed B.named
  have hlocks := B.notSynchronized
  have hr := B.returns
  have hx := B.exec
  have hb := B.bytes
  have hA : ∀ q : Nat, s.heap.size ≤ q → va_A Ws.flatten s.heap.size q := fun q h => Or.inr h
  rw [lg_entry_eq]
  refine body (AtB p l e (RMn d 1 6) s m av.toArray below meth c (va_A Ws.flatten s.heap.size) G n (vx_MQ below (postX G Ws s.heap.size r Ws') (exX G Ws s.heap.size r Ws') av.toArray s 1 6 (va_A Ws.flatten s.heap.size)) 0 0) ⟨p, e, s, m, av.toArray, below, meth, c, _, _, 0, 0, hx, hb, hml, hown, hts, hK, hA, hN, ⟨Nat.zero_le _, Nat.zero_le _⟩, rfl⟩ ?_ ?_ s.heap [] _ hP (hD0.self (sz := s.heap.size)) va_S.rf (lv_entry av hav)
  · intro v lv pc hdg hrv H locs ls hP1 hD1 hS1 hl1
    refine W.widen (k := 1) (n := 6) (by decide) (by decide) (vx_ret ?_)
    exact W.zret hx hb hr rfl (fun t ht _ => ⟨⟨v, hrv, rfl, by rw [ht]; exact hP1, hD1⟩, hS1.F ht⟩) hS1.2.2 hdg
  · intro lv pc is his d0 d3 d4 d6 d9 hrv H locs ls hP1 hD1 hS1 hl1
    have ow : s.vm.findClass RX10 = some m.cls := by rw [← hyc]; exact hown
    have hsm : ls.size = c.maxLocals := hl1.1.trans hml.symm
    have hxc : ∀ t : State, s.vm.Alike t.vm → H.size ≤ t.heap.size → (∀ q : Nat, q < H.size → t.heap[q]? = H[q]?) → exX G Ws s.heap.size r Ws' NSE s t := fun t _ h1 h2 =>
      ⟨⟨hrv, rfl, wd_P_iff.mpr fun q hq => (wd_P_iff.mp hP1 q hq).kept (h2 q.1 (wd_P_iff.mp hP1 q hq).lt), hD1⟩, Nat.le_trans hS1.1 h1, fun q hq hn => (h2 q (Nat.lt_of_lt_of_le hq hS1.1)).trans (hS1.2.1 q hq hn)⟩
    rcases his with rfl | rfl
    · obtain ⟨sa, hsa⟩ := hN.2.2.2.1
      exact ns_throw hx hb hl ow hts hN hsa hS1 hsm d0 d3 d4 d6 d9 (fun x hx' => (hnt x hx').elim) hd (by show 0 + 82 ≤ 40 * d; omega) (Nat.le_refl _) (Nat.le_refl _) hlocks hxc hS1.2.2 (Nat.le_refl _) (Nat.le_refl _)
    · obtain ⟨sa, hsa⟩ := hN.2.2.2.2
      exact ns_throw hx hb hl ow hts hN hsa hS1 hsm d0 d3 d4 d6 d9 (fun x hx' => (hnt x hx').elim) hd (by show 0 + 82 ≤ 40 * d; omega) (Nat.le_refl _) (Nat.le_refl _) hlocks hxc hS1.2.2 (Nat.le_refl _) (Nat.le_refl _)
