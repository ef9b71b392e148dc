/-! CORE 2: the context, contracts, calls -/
abbrev GG : Type := va_G × (Nat → ClassId)
abbrev tysG (G : GG) : List (ClassId × FieldType) := [(G.2 0, .int), (G.2 1, .long), (G.2 2, .char), (G.2 3, .boolean), (G.2 4, .object "WolfHalf$Mark")]
abbrev KT : Type := List va_W → List (Nat × Value) → Nat → List Value → Prop
def TT : List Cond := lw_tbl.filter goodWord
theorem tt_in {w : Cond} (k : Nat) (h : lw_tbl[k]? = some w) (g : goodWord w = true) : w ∈ TT := List.mem_filter.mpr ⟨List.mem_of_getElem? h, g⟩
theorem tm_0 {w : Cond} (h : w ∈ k2_sels lw_privs) : w ∈ lw_tbl := List.mem_append_left _ h
theorem tm_1 {w : Cond} (h : w ∈ tables_1_1) : w ∈ lw_tbl := List.mem_append_right _ (List.mem_append_left _ h)
theorem tm_2 {w : Cond} (h : w ∈ tables_1_2) : w ∈ lw_tbl := List.mem_append_right _ (List.mem_append_right _ (List.mem_append_left _ h))
theorem tm_3 {w : Cond} (h : w ∈ tables_1_3) : w ∈ lw_tbl := List.mem_append_right _ (List.mem_append_right _ (List.mem_append_right _ (List.mem_append_left _ h)))
theorem tm_4 {w : Cond} (h : w ∈ tables_1_4) : w ∈ lw_tbl := List.mem_append_right _ (List.mem_append_right _ (List.mem_append_right _ (List.mem_append_right _ (List.mem_append_left _ h))))
theorem tm_5 {w : Cond} (h : w ∈ tables_1_5) : w ∈ lw_tbl := List.mem_append_right _ (List.mem_append_right _ (List.mem_append_right _ (List.mem_append_right _ (List.mem_append_right _ (List.mem_append_left _ h)))))
theorem tm_6 {w : Cond} (h : w ∈ tables_1_6) : w ∈ lw_tbl := List.mem_append_right _ (List.mem_append_right _ (List.mem_append_right _ (List.mem_append_right _ (List.mem_append_right _ (List.mem_append_right _ (List.mem_append_left _ h))))))
theorem tm_7 {w : Cond} (h : w ∈ tables_1_7) : w ∈ lw_tbl := List.mem_append_right _ (List.mem_append_right _ (List.mem_append_right _ (List.mem_append_right _ (List.mem_append_right _ (List.mem_append_right _ (List.mem_append_right _ h))))))
theorem tg_0 {w : Cond} (k : Nat) (h : (k2_sels lw_privs)[k]? = some w) (g : goodWord w = true) : w ∈ TT := List.mem_filter.mpr ⟨tm_0 (List.mem_of_getElem? h), g⟩
theorem tg_1 {w : Cond} (k : Nat) (h : tables_1_1[k]? = some w) (g : goodWord w = true) : w ∈ TT := List.mem_filter.mpr ⟨tm_1 (List.mem_of_getElem? h), g⟩
theorem tg_2 {w : Cond} (k : Nat) (h : tables_1_2[k]? = some w) (g : goodWord w = true) : w ∈ TT := List.mem_filter.mpr ⟨tm_2 (List.mem_of_getElem? h), g⟩
theorem tg_3 {w : Cond} (k : Nat) (h : tables_1_3[k]? = some w) (g : goodWord w = true) : w ∈ TT := List.mem_filter.mpr ⟨tm_3 (List.mem_of_getElem? h), g⟩
theorem tg_4 {w : Cond} (k : Nat) (h : tables_1_4[k]? = some w) (g : goodWord w = true) : w ∈ TT := List.mem_filter.mpr ⟨tm_4 (List.mem_of_getElem? h), g⟩
theorem tg_5 {w : Cond} (k : Nat) (h : tables_1_5[k]? = some w) (g : goodWord w = true) : w ∈ TT := List.mem_filter.mpr ⟨tm_5 (List.mem_of_getElem? h), g⟩
theorem tg_6 {w : Cond} (k : Nat) (h : tables_1_6[k]? = some w) (g : goodWord w = true) : w ∈ TT := List.mem_filter.mpr ⟨tm_6 (List.mem_of_getElem? h), g⟩
theorem tg_7 {w : Cond} (k : Nat) (h : tables_1_7[k]? = some w) (g : goodWord w = true) : w ∈ TT := List.mem_filter.mpr ⟨tm_7 (List.mem_of_getElem? h), g⟩
/-- words that a warmed machine keeps by rules of their own -/
def looseW : Cond → Bool
  | .fieldLinkNest .. => true
  | .methodLinkNest .. => true
  | .declares .. => true
  | .castable .. => true
  | _ => false
def TL : List Cond := lw_tbl.filter looseW
def NW (U : State) : Prop := (∀ w ∈ TL, va_Nw w U) ∧ va_AO "WolfHalf$Mark" U ∧ (∃ a : Nat, vk_R RX10 162 "no such bone is kept" a U) ∧ ∃ a : Nat, vk_R RX10 218 "no such pup" a U
theorem loose_on {w : Cond} (h : looseW w = true) : w.onTables = true := by cases w <;> first | rfl | cases h
theorem NW.warm {s U : State} (hW : s.WarmedH U.vm) (h : NW s) : NW U := by
  refine ⟨fun w hw => ?_, va_AO.moved hW.alike h.2.1, h.2.2.1.elim fun a z => ⟨a, vk_R.warm hW z⟩, h.2.2.2.elim fun a z => ⟨a, vk_R.warm hW z⟩⟩
  have hl := (List.mem_filter.mp hw).2
  have hz := h.1 w hw
  cases w <;> first | exact va_Nw.warmF hW hz | exact va_Nw.warmM hW hz | exact va_Nw.warmD hW hz | exact va_Nw.warmC hW hz | cases hl
theorem NW.same {u U : State} (h : u.vm = U.vm) (hn : NW u) : NW U := ⟨fun w hw => va_Nw.same (loose_on (List.mem_filter.mp hw).2) h (hn.1 w hw), va_AO.moved (h ▸ Vm.Alike.refl u.vm) hn.2.1, hn.2.2.1.elim fun a z => ⟨a, vk_R.same h.symm z⟩, hn.2.2.2.elim fun a z => ⟨a, vk_R.same h.symm z⟩⟩
theorem tt_good : ∀ w ∈ TT, goodWord w = true := fun w h => (List.mem_filter.mp h).2
theorem tt_GoodIn {big ws : List Cond} (hb : ∀ w ∈ TT, w ∈ big) (h : ∀ w ∈ ws, w ∈ TT) : GoodIn big ws := fun w hw => ⟨hb w (h w hw), good_of_word (tt_good w (h w hw))⟩
/-- the reserved names, as the static array has them -/
def nNm (j : Nat) : Int64 := ([1717662317, 439905903467, 1685022579, 2003790950, 439788397413, 1885430644, 495672455781, 500085781608, 1717921124, 26479, 7237492, 6385252, 28530] : List Int64).getD j 0
/-- the static array of the reader: it stands, and is nobody's to change -/
def SN (A : Nat → Prop) (U : State) (H : Heap) : Prop := (∃ t : Nat, va_Z "WolfHalf$Reader" "NO_NAMES" "[J" (.ref t) A U H ∧ va_T .long t 13 (fun j => .long (nNm j)) A U H) ∧ vx_Zq Bundle.tN "UNASSIGNED_STACK" Bundle.steD A U H ∧ vx_Zq Bundle.tN "SUPPRESSED_SENTINEL" Bundle.listD A U H
theorem SN.moved {A : Nat → Prop} {u U : State} {H : Heap} (hvm : u.vm.Alike U.vm) (h : SN A u H) : SN A U H := by
  obtain ⟨⟨t, h1, h2⟩, h3, h4⟩ := h
  exact ⟨⟨t, h1.moved hvm, h2.moved hvm⟩, h3.moved hvm, h4.moved hvm⟩
theorem SN.kept {A : Nat → Prop} {U : State} {H H1 : Heap} (h : SN A U H) (hq : ∀ a : Nat, a < H.size → ¬ A a → H1[a]? = H[a]?) : SN A U H1 := by
  obtain ⟨⟨t, h1, h2⟩, h3, h4⟩ := h
  exact ⟨⟨t, h1.kept hq, h2.kept hq⟩, h3.kept hq, h4.kept hq⟩
theorem SN.thin {A B : Nat → Prop} {U : State} {H : Heap} (h : SN A U H) (hAB : ∀ q, B q → A q) : SN B U H := by
  obtain ⟨⟨t, h1, h2⟩, h3, h4⟩ := h
  exact ⟨⟨t, h1.narrow hAB, h2.narrow hAB⟩, h3.narrow hAB, h4.narrow hAB⟩
def AtB (p : Program) (l : Launch) (e : Env) (R : Room) (s : State) (m : MethodId) (args : Array Value) (below : List Frame) (meth : Method) (c : Code) (A : Nat → Prop) (G : GG) (nL : Nat) (Q : State → Prop) (cn sn : Nat) : KT :=
  fun Ws lv pc st => ∀ (H : Heap) (locs : List Loc) (ls : Array Slot), va_P G.1 vwCl Ws.flatten H → va_D A Ws.flatten → va_S A s.heap H locs → lv_has ls nL lv → W p l e R s m args below meth c H locs cn sn Q (F0 m pc ls st)
def Rl (l : Launch) (G : GG) (own : String) (cc : ByteArray) (nL : Nat) (R : Room) (K : KT) : Prop :=
  ∃ (p : Program) (e : Env) (s : State) (m : MethodId) (args : Array Value) (below : List Frame) (meth : Method) (c : Code) (A : Nat → Prop) (Q : State → Prop) (cn sn : Nat), p.tables.exec = Jvm.exec ∧ c.code = cc ∧ c.maxLocals = nL ∧ s.vm.findClass own = some m.cls ∧ (∀ w ∈ TT, w.before args s = true) ∧ va_K G.1 vwCl (tysG G) s ∧ (∀ q, s.heap.size ≤ q → A q) ∧ (SN A s s.heap ∧ NW s) ∧ (cn ≤ R.cells ∧ sn ≤ R.slots) ∧ K = AtB p l e R s m args below meth c A G nL Q cn sn
def preW (G : GG) (Ws : List va_W) (sz : Nat) (U : State) : Prop := U.heap.size = sz ∧ va_P G.1 vwCl Ws.flatten U.heap ∧ va_K G.1 vwCl (tysG G) U ∧ va_D (fun _ => True) Ws.flatten ∧ SN (va_A Ws.flatten sz) U U.heap ∧ NW U
def postW (G : GG) (Ws : List va_W) (sz : Nat) (o : Option Value) (Ws' : List va_W) : Array Value → State → Outcome → State → Prop := fun _ st oc t =>
  (oc = .returned o ∧ va_P G.1 vwCl Ws'.flatten t.heap ∧ va_D (va_A Ws.flatten sz) Ws'.flatten) ∧ va_F (va_A Ws.flatten sz) st t
/-- a contract: from the chunks Ws, with the arguments av, the method answers o, and the chunks are Ws' -/
def MC (l : Launch) (G : GG) (y : MethodName) (b : ByteArray) (n : Nat) (ret : Option FieldType) (rm : Room) (av : List Value) (Ws : List va_W) (o : Option Value) (Ws' : List va_W) : Prop :=
  ∀ sz : Nat, Met l y (.code y b n ret :: TT) rm (va_Pc av (preW G Ws sz)) (postW G Ws sz o Ws') 0 0 (va_A Ws.flatten sz)
abbrev RM (d : Nat) : Room := { frames := d, cells := 0, slots := 0, locals := 40 * d }
/-- what a method may hand back -/
def RetOk (ret : Option FieldType) (o : Option Value) : Prop := (ret = none ∧ o = none) ∨ ∃ (v : Int32) (ty : FieldType), ret = some ty ∧ o = some (.int v) ∧ narrow ty (.int v) = .int v
def retI (ret : Option FieldType) : Instr := match ret with
  | none => .return_
  | some _ => .ireturn
theorem ro_v : RetOk none none := Or.inl ⟨rfl, rfl⟩
theorem ro_i (v : Int32) : RetOk (some .int) (some (.int v)) := Or.inr ⟨v, .int, rfl, rfl, rfl⟩
theorem nz_01 {v : Int32} (h : v = 0 ∨ v = 1) : narrow .boolean (.int v) = .int v := by rcases h with rfl | rfl <;> decide
theorem ro_z {v : Int32} (h : v = 0 ∨ v = 1) : RetOk (some .boolean) (some (.int v)) := Or.inr ⟨v, .boolean, rfl, rfl, nz_01 h⟩
theorem MC.of {l : Launch} {G : GG} {y : MethodName} {b : ByteArray} {n d : Nat} {ret : Option FieldType} {av : List Value} {Ws Ws' : List va_W} {o : Option Value} (hy : plainName y.cls = true) (hav : (lg_sl av).length ≤ n)
    (body : ∀ K : KT, Rl l G y.cls b n (RM d) K → (∀ (lv : List (Nat × Value)) (pc : Nat), decode b pc = .ok (retI ret, 1) → RetOk ret o → K Ws' lv pc o.toList) → K Ws (lv_args 0 av) 0 []) : MC l G y b n ret (RM d) av Ws o Ws' := by
  intro sz
  refine Met.ofW (cc := b) (maxL := n) (ret := ret) hy rfl ?_
  intro p e s m args below meth c s₁ B hml hv
  obtain ⟨rfl, hsz, hP, hK, hD0, hN⟩ := hv
  subst hsz
  have hts : ∀ w ∈ TT, w.before av.toArray s = true := fun w hw => atoms_spec (ws := .code y b n ret :: TT) B.pre w (List.mem_cons_of_mem _ hw)
  have hown : s.vm.findClass y.cls = some m.cls := findClass_of_methodNamed B.named
  have hlocks := B.notSynchronized
  have hr := B.returns
  have hx := B.exec
  have hb := B.bytes
  have hA : ∀ q : Nat, s.heap.size ≤ q → va_A Ws.flatten s.heap.size q := fun q h => Or.inr h
  rw [lg_entry_eq]
  refine body (AtB p l e (RM d) s m av.toArray below meth c (va_A Ws.flatten s.heap.size) G n (MQ below (postW G Ws s.heap.size o Ws') av.toArray s 0 0 (va_A Ws.flatten s.heap.size)) 0 0) ⟨p, e, s, m, av.toArray, below, meth, c, _, _, 0, 0, hx, hb, hml, hown, hts, hK, hA, hN, ⟨Nat.zero_le _, Nat.zero_le _⟩, rfl⟩ ?_ s.heap [] _ hP (hD0.self (sz := s.heap.size)) va_S.rf (lv_entry av hav)
  intro lv pc hdg hro H locs ls hP1 hD1 hS1 hl1
  rcases hro with ⟨h1, h2⟩ | ⟨v, ty, h1, h2, h3⟩
  · subst h1; subst h2
    exact W.vret hx hb hr (fun t ht _ => ⟨⟨rfl, by rw [ht]; exact hP1, hD1⟩, hS1.F ht⟩) hS1.2.2 hdg
  · subst h1; subst h2
    exact W.zret hx hb hr h3 (fun t ht _ => ⟨⟨rfl, by rw [ht]; exact hP1, hD1⟩, hS1.F ht⟩) hS1.2.2 hdg
section WC
variable {p : Program} {l : Launch} {e : Env} {R : Room} {s : State} {m : MethodId} {args : Array Value} {below : List Frame} {meth : Method} {c : Code} {H : Heap} {locs : List Loc} {cn sn : Nat} {Q : State → Prop}
theorem w_call {G : GG} {Ws WsC WsC' : List va_W} {o : Option Value} {pc : Nat} {ls : Array Slot} {st0 rest : List Value} {a : Array Value} {A : Nat → Prop} {isC : List Nat}
    (hr : va_Run p l e R s m args below meth c H locs cn sn 0 0 (F0 m pc ls st0) rest (postW G WsC H.size o WsC' a) (va_A WsC.flatten H.size)) (hP : va_P G.1 vwCl Ws.flatten H) (hD : va_D A Ws.flatten) (hS : va_S A s.heap H locs) (hA : ∀ q, s.heap.size ≤ q → A q)
    (hsel : isC.map (fun i => Ws[i]?) = WsC.map some) (hnd : va_nd isC = true) (hlen : WsC'.length = WsC.length)
    (kk : ∀ (H1 : Heap) (locs1 : List Loc), va_P G.1 vwCl (putC Ws isC WsC').flatten H1 → va_D A (putC Ws isC WsC').flatten → va_S A s.heap H1 locs1 → W p l e R s m args below meth c H1 locs1 cn sn Q (F0 m (pc + 3) ls (o.toList ++ rest))) : W p l e R s m args below meth c H locs cn sn Q (F0 m pc ls st0) := by
  intro T hT X
  obtain ⟨v, st₀, t, T', L, h0, X', hL, e1, e2, ⟨⟨hv, hP1, hD1⟩, hz, hk⟩, st⟩ := hr T hT X
  cases hv
  rw [h0] at hz hk
  obtain ⟨Rr, hp, hp'⟩ := put_perm hsel hnd
  have hPp := wd_P_iff.mp (wd_P_perm hp hP)
  have hDp := wd_D_iff.mp (wd_D_perm hp hD)
  have hpw := List.pairwise_append.mp hDp.1
  have hD1' := wd_D_iff.mp hD1
  have hR1 : ∀ q ∈ Rr, q.1 < H.size := fun q hq => (hPp q (List.mem_append_right _ hq)).lt
  have hR2 : ∀ q ∈ Rr, ¬ va_A WsC.flatten H.size q.1 := by
    intro q hq h
    rcases h with ⟨k, ee, h⟩ | h
    · exact hpw.2.2 _ (List.mem_of_getElem? h) _ hq rfl
    · exact absurd (hR1 q hq) (by omega)
  have hF : ∀ q, va_A WsC.flatten H.size q → A q := by
    intro q h
    rcases h with ⟨k, ee, h⟩ | h
    · exact hDp.2 (q, ee) (List.mem_append_left _ (List.mem_of_getElem? h))
    · exact hA q (Nat.le_trans hS.1 h)
  have hPn : va_P G.1 vwCl (WsC'.flatten ++ Rr) t.heap := by
    refine wd_P_iff.mpr fun q hq => ?_
    rcases List.mem_append.mp hq with h | h
    · exact wd_P_iff.mp hP1 q h
    · exact (hPp q (List.mem_append_right _ h)).kept (hk q.1 (hR1 q h) (hR2 q h))
  have hDn : va_D A (WsC'.flatten ++ Rr) := by
    refine wd_D_iff.mpr ⟨List.pairwise_append.mpr ⟨hD1'.1, hpw.2.1, fun x hx y hy ee => ?_⟩, fun q hq => ?_⟩
    · exact hR2 y hy (by rw [← ee]; exact hD1'.2 x hx)
    · rcases List.mem_append.mp hq with h | h
      · exact hF _ (hD1'.2 q h)
      · exact hDp.2 q (List.mem_append_right _ h)
  have hpn := (hp' WsC' hlen).symm
  obtain ⟨t2, a1, b1⟩ := kk T'.heap (locs ++ L) (by rw [e1]; exact wd_P_perm hpn hPn) (wd_D_perm hpn hDn)
    ⟨Nat.le_trans hS.1 (by rw [e1]; exact hz), fun q h1 h2 => by rw [e1, hk q (Nat.lt_of_lt_of_le h1 hS.1) (fun z => h2 (hF q z))]; exact hS.2.1 q h1 h2, fun q hq => by
      rcases List.mem_append.mp hq with h | h
      · exact hS.2.2 q h
      · exact hF _ (hL q h)⟩ T' rfl X'
  exact ⟨t2, st t2 a1, b1⟩
theorem w_pre {G : GG} {Ws WsC : List va_W} {A : Nat → Prop} {isC : List Nat} {av : List Value} (hK : va_K G.1 vwCl (tysG G) s) (hN : SN A s s.heap ∧ NW s) (hP : va_P G.1 vwCl Ws.flatten H) (hD : va_D A Ws.flatten) (hS : va_S A s.heap H locs) (hA : ∀ q, s.heap.size ≤ q → A q)
    (hsel : isC.map (fun i => Ws[i]?) = WsC.map some) (hnd : va_nd isC = true) : FrameBlind (va_Pc av (preW G WsC H.size)) ∧ ∀ U : State, U.heap = H → s.WarmedH U.vm → va_Pc av (preW G WsC H.size) av.toArray U := by
  refine ⟨fun a U g mk q => ?_, fun U hU hW => ?_⟩
  · obtain ⟨q0, q1, qP, qK, qD, qN, qW⟩ := q
    exact ⟨q0, q1, qP, va_K.moved (u := U) (U := U.calling g mk a) (Vm.Alike.refl U.vm) qK, qD, qN.moved (u := U) (U := U.calling g mk a) (Vm.Alike.refl U.vm), NW.same (u := U) (U := U.calling g mk a) rfl qW⟩
  · obtain ⟨Rr, hp, -⟩ := put_perm hsel hnd
    have hPp := wd_P_iff.mp (wd_P_perm hp hP)
    have hDp := wd_D_iff.mp (wd_D_perm hp hD)
    have hF : ∀ q, va_A WsC.flatten H.size q → A q := by
      intro q h
      rcases h with ⟨k, ee, h⟩ | h
      · exact hDp.2 (q, ee) (List.mem_append_left _ (List.mem_of_getElem? h))
      · exact hA q (Nat.le_trans hS.1 h)
    refine ⟨rfl, by rw [hU], by rw [hU]; exact wd_P_iff.mpr fun q hq => hPp q (List.mem_append_left _ hq), va_K.moved hW.alike hK, wd_D_iff.mpr ⟨(List.pairwise_append.mp hDp.1).1, fun _ _ => trivial⟩, ?_, hN.2.warm hW⟩
    rw [hU]
    exact ((hN.1.kept fun a h1 h2 => hS.2.1 a h1 h2).thin hF).moved hW.alike
end WC
/-- a call of a method of a class of ours: what the tables say of it -/
def CFV (own : String) (idx : Nat) (y : MethodName) (b : ByteArray) (n : Nat) (ret : Option FieldType) (np : Nat) : Prop :=
  (∀ w ∈ wsV own idx y.cls y [.code y b n ret], w ∈ TT) ∧ (y.cls ≠ "java/lang/invoke/MethodHandle" ∧ y.cls ≠ "java/lang/invoke/VarHandle") ∧ (parseMethodDescriptor y.desc).map (fun d => d.parameters.length) = some np
def CFS (own : String) (idx : Nat) (y : MethodName) (b : ByteArray) (n : Nat) (ret : Option FieldType) (np : Nat) : Prop :=
  (∀ w ∈ va_wsS own idx y [.code y b n ret], w ∈ TT) ∧ (y.cls ≠ "java/lang/invoke/MethodHandle" ∧ y.cls ≠ "java/lang/invoke/VarHandle") ∧ (parseMethodDescriptor y.desc).map (fun d => d.parameters.length) = some np
theorem cf_ws {y : MethodName} {b : ByteArray} {n : Nat} {ret : Option FieldType} {pre : List Cond} (h : ∀ w ∈ pre ++ [.code y b n ret], w ∈ TT) : GoodIn TT (pre ++ (.code y b n ret :: TT)) :=
  tt_GoodIn (fun _ h => h) fun w hw => by
    rcases List.mem_append.mp hw with h1 | h1
    · exact h w (List.mem_append_left _ h1)
    · rcases List.mem_cons.mp h1 with h2 | h2
      · exact h w (by rw [h2]; simp)
      · exact h2
section ST
variable {l : Launch} {G : GG} {own : String} {cc : ByteArray} {nL : Nat} {R : Room} {K : KT}
/-- fewer locals, in another order -/
theorem st_lv (hR : Rl l G own cc nL R K) (ks : List Nat) {Ws : List va_W} {lv lv' : List (Nat × Value)} {pc : Nat} {st : List Value} (h : lv_pick lv ks = lv') (k : K Ws lv' pc st) : K Ws lv pc st := by
  obtain ⟨p, e, s, m, args, below, meth, c, A, Q, cn, sn, hx, hb, hml, hown, hts, hK, hA, hN, hcs, rfl⟩ := hR
  intro H locs ls hP hD hS hl
  exact k H locs ls hP hD hS (lv_sub hl ks h)
theorem st_callV (hR : Rl l G own cc nL R K) {y : MethodName} {b : ByteArray} {n np idx d : Nat} {ret : Option FieldType} {a : Nat} {av rest st : List Value} {WsC WsC' Ws Wn : List va_W} {o : Option Value}
    (hM : MC l G y b n ret (RM d) (.ref a :: av) WsC o WsC') (hC : CFV own idx y b n ret np) (hroom : d + 1 ≤ R.frames ∧ 8 + (n + 11) + 40 * d ≤ R.locals) (isC : List Nat) (hsel : isC.map (fun i => Ws[i]?) = WsC.map some) (hnd : va_nd isC = true) (hlen : WsC'.length = WsC.length)
    (j k ci N : Nat) {w : va_W} {fs : List Value} {T : u_T} (hj : Ws[j]? = some w) (hk : w[k]? = some (a, .inr (ci, fs))) (hci : vwCl[ci]? = some (y.cls, T, N)) (hnp : av.length = np) (hst : av.reverse ++ .ref a :: rest = st) (hcat : (rest.map fun v => v.category).sum ≤ 8)
    {pc pc' : Nat} (hdg : decode cc pc = .ok (.invokevirtual idx, 3)) (hpc : pc + 3 = pc') {lv : List (Nat × Value)} (hW : putC Ws isC WsC' = Wn) (kk : K Wn lv pc' (o.toList ++ rest)) : K Ws lv pc st := by
  obtain ⟨p, e, s, m, args, below, meth, c, A, Q, cn, sn, hx, hb, hml, hown, hts, hK, hA, hN, hcs, rfl⟩ := hR
  subst hW; subst hpc; subst hst
  intro H locs ls hP hD hS hl
  obtain ⟨hC1, hC2, hC3⟩ := hC
  obtain ⟨q0, hq0, -⟩ := ch_at hj hk
  obtain ⟨hp1, hp2⟩ := w_pre (av := .ref a :: av) hK hN hP hD hS hA hsel hnd
  refine w_call (va_runV (As := av) (rest := rest) ⟨hx, hb, hml, hown, hts⟩ (hM H.size) (cwV np hts (cf_ws hC1) rfl rfl rfl ⟨rfl, hC2.1, hC2.2, hC3⟩ hroom) ⟨hp1, va_recv hK hP (ci := ci) (q0 := q0) hci hq0, hp2⟩ rfl hnp hl.1 rfl (lv_room hcat) hdg hcs) hP hD hS hA hsel hnd hlen fun H1 locs1 hP1 hD1 hS1 => kk H1 locs1 ls hP1 hD1 hS1 hl
theorem st_callS (hR : Rl l G own cc nL R K) {y : MethodName} {b : ByteArray} {n np idx d : Nat} {ret : Option FieldType} {av rest st : List Value} {WsC WsC' Ws Wn : List va_W} {o : Option Value}
    (hM : MC l G y b n ret (RM d) av WsC o WsC') (hC : CFS own idx y b n ret np) (hroom : d + 1 ≤ R.frames ∧ 8 + (n + 11) + 40 * d ≤ R.locals) (isC : List Nat) (hsel : isC.map (fun i => Ws[i]?) = WsC.map some) (hnd : va_nd isC = true) (hlen : WsC'.length = WsC.length)
    (hnp : av.length = np) (hst : av.reverse ++ rest = st) (hcat : (rest.map fun v => v.category).sum ≤ 8)
    {pc pc' : Nat} (hdg : decode cc pc = .ok (.invokestatic idx, 3)) (hpc : pc + 3 = pc') {lv : List (Nat × Value)} (hW : putC Ws isC WsC' = Wn) (kk : K Wn lv pc' (o.toList ++ rest)) : K Ws lv pc st := by
  obtain ⟨p, e, s, m, args, below, meth, c, A, Q, cn, sn, hx, hb, hml, hown, hts, hK, hA, hN, hcs, rfl⟩ := hR
  subst hW; subst hpc; subst hst
  intro H locs ls hP hD hS hl
  obtain ⟨hC1, hC2, hC3⟩ := hC
  obtain ⟨hp1, hp2⟩ := w_pre (av := av) hK hN hP hD hS hA hsel hnd
  refine w_call (va_runS (As := av) (rest := rest) ⟨hx, hb, hml, hown, hts⟩ (hM H.size) (va_cwS np hts (cf_ws hC1) rfl rfl rfl ⟨hC2.1, hC2.2, hC3⟩ hroom) ⟨hp1, hp2⟩ rfl hnp hl.1 rfl (lv_room hcat) hdg hcs) hP hD hS hA hsel hnd hlen fun H1 locs1 hP1 hD1 hS1 => kk H1 locs1 ls hP1 hD1 hS1 hl
end ST
