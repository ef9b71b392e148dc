/-! AUX: the words of the functions, and how they are taken apart -/
def lt_ {α β : Type} (e : α) (k : α → β) : β := k e
theorem lt_e {α β : Type} {x e : α} {k : α → β} {o : β} (ex : x = e) (h : lt_ e k = o) : k x = o := by subst ex; exact h
def bd_ {α β : Type} (o : Option α) (k : α → Option β) : Option β := match o with
  | none => none
  | some x => k x
theorem bd_e {α β : Type} {o : Option α} {k : α → Option β} {r : β} (h : bd_ o k = some r) : ∃ x, o = some x ∧ k x = some r := by
  cases o with
  | none => cases h
  | some x => exact ⟨x, rfl, h⟩
theorem bd_s {α β : Type} {x : α} {k : α → Option β} : bd_ (some x) k = k x := rfl
def g_in {β : Type} (i : Int32) (n : Nat) (k : Option β) : Option β := if i < 0 ∨ n ≤ i.toNatClampNeg then none else k
theorem g_in_e {β : Type} {i : Int32} {n : Nat} {k : Option β} {r : β} (h : g_in i n k = some r) : vp_in i n ∧ k = some r := by
  unfold g_in at h
  split at h
  · cases h
  · exact ⟨by assumption, h⟩
def g_nz {β : Type} (y : Int32) (k : Option β) : Option β := if y = 0 then none else k
theorem g_nz_e {β : Type} {y : Int32} {k : Option β} {r : β} (h : g_nz y k = some r) : ¬ y = 0 ∧ k = some r := by
  unfold g_nz at h
  split at h
  · cases h
  · exact ⟨by assumption, h⟩
def g_nzL {β : Type} (y : Int64) (k : Option β) : Option β := if y = 0 then none else k
theorem g_nzL_e {β : Type} {y : Int64} {k : Option β} {r : β} (h : g_nzL y k = some r) : ¬ y = 0 ∧ k = some r := by
  unfold g_nzL at h
  split at h
  · cases h
  · exact ⟨by assumption, h⟩
def g_z {β : Type} (y : Int32) (k : Option β) : Option β := if y = 0 ∨ y = 1 then k else none
theorem g_z_e {β : Type} {y : Int32} {k : Option β} {r : β} (h : g_z y k = some r) : (y = 0 ∨ y = 1) ∧ k = some r := by
  unfold g_z at h
  split at h
  · exact ⟨by assumption, h⟩
  · cases h
/-- a char -/
def isC_ (y : Int32) : Prop := ∃ n : Nat, n < 65536 ∧ y = nI n
noncomputable def g_c {β : Type} (y : Int32) (k : Option β) : Option β := @ite _ (isC_ y) (Classical.propDecidable _) k none
theorem g_c_e {β : Type} {y : Int32} {k : Option β} {r : β} (h : g_c y k = some r) : isC_ y ∧ k = some r := by
  unfold g_c at h
  by_cases q : isC_ y
  · rw [if_pos q] at h
    exact ⟨q, h⟩
  · rw [if_neg q] at h
    cases h
theorem fz_01 {v : Int32} (h : v = 0 ∨ v = 1) : fits .boolean (.int v) = true := by rcases h with rfl | rfl <;> decide
theorem nc_c {v : Int32} (h : isC_ v) : narrow .char (.int v) = .int v := by
  obtain ⟨n, hn, rfl⟩ := h
  exact (pk_charN hn).1
theorem fc_c {v : Int32} (h : isC_ v) : fits .char (.int v) = true := by
  obtain ⟨n, hn, rfl⟩ := h
  exact (pk_charN hn).2
theorem it_t {α : Type} {c : Prop} [Decidable c] {a b o : α} (h : c) (e : (if c then a else b) = o) : a = o := by rw [if_pos h] at e; exact e
theorem it_f {α : Type} {c : Prop} [Decidable c] {a b o : α} (h : ¬ c) (e : (if c then a else b) = o) : b = o := by rw [if_neg h] at e; exact e
theorem no_some {α : Type} {x : α} {P : Prop} (h : (none : Option α) = some x) : P := nomatch h
def FU : Nat := 5000
abbrev RU : Nat := 10
def ix (i : Int32) : Nat := i.toNatClampNeg
theorem ix_nI {k : Nat} (h : k < 2 ^ 31) : ix (nI k) = k := nI_clamp h
theorem vp_lit {i : Int32} {n : Nat} (k : Nat) (h1 : i = nI k) (h2 : Nat.blt k n = true) (h3 : Nat.blt n 2147483648 = true) : vp_in i n := by
  rw [h1]
  exact vp_in_nI (Nat.blt_eq.mp h2) (Nat.blt_eq.mp h3)
theorem cl_lit {i : Int32} (k : Nat) (h1 : i = nI k) (h2 : Nat.blt k 2147483648 = true) : i.toNatClampNeg = k := by
  rw [h1]
  exact nI_clamp (Nat.blt_eq.mp h2)
def ushr_ (x y : Int32) : Int32 := (x.toUInt32 >>> (y.toUInt32 &&& Int32.toUInt32 31)).toInt32
def i2c_ (x : Int32) : Int32 := (x.toUInt32 % 65536).toInt32
def lushr_ (x : Int64) (y : Int32) : Int64 := (x.toUInt64 >>> (y.toInt64.toUInt64 &&& Int64.toUInt64 63)).toInt64
def mk4 (a b c d : Nat) : Nat → Option Nat := fun j => match j with
  | 0 => some a
  | 1 => some b
  | 2 => some c
  | _ => some d
theorem mk4_0 {a b c d j : Nat} (h : j = 0) : mk4 a b c d j = some a := by subst h; rfl
theorem mk4_1 {a b c d j : Nat} (h : j = 1) : mk4 a b c d j = some b := by subst h; rfl
theorem mk4_2 {a b c d j : Nat} (h : j = 2) : mk4 a b c d j = some c := by subst h; rfl
theorem mk4_3 {a b c d j : Nat} (h : j = 3) : mk4 a b c d j = some d := by subst h; rfl
theorem rm_le {d n D : Nat} (h1 : d + 1 ≤ D) (h2 : n ≤ 21) : d + 1 ≤ (RM D).frames ∧ 8 + (n + 11) + 40 * d ≤ (RM D).locals := ⟨h1, by show _ ≤ 40 * D; omega⟩
/-- the first n places hold v -/
def fl_ (f : Nat → Int32) (n : Nat) (v : Int32) : Nat → Int32 := fun k => if k < n then v else f k
theorem fl_0 (f : Nat → Int32) (v : Int32) : fl_ f 0 v = f := by funext k; simp [fl_]
theorem fl_up (f : Nat → Int32) (i : Nat) (v : Int32) : upd (fl_ f i v) i v = fl_ f (i + 1) v := by
  funext k
  by_cases h : k = i
  · subst h; rw [pk_us]; simp [fl_]
  · rw [pk_un h]
    simp only [fl_]
    by_cases h2 : k < i
    · rw [if_pos h2, if_pos (by omega)]
    · rw [if_neg h2, if_neg (by omega)]
def CFU (own : String) (idx : Nat) (C owner : String) (x y : MethodName) (b : ByteArray) (n : Nat) (ret : Option FieldType) (np : Nat) : Prop :=
  (∀ w ∈ va_wsU own idx C owner x y [.code y b n ret], w ∈ TT) ∧ (y = ⟨owner, x.name, x.desc⟩ ∨ Cond.declares ⟨owner, x.name, x.desc⟩ ∈ TL) ∧ (owner ≠ "java/lang/invoke/MethodHandle" ∧ owner ≠ "java/lang/invoke/VarHandle") ∧ (parseMethodDescriptor x.desc).map (fun d => d.parameters.length) = some np
def CFN (own : String) (idx : Nat) (host : String) (y : MethodName) (b : ByteArray) (n : Nat) (ret : Option FieldType) (np : Nat) : Prop :=
  (∀ w ∈ ([.static y, .initialized y.cls] : List Cond) ++ [.code y b n ret], w ∈ TT) ∧ Cond.methodLinkNest own idx y host ∈ TL ∧ (y.cls ≠ "java/lang/invoke/MethodHandle" ∧ y.cls ≠ "java/lang/invoke/VarHandle") ∧ (parseMethodDescriptor y.desc).map (fun d => d.parameters.length) = some np
section ST
variable {l : Launch} {G : GG} {own : String} {cc : ByteArray} {nL : Nat} {R : Room} {K : KT}
theorem st_callSN (hR : Rl l G own cc nL R K) {y : MethodName} {host : String} {b : ByteArray} {n np idx d : Nat} {ret : Option FieldType} {av rest st : List Value} {WsC WsC' Ws Wn : List va_W} {o : Option Value}
    (hM : MC l G y b n ret (RM d) av WsC o WsC') (hC : CFN own idx host y b n ret np) (hroom : d + 1 ≤ R.frames ∧ 8 + (n + 11) + 40 * d ≤ R.locals) (isC : List Nat) (hsel : isC.map (fun i => Ws[i]?) = WsC.map some) (hnd : va_nd isC = true) (hlen : WsC'.length = WsC.length)
    (hnp : av.length = np) (hst : av.reverse ++ rest = st) (hcat : (rest.map fun v => v.category).sum ≤ 8)
    {pc pc' : Nat} (hdg : decode cc pc = .ok (.invokestatic idx, 3)) (hpc : pc + 3 = pc') {lv : List (Nat × Value)} (hW : putC Ws isC WsC' = Wn) (kk : K Wn lv pc' (o.toList ++ rest)) : K Ws lv pc st := by
  obtain ⟨p, e, s, m, args, below, meth, c, A, Q, cn, sn, hx, hb, hml, hown, hts, hK, hA, hN, hcs, rfl⟩ := hR
  subst hW; subst hpc; subst hst
  intro H locs ls hP hD hS hl
  obtain ⟨hC1, hC2, hC3, hC4⟩ := hC
  obtain ⟨hp1, hp2⟩ := w_pre (av := av) hK hN hP hD hS hA hsel hnd
  have hG : GoodIn TT (.code y b n ret :: TT) := cf_ws (pre := []) fun w hw => hC1 w (List.mem_append_right _ hw)
  refine w_call (va_runSN (As := av) (rest := rest) ⟨hx, hb, hml, hown, hts⟩ (hM H.size) ⟨va_cnB np hts hG rfl rfl rfl (hN.2.1 _ hC2) (hts _ (hC1 _ (by simp))) ⟨hC3.1, hC3.2, hC4⟩ hroom, hts _ (hC1 _ (by simp)), trivial⟩ ⟨hp1, hp2⟩ rfl hnp hl.1 rfl (lv_room hcat) hdg hcs) hP hD hS hA hsel hnd hlen fun H1 locs1 hP1 hD1 hS1 => kk H1 locs1 ls hP1 hD1 hS1 hl
theorem st_topi {Ws : List va_W} {lv : List (Nat × Value)} {pc : Nat} {st : List Value} {x : Int32} (k : ∀ y : Int32, y = x → K Ws lv pc (.int y :: st)) : K Ws lv pc (.int x :: st) := k x rfl
theorem st_topl {Ws : List va_W} {lv : List (Nat × Value)} {pc : Nat} {st : List Value} {x : Int64} (k : ∀ y : Int64, y = x → K Ws lv pc (.long y :: st)) : K Ws lv pc (.long x :: st) := k x rfl
theorem st_callU (hR : Rl l G own cc nL R K) {x y : MethodName} {owner C : String} {b : ByteArray} {n np idx d : Nat} {ret : Option FieldType} {a : Nat} {av rest st : List Value} {WsC WsC' Ws Wn : List va_W} {o : Option Value}
    (hM : MC l G y b n ret (RM d) (.ref a :: av) WsC o WsC') (hC : CFU own idx C owner x y b n ret np) (hroom : d + 1 ≤ R.frames ∧ 8 + (n + 11) + 40 * d ≤ R.locals) (isC : List Nat) (hsel : isC.map (fun i => Ws[i]?) = WsC.map some) (hnd : va_nd isC = true) (hlen : WsC'.length = WsC.length)
    (j k ci N : Nat) {w : va_W} {fs : List Value} {T : u_T} (hj : Ws[j]? = some w) (hk : w[k]? = some (a, .inr (ci, fs))) (hci : vwCl[ci]? = some (C, T, N)) (hnp : av.length = np) (hst : av.reverse ++ .ref a :: rest = st) (hcat : (rest.map fun v => v.category).sum ≤ 8)
    {pc pc' : Nat} (hdg : decode cc pc = .ok (.invokevirtual idx, 3)) (hpc : pc + 3 = pc') {lv : List (Nat × Value)} (hW : putC Ws isC WsC' = Wn) (kk : K Wn lv pc' (o.toList ++ rest)) : K Ws lv pc st := by
  obtain ⟨p, e, s, m, args, below, meth, c, A, Q, cn, sn, hx, hb, hml, hown, hts, hK, hA, hN, hcs, rfl⟩ := hR
  subst hW; subst hpc; subst hst
  intro H locs ls hP hD hS hl
  obtain ⟨hC1, hC2, hC3, hC4⟩ := hC
  obtain ⟨q0, hq0, -⟩ := ch_at hj hk
  obtain ⟨hp1, hp2⟩ := w_pre (av := .ref a :: av) hK hN hP hD hS hA hsel hnd
  have cw : va_CU R s args own C owner idx x y b n ret (.code y b n ret :: TT) (RM d) 0 0 np := by
    rcases hC2 with h | h
    · exact va_cwU np hts (cf_ws hC1) rfl rfl rfl h ⟨hC3.1, hC3.2, hC4⟩ hroom
    · exact va_cwA np hts (cf_ws hC1) rfl rfl rfl (hN.2.1 _ h) ⟨hC3.1, hC3.2, hC4⟩ hroom
  refine w_call (va_runU (As := av) (rest := rest) ⟨hx, hb, hml, hown, hts⟩ (hM H.size) cw ⟨hp1, va_recv hK hP (ci := ci) (q0 := q0) hci hq0, hp2⟩ rfl hnp hl.1 rfl (lv_room hcat) hdg hcs) hP hD hS hA hsel hnd hlen fun H1 locs1 hP1 hD1 hS1 => kk H1 locs1 ls hP1 hD1 hS1 hl
theorem split_at {Ws : List va_W} {j k : Nat} {w : va_W} {q : Nat × va_E} (hj : Ws[j]? = some w) (hk : w[k]? = some q) : ∃ X Y : va_W, Ws.flatten = [X, [q], Y].flatten ∧ ∀ q', (Ws.set j (w.set k q')).flatten = [X, [q'], Y].flatten := by
  obtain ⟨n, h1, h2⟩ := ch_at hj hk
  obtain ⟨hn, h3⟩ := List.getElem?_eq_some_iff.mp h1
  refine ⟨Ws.flatten.take n, Ws.flatten.drop (n + 1), ?_, fun q' => ?_⟩
  · simp only [List.flatten_cons, List.flatten_nil, List.append_nil, List.cons_append, List.nil_append]
    rw [← h3, List.getElem_cons_drop, List.take_append_drop]
  · rw [← h2 q', List.set_eq_take_append_cons_drop, if_pos hn]
    simp
end ST
theorem pn_J7 : plainName yJ7_fill_53178.cls = true := by decide +kernel
set_option maxRecDepth 100000 in
theorem k_fill {l : Launch} {G : GG} {a n : Nat} {f : Nat → Int32} {v : Int32} (hn : n < 2 ^ 31) : MC l G yJ7_fill_53178 cJ7_fill_53178 4 none (RM 0) [.ref a, .int v] [[(a, .inl (G.2 0, n, .inl f))]] none [[(a, .inl (G.2 0, n, .inl (fl_ f n v)))]] := by
  refine MC.of pn_J7 (Nat.le_of_ble_eq_true rfl) (fun K hR hret => ?_)
  show K [[(a, .inl (G.2 0, n, .inl f))]] [(0, .ref a), (1, .int v)] 0 []
  have L : ∀ r i : Nat, i + r = n → K [[(a, .inl (G.2 0, n, .inl (fl_ f i v)))]] [(0, .ref a), (1, .int v), (2, .int (nI i)), (3, .int (nI n))] 5 [] := by
    intro r
    induction r with
    | zero =>
      intro i hi
      have hi : i = n := by omega
      subst hi
      refine st_iload_n hR dJ7_fill_53178_5 2 rfl rfl (pc' := 6) rfl ?_
      refine st_iload_n hR dJ7_fill_53178_6 3 rfl rfl (pc' := 7) rfl ?_
      refine st_icmp_ge hR dJ7_fill_53178_7 (tgt := 20) (by decide) (pc' := 10) rfl (fun c => ?_) (fun c => absurd (nI_le (Nat.le_refl _) hn) c)
      exact hret _ _ dJ7_fill_53178_20 ro_v
    | succ r ih =>
      intro i hi
      refine st_iload_n hR dJ7_fill_53178_5 2 rfl rfl (pc' := 6) rfl ?_
      refine st_iload_n hR dJ7_fill_53178_6 3 rfl rfl (pc' := 7) rfl ?_
      refine st_icmp_ge hR dJ7_fill_53178_7 (tgt := 20) (by decide) (pc' := 10) rfl (fun c => absurd c (nI_ge (by omega) hn)) (fun c => ?_)
      refine st_aload_n hR dJ7_fill_53178_10 0 rfl rfl (pc' := 11) rfl ?_
      refine st_iload_n hR dJ7_fill_53178_11 2 rfl rfl (pc' := 12) rfl ?_
      refine st_iload_n hR dJ7_fill_53178_12 1 rfl rfl (pc' := 13) rfl ?_
      refine st_iast hR dJ7_fill_53178_13 0 0 rfl rfl (vp_in_nI (by omega) hn) (nI_clamp (by omega)) (pc' := 14) rfl (fun g => [[(a, .inl (G.2 0, n, .inl g))]]) (fun _ => rfl) (fun g e => ?_)
      rw [fl_up] at e
      subst e
      refine st_iinc hR dJ7_fill_53178_14 (Nat.le_of_ble_eq_true rfl) 2 [1, 2, 0, 3] (v := nI (i + 1)) rfl (by rw [nI_succ]; rfl) (lv' := [(0, .ref a), (1, .int v), (2, .int (nI (i + 1))), (3, .int (nI n))]) rfl (pc' := 17) rfl ?_
      refine st_goto hR dJ7_fill_53178_17 (tgt := 5) (by decide) ?_
      exact ih (i + 1) (by omega)
  refine st_iconst hR dJ7_fill_53178_0 (v := nI 0) (by decide) (pc' := 1) rfl ?_
  refine st_istore_n hR dJ7_fill_53178_1 rfl (Nat.le_of_ble_eq_true rfl) [1, 2, 0] (lv' := [(0, .ref a), (1, .int v), (2, .int (nI 0))]) rfl (pc' := 2) rfl ?_
  refine st_aload_n hR dJ7_fill_53178_2 0 rfl rfl (pc' := 3) rfl ?_
  refine st_alen hR dJ7_fill_53178_3 0 0 0 rfl rfl rfl (v := nI n) rfl (pc' := 4) rfl ?_
  refine st_istore_n hR dJ7_fill_53178_4 rfl (Nat.le_of_ble_eq_true rfl) [1, 2, 3, 0] (lv' := [(0, .ref a), (1, .int v), (2, .int (nI 0)), (3, .int (nI n))]) rfl (pc' := 5) rfl ?_
  have h := L n 0 (by omega)
  rw [fl_0] at h
  exact h
section ST
variable {l : Launch} {G : GG} {own : String} {cc : ByteArray} {nL : Nat} {R : Room} {K : KT}
theorem st_fill (hR : Rl l G own cc nL R K) {pc idx : Nat} (hdg : decode cc pc = .ok (.invokestatic idx, 3)) (hC : CFS own idx yJ7_fill_53178 cJ7_fill_53178 4 none 2) (hfr : 1 ≤ R.frames) (hlo : 23 ≤ R.locals) (j k0 : Nat) {Ws : List va_W} {w : va_W} {a n : Nat} {f : Nat → Int32} (hj : Ws[j]? = some w) (hk : w[k0]? = some (a, .inl (G.2 0, n, .inl f))) (hn : n ≤ 100000) {v : Int32} {rest : List Value} (hcat : (rest.map fun v => v.category).sum ≤ 8) {pc' : Nat} (hpc : pc + 3 = pc') {lv : List (Nat × Value)}
    (W' : (Nat → Int32) → List va_W) (hW : ∀ f', Ws.set j (w.set k0 (a, .inl (G.2 0, n, .inl f'))) = W' f') (k : ∀ f' : Nat → Int32, f' = fl_ f n v → K (W' f') lv pc' rest) : K Ws lv pc (.int v :: .ref a :: rest) := by
  obtain ⟨X, Y, h1, h2⟩ := split_at hj hk
  have hR0 := hR
  obtain ⟨p, e, s, m, args, below, meth, c, A, Q, cn, sn, hx, hb, hml, hown, hts, hK, hA, hN, hcs, rfl⟩ := hR
  have step : AtB p l e R s m args below meth c A G nL Q cn sn [X, [(a, .inl (G.2 0, n, .inl f))], Y] lv pc (.int v :: .ref a :: rest) := by
    refine st_callS hR0 (k_fill (f := f) (v := v) (by omega)) hC ⟨hfr, hlo⟩ [1] rfl rfl rfl rfl (rest := rest) rfl hcat hdg hpc (Wn := [X, [(a, .inl (G.2 0, n, .inl (fl_ f n v)))], Y]) rfl ?_
    have kk := k _ rfl
    intro H locs ls hP hD hS hl
    refine kk H locs ls ?_ ?_ hS hl
    · rw [← hW, h2]; exact hP
    · rw [← hW, h2]; exact hD
  intro H locs ls hP hD hS hl
  rw [h1] at hP hD
  exact step H locs ls hP hD hS hl
end ST
