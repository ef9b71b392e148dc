/-! THE START: from the entry of the law to its loop -/
theorem arr_of {args : Array Value} {s : State} {ty : FieldType} (hty : ∀ C, ty ≠ .object C) (h : (Cond.arrayClass ty).before args s = true) : ∃ c : ClassId, ArrOfT s c ty ∧ va_RA s c ty := by
  obtain ⟨c, k, comp, h1, h2, h3⟩ := Cond.arrayClass_spec (show (Cond.arrayClass ty).holds args s none s [] = true from h)
  refine ⟨c, fun N z => ⟨(fun k h => by cases h), k, h2, comp, h3⟩, ?_⟩
  cases ty with
  | object C => exact absurd rfl (hty C)
  | _ => exact h1
theorem arq_of {args : Array Value} {s : State} {C : String} (h : (Cond.arrayOver (.object C)).before args s = true) : ∃ c : ClassId, ArrOfT s c (.object C) ∧ va_RA s c (.object C) := by
  obtain ⟨comp, c, k, h1, h2, h3, h4, h5⟩ := Cond.arrayOver_spec h
  exact ⟨c, fun N z => ⟨(fun k h => by cases h), k, h3, comp, h4⟩, k, comp, h3, h4, h1, h5⟩
theorem gg_of {args : Array Value} {s : State} (hts : ∀ w ∈ lw_tbl, w.before args s = true) : ∃ G : GG, va_K G.1 vwCl (tysG G) s := by
  have hT : ∀ w ∈ TT, w.before args s = true := fun w hw => hts w (List.mem_filter.mp hw).1
  obtain ⟨c0, i0, h0⟩ := u_known (C := RX0) (T := TX0) (N := 6) (n := 6) hT ul_X0 (hts (.instantiable RX0 6) (tm_1 (List.mem_of_getElem? (i := 235) rfl)))
  obtain ⟨c1, i1, h1⟩ := u_known (C := RX1) (T := TX1) (N := 12) (n := 12) hT ul_X1 (hts (.instantiable RX1 12) (tm_2 (List.mem_of_getElem? (i := 26) rfl)))
  obtain ⟨c2, i2, h2⟩ := u_known (C := RX2) (T := TX2) (N := 12) (n := 12) hT ul_X2 (hts (.instantiable RX2 12) (tm_2 (List.mem_of_getElem? (i := 73) rfl)))
  obtain ⟨c3, i3, h3⟩ := u_known (C := RX3) (T := TX3) (N := 5) (n := 5) hT ul_X3 (hts (.instantiable RX3 5) (tm_1 (List.mem_of_getElem? (i := 36) rfl)))
  obtain ⟨c4, i4, h4⟩ := u_known (C := RX4) (T := TX4) (N := 3) (n := 3) hT ul_X4 (hts (.instantiable RX4 3) (tm_2 (List.mem_of_getElem? (i := 97) rfl)))
  obtain ⟨c5, i5, h5⟩ := u_known (C := RX5) (T := TX5) (N := 15) (n := 15) hT ul_X5 (hts (.instantiable RX5 15) (tm_1 (List.mem_of_getElem? (i := 30) rfl)))
  obtain ⟨c6, i6, h6⟩ := u_known (C := RX7) (T := TX7) (N := 4) (n := 4) hT ul_X7 (hts (.instantiable RX7 4) (tm_1 (List.mem_of_getElem? (i := 164) rfl)))
  obtain ⟨c7, i7, h7⟩ := u_known (C := RX8) (T := TX8) (N := 8) (n := 8) hT ul_X8 (hts (.instantiable RX8 8) (tm_1 (List.mem_of_getElem? (i := 126) rfl)))
  obtain ⟨c8, i8, h8⟩ := u_known (C := RX9) (T := TX9) (N := 11) (n := 11) hT ul_X9 (hts (.instantiable RX9 11) (tm_1 (List.mem_of_getElem? (i := 183) rfl)))
  obtain ⟨c9, i9, h9⟩ := u_known (C := RX10) (T := TX10) (N := 10) (n := 10) hT ul_X10 (hts (.instantiable RX10 10) (tm_1 (List.mem_of_getElem? (i := 22) rfl)))
  obtain ⟨c10, i10, h10⟩ := u_known (C := RX11) (T := TX11) (N := 30) (n := 30) hT ul_X11 (hts (.instantiable RX11 30) (tm_5 (List.mem_of_getElem? (i := 83) rfl)))
  obtain ⟨a0, g0, r0⟩ := arr_of (ty := .int) (by intro C h; cases h) (hts _ (tm_1 (List.mem_of_getElem? (i := 59) rfl)))
  obtain ⟨a1, g1, r1⟩ := arr_of (ty := .long) (by intro C h; cases h) (hts _ (tm_1 (List.mem_of_getElem? (i := 58) rfl)))
  obtain ⟨a2, g2, r2⟩ := arr_of (ty := .char) (by intro C h; cases h) (hts _ (tm_1 (List.mem_of_getElem? (i := 162) rfl)))
  obtain ⟨a3, g3, r3⟩ := arr_of (ty := .boolean) (by intro C h; cases h) (hts _ (tm_5 (List.mem_of_getElem? (i := 197) rfl)))
  obtain ⟨a4, g4, r4⟩ := arq_of (C := "WolfHalf$Mark") (hts _ (tm_2 (List.mem_of_getElem? (i := 96) rfl)))
  refine ⟨((fun k => [c0, c1, c2, c3, c4, c5, c6, c7, c8, c9, c10].getD k c0, fun k => [i0, i1, i2, i3, i4, i5, i6, i7, i8, i9, i10].getD k i0), fun t => [a0, a1, a2, a3, a4].getD t a0), fun k q hq => ?_, fun k q hq => ?_⟩
  · match k, hq with
    | 0, hq => cases hq; exact h0
    | 1, hq => cases hq; exact h1
    | 2, hq => cases hq; exact h2
    | 3, hq => cases hq; exact h3
    | 4, hq => cases hq; exact h4
    | 5, hq => cases hq; exact h5
    | 6, hq => cases hq; exact h6
    | 7, hq => cases hq; exact h7
    | 8, hq => cases hq; exact h8
    | 9, hq => cases hq; exact h9
    | 10, hq => cases hq; exact h10
    | k + 11, hq => cases hq
  · match k, hq with
    | 0, hq => cases hq; exact ⟨g0, r0⟩
    | 1, hq => cases hq; exact ⟨g1, r1⟩
    | 2, hq => cases hq; exact ⟨g2, r2⟩
    | 3, hq => cases hq; exact ⟨g3, r3⟩
    | 4, hq => cases hq; exact ⟨g4, r4⟩
    | k + 5, hq => cases hq
abbrev nTm : Term := .static "WolfHalf$Reader" "NO_NAMES" "[J"
def nNv (j : Nat) : Int64 := nNm j
set_option maxRecDepth 100000 in
theorem sn_of {args : Array Value} {s : State} (hts : ∀ w ∈ lw_tbl, w.before args s = true) (hgv : (Jvm.Cond.and given_1 narrow_1).before args s = true) : SN (fun q : Nat => s.heap.size ≤ q) s s.heap ∧ NW s := by
  have hf := flat_of_before _ hgv
  have hA : ∀ a : Nat, a < s.heap.size → ¬ (fun q : Nat => s.heap.size ≤ q) a := fun a h => Nat.not_le.mpr h
  have hq : ∀ w : Cond, w ∈ flatC (Jvm.Cond.and given_1 narrow_1) → w.before args s = true := hf
  have hel : ∀ j : Nat, j < 13 → (Term.elem nTm (.int (Int32.ofNat j))).eval args s none [] s = some (.long (nNm j)) := by
    intro j hj
    match j, hj with
    | 0, _ => exact va_eqtl (hq (.eq (.elem nTm (.int 0)) (.long 1717662317)) (by decide +kernel))
    | 1, _ => exact va_eqtl (hq (.eq (.elem nTm (.int 1)) (.long 439905903467)) (by decide +kernel))
    | 2, _ => exact va_eqtl (hq (.eq (.elem nTm (.int 2)) (.long 1685022579)) (by decide +kernel))
    | 3, _ => exact va_eqtl (hq (.eq (.elem nTm (.int 3)) (.long 2003790950)) (by decide +kernel))
    | 4, _ => exact va_eqtl (hq (.eq (.elem nTm (.int 4)) (.long 439788397413)) (by decide +kernel))
    | 5, _ => exact va_eqtl (hq (.eq (.elem nTm (.int 5)) (.long 1885430644)) (by decide +kernel))
    | 6, _ => exact va_eqtl (hq (.eq (.elem nTm (.int 6)) (.long 495672455781)) (by decide +kernel))
    | 7, _ => exact va_eqtl (hq (.eq (.elem nTm (.int 7)) (.long 500085781608)) (by decide +kernel))
    | 8, _ => exact va_eqtl (hq (.eq (.elem nTm (.int 8)) (.long 1717921124)) (by decide +kernel))
    | 9, _ => exact va_eqtl (hq (.eq (.elem nTm (.int 9)) (.long 26479)) (by decide +kernel))
    | 10, _ => exact va_eqtl (hq (.eq (.elem nTm (.int 10)) (.long 7237492)) (by decide +kernel))
    | 11, _ => exact va_eqtl (hq (.eq (.elem nTm (.int 11)) (.long 6385252)) (by decide +kernel))
    | 12, _ => exact va_eqtl (hq (.eq (.elem nTm (.int 12)) (.long 28530)) (by decide +kernel))
    | j + 13, hj => exact absurd hj (by omega)
  obtain ⟨t, ht, hT⟩ := va_Tof (args := args) (tm := nTm) (ty := .long) (N := 13) (f := fun j => .long (nNm j)) (by decide) (hq _ (by decide +kernel)) (va_eqt (hq (.eq (.length nTm) (.int 13)) (by decide +kernel))) hel hA
  refine ⟨⟨⟨t, va_Zof (args := args) (hts _ (tm_2 (List.mem_of_getElem? (i := 202) rfl))) (hts _ (tm_1 (List.mem_of_getElem? (i := 5) rfl))) ht hA, hT⟩, ?_, ?_⟩, ?_, ?_, ?_, ?_⟩
  · exact vx_Zqof (args := args) (hts _ (tm_5 (List.mem_of_getElem? (i := 25) rfl))) (hts _ (tm_1 (List.mem_of_getElem? (i := 17) rfl))) (hq _ (by decide +kernel)) hA
  · exact vx_Zqof (args := args) (hts _ (tm_5 (List.mem_of_getElem? (i := 27) rfl))) (hts _ (tm_1 (List.mem_of_getElem? (i := 17) rfl))) (hq _ (by decide +kernel)) hA
  · intro w hw
    have h2 := List.mem_filter.mp hw
    exact va_Nw.of (loose_on h2.2) (hts w h2.1)
  · exact va_AO.of (hts _ (tm_2 (List.mem_of_getElem? (i := 96) rfl)))
  · obtain ⟨a, c, cell, k, e, -⟩ := Cond.exactly_spec (args := args) (first := s) (o := none) (s := s) (idx := []) (t := .string "WolfHalf" 162) (cls := "java/lang/String") (hq (.exactly (.string "WolfHalf" 162) "java/lang/String") (by decide +kernel))
    exact ⟨a, vk_R.of (hts _ (tm_5 (List.mem_of_getElem? (i := 37) rfl))) e⟩
  · obtain ⟨a, c, cell, k, e, -⟩ := Cond.exactly_spec (args := args) (first := s) (o := none) (s := s) (idx := []) (t := .string "WolfHalf" 218) (cls := "java/lang/String") (hq (.exactly (.string "WolfHalf" 218) "java/lang/String") (by decide +kernel))
    exact ⟨a, vk_R.of (hts _ (tm_5 (List.mem_of_getElem? (i := 71) rfl))) e⟩
def WS0 (G : GG) (q qa2 qa3 qa4 qa6 qa8 qa9 qa10 qa12 qa14 qa16 qa18 qa20 qa22 qa24 qa27 qa28 qa29 qa31 qa32 qa33 qa35 qa36 qa37 qa39 qa40 qa41 qm : Nat → Nat) (qo : Nat) : List va_W := [wX10 G q (qa6 0) (qa12 0) (qa14 0) (qa16 0) (qa18 0) (qa20 0) (qa22 0) (qa24 0) (va_up (va_up (va_up (va_up (fun _ => none) 0 (some (qa27 0))) 1 (some (qa31 0))) 2 (some (qa35 0))) 3 (some (qa39 0))) (qa8 0), wX11 G qm 0 (fun _ => 0) 0 0 (fun _ => 0) (fun _ => 0) (fun _ => 0) 0 0 (vp_updL (vp_updL (vp_updL (vp_updL (vp_updL (vp_updL (vp_updL (vp_updL (vp_updL (vp_updL (vp_updL (vp_updL (vp_updL (vp_updL (vp_updL (vp_updL (fun _ => 0) 0 305966) 1 11873459) 2 223425) 3 1186004) 4 11517513) 5 811948) 6 36016323) 7 38264298) 8 310952) 9 274) 10 19741) 11 1891) 12 573) 13 594827965) 14 26704030) 15 614732) (upd (upd (fun _ => 0) 5 (-1)) 6 (-1)) (fun _ => 0) (fun _ => 0) 0 (fun _ => 0) 0 0 (upd (upd (upd (upd (fun _ => 0) 0 1) 1 2) 2 13) 3 14) (upd (upd (upd (upd (upd (fun _ => 0) 0 1) 1 2) 2 13) 3 4) 4 15) (fun _ => 0) (fun _ => 0) (-1) (fun _ => 0) (fun _ => 0) (fun _ => 0) (fun _ => 0) 0 (fun _ => 0) (fun _ => 0) (fun _ => 0), [(qo, .inl (G.2 1, 1, .inr (.inl (fun _ => 0))))], wX8 G qa6 (fun _ => 0) 0 0 0 0 0 0 0, wX7 G qa12 (qa6 0) (qa8 0) (qa9 0) 0, wX5 G qa2 0 0 0 (fun _ => 0) (fun _ => 0) (fun _ => 0) (fun _ => 0) (fun _ => 0) (fun _ => 0) (fun _ => 0) (fun _ => 0) (fun _ => 0) 0 (qa3 0) (qa4 0), wX3 G qa3 (fun _ => 0) (fun _ => 0) (fun _ => 0) (fun _ => 0) 0, wX3 G qa4 (fun _ => 0) (fun _ => 0) (fun _ => 0) (fun _ => 0) 0, wX5 G qa8 0 0 0 (fun _ => 0) (fun _ => 0) (fun _ => 0) (fun _ => 0) (fun _ => 0) (fun _ => 0) (fun _ => 0) (fun _ => 0) (fun _ => 0) 0 (qa9 0) (qa10 0), wX3 G qa9 (fun _ => 0) (fun _ => 0) (fun _ => 0) (fun _ => 0) 0, wX3 G qa10 (fun _ => 0) (fun _ => 0) (fun _ => 0) (fun _ => 0) 0, wX9 G qa14 (qa2 0) 0 0 (fun _ => 0) (fun _ => 0) (fun _ => 0) (fun _ => 0) (fun _ => 0) (fun _ => 0) (fun _ => 0) (fun _ => 0), wX0 G qa16 (fun _ => 0) (fun _ => 0) (fun _ => 0) 0 0 0, wX9 G qa18 (qa2 0) 0 0 (fun _ => 0) (fun _ => 0) (fun _ => 0) (fun _ => 0) (fun _ => 0) (fun _ => 0) (fun _ => 0) (fun _ => 0), wX0 G qa20 (fun _ => 0) (fun _ => 0) (fun _ => 0) 0 0 0, wX1 G qa22 (qa14 0) (qa18 0) (qa20 0) 4 (fun _ => 0) (fun _ => 0) (fun _ => 0) 0 0 0 (fun _ => 0) 0, wX2 G qa24 (qa14 0) (qa18 0) (qa20 0) 5 (fun _ => 0) (fun _ => 0) (fun _ => 0) 0 0 0 (fun _ => 0) (fun _ => 0), wX4 G qa27 (qa28 0) (qa29 0) 0, wX9 G qa28 (qa2 0) 0 0 (fun _ => 0) (fun _ => 0) (fun _ => 0) (fun _ => 0) (fun _ => 0) (fun _ => 0) (fun _ => 0) (fun _ => 0), wX0 G qa29 (fun _ => 0) (fun _ => 0) (fun _ => 0) 0 0 0, wX4 G qa31 (qa32 0) (qa33 0) 0, wX9 G qa32 (qa2 0) 0 0 (fun _ => 0) (fun _ => 0) (fun _ => 0) (fun _ => 0) (fun _ => 0) (fun _ => 0) (fun _ => 0) (fun _ => 0), wX0 G qa33 (fun _ => 0) (fun _ => 0) (fun _ => 0) 0 0 0, wX4 G qa35 (qa36 0) (qa37 0) 0, wX9 G qa36 (qa2 0) 0 0 (fun _ => 0) (fun _ => 0) (fun _ => 0) (fun _ => 0) (fun _ => 0) (fun _ => 0) (fun _ => 0) (fun _ => 0), wX0 G qa37 (fun _ => 0) (fun _ => 0) (fun _ => 0) 0 0 0, wX4 G qa39 (qa40 0) (qa41 0) 0, wX9 G qa40 (qa2 0) 0 0 (fun _ => 0) (fun _ => 0) (fun _ => 0) (fun _ => 0) (fun _ => 0) (fun _ => 0) (fun _ => 0) (fun _ => 0), wX0 G qa41 (fun _ => 0) (fun _ => 0) (fun _ => 0) 0 0 0]
theorem ci_L_18 : CFI RL 18 yX10_init cX10_init 3 0 := ⟨(List.forall_mem_cons.mpr ⟨(tg_1 24 rfl rfl), (List.forall_mem_cons.mpr ⟨(tg_1 1 rfl rfl), (List.forall_mem_cons.mpr ⟨(tg_1 25 rfl rfl), (fun _ h => absurd h List.not_mem_nil)⟩)⟩)⟩), Or.inl (tg_1 23 rfl rfl), by decide +kernel, by decide +kernel, rfl⟩
theorem ci_L_21 : CFI RL 21 yX11_init cX11_init 1 0 := ⟨(List.forall_mem_cons.mpr ⟨(tg_5 87 rfl rfl), (List.forall_mem_cons.mpr ⟨(tg_1 12 rfl rfl), (List.forall_mem_cons.mpr ⟨(tg_5 88 rfl rfl), (fun _ h => absurd h List.not_mem_nil)⟩)⟩)⟩), Or.inl (tg_5 86 rfl rfl), by decide +kernel, by decide +kernel, rfl⟩
set_option maxHeartbeats 16000000 in
set_option maxRecDepth 100000 in
theorem start {l : Launch} {G : GG} {b L : Nat} {xs : Nat → Int32} {KF : Nat → Nat → KT} {nm : String} (hR : RlW l G b L xs KF) (hF : RlF l G RL cL_law 7 room_1 nm KF) (k : ∀ (q qa2 qa3 qa4 qa6 qa8 qa9 qa10 qa12 qa14 qa16 qa18 qa20 qa22 qa24 qa27 qa28 qa29 qa31 qa32 qa33 qa35 qa36 qa37 qa39 qa40 qa41 qm : Nat → Nat) (qo : Nat), KF 160 44226 (WS0 G q qa2 qa3 qa4 qa6 qa8 qa9 qa10 qa12 qa14 qa16 qa18 qa20 qa22 qa24 qa27 qa28 qa29 qa31 qa32 qa33 qa35 qa36 qa37 qa39 qa40 qa41 qm qo) [(0, .ref b), (1, .ref (q 0)), (2, .ref (qm 0)), (3, .ref qo), (4, .int 0)] 23 []) : KF 0 0 [] [(0, .ref b)] 0 [] := by
  refine st_new hF dL_law_0 (ci := 9) rfl ul_X10 tyX10_ok ⟨(tg_1 21 rfl rfl), (tg_1 22 rfl rfl), (tg_1 1 rfl rfl)⟩ df_X10 (cn' := 1) (sn' := 10) rfl rfl (Nat.le_of_ble_eq_true rfl) (Nat.le_of_ble_eq_true rfl) (pc' := 3) rfl (fun a => ?_)
  refine st_dup (hF.rl (cn := 1) (sn := 10) (Nat.le_of_ble_eq_true rfl) (Nat.le_of_ble_eq_true rfl)) dL_law_3 (pc' := 4) rfl rfl ?_
  refine st_callI hF (n_X10_init (a := a)) ci_L_18 (by decide) [0] rfl rfl (av := []) rfl (rest := [.ref a]) rfl (Nat.le_of_ble_eq_true rfl) dL_law_4 (pc' := 7) rfl (cn' := 138) (sn' := 26045) rfl rfl (Nat.le_of_ble_eq_true rfl) (Nat.le_of_ble_eq_true rfl) (fun Ws' hW => ?_)
  obtain ⟨q, qa2, qa3, qa4, qa6, qa8, qa9, qa10, qa12, qa14, qa16, qa18, qa20, qa22, qa24, qa27, qa28, qa29, qa31, qa32, qa33, qa35, qa36, qa37, qa39, qa40, qa41, rfl, rfl⟩ := hW
  refine st_flat hF (Ws2 := [wX10 G q (qa6 0) (qa12 0) (qa14 0) (qa16 0) (qa18 0) (qa20 0) (qa22 0) (qa24 0) (va_up (va_up (va_up (va_up (fun _ => none) 0 (some (qa27 0))) 1 (some (qa31 0))) 2 (some (qa35 0))) 3 (some (qa39 0))) (qa8 0), wX5 G qa2 0 0 0 (fun _ => 0) (fun _ => 0) (fun _ => 0) (fun _ => 0) (fun _ => 0) (fun _ => 0) (fun _ => 0) (fun _ => 0) (fun _ => 0) 0 (qa3 0) (qa4 0), wX3 G qa3 (fun _ => 0) (fun _ => 0) (fun _ => 0) (fun _ => 0) 0, wX3 G qa4 (fun _ => 0) (fun _ => 0) (fun _ => 0) (fun _ => 0) 0, wX8 G qa6 (fun _ => 0) 0 0 0 0 0 0 0, wX5 G qa8 0 0 0 (fun _ => 0) (fun _ => 0) (fun _ => 0) (fun _ => 0) (fun _ => 0) (fun _ => 0) (fun _ => 0) (fun _ => 0) (fun _ => 0) 0 (qa9 0) (qa10 0), wX3 G qa9 (fun _ => 0) (fun _ => 0) (fun _ => 0) (fun _ => 0) 0, wX3 G qa10 (fun _ => 0) (fun _ => 0) (fun _ => 0) (fun _ => 0) 0, wX7 G qa12 (qa6 0) (qa8 0) (qa9 0) 0, wX9 G qa14 (qa2 0) 0 0 (fun _ => 0) (fun _ => 0) (fun _ => 0) (fun _ => 0) (fun _ => 0) (fun _ => 0) (fun _ => 0) (fun _ => 0), wX0 G qa16 (fun _ => 0) (fun _ => 0) (fun _ => 0) 0 0 0, wX9 G qa18 (qa2 0) 0 0 (fun _ => 0) (fun _ => 0) (fun _ => 0) (fun _ => 0) (fun _ => 0) (fun _ => 0) (fun _ => 0) (fun _ => 0), wX0 G qa20 (fun _ => 0) (fun _ => 0) (fun _ => 0) 0 0 0, wX1 G qa22 (qa14 0) (qa18 0) (qa20 0) 4 (fun _ => 0) (fun _ => 0) (fun _ => 0) 0 0 0 (fun _ => 0) 0, wX2 G qa24 (qa14 0) (qa18 0) (qa20 0) 5 (fun _ => 0) (fun _ => 0) (fun _ => 0) 0 0 0 (fun _ => 0) (fun _ => 0), wX4 G qa27 (qa28 0) (qa29 0) 0, wX9 G qa28 (qa2 0) 0 0 (fun _ => 0) (fun _ => 0) (fun _ => 0) (fun _ => 0) (fun _ => 0) (fun _ => 0) (fun _ => 0) (fun _ => 0), wX0 G qa29 (fun _ => 0) (fun _ => 0) (fun _ => 0) 0 0 0, wX4 G qa31 (qa32 0) (qa33 0) 0, wX9 G qa32 (qa2 0) 0 0 (fun _ => 0) (fun _ => 0) (fun _ => 0) (fun _ => 0) (fun _ => 0) (fun _ => 0) (fun _ => 0) (fun _ => 0), wX0 G qa33 (fun _ => 0) (fun _ => 0) (fun _ => 0) 0 0 0, wX4 G qa35 (qa36 0) (qa37 0) 0, wX9 G qa36 (qa2 0) 0 0 (fun _ => 0) (fun _ => 0) (fun _ => 0) (fun _ => 0) (fun _ => 0) (fun _ => 0) (fun _ => 0) (fun _ => 0), wX0 G qa37 (fun _ => 0) (fun _ => 0) (fun _ => 0) 0 0 0, wX4 G qa39 (qa40 0) (qa41 0) 0, wX9 G qa40 (qa2 0) 0 0 (fun _ => 0) (fun _ => 0) (fun _ => 0) (fun _ => 0) (fun _ => 0) (fun _ => 0) (fun _ => 0) (fun _ => 0), wX0 G qa41 (fun _ => 0) (fun _ => 0) (fun _ => 0) 0 0 0]) (by show List.flatten [_] = _; simp only [List.flatten_cons, List.flatten_nil, List.append_nil, List.append_assoc]) ?_
  refine st_astore_n (hF.rl (cn := 138) (sn := 26045) (Nat.le_of_ble_eq_true rfl) (Nat.le_of_ble_eq_true rfl)) dL_law_7 rfl (Nat.le_of_ble_eq_true rfl) [1, 0] (lv' := [(0, .ref b), (1, .ref (q 0))]) rfl (pc' := 8) rfl ?_
  refine st_new hF dL_law_8 (ci := 10) rfl ul_X11 tyX11_ok ⟨(tg_5 85 rfl rfl), (tg_5 83 rfl rfl), (tg_1 12 rfl rfl)⟩ df_X11 (cn' := 139) (sn' := 26075) rfl rfl (Nat.le_of_ble_eq_true rfl) (Nat.le_of_ble_eq_true rfl) (pc' := 11) rfl (fun a => ?_)
  refine st_dup (hF.rl (cn := 139) (sn := 26075) (Nat.le_of_ble_eq_true rfl) (Nat.le_of_ble_eq_true rfl)) dL_law_11 (pc' := 12) rfl rfl ?_
  refine st_callI hF (n_X11_init (a := a)) ci_L_21 (by decide) [27] rfl rfl (av := []) rfl (rest := [.ref a]) rfl (Nat.le_of_ble_eq_true rfl) dL_law_12 (pc' := 15) rfl (cn' := 159) (sn' := 44225) rfl rfl (Nat.le_of_ble_eq_true rfl) (Nat.le_of_ble_eq_true rfl) (fun Ws' hW => ?_)
  obtain ⟨qm, rfl, rfl⟩ := hW
  refine st_astore_n (hF.rl (cn := 159) (sn := 44225) (Nat.le_of_ble_eq_true rfl) (Nat.le_of_ble_eq_true rfl)) dL_law_15 rfl (Nat.le_of_ble_eq_true rfl) [1, 2, 0] (lv' := [(0, .ref b), (1, .ref (q 0)), (2, .ref (qm 0))]) rfl (pc' := 16) rfl ?_
  refine st_iconst (hF.rl (cn := 159) (sn := 44225) (Nat.le_of_ble_eq_true rfl) (Nat.le_of_ble_eq_true rfl)) dL_law_16 (v := 1) rfl (pc' := 17) rfl ?_
  refine st_newa hF dL_law_17 1 (ty := .long) rfl rfl (by intro C h; cases h) (tg_1 58 rfl rfl) (N := 1) (x := .inr (.inl (fun _ => 0))) (fun cA => rfl) (by decide) rfl (by decide) (cn' := 160) (sn' := 44226) rfl rfl (Nat.le_of_ble_eq_true rfl) (Nat.le_of_ble_eq_true rfl) (pc' := 19) rfl (fun qo => ?_)
  refine st_astore_n (hF.rl (cn := 160) (sn := 44226) (Nat.le_of_ble_eq_true rfl) (Nat.le_of_ble_eq_true rfl)) dL_law_19 rfl (Nat.le_of_ble_eq_true rfl) [1, 2, 3, 0] (lv' := [(0, .ref b), (1, .ref (q 0)), (2, .ref (qm 0)), (3, .ref qo)]) rfl (pc' := 20) rfl ?_
  refine st_iconst (hF.rl (cn := 160) (sn := 44226) (Nat.le_of_ble_eq_true rfl) (Nat.le_of_ble_eq_true rfl)) dL_law_20 (v := 0) rfl (pc' := 21) rfl ?_
  refine st_istore (hF.rl (cn := 160) (sn := 44226) (Nat.le_of_ble_eq_true rfl) (Nat.le_of_ble_eq_true rfl)) dL_law_21 (Nat.le_of_ble_eq_true rfl) [1, 2, 3, 4, 0] (lv' := [(0, .ref b), (1, .ref (q 0)), (2, .ref (qm 0)), (3, .ref qo), (4, .int 0)]) rfl (pc' := 23) rfl ?_
  exact st_pick hF [0, 27, 28, 4, 8, 1, 2, 3, 5, 6, 7, 9, 10, 11, 12, 13, 14, 15, 16, 17, 18, 19, 20, 21, 22, 23, 24, 25, 26] (Ws2 := WS0 G q qa2 qa3 qa4 qa6 qa8 qa9 qa10 qa12 qa14 qa16 qa18 qa20 qa22 qa24 qa27 qa28 qa29 qa31 qa32 qa33 qa35 qa36 qa37 qa39 qa40 qa41 qm qo) rfl rfl (k q qa2 qa3 qa4 qa6 qa8 qa9 qa10 qa12 qa14 qa16 qa18 qa20 qa22 qa24 qa27 qa28 qa29 qa31 qa32 qa33 qa35 qa36 qa37 qa39 qa40 qa41 qm qo)
/-- whole_start, out of an invariant of the two objects' chunks -/
theorem start_of {l : Launch} {p : Program} {e : Env} {s : State} {m : MethodId} {below : List Frame} {meth : Method} {c : Code} {b L : Nat} {xs : Nat → Int32} (hL : L ≤ 3584) (C0 : lw_At p s m meth c b L xs)
    (H : ∀ (G : GG) (q qa2 qa3 qa4 qa6 qa8 qa9 qa10 qa12 qa14 qa16 qa18 qa20 qa22 qa24 qa27 qa28 qa29 qa31 qa32 qa33 qa35 qa36 qa37 qa39 qa40 qa41 qm : Nat → Nat) (qo : Nat), ∃ P : Nat → List va_W → Prop, P 0 (WS0 G q qa2 qa3 qa4 qa6 qa8 qa9 qa10 qa12 qa14 qa16 qa18 qa20 qa22 qa24 qa27 qa28 qa29 qa31 qa32 qa33 qa35 qa36 qa37 qa39 qa40 qa41 qm qo) ∧ OPS l G (q 0) (qm 0) qo P) : W p l e room_1 s m #[Value.ref b] below meth c s.heap [] 0 0 (lw_Z below #[Value.ref b] s) (entryFrame m ([Value.ref b] : List Value).toArray 7) := by
  obtain ⟨hx, hb, hr, hml, hown, hts, hX, hbl, hlocks, hgv⟩ := C0
  have hT : ∀ w ∈ TT, w.before #[Value.ref b] s = true := fun w hw => hts w (List.mem_filter.mp hw).1
  obtain ⟨G, hK⟩ := gg_of hts
  have hSN := sn_of hts hgv
  have hR : RlW l G b L xs (AtB p l e room_1 s m #[Value.ref b] below meth c (fun q : Nat => s.heap.size ≤ q) G 7 (lw_Z below #[Value.ref b] s)) := ⟨p, e, s, m, below, meth, c, hx, hb, hml, hown, hT, hK, hSN, hX, hbl, hlocks, hr, rfl⟩
  have hF : RlF l G RL cL_law 7 room_1 meth.name (AtB p l e room_1 s m #[Value.ref b] below meth c (fun q : Nat => s.heap.size ≤ q) G 7 (lw_Z below #[Value.ref b] s)) := ⟨p, e, s, m, _, below, meth, c, _, _, hx, hb, hml, hown, hT, hK, fun _ h => h, hSN, rfl, rfl⟩
  rw [lg_entry_eq]
  refine start hR hF (fun q qa2 qa3 qa4 qa6 qa8 qa9 qa10 qa12 qa14 qa16 qa18 qa20 qa22 qa24 qa27 qa28 qa29 qa31 qa32 qa33 qa35 qa36 qa37 qa39 qa40 qa41 qm qo => ?_) s.heap [] _ (fun k q h => by cases h) ⟨fun i j p q h => (by cases h), fun k q h => by cases h⟩ va_S.rf (lv_entry [.ref b] (Nat.le_of_ble_eq_true rfl))
  obtain ⟨P, hP0, hops⟩ := H G q qa2 qa3 qa4 qa6 qa8 qa9 qa10 qa12 qa14 qa16 qa18 qa20 qa22 qa24 qa27 qa28 qa29 qa31 qa32 qa33 qa35 qa36 qa37 qa39 qa40 qa41 qm qo
  exact walk hR hL hops 513 0 0 160 44226 _ 0 rfl (Nat.zero_le _) (by omega) (Nat.le_of_ble_eq_true rfl) (Nat.le_of_ble_eq_true rfl) (Nat.le_of_ble_eq_true rfl) hP0
