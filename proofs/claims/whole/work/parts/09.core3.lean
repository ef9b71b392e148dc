/-! CORE 3: the machine's instructions, one by one, over K -/
section ST
variable {l : Launch} {G : GG} {own : String} {cc : ByteArray} {nL : Nat} {R : Room} {K : KT}
theorem st_iconst (hR : Rl l G own cc nL R K) {pc : Nat} {n : Int} {v : Int32} (hdg : decode cc pc = .ok (.iconst n, 1)) (hv : Int32.ofInt n = v) {pc' : Nat} (hp : pc + 1 = pc') {Ws : List va_W} {lv : List (Nat × Value)} {st : List Value} (k : K Ws lv pc' (.int v :: st)) : K Ws lv pc st := by
  obtain ⟨p, e, s, m, args, below, meth, c, A, Q, cn, sn, hx, hb, hml, hown, hts, hK, hA, hN, hcs, rfl⟩ := hR
  subst hp
  intro H locs ls hP hD hS hl
  exact lv_iconst hx hb hdg hv (k H locs ls hP hD hS hl)
theorem st_bipush (hR : Rl l G own cc nL R K) {pc : Nat} {n : Int} {v : Int32} (hdg : decode cc pc = .ok (.bipush n, 2)) (hv : (Int8.ofInt n).toInt32 = v) {pc' : Nat} (hp : pc + 2 = pc') {Ws : List va_W} {lv : List (Nat × Value)} {st : List Value} (k : K Ws lv pc' (.int v :: st)) : K Ws lv pc st := by
  obtain ⟨p, e, s, m, args, below, meth, c, A, Q, cn, sn, hx, hb, hml, hown, hts, hK, hA, hN, hcs, rfl⟩ := hR
  subst hp
  intro H locs ls hP hD hS hl
  exact lv_bipush hx hb hdg hv (k H locs ls hP hD hS hl)
theorem st_sipush (hR : Rl l G own cc nL R K) {pc : Nat} {n : Int} {v : Int32} (hdg : decode cc pc = .ok (.sipush n, 3)) (hv : (Int16.ofInt n).toInt32 = v) {pc' : Nat} (hp : pc + 3 = pc') {Ws : List va_W} {lv : List (Nat × Value)} {st : List Value} (k : K Ws lv pc' (.int v :: st)) : K Ws lv pc st := by
  obtain ⟨p, e, s, m, args, below, meth, c, A, Q, cn, sn, hx, hb, hml, hown, hts, hK, hA, hN, hcs, rfl⟩ := hR
  subst hp
  intro H locs ls hP hD hS hl
  exact lv_sipush hx hb hdg hv (k H locs ls hP hD hS hl)
theorem st_lconst (hR : Rl l G own cc nL R K) {pc : Nat} {n : Fin 2} {v : Int64} (hdg : decode cc pc = .ok (.lconst n, 1)) (hv : Int64.ofNat (n : Nat) = v) {pc' : Nat} (hp : pc + 1 = pc') {Ws : List va_W} {lv : List (Nat × Value)} {st : List Value} (k : K Ws lv pc' (.long v :: st)) : K Ws lv pc st := by
  obtain ⟨p, e, s, m, args, below, meth, c, A, Q, cn, sn, hx, hb, hml, hown, hts, hK, hA, hN, hcs, rfl⟩ := hR
  subst hp
  intro H locs ls hP hD hS hl
  exact lv_lconst hx hb hdg hv (k H locs ls hP hD hS hl)
theorem st_ldc (hR : Rl l G own cc nL R K) {pc : Nat} {idx : Nat} {v : Int32} (hc : Cond.constant own idx v ∈ TT) (hdg : decode cc pc = .ok (.ldc idx, 2)) {pc' : Nat} (hp : pc + 2 = pc') {Ws : List va_W} {lv : List (Nat × Value)} {st : List Value} (k : K Ws lv pc' (.int v :: st)) : K Ws lv pc st := by
  obtain ⟨p, e, s, m, args, below, meth, c, A, Q, cn, sn, hx, hb, hml, hown, hts, hK, hA, hN, hcs, rfl⟩ := hR
  subst hp
  intro H locs ls hP hD hS hl
  exact lv_ldc hx hb hown (hts _ hc) hdg (k H locs ls hP hD hS hl)
theorem st_ldcw (hR : Rl l G own cc nL R K) {pc : Nat} {idx : Nat} {v : Int32} (hc : Cond.constant own idx v ∈ TT) (hdg : decode cc pc = .ok (.ldc_w idx, 3)) {pc' : Nat} (hp : pc + 3 = pc') {Ws : List va_W} {lv : List (Nat × Value)} {st : List Value} (k : K Ws lv pc' (.int v :: st)) : K Ws lv pc st := by
  obtain ⟨p, e, s, m, args, below, meth, c, A, Q, cn, sn, hx, hb, hml, hown, hts, hK, hA, hN, hcs, rfl⟩ := hR
  subst hp
  intro H locs ls hP hD hS hl
  exact lv_ldcw hx hb hown (hts _ hc) hdg (k H locs ls hP hD hS hl)
theorem st_ldc2 (hR : Rl l G own cc nL R K) {pc : Nat} {idx : Nat} {v : Int64} (hc : Cond.constantLong own idx v ∈ TT) (hdg : decode cc pc = .ok (.ldc2_w idx, 3)) {pc' : Nat} (hp : pc + 3 = pc') {Ws : List va_W} {lv : List (Nat × Value)} {st : List Value} (k : K Ws lv pc' (.long v :: st)) : K Ws lv pc st := by
  obtain ⟨p, e, s, m, args, below, meth, c, A, Q, cn, sn, hx, hb, hml, hown, hts, hK, hA, hN, hcs, rfl⟩ := hR
  subst hp
  intro H locs ls hP hD hS hl
  exact lv_ldc2 hx hb hown (hts _ hc) hdg (k H locs ls hP hD hS hl)
theorem st_iload_n (hR : Rl l G own cc nL R K) {pc : Nat} {q : Fin 4} (hdg : decode cc pc = .ok (.iload_n q, 1)) (j : Nat) {i : Nat} {x : Int32} {Ws : List va_W} {lv : List (Nat × Value)} (hj : lv[j]? = some (i, .int x)) (hi : (q : Nat) = i) {pc' : Nat} (hp : pc + 1 = pc') {st : List Value} (k : K Ws lv pc' (.int x :: st)) : K Ws lv pc st := by
  obtain ⟨p, e, s, m, args, below, meth, c, A, Q, cn, sn, hx, hb, hml, hown, hts, hK, hA, hN, hcs, rfl⟩ := hR
  subst hp
  intro H locs ls hP hD hS hl
  exact lv_iload_n hx hb hdg hi (lv_at hl j hj) (k H locs ls hP hD hS hl)
theorem st_iload (hR : Rl l G own cc nL R K) {pc : Nat} {i : Nat} (hdg : decode cc pc = .ok (.iload i, 2)) (j : Nat) {x : Int32} {Ws : List va_W} {lv : List (Nat × Value)} (hj : lv[j]? = some (i, .int x)) {pc' : Nat} (hp : pc + 2 = pc') {st : List Value} (k : K Ws lv pc' (.int x :: st)) : K Ws lv pc st := by
  obtain ⟨p, e, s, m, args, below, meth, c, A, Q, cn, sn, hx, hb, hml, hown, hts, hK, hA, hN, hcs, rfl⟩ := hR
  subst hp
  intro H locs ls hP hD hS hl
  exact lv_iload hx hb hdg (lv_at hl j hj) (k H locs ls hP hD hS hl)
theorem st_istore_n (hR : Rl l G own cc nL R K) {pc : Nat} {q : Fin 4} {i : Nat} (hdg : decode cc pc = .ok (.istore_n q, 1)) (hi : (q : Nat) = i) (hn : i < nL) (ks : List Nat) {x : Int32} {Ws : List va_W} {lv lv' : List (Nat × Value)} (hl : lv_pick ((i, Value.int x) :: lv.filter (fun q => !(q.1 == i) && !(q.1 + 1 == i && q.2.category == 2))) ks = lv') {pc' : Nat} (hp : pc + 1 = pc') {st : List Value} (k : K Ws lv' pc' st) : K Ws lv pc (.int x :: st) := by
  obtain ⟨p, e, s, m, args, below, meth, c, A, Q, cn, sn, hx, hb, hml, hown, hts, hK, hA, hN, hcs, rfl⟩ := hR
  subst hp
  intro H locs ls hP hD hS hl0
  exact lv_istore_n hx hb hdg hi hl0 hn rfl (fun ls' hl' => k H locs ls' hP hD hS (lv_sub hl' ks hl))
theorem st_istore (hR : Rl l G own cc nL R K) {pc : Nat} {i : Nat} (hdg : decode cc pc = .ok (.istore i, 2)) (hn : i < nL) (ks : List Nat) {x : Int32} {Ws : List va_W} {lv lv' : List (Nat × Value)} (hl : lv_pick ((i, Value.int x) :: lv.filter (fun q => !(q.1 == i) && !(q.1 + 1 == i && q.2.category == 2))) ks = lv') {pc' : Nat} (hp : pc + 2 = pc') {st : List Value} (k : K Ws lv' pc' st) : K Ws lv pc (.int x :: st) := by
  obtain ⟨p, e, s, m, args, below, meth, c, A, Q, cn, sn, hx, hb, hml, hown, hts, hK, hA, hN, hcs, rfl⟩ := hR
  subst hp
  intro H locs ls hP hD hS hl0
  exact lv_istore hx hb hdg hl0 hn rfl (fun ls' hl' => k H locs ls' hP hD hS (lv_sub hl' ks hl))
theorem st_lload_n (hR : Rl l G own cc nL R K) {pc : Nat} {q : Fin 4} (hdg : decode cc pc = .ok (.lload_n q, 1)) (j : Nat) {i : Nat} {x : Int64} {Ws : List va_W} {lv : List (Nat × Value)} (hj : lv[j]? = some (i, .long x)) (hi : (q : Nat) = i) {pc' : Nat} (hp : pc + 1 = pc') {st : List Value} (k : K Ws lv pc' (.long x :: st)) : K Ws lv pc st := by
  obtain ⟨p, e, s, m, args, below, meth, c, A, Q, cn, sn, hx, hb, hml, hown, hts, hK, hA, hN, hcs, rfl⟩ := hR
  subst hp
  intro H locs ls hP hD hS hl
  exact lv_lload_n hx hb hdg hi (lv_at hl j hj) (k H locs ls hP hD hS hl)
theorem st_lload (hR : Rl l G own cc nL R K) {pc : Nat} {i : Nat} (hdg : decode cc pc = .ok (.lload i, 2)) (j : Nat) {x : Int64} {Ws : List va_W} {lv : List (Nat × Value)} (hj : lv[j]? = some (i, .long x)) {pc' : Nat} (hp : pc + 2 = pc') {st : List Value} (k : K Ws lv pc' (.long x :: st)) : K Ws lv pc st := by
  obtain ⟨p, e, s, m, args, below, meth, c, A, Q, cn, sn, hx, hb, hml, hown, hts, hK, hA, hN, hcs, rfl⟩ := hR
  subst hp
  intro H locs ls hP hD hS hl
  exact lv_lload hx hb hdg (lv_at hl j hj) (k H locs ls hP hD hS hl)
theorem st_lstore_n (hR : Rl l G own cc nL R K) {pc : Nat} {q : Fin 4} {i : Nat} (hdg : decode cc pc = .ok (.lstore_n q, 1)) (hi : (q : Nat) = i) (hn : i + 1 < nL) (ks : List Nat) {x : Int64} {Ws : List va_W} {lv lv' : List (Nat × Value)} (hl : lv_pick ((i, Value.long x) :: lv.filter (fun q => !(q.1 == i) && (!(q.1 == i + 1) && !(q.1 + 1 == i && q.2.category == 2)))) ks = lv') {pc' : Nat} (hp : pc + 1 = pc') {st : List Value} (k : K Ws lv' pc' st) : K Ws lv pc (.long x :: st) := by
  obtain ⟨p, e, s, m, args, below, meth, c, A, Q, cn, sn, hx, hb, hml, hown, hts, hK, hA, hN, hcs, rfl⟩ := hR
  subst hp
  intro H locs ls hP hD hS hl0
  exact lv_lstore_n hx hb hdg hi hl0 hn rfl (fun ls' hl' => k H locs ls' hP hD hS (lv_sub hl' ks hl))
theorem st_lstore (hR : Rl l G own cc nL R K) {pc : Nat} {i : Nat} (hdg : decode cc pc = .ok (.lstore i, 2)) (hn : i + 1 < nL) (ks : List Nat) {x : Int64} {Ws : List va_W} {lv lv' : List (Nat × Value)} (hl : lv_pick ((i, Value.long x) :: lv.filter (fun q => !(q.1 == i) && (!(q.1 == i + 1) && !(q.1 + 1 == i && q.2.category == 2)))) ks = lv') {pc' : Nat} (hp : pc + 2 = pc') {st : List Value} (k : K Ws lv' pc' st) : K Ws lv pc (.long x :: st) := by
  obtain ⟨p, e, s, m, args, below, meth, c, A, Q, cn, sn, hx, hb, hml, hown, hts, hK, hA, hN, hcs, rfl⟩ := hR
  subst hp
  intro H locs ls hP hD hS hl0
  exact lv_lstore hx hb hdg hl0 hn rfl (fun ls' hl' => k H locs ls' hP hD hS (lv_sub hl' ks hl))
theorem st_aload_n (hR : Rl l G own cc nL R K) {pc : Nat} {q : Fin 4} (hdg : decode cc pc = .ok (.aload_n q, 1)) (j : Nat) {i : Nat} {x : Nat} {Ws : List va_W} {lv : List (Nat × Value)} (hj : lv[j]? = some (i, .ref x)) (hi : (q : Nat) = i) {pc' : Nat} (hp : pc + 1 = pc') {st : List Value} (k : K Ws lv pc' (.ref x :: st)) : K Ws lv pc st := by
  obtain ⟨p, e, s, m, args, below, meth, c, A, Q, cn, sn, hx, hb, hml, hown, hts, hK, hA, hN, hcs, rfl⟩ := hR
  subst hp
  intro H locs ls hP hD hS hl
  exact lv_aload_n hx hb hdg hi (lv_at hl j hj) (k H locs ls hP hD hS hl)
theorem st_aload (hR : Rl l G own cc nL R K) {pc : Nat} {i : Nat} (hdg : decode cc pc = .ok (.aload i, 2)) (j : Nat) {x : Nat} {Ws : List va_W} {lv : List (Nat × Value)} (hj : lv[j]? = some (i, .ref x)) {pc' : Nat} (hp : pc + 2 = pc') {st : List Value} (k : K Ws lv pc' (.ref x :: st)) : K Ws lv pc st := by
  obtain ⟨p, e, s, m, args, below, meth, c, A, Q, cn, sn, hx, hb, hml, hown, hts, hK, hA, hN, hcs, rfl⟩ := hR
  subst hp
  intro H locs ls hP hD hS hl
  exact lv_aload hx hb hdg (lv_at hl j hj) (k H locs ls hP hD hS hl)
theorem st_astore_n (hR : Rl l G own cc nL R K) {pc : Nat} {q : Fin 4} {i : Nat} (hdg : decode cc pc = .ok (.astore_n q, 1)) (hi : (q : Nat) = i) (hn : i < nL) (ks : List Nat) {x : Nat} {Ws : List va_W} {lv lv' : List (Nat × Value)} (hl : lv_pick ((i, Value.ref x) :: lv.filter (fun q => !(q.1 == i) && !(q.1 + 1 == i && q.2.category == 2))) ks = lv') {pc' : Nat} (hp : pc + 1 = pc') {st : List Value} (k : K Ws lv' pc' st) : K Ws lv pc (.ref x :: st) := by
  obtain ⟨p, e, s, m, args, below, meth, c, A, Q, cn, sn, hx, hb, hml, hown, hts, hK, hA, hN, hcs, rfl⟩ := hR
  subst hp
  intro H locs ls hP hD hS hl0
  exact lv_astore_n hx hb hdg hi hl0 hn rfl (fun ls' hl' => k H locs ls' hP hD hS (lv_sub hl' ks hl))
theorem st_astore (hR : Rl l G own cc nL R K) {pc : Nat} {i : Nat} (hdg : decode cc pc = .ok (.astore i, 2)) (hn : i < nL) (ks : List Nat) {x : Nat} {Ws : List va_W} {lv lv' : List (Nat × Value)} (hl : lv_pick ((i, Value.ref x) :: lv.filter (fun q => !(q.1 == i) && !(q.1 + 1 == i && q.2.category == 2))) ks = lv') {pc' : Nat} (hp : pc + 2 = pc') {st : List Value} (k : K Ws lv' pc' st) : K Ws lv pc (.ref x :: st) := by
  obtain ⟨p, e, s, m, args, below, meth, c, A, Q, cn, sn, hx, hb, hml, hown, hts, hK, hA, hN, hcs, rfl⟩ := hR
  subst hp
  intro H locs ls hP hD hS hl0
  exact lv_astore hx hb hdg hl0 hn rfl (fun ls' hl' => k H locs ls' hP hD hS (lv_sub hl' ks hl))
theorem st_iinc (hR : Rl l G own cc nL R K) {pc i : Nat} {n : Int} (hdg : decode cc pc = .ok (.iinc i n, 3)) (hn : i < nL) (j : Nat) (ks : List Nat) {x v : Int32} {Ws : List va_W} {lv lv' : List (Nat × Value)} (hj : lv[j]? = some (i, .int x)) (hv : x + Int32.ofInt n = v) (hl : lv_pick ((i, Value.int v) :: lv.filter (fun q => !(q.1 == i) && !(q.1 + 1 == i && q.2.category == 2))) ks = lv') {pc' : Nat} (hp : pc + 3 = pc') {st : List Value} (k : K Ws lv' pc' st) : K Ws lv pc st := by
  obtain ⟨p, e, s, m, args, below, meth, c, A, Q, cn, sn, hx, hb, hml, hown, hts, hK, hA, hN, hcs, rfl⟩ := hR
  subst hp
  intro H locs ls hP hD hS hl0
  exact lv_iinc hx hb hdg hl0 hj hv hn rfl (fun ls' hl' => k H locs ls' hP hD hS (lv_sub hl' ks hl))
theorem st_iadd (hR : Rl l G own cc nL R K) {pc : Nat} (hdg : decode cc pc = .ok (.iadd, 1)) {pc' : Nat} (hp : pc + 1 = pc') {Ws : List va_W} {lv : List (Nat × Value)} {st : List Value} {x y : Int32} (k : K Ws lv pc' (.int (x + y) :: st)) : K Ws lv pc (.int y :: .int x :: st) := by
  obtain ⟨p, e, s, m, args, below, meth, c, A, Q, cn, sn, hx, hb, hml, hown, hts, hK, hA, hN, hcs, rfl⟩ := hR
  subst hp
  intro H locs ls hP hD hS hl
  exact lv_iadd hx hb hdg (k H locs ls hP hD hS hl)
theorem st_isub (hR : Rl l G own cc nL R K) {pc : Nat} (hdg : decode cc pc = .ok (.isub, 1)) {pc' : Nat} (hp : pc + 1 = pc') {Ws : List va_W} {lv : List (Nat × Value)} {st : List Value} {x y : Int32} (k : K Ws lv pc' (.int (x - y) :: st)) : K Ws lv pc (.int y :: .int x :: st) := by
  obtain ⟨p, e, s, m, args, below, meth, c, A, Q, cn, sn, hx, hb, hml, hown, hts, hK, hA, hN, hcs, rfl⟩ := hR
  subst hp
  intro H locs ls hP hD hS hl
  exact lv_isub hx hb hdg (k H locs ls hP hD hS hl)
theorem st_imul (hR : Rl l G own cc nL R K) {pc : Nat} (hdg : decode cc pc = .ok (.imul, 1)) {pc' : Nat} (hp : pc + 1 = pc') {Ws : List va_W} {lv : List (Nat × Value)} {st : List Value} {x y : Int32} (k : K Ws lv pc' (.int (x * y) :: st)) : K Ws lv pc (.int y :: .int x :: st) := by
  obtain ⟨p, e, s, m, args, below, meth, c, A, Q, cn, sn, hx, hb, hml, hown, hts, hK, hA, hN, hcs, rfl⟩ := hR
  subst hp
  intro H locs ls hP hD hS hl
  exact lv_imul hx hb hdg (k H locs ls hP hD hS hl)
theorem st_iand (hR : Rl l G own cc nL R K) {pc : Nat} (hdg : decode cc pc = .ok (.iand, 1)) {pc' : Nat} (hp : pc + 1 = pc') {Ws : List va_W} {lv : List (Nat × Value)} {st : List Value} {x y : Int32} (k : K Ws lv pc' (.int (x &&& y) :: st)) : K Ws lv pc (.int y :: .int x :: st) := by
  obtain ⟨p, e, s, m, args, below, meth, c, A, Q, cn, sn, hx, hb, hml, hown, hts, hK, hA, hN, hcs, rfl⟩ := hR
  subst hp
  intro H locs ls hP hD hS hl
  exact lv_iand hx hb hdg (k H locs ls hP hD hS hl)
theorem st_ior (hR : Rl l G own cc nL R K) {pc : Nat} (hdg : decode cc pc = .ok (.ior, 1)) {pc' : Nat} (hp : pc + 1 = pc') {Ws : List va_W} {lv : List (Nat × Value)} {st : List Value} {x y : Int32} (k : K Ws lv pc' (.int (x ||| y) :: st)) : K Ws lv pc (.int y :: .int x :: st) := by
  obtain ⟨p, e, s, m, args, below, meth, c, A, Q, cn, sn, hx, hb, hml, hown, hts, hK, hA, hN, hcs, rfl⟩ := hR
  subst hp
  intro H locs ls hP hD hS hl
  exact lv_ior hx hb hdg (k H locs ls hP hD hS hl)
theorem st_ixor (hR : Rl l G own cc nL R K) {pc : Nat} (hdg : decode cc pc = .ok (.ixor, 1)) {pc' : Nat} (hp : pc + 1 = pc') {Ws : List va_W} {lv : List (Nat × Value)} {st : List Value} {x y : Int32} (k : K Ws lv pc' (.int (x ^^^ y) :: st)) : K Ws lv pc (.int y :: .int x :: st) := by
  obtain ⟨p, e, s, m, args, below, meth, c, A, Q, cn, sn, hx, hb, hml, hown, hts, hK, hA, hN, hcs, rfl⟩ := hR
  subst hp
  intro H locs ls hP hD hS hl
  exact lv_ixor hx hb hdg (k H locs ls hP hD hS hl)
theorem st_idiv (hR : Rl l G own cc nL R K) {pc : Nat} (hdg : decode cc pc = .ok (.idiv, 1)) {pc' : Nat} (hp : pc + 1 = pc') {Ws : List va_W} {lv : List (Nat × Value)} {st : List Value} {x y : Int32} (hne : ¬ y = 0) (k : K Ws lv pc' (.int (x / y) :: st)) : K Ws lv pc (.int y :: .int x :: st) := by
  obtain ⟨p, e, s, m, args, below, meth, c, A, Q, cn, sn, hx, hb, hml, hown, hts, hK, hA, hN, hcs, rfl⟩ := hR
  subst hp
  intro H locs ls hP hD hS hl
  exact lv_idiv hx hb hdg hne (k H locs ls hP hD hS hl)
theorem st_irem (hR : Rl l G own cc nL R K) {pc : Nat} (hdg : decode cc pc = .ok (.irem, 1)) {pc' : Nat} (hp : pc + 1 = pc') {Ws : List va_W} {lv : List (Nat × Value)} {st : List Value} {x y : Int32} (hne : ¬ y = 0) (k : K Ws lv pc' (.int (x - x / y * y) :: st)) : K Ws lv pc (.int y :: .int x :: st) := by
  obtain ⟨p, e, s, m, args, below, meth, c, A, Q, cn, sn, hx, hb, hml, hown, hts, hK, hA, hN, hcs, rfl⟩ := hR
  subst hp
  intro H locs ls hP hD hS hl
  exact lv_irem hx hb hdg hne (k H locs ls hP hD hS hl)
theorem st_ladd (hR : Rl l G own cc nL R K) {pc : Nat} (hdg : decode cc pc = .ok (.ladd, 1)) {pc' : Nat} (hp : pc + 1 = pc') {Ws : List va_W} {lv : List (Nat × Value)} {st : List Value} {x y : Int64} (k : K Ws lv pc' (.long (x + y) :: st)) : K Ws lv pc (.long y :: .long x :: st) := by
  obtain ⟨p, e, s, m, args, below, meth, c, A, Q, cn, sn, hx, hb, hml, hown, hts, hK, hA, hN, hcs, rfl⟩ := hR
  subst hp
  intro H locs ls hP hD hS hl
  exact lv_ladd hx hb hdg (k H locs ls hP hD hS hl)
theorem st_lsub (hR : Rl l G own cc nL R K) {pc : Nat} (hdg : decode cc pc = .ok (.lsub, 1)) {pc' : Nat} (hp : pc + 1 = pc') {Ws : List va_W} {lv : List (Nat × Value)} {st : List Value} {x y : Int64} (k : K Ws lv pc' (.long (x - y) :: st)) : K Ws lv pc (.long y :: .long x :: st) := by
  obtain ⟨p, e, s, m, args, below, meth, c, A, Q, cn, sn, hx, hb, hml, hown, hts, hK, hA, hN, hcs, rfl⟩ := hR
  subst hp
  intro H locs ls hP hD hS hl
  exact lv_lsub hx hb hdg (k H locs ls hP hD hS hl)
theorem st_lmul (hR : Rl l G own cc nL R K) {pc : Nat} (hdg : decode cc pc = .ok (.lmul, 1)) {pc' : Nat} (hp : pc + 1 = pc') {Ws : List va_W} {lv : List (Nat × Value)} {st : List Value} {x y : Int64} (k : K Ws lv pc' (.long (x * y) :: st)) : K Ws lv pc (.long y :: .long x :: st) := by
  obtain ⟨p, e, s, m, args, below, meth, c, A, Q, cn, sn, hx, hb, hml, hown, hts, hK, hA, hN, hcs, rfl⟩ := hR
  subst hp
  intro H locs ls hP hD hS hl
  exact lv_lmul hx hb hdg (k H locs ls hP hD hS hl)
theorem st_land (hR : Rl l G own cc nL R K) {pc : Nat} (hdg : decode cc pc = .ok (.land, 1)) {pc' : Nat} (hp : pc + 1 = pc') {Ws : List va_W} {lv : List (Nat × Value)} {st : List Value} {x y : Int64} (k : K Ws lv pc' (.long (x &&& y) :: st)) : K Ws lv pc (.long y :: .long x :: st) := by
  obtain ⟨p, e, s, m, args, below, meth, c, A, Q, cn, sn, hx, hb, hml, hown, hts, hK, hA, hN, hcs, rfl⟩ := hR
  subst hp
  intro H locs ls hP hD hS hl
  exact lv_land hx hb hdg (k H locs ls hP hD hS hl)
theorem st_lor (hR : Rl l G own cc nL R K) {pc : Nat} (hdg : decode cc pc = .ok (.lor, 1)) {pc' : Nat} (hp : pc + 1 = pc') {Ws : List va_W} {lv : List (Nat × Value)} {st : List Value} {x y : Int64} (k : K Ws lv pc' (.long (x ||| y) :: st)) : K Ws lv pc (.long y :: .long x :: st) := by
  obtain ⟨p, e, s, m, args, below, meth, c, A, Q, cn, sn, hx, hb, hml, hown, hts, hK, hA, hN, hcs, rfl⟩ := hR
  subst hp
  intro H locs ls hP hD hS hl
  exact lv_lor hx hb hdg (k H locs ls hP hD hS hl)
theorem st_ldiv (hR : Rl l G own cc nL R K) {pc : Nat} (hdg : decode cc pc = .ok (.ldiv, 1)) {pc' : Nat} (hp : pc + 1 = pc') {Ws : List va_W} {lv : List (Nat × Value)} {st : List Value} {x y : Int64} (hne : ¬ y = 0) (k : K Ws lv pc' (.long (x / y) :: st)) : K Ws lv pc (.long y :: .long x :: st) := by
  obtain ⟨p, e, s, m, args, below, meth, c, A, Q, cn, sn, hx, hb, hml, hown, hts, hK, hA, hN, hcs, rfl⟩ := hR
  subst hp
  intro H locs ls hP hD hS hl
  exact lv_ldiv hx hb hdg hne (k H locs ls hP hD hS hl)
theorem st_lrem (hR : Rl l G own cc nL R K) {pc : Nat} (hdg : decode cc pc = .ok (.lrem, 1)) {pc' : Nat} (hp : pc + 1 = pc') {Ws : List va_W} {lv : List (Nat × Value)} {st : List Value} {x y : Int64} (hne : ¬ y = 0) (k : K Ws lv pc' (.long (x - x / y * y) :: st)) : K Ws lv pc (.long y :: .long x :: st) := by
  obtain ⟨p, e, s, m, args, below, meth, c, A, Q, cn, sn, hx, hb, hml, hown, hts, hK, hA, hN, hcs, rfl⟩ := hR
  subst hp
  intro H locs ls hP hD hS hl
  exact lv_lrem hx hb hdg hne (k H locs ls hP hD hS hl)
theorem st_ishl (hR : Rl l G own cc nL R K) {pc : Nat} (hdg : decode cc pc = .ok (.ishl, 1)) {pc' : Nat} (hp : pc + 1 = pc') {Ws : List va_W} {lv : List (Nat × Value)} {st : List Value} {x y : Int32} (k : K Ws lv pc' (.int (x <<< (y &&& 31)) :: st)) : K Ws lv pc (.int y :: .int x :: st) := by
  obtain ⟨p, e, s, m, args, below, meth, c, A, Q, cn, sn, hx, hb, hml, hown, hts, hK, hA, hN, hcs, rfl⟩ := hR
  subst hp
  intro H locs ls hP hD hS hl
  exact lv_ishl hx hb hdg (k H locs ls hP hD hS hl)
theorem st_ishr (hR : Rl l G own cc nL R K) {pc : Nat} (hdg : decode cc pc = .ok (.ishr, 1)) {pc' : Nat} (hp : pc + 1 = pc') {Ws : List va_W} {lv : List (Nat × Value)} {st : List Value} {x y : Int32} (k : K Ws lv pc' (.int (x >>> (y &&& 31)) :: st)) : K Ws lv pc (.int y :: .int x :: st) := by
  obtain ⟨p, e, s, m, args, below, meth, c, A, Q, cn, sn, hx, hb, hml, hown, hts, hK, hA, hN, hcs, rfl⟩ := hR
  subst hp
  intro H locs ls hP hD hS hl
  exact lv_ishr hx hb hdg (k H locs ls hP hD hS hl)
theorem st_ineg (hR : Rl l G own cc nL R K) {pc : Nat} (hdg : decode cc pc = .ok (.ineg, 1)) {pc' : Nat} (hp : pc + 1 = pc') {Ws : List va_W} {lv : List (Nat × Value)} {st : List Value} {x : Int32} (k : K Ws lv pc' (.int (-x) :: st)) : K Ws lv pc (.int x :: st) := by
  obtain ⟨p, e, s, m, args, below, meth, c, A, Q, cn, sn, hx, hb, hml, hown, hts, hK, hA, hN, hcs, rfl⟩ := hR
  subst hp
  intro H locs ls hP hD hS hl
  exact lv_ineg hx hb hdg (k H locs ls hP hD hS hl)
theorem st_i2l (hR : Rl l G own cc nL R K) {pc : Nat} (hdg : decode cc pc = .ok (.i2l, 1)) {pc' : Nat} (hp : pc + 1 = pc') {Ws : List va_W} {lv : List (Nat × Value)} {st : List Value} {x : Int32} (k : K Ws lv pc' (.long x.toInt64 :: st)) : K Ws lv pc (.int x :: st) := by
  obtain ⟨p, e, s, m, args, below, meth, c, A, Q, cn, sn, hx, hb, hml, hown, hts, hK, hA, hN, hcs, rfl⟩ := hR
  subst hp
  intro H locs ls hP hD hS hl
  exact lv_i2l hx hb hdg rfl (k H locs ls hP hD hS hl)
theorem st_l2i (hR : Rl l G own cc nL R K) {pc : Nat} (hdg : decode cc pc = .ok (.l2i, 1)) {pc' : Nat} (hp : pc + 1 = pc') {Ws : List va_W} {lv : List (Nat × Value)} {st : List Value} {x : Int64} (k : K Ws lv pc' (.int x.toInt32 :: st)) : K Ws lv pc (.long x :: st) := by
  obtain ⟨p, e, s, m, args, below, meth, c, A, Q, cn, sn, hx, hb, hml, hown, hts, hK, hA, hN, hcs, rfl⟩ := hR
  subst hp
  intro H locs ls hP hD hS hl
  exact lv_l2i hx hb hdg rfl (k H locs ls hP hD hS hl)
theorem st_i2c (hR : Rl l G own cc nL R K) {pc : Nat} (hdg : decode cc pc = .ok (.i2c, 1)) {pc' : Nat} (hp : pc + 1 = pc') {Ws : List va_W} {lv : List (Nat × Value)} {st : List Value} {x : Int32} (k : K Ws lv pc' (.int (x.toUInt32 % 65536).toInt32 :: st)) : K Ws lv pc (.int x :: st) := by
  obtain ⟨p, e, s, m, args, below, meth, c, A, Q, cn, sn, hx, hb, hml, hown, hts, hK, hA, hN, hcs, rfl⟩ := hR
  subst hp
  intro H locs ls hP hD hS hl
  exact lv_i2c hx hb hdg rfl (k H locs ls hP hD hS hl)
theorem st_iushr (hR : Rl l G own cc nL R K) {pc : Nat} (hdg : decode cc pc = .ok (.iushr, 1)) {pc' : Nat} (hp : pc + 1 = pc') {Ws : List va_W} {lv : List (Nat × Value)} {st : List Value} {x y : Int32} (k : K Ws lv pc' (.int (x.toUInt32 >>> (y.toUInt32 &&& Int32.toUInt32 31)).toInt32 :: st)) : K Ws lv pc (.int y :: .int x :: st) := by
  obtain ⟨p, e, s, m, args, below, meth, c, A, Q, cn, sn, hx, hb, hml, hown, hts, hK, hA, hN, hcs, rfl⟩ := hR
  subst hp
  intro H locs ls hP hD hS hl
  exact lv_iushr hx hb hdg rfl (k H locs ls hP hD hS hl)
theorem st_lushr (hR : Rl l G own cc nL R K) {pc : Nat} (hdg : decode cc pc = .ok (.lushr, 1)) {pc' : Nat} (hp : pc + 1 = pc') {Ws : List va_W} {lv : List (Nat × Value)} {st : List Value} {x : Int64} {y : Int32} (k : K Ws lv pc' (.long (x.toUInt64 >>> (y.toInt64.toUInt64 &&& Int64.toUInt64 63)).toInt64 :: st)) : K Ws lv pc (.int y :: .long x :: st) := by
  obtain ⟨p, e, s, m, args, below, meth, c, A, Q, cn, sn, hx, hb, hml, hown, hts, hK, hA, hN, hcs, rfl⟩ := hR
  subst hp
  intro H locs ls hP hD hS hl
  exact lv_lushr hx hb hdg rfl (k H locs ls hP hD hS hl)
theorem st_lshl (hR : Rl l G own cc nL R K) {pc : Nat} (hdg : decode cc pc = .ok (.lshl, 1)) {pc' : Nat} (hp : pc + 1 = pc') {Ws : List va_W} {lv : List (Nat × Value)} {st : List Value} {x : Int64} {y : Int32} (k : K Ws lv pc' (.long (x <<< (y.toInt64 &&& 63)) :: st)) : K Ws lv pc (.int y :: .long x :: st) := by
  obtain ⟨p, e, s, m, args, below, meth, c, A, Q, cn, sn, hx, hb, hml, hown, hts, hK, hA, hN, hcs, rfl⟩ := hR
  subst hp
  intro H locs ls hP hD hS hl
  exact lv_lshl hx hb hdg rfl (k H locs ls hP hD hS hl)
theorem st_lshr (hR : Rl l G own cc nL R K) {pc : Nat} (hdg : decode cc pc = .ok (.lshr, 1)) {pc' : Nat} (hp : pc + 1 = pc') {Ws : List va_W} {lv : List (Nat × Value)} {st : List Value} {x : Int64} {y : Int32} (k : K Ws lv pc' (.long (x >>> (y.toInt64 &&& 63)) :: st)) : K Ws lv pc (.int y :: .long x :: st) := by
  obtain ⟨p, e, s, m, args, below, meth, c, A, Q, cn, sn, hx, hb, hml, hown, hts, hK, hA, hN, hcs, rfl⟩ := hR
  subst hp
  intro H locs ls hP hD hS hl
  exact lv_lshr hx hb hdg rfl (k H locs ls hP hD hS hl)
theorem st_lcmp (hR : Rl l G own cc nL R K) {pc : Nat} (hdg : decode cc pc = .ok (.lcmp, 1)) {pc' : Nat} (hp : pc + 1 = pc') {Ws : List va_W} {lv : List (Nat × Value)} {st : List Value} {x y : Int64} (k : K Ws lv pc' (.int (lg_cmp x y) :: st)) : K Ws lv pc (.long y :: .long x :: st) := by
  obtain ⟨p, e, s, m, args, below, meth, c, A, Q, cn, sn, hx, hb, hml, hown, hts, hK, hA, hN, hcs, rfl⟩ := hR
  subst hp
  intro H locs ls hP hD hS hl
  exact W.lcmp hx hb hdg (k H locs ls hP hD hS hl)
theorem st_dup (hR : Rl l G own cc nL R K) {pc : Nat} (hdg : decode cc pc = .ok (.dup, 1)) {pc' : Nat} (hp : pc + 1 = pc') {Ws : List va_W} {lv : List (Nat × Value)} {st : List Value} {v : Value} (hv : v.category = 1) (k : K Ws lv pc' (v :: v :: st)) : K Ws lv pc (v :: st) := by
  obtain ⟨p, e, s, m, args, below, meth, c, A, Q, cn, sn, hx, hb, hml, hown, hts, hK, hA, hN, hcs, rfl⟩ := hR
  subst hp
  intro H locs ls hP hD hS hl
  exact lv_dup hx hb hdg hv (k H locs ls hP hD hS hl)
theorem st_pop (hR : Rl l G own cc nL R K) {pc : Nat} (hdg : decode cc pc = .ok (.pop, 1)) {pc' : Nat} (hp : pc + 1 = pc') {Ws : List va_W} {lv : List (Nat × Value)} {st : List Value} {v : Value} (hv : v.category = 1) (k : K Ws lv pc' (st)) : K Ws lv pc (v :: st) := by
  obtain ⟨p, e, s, m, args, below, meth, c, A, Q, cn, sn, hx, hb, hml, hown, hts, hK, hA, hN, hcs, rfl⟩ := hR
  subst hp
  intro H locs ls hP hD hS hl
  exact lv_pop hx hb hdg hv (k H locs ls hP hD hS hl)
theorem st_dup2 (hR : Rl l G own cc nL R K) {pc : Nat} (hdg : decode cc pc = .ok (.dup2, 1)) {pc' : Nat} (hp : pc + 1 = pc') {Ws : List va_W} {lv : List (Nat × Value)} {st : List Value} {v w : Value} (hv : v.category = 1) (hw : w.category = 1) (k : K Ws lv pc' (v :: w :: v :: w :: st)) : K Ws lv pc (v :: w :: st) := by
  obtain ⟨p, e, s, m, args, below, meth, c, A, Q, cn, sn, hx, hb, hml, hown, hts, hK, hA, hN, hcs, rfl⟩ := hR
  subst hp
  intro H locs ls hP hD hS hl
  exact lv_dup2_11 hx hb hdg hv hw (k H locs ls hP hD hS hl)
theorem st_if_eq (hR : Rl l G own cc nL R K) {pc tgt pc' : Nat} {off : Int} (hdg : decode cc pc = .ok (.ifCond .eq off, 3)) (ht : (pc : Int) + off = (tgt : Int)) (hp : pc + 3 = pc') {Ws : List va_W} {lv : List (Nat × Value)} {st : List Value} {x : Int32} (kt : x = 0 → K Ws lv tgt st) (kf : ¬ x = 0 → K Ws lv pc' st) : K Ws lv pc (.int x :: st) := by
  obtain ⟨p, e, s, m, args, below, meth, c, A, Q, cn, sn, hx, hb, hml, hown, hts, hK, hA, hN, hcs, rfl⟩ := hR
  subst hp
  intro H locs ls hP hD hS hl
  exact lv_if_eq hx hb hdg ht (fun q => kt q H locs ls hP hD hS hl) (fun q => kf q H locs ls hP hD hS hl)
theorem st_if_ne (hR : Rl l G own cc nL R K) {pc tgt pc' : Nat} {off : Int} (hdg : decode cc pc = .ok (.ifCond .ne off, 3)) (ht : (pc : Int) + off = (tgt : Int)) (hp : pc + 3 = pc') {Ws : List va_W} {lv : List (Nat × Value)} {st : List Value} {x : Int32} (kt : ¬ x = 0 → K Ws lv tgt st) (kf : x = 0 → K Ws lv pc' st) : K Ws lv pc (.int x :: st) := by
  obtain ⟨p, e, s, m, args, below, meth, c, A, Q, cn, sn, hx, hb, hml, hown, hts, hK, hA, hN, hcs, rfl⟩ := hR
  subst hp
  intro H locs ls hP hD hS hl
  exact lv_if_ne hx hb hdg ht (fun q => kt q H locs ls hP hD hS hl) (fun q => kf q H locs ls hP hD hS hl)
theorem st_if_lt (hR : Rl l G own cc nL R K) {pc tgt pc' : Nat} {off : Int} (hdg : decode cc pc = .ok (.ifCond .lt off, 3)) (ht : (pc : Int) + off = (tgt : Int)) (hp : pc + 3 = pc') {Ws : List va_W} {lv : List (Nat × Value)} {st : List Value} {x : Int32} (kt : x < 0 → K Ws lv tgt st) (kf : ¬ x < 0 → K Ws lv pc' st) : K Ws lv pc (.int x :: st) := by
  obtain ⟨p, e, s, m, args, below, meth, c, A, Q, cn, sn, hx, hb, hml, hown, hts, hK, hA, hN, hcs, rfl⟩ := hR
  subst hp
  intro H locs ls hP hD hS hl
  exact lv_if_lt hx hb hdg ht (fun q => kt q H locs ls hP hD hS hl) (fun q => kf q H locs ls hP hD hS hl)
theorem st_if_ge (hR : Rl l G own cc nL R K) {pc tgt pc' : Nat} {off : Int} (hdg : decode cc pc = .ok (.ifCond .ge off, 3)) (ht : (pc : Int) + off = (tgt : Int)) (hp : pc + 3 = pc') {Ws : List va_W} {lv : List (Nat × Value)} {st : List Value} {x : Int32} (kt : 0 ≤ x → K Ws lv tgt st) (kf : ¬ 0 ≤ x → K Ws lv pc' st) : K Ws lv pc (.int x :: st) := by
  obtain ⟨p, e, s, m, args, below, meth, c, A, Q, cn, sn, hx, hb, hml, hown, hts, hK, hA, hN, hcs, rfl⟩ := hR
  subst hp
  intro H locs ls hP hD hS hl
  exact lv_if_ge hx hb hdg ht (fun q => kt q H locs ls hP hD hS hl) (fun q => kf q H locs ls hP hD hS hl)
theorem st_if_gt (hR : Rl l G own cc nL R K) {pc tgt pc' : Nat} {off : Int} (hdg : decode cc pc = .ok (.ifCond .gt off, 3)) (ht : (pc : Int) + off = (tgt : Int)) (hp : pc + 3 = pc') {Ws : List va_W} {lv : List (Nat × Value)} {st : List Value} {x : Int32} (kt : 0 < x → K Ws lv tgt st) (kf : ¬ 0 < x → K Ws lv pc' st) : K Ws lv pc (.int x :: st) := by
  obtain ⟨p, e, s, m, args, below, meth, c, A, Q, cn, sn, hx, hb, hml, hown, hts, hK, hA, hN, hcs, rfl⟩ := hR
  subst hp
  intro H locs ls hP hD hS hl
  exact lv_if_gt hx hb hdg ht (fun q => kt q H locs ls hP hD hS hl) (fun q => kf q H locs ls hP hD hS hl)
theorem st_if_le (hR : Rl l G own cc nL R K) {pc tgt pc' : Nat} {off : Int} (hdg : decode cc pc = .ok (.ifCond .le off, 3)) (ht : (pc : Int) + off = (tgt : Int)) (hp : pc + 3 = pc') {Ws : List va_W} {lv : List (Nat × Value)} {st : List Value} {x : Int32} (kt : x ≤ 0 → K Ws lv tgt st) (kf : ¬ x ≤ 0 → K Ws lv pc' st) : K Ws lv pc (.int x :: st) := by
  obtain ⟨p, e, s, m, args, below, meth, c, A, Q, cn, sn, hx, hb, hml, hown, hts, hK, hA, hN, hcs, rfl⟩ := hR
  subst hp
  intro H locs ls hP hD hS hl
  exact lv_if_le hx hb hdg ht (fun q => kt q H locs ls hP hD hS hl) (fun q => kf q H locs ls hP hD hS hl)
theorem st_icmp_eq (hR : Rl l G own cc nL R K) {pc tgt pc' : Nat} {off : Int} (hdg : decode cc pc = .ok (.if_icmp .eq off, 3)) (ht : (pc : Int) + off = (tgt : Int)) (hp : pc + 3 = pc') {Ws : List va_W} {lv : List (Nat × Value)} {st : List Value} {x y : Int32} (kt : x = y → K Ws lv tgt st) (kf : ¬ x = y → K Ws lv pc' st) : K Ws lv pc (.int y :: .int x :: st) := by
  obtain ⟨p, e, s, m, args, below, meth, c, A, Q, cn, sn, hx, hb, hml, hown, hts, hK, hA, hN, hcs, rfl⟩ := hR
  subst hp
  intro H locs ls hP hD hS hl
  exact lv_icmp_eq hx hb hdg ht (fun q => kt q H locs ls hP hD hS hl) (fun q => kf q H locs ls hP hD hS hl)
theorem st_icmp_ne (hR : Rl l G own cc nL R K) {pc tgt pc' : Nat} {off : Int} (hdg : decode cc pc = .ok (.if_icmp .ne off, 3)) (ht : (pc : Int) + off = (tgt : Int)) (hp : pc + 3 = pc') {Ws : List va_W} {lv : List (Nat × Value)} {st : List Value} {x y : Int32} (kt : ¬ x = y → K Ws lv tgt st) (kf : x = y → K Ws lv pc' st) : K Ws lv pc (.int y :: .int x :: st) := by
  obtain ⟨p, e, s, m, args, below, meth, c, A, Q, cn, sn, hx, hb, hml, hown, hts, hK, hA, hN, hcs, rfl⟩ := hR
  subst hp
  intro H locs ls hP hD hS hl
  exact lv_icmp_ne hx hb hdg ht (fun q => kt q H locs ls hP hD hS hl) (fun q => kf q H locs ls hP hD hS hl)
theorem st_icmp_lt (hR : Rl l G own cc nL R K) {pc tgt pc' : Nat} {off : Int} (hdg : decode cc pc = .ok (.if_icmp .lt off, 3)) (ht : (pc : Int) + off = (tgt : Int)) (hp : pc + 3 = pc') {Ws : List va_W} {lv : List (Nat × Value)} {st : List Value} {x y : Int32} (kt : x < y → K Ws lv tgt st) (kf : ¬ x < y → K Ws lv pc' st) : K Ws lv pc (.int y :: .int x :: st) := by
  obtain ⟨p, e, s, m, args, below, meth, c, A, Q, cn, sn, hx, hb, hml, hown, hts, hK, hA, hN, hcs, rfl⟩ := hR
  subst hp
  intro H locs ls hP hD hS hl
  exact lv_icmp_lt hx hb hdg ht (fun q => kt q H locs ls hP hD hS hl) (fun q => kf q H locs ls hP hD hS hl)
theorem st_icmp_ge (hR : Rl l G own cc nL R K) {pc tgt pc' : Nat} {off : Int} (hdg : decode cc pc = .ok (.if_icmp .ge off, 3)) (ht : (pc : Int) + off = (tgt : Int)) (hp : pc + 3 = pc') {Ws : List va_W} {lv : List (Nat × Value)} {st : List Value} {x y : Int32} (kt : y ≤ x → K Ws lv tgt st) (kf : ¬ y ≤ x → K Ws lv pc' st) : K Ws lv pc (.int y :: .int x :: st) := by
  obtain ⟨p, e, s, m, args, below, meth, c, A, Q, cn, sn, hx, hb, hml, hown, hts, hK, hA, hN, hcs, rfl⟩ := hR
  subst hp
  intro H locs ls hP hD hS hl
  exact lv_icmp_ge hx hb hdg ht (fun q => kt q H locs ls hP hD hS hl) (fun q => kf q H locs ls hP hD hS hl)
theorem st_icmp_gt (hR : Rl l G own cc nL R K) {pc tgt pc' : Nat} {off : Int} (hdg : decode cc pc = .ok (.if_icmp .gt off, 3)) (ht : (pc : Int) + off = (tgt : Int)) (hp : pc + 3 = pc') {Ws : List va_W} {lv : List (Nat × Value)} {st : List Value} {x y : Int32} (kt : y < x → K Ws lv tgt st) (kf : ¬ y < x → K Ws lv pc' st) : K Ws lv pc (.int y :: .int x :: st) := by
  obtain ⟨p, e, s, m, args, below, meth, c, A, Q, cn, sn, hx, hb, hml, hown, hts, hK, hA, hN, hcs, rfl⟩ := hR
  subst hp
  intro H locs ls hP hD hS hl
  exact lv_icmp_gt hx hb hdg ht (fun q => kt q H locs ls hP hD hS hl) (fun q => kf q H locs ls hP hD hS hl)
theorem st_icmp_le (hR : Rl l G own cc nL R K) {pc tgt pc' : Nat} {off : Int} (hdg : decode cc pc = .ok (.if_icmp .le off, 3)) (ht : (pc : Int) + off = (tgt : Int)) (hp : pc + 3 = pc') {Ws : List va_W} {lv : List (Nat × Value)} {st : List Value} {x y : Int32} (kt : x ≤ y → K Ws lv tgt st) (kf : ¬ x ≤ y → K Ws lv pc' st) : K Ws lv pc (.int y :: .int x :: st) := by
  obtain ⟨p, e, s, m, args, below, meth, c, A, Q, cn, sn, hx, hb, hml, hown, hts, hK, hA, hN, hcs, rfl⟩ := hR
  subst hp
  intro H locs ls hP hD hS hl
  exact lv_icmp_le hx hb hdg ht (fun q => kt q H locs ls hP hD hS hl) (fun q => kf q H locs ls hP hD hS hl)
theorem st_acmp_ne (hR : Rl l G own cc nL R K) {pc tgt pc' : Nat} {off : Int} (hdg : decode cc pc = .ok (.if_acmp .ne off, 3)) (ht : (pc : Int) + off = (tgt : Int)) (hp : pc + 3 = pc') {Ws : List va_W} {lv : List (Nat × Value)} {st : List Value} {x y : Nat} (kt : ¬ x = y → K Ws lv tgt st) (kf : x = y → K Ws lv pc' st) : K Ws lv pc (.ref y :: .ref x :: st) := by
  obtain ⟨p, e, s, m, args, below, meth, c, A, Q, cn, sn, hx, hb, hml, hown, hts, hK, hA, hN, hcs, rfl⟩ := hR
  subst hp
  intro H locs ls hP hD hS hl
  exact lv_acmp_ne (rx := some x) (ry := some y) hx hb hdg ht (fun q => kt (fun z => q (by rw [z])) H locs ls hP hD hS hl) (fun q => kf (Option.some.inj q) H locs ls hP hD hS hl)
theorem st_goto (hR : Rl l G own cc nL R K) {pc tgt : Nat} {off : Int} (hdg : decode cc pc = .ok (.goto off, 3)) (ht : (pc : Int) + off = (tgt : Int)) {Ws : List va_W} {lv : List (Nat × Value)} {st : List Value} (k : K Ws lv tgt st) : K Ws lv pc st := by
  obtain ⟨p, e, s, m, args, below, meth, c, A, Q, cn, sn, hx, hb, hml, hown, hts, hK, hA, hN, hcs, rfl⟩ := hR
  intro H locs ls hP hD hS hl
  exact lv_goto hx hb hdg ht (k H locs ls hP hD hS hl)
theorem st_sw_case (hR : Rl l G own cc nL R K) {pc tgt len : Nat} {dflt lo hi off : Int} {offs : Array Int} (hdg : decode cc pc = .ok (.tableswitch dflt lo hi offs, len)) (k0 : Nat) {x0 : Int32} (h1 : x0.toInt = lo + k0) (h2 : lo + k0 ≤ hi) (ho : offs[k0]? = some off) (ht : (pc : Int) + off = (tgt : Int)) {Ws : List va_W} {lv : List (Nat × Value)} {st : List Value} {x : Int32} (k1 : x = x0 → K Ws lv tgt st) (k2 : ¬ x = x0 → K Ws lv pc (.int x :: st)) : K Ws lv pc (.int x :: st) := by
  by_cases q : x = x0
  · have k := k1 q
    subst q
    obtain ⟨p, e, s, m, args, below, meth, c, A, Q, cn, sn, hx, hb, hml, hown, hts, hK, hA, hN, hcs, rfl⟩ := hR
    intro H locs ls hP hD hS hl
    refine lv_tableIn hx hb hdg (by omega) (by omega) ?_ ht (k H locs ls hP hD hS hl)
    rw [h1, show (lo + (k0 : Int) - lo).toNat = k0 by omega]
    exact ho
  · exact k2 q
theorem st_sw_def (hR : Rl l G own cc nL R K) {pc tgt len : Nat} {dflt lo hi : Int} {offs : Array Int} (hdg : decode cc pc = .ok (.tableswitch dflt lo hi offs, len)) (ht : (pc : Int) + dflt = (tgt : Int)) {Ws : List va_W} {lv : List (Nat × Value)} {st : List Value} {x : Int32} (h : x.toInt < lo ∨ hi < x.toInt) (k : K Ws lv tgt st) : K Ws lv pc (.int x :: st) := by
  obtain ⟨p, e, s, m, args, below, meth, c, A, Q, cn, sn, hx, hb, hml, hown, hts, hK, hA, hN, hcs, rfl⟩ := hR
  intro H locs ls hP hD hS hl
  exact lv_tableOut hx hb hdg h ht (k H locs ls hP hD hS hl)
theorem sw_ne {x x0 : Int32} {k : Int} (h : ¬ x = x0) (hk : x0.toInt = k) : x.toInt ≠ k := fun q => h (Int32.toInt_inj.mp (by rw [hk]; exact q))
theorem st_iald (hR : Rl l G own cc nL R K) {pc : Nat} (hdg : decode cc pc = .ok (.iaload, 1)) (j k0 : Nat) {Ws : List va_W} {w : va_W} {a n : Nat} {f : Nat → Int32} (hj : Ws[j]? = some w) (hk : w[k0]? = some (a, .inl (G.2 0, n, .inl f))) {i v : Int32} (hin : vp_in i n) (hv : f i.toNatClampNeg = v) {pc' : Nat} (hp : pc + 1 = pc') {lv : List (Nat × Value)} {st : List Value} (k : K Ws lv pc' (.int v :: st)) : K Ws lv pc (.int i :: .ref a :: st) := by
  obtain ⟨p, e, s, m, args, below, meth, c, A, Q, cn, sn, hx, hb, hml, hown, hts, hK, hA, hN, hcs, rfl⟩ := hR
  subst hp; subst hv
  intro H locs ls hP hD hS hl
  obtain ⟨q0, hq0, -⟩ := ch_at hj hk
  exact va_iald hx hb hK hP q0 0 hq0 rfl hin hdg (k H locs ls hP hD hS hl)
theorem st_cald (hR : Rl l G own cc nL R K) {pc : Nat} (hdg : decode cc pc = .ok (.caload, 1)) (j k0 : Nat) {Ws : List va_W} {w : va_W} {a n : Nat} {f : Nat → Int32} (hj : Ws[j]? = some w) (hk : w[k0]? = some (a, .inl (G.2 2, n, .inl f))) {i v : Int32} (hin : vp_in i n) (hv : f i.toNatClampNeg = v) {pc' : Nat} (hp : pc + 1 = pc') {lv : List (Nat × Value)} {st : List Value} (k : K Ws lv pc' (.int v :: st)) : K Ws lv pc (.int i :: .ref a :: st) := by
  obtain ⟨p, e, s, m, args, below, meth, c, A, Q, cn, sn, hx, hb, hml, hown, hts, hK, hA, hN, hcs, rfl⟩ := hR
  subst hp; subst hv
  intro H locs ls hP hD hS hl
  obtain ⟨q0, hq0, -⟩ := ch_at hj hk
  exact va_cald hx hb hK hP q0 2 hq0 rfl hin hdg (k H locs ls hP hD hS hl)
theorem st_zald (hR : Rl l G own cc nL R K) {pc : Nat} (hdg : decode cc pc = .ok (.baload, 1)) (j k0 : Nat) {Ws : List va_W} {w : va_W} {a n : Nat} {f : Nat → Int32} (hj : Ws[j]? = some w) (hk : w[k0]? = some (a, .inl (G.2 3, n, .inl f))) {i v : Int32} (hin : vp_in i n) (hv : f i.toNatClampNeg = v) {pc' : Nat} (hp : pc + 1 = pc') {lv : List (Nat × Value)} {st : List Value} (k : K Ws lv pc' (.int v :: st)) : K Ws lv pc (.int i :: .ref a :: st) := by
  obtain ⟨p, e, s, m, args, below, meth, c, A, Q, cn, sn, hx, hb, hml, hown, hts, hK, hA, hN, hcs, rfl⟩ := hR
  subst hp; subst hv
  intro H locs ls hP hD hS hl
  obtain ⟨q0, hq0, -⟩ := ch_at hj hk
  exact va_zald hx hb hK hP q0 3 hq0 rfl hin hdg (k H locs ls hP hD hS hl)
theorem st_lald (hR : Rl l G own cc nL R K) {pc : Nat} (hdg : decode cc pc = .ok (.laload, 1)) (j k0 : Nat) {Ws : List va_W} {w : va_W} {a n : Nat} {f : Nat → Int64} (hj : Ws[j]? = some w) (hk : w[k0]? = some (a, .inl (G.2 1, n, .inr (.inl f)))) {i : Int32} {v : Int64} (hin : vp_in i n) (hv : f i.toNatClampNeg = v) {pc' : Nat} (hp : pc + 1 = pc') {lv : List (Nat × Value)} {st : List Value} (k : K Ws lv pc' (.long v :: st)) : K Ws lv pc (.int i :: .ref a :: st) := by
  obtain ⟨p, e, s, m, args, below, meth, c, A, Q, cn, sn, hx, hb, hml, hown, hts, hK, hA, hN, hcs, rfl⟩ := hR
  subst hp; subst hv
  intro H locs ls hP hD hS hl
  obtain ⟨q0, hq0, -⟩ := ch_at hj hk
  exact va_lald hx hb hK hP q0 1 hq0 rfl hin hdg (k H locs ls hP hD hS hl)
theorem st_iast (hR : Rl l G own cc nL R K) {pc : Nat} (hdg : decode cc pc = .ok (.iastore, 1)) (j k0 : Nat) {Ws : List va_W} {w : va_W} {a n : Nat} {f : Nat → Int32} (hj : Ws[j]? = some w) (hk : w[k0]? = some (a, .inl (G.2 0, n, .inl f))) {i x : Int32} {ix : Nat} (hin : vp_in i n) (hix : i.toNatClampNeg = ix) {pc' : Nat} (hp : pc + 1 = pc') {lv : List (Nat × Value)} {st : List Value} (W' : (Nat → Int32) → List va_W) (hW : ∀ f', Ws.set j (w.set k0 (a, .inl (G.2 0, n, .inl f'))) = W' f') (k : ∀ f' : Nat → Int32, f' = upd f ix x → K (W' f') lv pc' st) : K Ws lv pc (.int x :: .int i :: .ref a :: st) := by
  obtain ⟨p, e, s, m, args, below, meth, c, A, Q, cn, sn, hx, hb, hml, hown, hts, hK, hA, hN, hcs, rfl⟩ := hR
  subst hp; subst hix
  intro H locs ls hP hD hS hl
  obtain ⟨q0, hq0, hq1⟩ := ch_at hj hk
  refine va_iast hx hb hK hP hD hS q0 0 hq0 rfl hin hdg (fun H1 locs1 hP1 hD1 hS1 => ?_)
  rw [hq1, hW] at hP1 hD1
  exact k _ rfl H1 locs1 ls hP1 hD1 hS1 hl
theorem st_cast (hR : Rl l G own cc nL R K) {pc : Nat} (hdg : decode cc pc = .ok (.castore, 1)) (j k0 : Nat) {Ws : List va_W} {w : va_W} {a n : Nat} {f : Nat → Int32} (hj : Ws[j]? = some w) (hk : w[k0]? = some (a, .inl (G.2 2, n, .inl f))) {i x : Int32} {ix : Nat} (hin : vp_in i n) (hix : i.toNatClampNeg = ix) {pc' : Nat} (hp : pc + 1 = pc') {lv : List (Nat × Value)} {st : List Value} (W' : (Nat → Int32) → List va_W) (hW : ∀ f', Ws.set j (w.set k0 (a, .inl (G.2 2, n, .inl f'))) = W' f') (k : ∀ f' : Nat → Int32, f' = upd f ix (vp_nar .char x) → K (W' f') lv pc' st) : K Ws lv pc (.int x :: .int i :: .ref a :: st) := by
  obtain ⟨p, e, s, m, args, below, meth, c, A, Q, cn, sn, hx, hb, hml, hown, hts, hK, hA, hN, hcs, rfl⟩ := hR
  subst hp; subst hix
  intro H locs ls hP hD hS hl
  obtain ⟨q0, hq0, hq1⟩ := ch_at hj hk
  refine va_cast hx hb hK hP hD hS q0 2 hq0 rfl hin hdg (fun H1 locs1 hP1 hD1 hS1 => ?_)
  rw [hq1, hW] at hP1 hD1
  exact k _ rfl H1 locs1 ls hP1 hD1 hS1 hl
theorem st_zast (hR : Rl l G own cc nL R K) {pc : Nat} (hdg : decode cc pc = .ok (.bastore, 1)) (j k0 : Nat) {Ws : List va_W} {w : va_W} {a n : Nat} {f : Nat → Int32} (hj : Ws[j]? = some w) (hk : w[k0]? = some (a, .inl (G.2 3, n, .inl f))) {i x : Int32} {ix : Nat} (hin : vp_in i n) (hix : i.toNatClampNeg = ix) {pc' : Nat} (hp : pc + 1 = pc') {lv : List (Nat × Value)} {st : List Value} (W' : (Nat → Int32) → List va_W) (hW : ∀ f', Ws.set j (w.set k0 (a, .inl (G.2 3, n, .inl f'))) = W' f') (k : ∀ f' : Nat → Int32, f' = upd f ix (vp_nar .boolean x) → K (W' f') lv pc' st) : K Ws lv pc (.int x :: .int i :: .ref a :: st) := by
  obtain ⟨p, e, s, m, args, below, meth, c, A, Q, cn, sn, hx, hb, hml, hown, hts, hK, hA, hN, hcs, rfl⟩ := hR
  subst hp; subst hix
  intro H locs ls hP hD hS hl
  obtain ⟨q0, hq0, hq1⟩ := ch_at hj hk
  refine va_zast hx hb hK hP hD hS q0 3 hq0 rfl hin hdg (fun H1 locs1 hP1 hD1 hS1 => ?_)
  rw [hq1, hW] at hP1 hD1
  exact k _ rfl H1 locs1 ls hP1 hD1 hS1 hl
theorem st_last (hR : Rl l G own cc nL R K) {pc : Nat} (hdg : decode cc pc = .ok (.lastore, 1)) (j k0 : Nat) {Ws : List va_W} {w : va_W} {a n : Nat} {f : Nat → Int64} (hj : Ws[j]? = some w) (hk : w[k0]? = some (a, .inl (G.2 1, n, .inr (.inl f)))) {i : Int32} {x : Int64} {ix : Nat} (hin : vp_in i n) (hix : i.toNatClampNeg = ix) {pc' : Nat} (hp : pc + 1 = pc') {lv : List (Nat × Value)} {st : List Value} (W' : (Nat → Int64) → List va_W) (hW : ∀ f', Ws.set j (w.set k0 (a, .inl (G.2 1, n, .inr (.inl f')))) = W' f') (k : ∀ f' : Nat → Int64, f' = vp_updL f ix x → K (W' f') lv pc' st) : K Ws lv pc (.long x :: .int i :: .ref a :: st) := by
  obtain ⟨p, e, s, m, args, below, meth, c, A, Q, cn, sn, hx, hb, hml, hown, hts, hK, hA, hN, hcs, rfl⟩ := hR
  subst hp; subst hix
  intro H locs ls hP hD hS hl
  obtain ⟨q0, hq0, hq1⟩ := ch_at hj hk
  refine va_last hx hb hK hP hD hS q0 1 hq0 rfl hin hdg (fun H1 locs1 hP1 hD1 hS1 => ?_)
  rw [hq1, hW] at hP1 hD1
  exact k _ rfl H1 locs1 ls hP1 hD1 hS1 hl
theorem st_alen (hR : Rl l G own cc nL R K) {pc : Nat} (hdg : decode cc pc = .ok (.arraylength, 1)) (j k0 t : Nat) {Ws : List va_W} {w : va_W} {a : Nat} {cA : ClassId} {x : vp_A} {ty : FieldType} (hj : Ws[j]? = some w) (hk : w[k0]? = some (a, .inl (cA, x))) (ht : (tysG G)[t]? = some (cA, ty)) {v : Int32} (hv : Int32.ofNat x.1 = v) {pc' : Nat} (hp : pc + 1 = pc') {lv : List (Nat × Value)} {st : List Value} (k : K Ws lv pc' (.int v :: st)) : K Ws lv pc (.ref a :: st) := by
  obtain ⟨p, e, s, m, args, below, meth, c, A, Q, cn, sn, hx, hb, hml, hown, hts, hK, hA, hN, hcs, rfl⟩ := hR
  subst hp; subst hv
  intro H locs ls hP hD hS hl
  obtain ⟨q0, hq0, -⟩ := ch_at hj hk
  exact va_alen hx hb hK hP q0 t hq0 ht rfl hdg (k H locs ls hP hD hS hl)
theorem st_aldq (hR : Rl l G own cc nL R K) {pc : Nat} (hdg : decode cc pc = .ok (.aaload, 1)) (j k0 : Nat) {Ws : List va_W} {w : va_W} {a n : Nat} {f : Nat → Option Nat} (hj : Ws[j]? = some w) (hk : w[k0]? = some (a, .inl (G.2 4, n, .inr (.inr (.inr (.inr f)))))) {i : Int32} {v : Nat} (hin : vp_in i n) (hv : f i.toNatClampNeg = some v) {pc' : Nat} (hp : pc + 1 = pc') {lv : List (Nat × Value)} {st : List Value} (k : K Ws lv pc' (.ref v :: st)) : K Ws lv pc (.int i :: .ref a :: st) := by
  obtain ⟨p, e, s, m, args, below, meth, c, A, Q, cn, sn, hx, hb, hml, hown, hts, hK, hA, hN, hcs, rfl⟩ := hR
  subst hp
  intro H locs ls hP hD hS hl
  obtain ⟨q0, hq0, -⟩ := ch_at hj hk
  refine va_aldq hx hb hK hP q0 4 hq0 rfl hin hdg ?_
  rw [hv]
  exact k H locs ls hP hD hS hl
/-- what the tables say of a field under a constant pool's number -/
def FG (own : String) (idx ci f : Nat) : Prop := ∃ (C : String) (T : u_T) (N : Nat), vwCl[ci]? = some (C, T, N) ∧ f < N ∧ (∀ w ∈ u_ws C T N, w ∈ TT) ∧ (Cond.fieldLink own idx (T f).1 (T f).2.1 (T f).2.2.1 ∈ TT ∨ ∃ host : String, Cond.fieldLinkNest own idx (T f).1 (T f).2.1 (T f).2.2.1 host ∈ TL)
/-- .. that may be written -/
def FP (own : String) (idx ci f : Nat) (ty : FieldType) : Prop := ∃ (C : String) (T : u_T) (N : Nat) (ty0 : Nat → FieldType), vwCl[ci]? = some (C, T, N) ∧ f < N ∧ (∀ w ∈ u_ws C T N, w ∈ TT) ∧ (Cond.fieldLink own idx (T f).1 (T f).2.1 (T f).2.2.1 ∈ TT ∨ ∃ host : String, Cond.fieldLinkNest own idx (T f).1 (T f).2.1 (T f).2.2.1 host ∈ TL) ∧ (∀ k, k < N → parseFieldDescriptor (T k).2.2.1 = some (ty0 k)) ∧ (∀ a, a < N → ∀ b, b < N → a ≠ b → (T a).2.1 ≠ (T b).2.1) ∧ (T f).2.2.2 = false ∧ parseFieldDescriptor (T f).2.2.1 = some ty
theorem st_get (hR : Rl l G own cc nL R K) {pc idx : Nat} (hdg : decode cc pc = .ok (.getfield idx, 3)) {ci f : Nat} (hF : FG own idx ci f) (j k0 : Nat) {Ws : List va_W} {w : va_W} {a : Nat} {fs : List Value} {v : Value} (hj : Ws[j]? = some w) (hk : w[k0]? = some (a, .inr (ci, fs))) (hv : fs[f]? = some v) {pc' : Nat} (hp : pc + 3 = pc') {lv : List (Nat × Value)} {st : List Value} (k : K Ws lv pc' (v :: st)) : K Ws lv pc (.ref a :: st) := by
  obtain ⟨p, e, s, m, args, below, meth, c, A, Q, cn, sn, hx, hb, hml, hown, hts, hK, hA, hN, hcs, rfl⟩ := hR
  subst hp
  intro H locs ls hP hD hS hl
  obtain ⟨q0, hq0, -⟩ := ch_at hj hk
  obtain ⟨C, T, N, hc, hf, hin, hlk⟩ := hF
  rcases hlk with hlk | ⟨host, hlk⟩
  · exact va_get hx hb hts hin hown hK hP q0 hq0 hc f hf (hts _ hlk) (fun _ h => h) hv hdg (k H locs ls hP hD hS hl)
  · exact va_getN hx hb hts hin hown hK hP q0 hq0 hc f hf (va_Nw.use rfl (hN.2.1 _ hlk)) (fun _ h => h) hv hdg (k H locs ls hP hD hS hl)
theorem st_put (hR : Rl l G own cc nL R K) {pc idx : Nat} (hdg : decode cc pc = .ok (.putfield idx, 3)) {ci f : Nat} {ty : FieldType} (hF : FP own idx ci f ty) (j k0 : Nat) {Ws : List va_W} {w : va_W} {a : Nat} {fs : List Value} {v : Value} (hj : Ws[j]? = some w) (hk : w[k0]? = some (a, .inr (ci, fs))) (hlen : f < fs.length) (hn : narrow ty v = v) (hfit : fits ty v = true) {pc' : Nat} (hp : pc + 3 = pc') {lv : List (Nat × Value)} {st : List Value} {W' : List va_W} (hW : Ws.set j (w.set k0 (a, .inr (ci, fs.set f v))) = W') (k : K W' lv pc' st) : K Ws lv pc (v :: .ref a :: st) := by
  obtain ⟨p, e, s, m, args, below, meth, c, A, Q, cn, sn, hx, hb, hml, hown, hts, hK, hA, hN, hcs, rfl⟩ := hR
  subst hp; subst hW
  intro H locs ls hP hD hS hl
  obtain ⟨q0, hq0, hq1⟩ := ch_at hj hk
  obtain ⟨C, T, N, ty0, hc, hf, hin, hlk, hty, hnm, hfin, hd⟩ := hF
  rcases hlk with hlk | ⟨host, hlk⟩
  · refine va_put hx hb hts hin ty0 hty hnm hown hK hP hD hS q0 hq0 hc f hf (hts _ hlk) (fun _ h => h) hfin hd hn hfit hlen hdg (fun H1 locs1 hP1 hD1 hS1 => ?_)
    rw [hq1] at hP1 hD1
    exact k H1 locs1 ls hP1 hD1 hS1 hl
  · refine va_putN hx hb hts hin ty0 hty hnm hown hK hP hD hS q0 hq0 hc f hf (va_Nw.use rfl (hN.2.1 _ hlk)) (fun _ h => h) hfin hd hn hfit hlen hdg (fun H1 locs1 hP1 hD1 hS1 => ?_)
    rw [hq1] at hP1 hD1
    exact k H1 locs1 ls hP1 hD1 hS1 hl
theorem st_mmax (hR : Rl l G own cc nL R K) {pc idx : Nat} (hdg : decode cc pc = .ok (.invokestatic idx, 3)) (hM : (.methodLink own idx Lib.Math.max.name ∈ TT) ∧ (.static Lib.Math.max.name ∈ TT) ∧ (Cond.initialized "java/lang/Math" ∈ TT) ∧ (Cond.code Lib.Math.max.name Lib.Math.max.code 2 (some .int) ∈ TT)) (hfr : 1 ≤ R.frames) {rest : List Value} (hlo : (rest.map fun v => v.category).sum + 13 ≤ R.locals) {pc' : Nat} (hp : pc + 3 = pc') {Ws : List va_W} {lv : List (Nat × Value)} {x y : Int32} (k : K Ws lv pc' (.int (if x < y then y else x) :: rest)) : K Ws lv pc (.int y :: .int x :: rest) := by
  obtain ⟨p, e, s, m, args, below, meth, c, A, Q, cn, sn, hx, hb, hml, hown, hts, hK, hA, hN, hcs, rfl⟩ := hR
  subst hp
  intro H locs ls hP hD hS hl
  exact va_mmax hx hb (hml.trans hl.1.symm) hown (hts _ hM.1) (hts _ hM.2.1) (hts _ hM.2.2.1) (hts _ hM.2.2.2) hfr hlo hcs.1 hcs.2 hdg (k H locs ls hP hD hS hl)
theorem st_mmin (hR : Rl l G own cc nL R K) {pc idx : Nat} (hdg : decode cc pc = .ok (.invokestatic idx, 3)) (hM : (.methodLink own idx Lib.Math.min.name ∈ TT) ∧ (.static Lib.Math.min.name ∈ TT) ∧ (Cond.initialized "java/lang/Math" ∈ TT) ∧ (Cond.code Lib.Math.min.name Lib.Math.min.code 2 (some .int) ∈ TT)) (hfr : 1 ≤ R.frames) {rest : List Value} (hlo : (rest.map fun v => v.category).sum + 13 ≤ R.locals) {pc' : Nat} (hp : pc + 3 = pc') {Ws : List va_W} {lv : List (Nat × Value)} {x y : Int32} (k : K Ws lv pc' (.int (if y < x then y else x) :: rest)) : K Ws lv pc (.int y :: .int x :: rest) := by
  obtain ⟨p, e, s, m, args, below, meth, c, A, Q, cn, sn, hx, hb, hml, hown, hts, hK, hA, hN, hcs, rfl⟩ := hR
  subst hp
  intro H locs ls hP hD hS hl
  exact va_mmin hx hb (hml.trans hl.1.symm) hown (hts _ hM.1) (hts _ hM.2.1) (hts _ hM.2.2.1) (hts _ hM.2.2.2) hfr hlo hcs.1 hcs.2 hdg (k H locs ls hP hD hS hl)
theorem st_copyi (hR : Rl l G own cc nL R K) {pc idx : Nat} (hdg : decode cc pc = .ok (.invokestatic idx, 3)) (hM : Cond.methodLink own idx arraycopyName ∈ TT ∧ Cond.native arraycopyName ∈ TT ∧ Cond.static arraycopyName ∈ TT ∧ Cond.initialized "java/lang/System" ∈ TT) (j0 k0 j1 k1 : Nat) {Ws : List va_W} {w0 w1 : va_W} {a0 a n0 n1 : Nat} {f g : Nat → Int32} (hj0 : Ws[j0]? = some w0) (hk0 : w0[k0]? = some (a0, .inl (G.2 0, n0, .inl f))) (hj1 : Ws[j1]? = some w1) (hk1 : w1[k1]? = some (a, .inl (G.2 0, n1, .inl g)))
    {sp dp n : Int32} {spn dpn nn : Nat} (h1 : ¬ sp < 0) (h2 : ¬ dp < 0) (h3 : ¬ n < 0) (e1 : sp.toNatClampNeg = spn) (e2 : dp.toNatClampNeg = dpn) (e3 : n.toNatClampNeg = nn) (h4 : spn + nn ≤ n0) (h5 : dpn + nn ≤ n1) (hfr : 1 ≤ R.frames) {rest : List Value} (hlo : (rest.map fun v => v.category).sum + (nativeFrameWords "java/lang/System" "arraycopy" 5 + 11) ≤ R.locals) {pc' : Nat} (hp : pc + 3 = pc') {lv : List (Nat × Value)}
    (W' : (Nat → Int32) → List va_W) (hW : ∀ f', Ws.set j1 (w1.set k1 (a, .inl (G.2 0, n1, .inl f'))) = W' f') (k : ∀ f' : Nat → Int32, f' = va_cpy f g spn dpn nn → K (W' f') lv pc' rest) : K Ws lv pc (.int n :: .int dp :: .ref a :: .int sp :: .ref a0 :: rest) := by
  obtain ⟨p, e, s, m, args, below, meth, c, A, Q, cn, sn, hx, hb, hml, hown, hts, hK, hA, hN, hcs, rfl⟩ := hR
  subst hp; subst e1; subst e2; subst e3
  intro H locs ls hP hD hS hl
  obtain ⟨q0, hq0, -⟩ := ch_at hj0 hk0
  obtain ⟨q1, hq1, hq2⟩ := ch_at hj1 hk1
  refine va_copyi hx hb (hml.trans hl.1.symm) hown (hts _ hM.1) (hts _ hM.2.1) (hts _ hM.2.2.1) (hts _ hM.2.2.2) hK hP hD hS q0 q1 0 0 hq0 hq1 rfl rfl rfl h1 h2 h3 h4 h5 (fun _ _ => rfl) hfr hlo hdg (fun H1 locs1 hP1 hD1 hS1 => ?_)
  rw [hq2, hW] at hP1 hD1
  exact k _ rfl H1 locs1 ls hP1 hD1 hS1 hl
theorem st_names (hR : Rl l G own cc nL R K) {pc idx : Nat} (hdg : decode cc pc = .ok (.getstatic idx, 3)) (hF : Cond.fieldLink own idx "WolfHalf$Reader" "NO_NAMES" "[J" ∈ TT) {pc' : Nat} (hp : pc + 3 = pc') {Ws : List va_W} {lv : List (Nat × Value)} {st : List Value} (k : ∀ t : Nat, (∀ {pc1 pc2 : Nat} {i : Int32} {v : Int64} {Ws1 : List va_W} {lv1 : List (Nat × Value)} {st1 : List Value}, decode cc pc1 = .ok (.laload, 1) → vp_in i 13 → nNm i.toNatClampNeg = v → pc1 + 1 = pc2 → K Ws1 lv1 pc2 (.long v :: st1) → K Ws1 lv1 pc1 (.int i :: .ref t :: st1)) → (∀ {pc1 pc2 : Nat} {Ws1 : List va_W} {lv1 : List (Nat × Value)} {st1 : List Value}, decode cc pc1 = .ok (.arraylength, 1) → pc1 + 1 = pc2 → K Ws1 lv1 pc2 (.int 13 :: st1) → K Ws1 lv1 pc1 (.ref t :: st1)) → K Ws lv pc' (.ref t :: st)) : K Ws lv pc st := by
  obtain ⟨p, e, s, m, args, below, meth, c, A, Q, cn, sn, hx, hb, hml, hown, hts, hK, hA, hN, hcs, rfl⟩ := hR
  subst hp
  intro H locs ls hP hD hS hl
  obtain ⟨t, hZ, hT⟩ := hN.1.1
  refine va_gets hx hb hZ hS hown (hts _ hF) (fun _ h => h) hdg ?_
  refine k t ?_ ?_ H locs ls hP hD hS hl
  · intro pc1 pc2 i v Ws1 lv1 st1 hd1 hin hv hpp kk H1 locs1 ls1 hP1 hD1 hS1 hl1
    subst hpp
    exact va_tl hx hb hT hS1 hin (by rw [hv]) hd1 (kk H1 locs1 ls1 hP1 hD1 hS1 hl1)
  · intro pc1 pc2 Ws1 lv1 st1 hd1 hpp kk H1 locs1 ls1 hP1 hD1 hS1 hl1
    subst hpp
    exact va_tlen hx hb hT hS1 rfl hd1 (kk H1 locs1 ls1 hP1 hD1 hS1 hl1)
end ST
