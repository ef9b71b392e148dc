/-! CORE: an abstract machine over a list of chunks of cells. K Ws lv pc st: from every state whose heap holds the chunks Ws, at pc, locals lv, stack st, the goal is reached. -/
theorem ch_at : ∀ {Ws : List va_W} {j k : Nat} {w : va_W} {q : Nat × va_E}, Ws[j]? = some w → w[k]? = some q → ∃ n, Ws.flatten[n]? = some q ∧ ∀ q', Ws.flatten.set n q' = (Ws.set j (w.set k q')).flatten
  | [], j, k, w, q, hj, _ => by simp at hj
  | c :: cs, 0, k, w, q, hj, hk => by
    simp only [List.getElem?_cons_zero, Option.some.injEq] at hj
    subst hj
    have hlt : k < c.length := (List.getElem?_eq_some_iff.mp hk).1
    refine ⟨k, ?_, fun q' => ?_⟩
    · rw [List.flatten_cons, List.getElem?_append_left hlt]
      exact hk
    · rw [List.set_cons_zero, List.flatten_cons, List.flatten_cons, List.set_append_left _ _ hlt]
  | c :: cs, j + 1, k, w, q, hj, hk => by
    rw [List.getElem?_cons_succ] at hj
    obtain ⟨n, h1, h2⟩ := ch_at hj hk
    refine ⟨c.length + n, ?_, fun q' => ?_⟩
    · rw [List.flatten_cons, List.getElem?_append_right (by omega), Nat.add_sub_cancel_left]
      exact h1
    · rw [List.set_cons_succ, List.flatten_cons, List.flatten_cons, List.set_append_right _ _ (by omega), Nat.add_sub_cancel_left, h2 q']
theorem wd_P_iff {D : va_G} {cl : List vw_C} {ws : va_W} {H : Heap} : va_P D cl ws H ↔ ∀ q ∈ ws, va_at D cl q H := by
  constructor
  · intro h q hq
    obtain ⟨k, hk⟩ := List.getElem?_of_mem hq
    exact h k q hk
  · intro h k q hk
    exact h q (List.mem_of_getElem? hk)
theorem wd_D_iff {A : Nat → Prop} {ws : va_W} : va_D A ws ↔ List.Pairwise (fun (x y : Nat × va_E) => x.1 ≠ y.1) ws ∧ ∀ q ∈ ws, A q.1 := by
  constructor
  · intro h
    refine ⟨?_, ?_⟩
    · rw [List.pairwise_iff_getElem]
      intro i j hi hj hij e
      have := h.1 i j _ _ (List.getElem?_eq_getElem hi) (List.getElem?_eq_getElem hj) e
      omega
    · intro q hq
      obtain ⟨k, hk⟩ := List.getElem?_of_mem hq
      exact h.2 k q hk
  · intro h
    refine ⟨?_, fun k q hk => h.2 q (List.mem_of_getElem? hk)⟩
    intro i j x y hi hj e
    have hp := List.pairwise_iff_getElem.mp h.1
    obtain ⟨i1, i2⟩ := List.getElem?_eq_some_iff.mp hi
    obtain ⟨j1, j2⟩ := List.getElem?_eq_some_iff.mp hj
    rcases Nat.lt_trichotomy i j with q | q | q
    · exact absurd (by rw [i2, j2]; exact e) (hp i j i1 j1 q)
    · exact q
    · exact absurd (by rw [i2, j2]; exact e.symm) (hp j i j1 i1 q)
theorem wd_P_perm {D : va_G} {cl : List vw_C} {ws ws' : va_W} {H : Heap} (hp : List.Perm ws ws') (h : va_P D cl ws H) : va_P D cl ws' H :=
  wd_P_iff.mpr fun q hq => wd_P_iff.mp h q (hp.mem_iff.mpr hq)
theorem wd_D_perm {A : Nat → Prop} {ws ws' : va_W} (hp : List.Perm ws ws') (h : va_D A ws) : va_D A ws' := by
  have h1 := wd_D_iff.mp h
  refine wd_D_iff.mpr ⟨(hp.pairwise_iff (fun {x y} h e => h e.symm)).mp h1.1, fun q hq => h1.2 q (hp.mem_iff.mpr hq)⟩
/-- chunk i of Ws set to c -/
def putC : List va_W → List Nat → List va_W → List va_W
  | Ws, i :: is, c :: cs => putC (Ws.set i c) is cs
  | Ws, _, _ => Ws
theorem fl_set : ∀ {V : List va_W} {i : Nat} {d : va_W}, V[i]? = some d → ∀ c : va_W, List.Perm (V.set i c).flatten (c ++ (V.set i []).flatten)
  | [], i, d, h, c => by simp at h
  | v :: V, 0, d, h, c => by
    simp only [List.set_cons_zero, List.flatten_cons, List.nil_append]
    exact List.Perm.refl _
  | v :: V, i + 1, d, h, c => by
    rw [List.getElem?_cons_succ] at h
    simp only [List.set_cons_succ, List.flatten_cons]
    have h1 := fl_set h c
    refine (h1.append_left v).trans ?_
    rw [← List.append_assoc, ← List.append_assoc]
    exact (List.perm_append_comm).append_right _
theorem putC_set : ∀ {is : List Nat} {i : Nat} {c : va_W} {Ws X : List va_W}, i ∉ is → putC (Ws.set i c) is X = (putC Ws is X).set i c
  | [], i, c, Ws, X, h => by simp [putC]
  | j :: is, i, c, Ws, [], h => by simp [putC]
  | j :: is, i, c, Ws, x :: X, h => by
    have h1 : i ≠ j := fun e => h (by rw [e]; exact List.mem_cons_self)
    have h2 : i ∉ is := fun e => h (List.mem_cons_of_mem _ e)
    simp only [putC]
    rw [List.set_comm _ _ h1]
    exact putC_set h2
theorem putC_at : ∀ {is : List Nat} {i : Nat} {Ws X : List va_W}, i ∉ is → (putC Ws is X)[i]? = Ws[i]?
  | [], i, Ws, X, h => by simp [putC]
  | j :: is, i, Ws, [], h => by simp [putC]
  | j :: is, i, Ws, x :: X, h => by
    have h1 : j ≠ i := fun e => h (by rw [e]; exact List.mem_cons_self)
    have h2 : i ∉ is := fun e => h (List.mem_cons_of_mem _ e)
    simp only [putC]
    rw [putC_at h2, List.getElem?_set_ne h1]
theorem put_perm : ∀ {is : List Nat} {cs Ws : List va_W}, is.map (fun i => Ws[i]?) = cs.map some → va_nd is = true → ∃ R : va_W, List.Perm Ws.flatten (cs.flatten ++ R) ∧ ∀ cs' : List va_W, cs'.length = cs.length → List.Perm (putC Ws is cs').flatten (cs'.flatten ++ R)
  | [], cs, Ws, h, _ => by
    cases cs with
    | nil =>
      refine ⟨Ws.flatten, List.Perm.refl _, fun cs' h => ?_⟩
      cases cs' with
      | nil => simp [putC]
      | cons a b => simp at h
    | cons a b => simp at h
  | i :: is, [], Ws, h, _ => by simp at h
  | i :: is, c :: cs, Ws, h, hn => by
    simp only [List.map_cons, List.cons.injEq] at h
    obtain ⟨hi, h⟩ := h
    simp only [va_nd, Bool.and_eq_true, decide_eq_true_eq] at hn
    obtain ⟨hni, hn⟩ := hn
    have hlen : i < Ws.length := (List.getElem?_eq_some_iff.mp hi).1
    have hmap : is.map (fun j => (Ws.set i [])[j]?) = cs.map some := by
      rw [← h]
      refine List.map_congr_left fun j hj => ?_
      exact List.getElem?_set_ne (fun e => hni (by rw [e]; exact hj))
    obtain ⟨R, hR, hR'⟩ := put_perm hmap hn
    refine ⟨R, ?_, ?_⟩
    · have e : Ws = Ws.set i c := by
        apply List.ext_getElem?
        intro j
        by_cases hj : i = j
        · subst hj
          rw [hi, List.getElem?_set_self hlen]
        · rw [List.getElem?_set_ne hj]
      have h1 := fl_set hi c
      rw [← e] at h1
      refine h1.trans ?_
      rw [List.flatten_cons, List.append_assoc]
      exact hR.append_left c
    · intro cs' hl
      cases cs' with
      | nil => simp at hl
      | cons c' cs' =>
        simp only [putC]
        have h2 := hR' cs' (by simpa using hl)
        rw [putC_set hni] at h2 ⊢
        have h3 : (putC Ws is cs')[i]? = some c := by rw [putC_at hni]; exact hi
        refine (fl_set h3 c').trans ?_
        rw [List.flatten_cons, List.append_assoc]
        exact h2.append_left c'
