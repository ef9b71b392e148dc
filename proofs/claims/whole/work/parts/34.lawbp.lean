/-! THE LAW'S BONE AND PUP, which catch what is thrown -/
theorem pn_L : plainName RL = true := by decide +kernel
theorem ck_L : Cond.classLink RL 13 NSE ∈ TT := (tg_4 229 rfl rfl)
theorem ck_N : Cond.castable NSE NSE ∈ TL := (List.mem_filter.mpr ⟨tm_5 (List.mem_of_getElem? (i := 0) rfl), rfl⟩)
theorem cf_L_7 : CFV RL 7 yX10_bone cX10_bone 3 (some .int) 2 := ⟨(List.forall_mem_cons.mpr ⟨(tg_4 230 rfl rfl), (List.forall_mem_cons.mpr ⟨(tg_4 231 rfl rfl), (List.forall_mem_cons.mpr ⟨(tg_4 232 rfl rfl), (List.forall_mem_cons.mpr ⟨(tg_1 1 rfl rfl), (List.forall_mem_cons.mpr ⟨(tg_4 233 rfl rfl), (fun _ h => absurd h List.not_mem_nil)⟩)⟩)⟩)⟩)⟩), by decide +kernel, by decide +kernel⟩
set_option maxRecDepth 100000 in
theorem k_L_bone {l : Launch} {G : GG} {w0 w1 v0 v1 : va_W} {qw qo : Nat} {fs : List Value} {p0 p1 : Int32} {r : Option Int32} {f : Nat → Int64} (hM : MCx l G yX10_bone cX10_bone 3 6 [.ref qw, .int p0, .int p1] [w0, w1] r [v0, v1]) (hw : w0[0]? = some (qw, .inr (9, fs))) :
    MCw l G yL_bone cL_bone 5 [(0, 10, 13, 13)] 7 [.ref qw, .int p0, .int p1, .ref qo] [w0, w1, [(qo, .inl (G.2 1, 1, .inr (.inl (f))))]] (if r.isSome then 0 else 1) [v0, v1, [(qo, .inl (G.2 1, 1, .inr (.inl (match r with | some v => vp_updL f 0 v.toInt64 | none => f))))]] := by
  refine MCw.of pn_L (Nat.le_of_ble_eq_true rfl) (fun KF hR hret => ?_)
  have hR : RlX l G RL cL_bone 5 (RMn 7 1 6) [(0, 10, 13, 13)] KF := hR
  show KF 0 0 [w0, w1, [(qo, .inl (G.2 1, 1, .inr (.inl (f))))]] [(0, .ref qw), (1, .int p0), (2, .int p1), (3, .ref qo)] 0 []
  have h0 : Rl l G RL cL_bone 5 (RMn 7 1 6) (KF 0 0) := hR.rl (Nat.zero_le _) (Nat.zero_le _)
  have h1 : Rl l G RL cL_bone 5 (RMn 7 1 6) (KF 1 6) := hR.rl (Nat.le_refl _) (Nat.le_refl _)
  refine st_aload_n h0 dL_bone_0 3 rfl rfl (pc' := 1) rfl ?_
  refine st_iconst h0 dL_bone_1 (v := 0) rfl (pc' := 2) rfl ?_
  refine st_aload_n h0 dL_bone_2 0 rfl rfl (pc' := 3) rfl ?_
  refine st_iload_n h0 dL_bone_3 1 rfl rfl (pc' := 4) rfl ?_
  refine st_iload_n h0 dL_bone_4 2 rfl rfl (pc' := 5) rfl ?_
  refine st_callX hR hM cf_L_7 (by decide) (by decide) [0, 1] rfl rfl rfl 0 0 9 10 rfl hw rfl (av := [.int p0, .int p1]) rfl (rest := [.int 0, .ref qo]) rfl (Nat.le_of_ble_eq_true rfl) dL_bone_5 (pc' := 8) rfl (by decide) (by decide) ck_L ck_N (Wn := [v0, v1, [(qo, .inl (G.2 1, 1, .inr (.inl (f))))]]) rfl (fun v hv => ?_) (fun hv q => ?_)
  · subst hv
    refine st_i2l h1 dL_bone_8 (pc' := 9) rfl ?_
    refine st_last h1 dL_bone_9 2 0 rfl rfl (ix := 0) (vp_lit 0 rfl rfl rfl) (cl_lit 0 rfl rfl) (pc' := 10) rfl (fun f' => [v0, v1, [(qo, .inl (G.2 1, 1, .inr (.inl (f'))))]]) (fun _ => rfl) (fun f' e => ?_)
    subst e
    refine st_goto h1 dL_bone_10 (tgt := 17) (by decide) ?_
    refine st_iconst h1 dL_bone_17 (v := 0) rfl (pc' := 18) rfl ?_
    exact hret _ _ dL_bone_18
  · subst hv
    refine st_astore h1 dL_bone_13 (Nat.le_of_ble_eq_true rfl) [] (lv' := []) rfl (pc' := 15) rfl ?_
    refine st_iconst h1 dL_bone_15 (v := 1) rfl (pc' := 16) rfl ?_
    exact hret _ _ dL_bone_16
theorem cf_L_15 : CFV RL 15 yX10_pup cX10_pup 3 (some .int) 2 := ⟨(List.forall_mem_cons.mpr ⟨(tg_5 67 rfl rfl), (List.forall_mem_cons.mpr ⟨(tg_5 68 rfl rfl), (List.forall_mem_cons.mpr ⟨(tg_5 69 rfl rfl), (List.forall_mem_cons.mpr ⟨(tg_1 1 rfl rfl), (List.forall_mem_cons.mpr ⟨(tg_5 70 rfl rfl), (fun _ h => absurd h List.not_mem_nil)⟩)⟩)⟩)⟩)⟩), by decide +kernel, by decide +kernel⟩
set_option maxRecDepth 100000 in
theorem k_L_pup {l : Launch} {G : GG} {w0 w1 w2 w3 w4 w5 w6 v0 v1 v2 v3 v4 v5 v6 : va_W} {qw qo : Nat} {fs : List Value} {p0 p1 : Int32} {r : Option Int32} {f : Nat → Int64} (hM : MCx l G yX10_pup cX10_pup 3 6 [.ref qw, .int p0, .int p1] [w0, w1, w2, w3, w4, w5, w6] r [v0, v1, v2, v3, v4, v5, v6]) (hw : w0[0]? = some (qw, .inr (9, fs))) :
    MCw l G yL_pup cL_pup 5 [(0, 10, 13, 13)] 7 [.ref qw, .int p0, .int p1, .ref qo] [w0, w1, w2, w3, w4, w5, w6, [(qo, .inl (G.2 1, 1, .inr (.inl (f))))]] (if r.isSome then 0 else 1) [v0, v1, v2, v3, v4, v5, v6, [(qo, .inl (G.2 1, 1, .inr (.inl (match r with | some v => vp_updL f 0 v.toInt64 | none => f))))]] := by
  refine MCw.of pn_L (Nat.le_of_ble_eq_true rfl) (fun KF hR hret => ?_)
  have hR : RlX l G RL cL_pup 5 (RMn 7 1 6) [(0, 10, 13, 13)] KF := hR
  show KF 0 0 [w0, w1, w2, w3, w4, w5, w6, [(qo, .inl (G.2 1, 1, .inr (.inl (f))))]] [(0, .ref qw), (1, .int p0), (2, .int p1), (3, .ref qo)] 0 []
  have h0 : Rl l G RL cL_pup 5 (RMn 7 1 6) (KF 0 0) := hR.rl (Nat.zero_le _) (Nat.zero_le _)
  have h1 : Rl l G RL cL_pup 5 (RMn 7 1 6) (KF 1 6) := hR.rl (Nat.le_refl _) (Nat.le_refl _)
  refine st_aload_n h0 dL_pup_0 3 rfl rfl (pc' := 1) rfl ?_
  refine st_iconst h0 dL_pup_1 (v := 0) rfl (pc' := 2) rfl ?_
  refine st_aload_n h0 dL_pup_2 0 rfl rfl (pc' := 3) rfl ?_
  refine st_iload_n h0 dL_pup_3 1 rfl rfl (pc' := 4) rfl ?_
  refine st_iload_n h0 dL_pup_4 2 rfl rfl (pc' := 5) rfl ?_
  refine st_callX hR hM cf_L_15 (by decide) (by decide) [0, 1, 2, 3, 4, 5, 6] rfl rfl rfl 0 0 9 10 rfl hw rfl (av := [.int p0, .int p1]) rfl (rest := [.int 0, .ref qo]) rfl (Nat.le_of_ble_eq_true rfl) dL_pup_5 (pc' := 8) rfl (by decide) (by decide) ck_L ck_N (Wn := [v0, v1, v2, v3, v4, v5, v6, [(qo, .inl (G.2 1, 1, .inr (.inl (f))))]]) rfl (fun v hv => ?_) (fun hv q => ?_)
  · subst hv
    refine st_i2l h1 dL_pup_8 (pc' := 9) rfl ?_
    refine st_last h1 dL_pup_9 7 0 rfl rfl (ix := 0) (vp_lit 0 rfl rfl rfl) (cl_lit 0 rfl rfl) (pc' := 10) rfl (fun f' => [v0, v1, v2, v3, v4, v5, v6, [(qo, .inl (G.2 1, 1, .inr (.inl (f'))))]]) (fun _ => rfl) (fun f' e => ?_)
    subst e
    refine st_goto h1 dL_pup_10 (tgt := 17) (by decide) ?_
    refine st_iconst h1 dL_pup_17 (v := 0) rfl (pc' := 18) rfl ?_
    exact hret _ _ dL_pup_18
  · subst hv
    refine st_astore h1 dL_pup_13 (Nat.le_of_ble_eq_true rfl) [] (lv' := []) rfl (pc' := 15) rfl ?_
    refine st_iconst h1 dL_pup_15 (v := 1) rfl (pc' := 16) rfl ?_
    exact hret _ _ dL_pup_16
