set_option maxHeartbeats 16000000 in
set_option maxRecDepth 100000 in
theorem k_X0_keeps {l : Launch} {G : GG} {q_b : Nat → Nat} {b_bones b_feudsInAll b_bitten : Int32} {b_kept b_feuds b_bites : Nat → Int32} {l1 : Int32} {o_r : Int32} (hM : f_X0_keeps b_bones l1 = some o_r) : MC l G yX0_keeps cX0_keeps 2 (some .boolean) (RM 0) [.ref (q_b 0), .int l1] [wX0 G q_b b_kept b_feuds b_bites b_bones b_feudsInAll b_bitten] (some (.int o_r)) [wX0 G q_b b_kept b_feuds b_bites b_bones b_feudsInAll b_bitten] := by
  refine MC.of pn_X0 (Nat.le_of_ble_eq_true rfl) (fun K hR hret => ?_)
  have hR : Rl l G RX0 cX0_keeps 2 (RM 0) K := hR
  show K [wX0 G q_b b_kept b_feuds b_bites b_bones b_feudsInAll b_bitten] [(0, .ref (q_b 0)), (1, .int l1)] 0 []
  refine st_iload_n hR dX0_keeps_0 1 rfl rfl (pc' := 1) rfl ?_
  refine st_if_lt hR dX0_keeps_1 (tgt := 23) (by decide) (pc' := 4) rfl (fun c_ => ?_) (fun c_ => ?_)
  · have hM := it_t c_ hM
    refine st_iconst hR dX0_keeps_23 (v := 0) rfl (pc' := 24) rfl ?_
    cases hM
    exact hret _ _ dX0_keeps_24 (ro_z (Or.inl rfl))
  · have hM := it_f c_ hM
    refine st_iload_n hR dX0_keeps_4 1 rfl rfl (pc' := 5) rfl ?_
    refine st_aload_n hR dX0_keeps_5 0 rfl rfl (pc' := 6) rfl ?_
    refine st_get hR dX0_keeps_6 fg_X0_21_0_3 0 0 rfl rfl rfl (pc' := 9) rfl ?_
    refine st_icmp_ge hR dX0_keeps_9 (tgt := 23) (by decide) (pc' := 12) rfl (fun c_ => ?_) (fun c_ => ?_)
    · have hM := it_t c_ hM
      refine st_iconst hR dX0_keeps_23 (v := 0) rfl (pc' := 24) rfl ?_
      cases hM
      exact hret _ _ dX0_keeps_24 (ro_z (Or.inl rfl))
    · have hM := it_f c_ hM
      refine st_iload_n hR dX0_keeps_12 1 rfl rfl (pc' := 13) rfl ?_
      refine st_sipush hR dX0_keeps_13 (v := 200) rfl (pc' := 16) rfl ?_
      refine st_icmp_ge hR dX0_keeps_16 (tgt := 23) (by decide) (pc' := 19) rfl (fun c_ => ?_) (fun c_ => ?_)
      · have hM := it_t c_ hM
        refine st_iconst hR dX0_keeps_23 (v := 0) rfl (pc' := 24) rfl ?_
        cases hM
        exact hret _ _ dX0_keeps_24 (ro_z (Or.inl rfl))
      · have hM := it_f c_ hM
        refine st_iconst hR dX0_keeps_19 (v := 1) rfl (pc' := 20) rfl ?_
        refine st_goto hR dX0_keeps_20 (tgt := 24) (by decide) ?_
        cases hM
        exact hret _ _ dX0_keeps_24 (ro_z (Or.inr rfl))
set_option maxHeartbeats 16000000 in
set_option maxRecDepth 100000 in
theorem k_X0_addBone {l : Launch} {G : GG} {q_b : Nat → Nat} {b_bones b_feudsInAll b_bitten : Int32} {b_kept b_feuds b_bites : Nat → Int32} {l1 l2 l3 l4 : Int32} {o_b_kept : Nat → Int32} {o_b_bones : Int32} (hM : f_X0_addBone b_kept b_bones l1 l2 l3 l4 = some (o_b_kept, o_b_bones)) : MC l G yX0_addBone cX0_addBone 6 none (RM 0) [.ref (q_b 0), .int l1, .int l2, .int l3, .int l4] [wX0 G q_b b_kept b_feuds b_bites b_bones b_feudsInAll b_bitten] none [wX0 G q_b o_b_kept b_feuds b_bites o_b_bones b_feudsInAll b_bitten] := by
  refine MC.of pn_X0 (Nat.le_of_ble_eq_true rfl) (fun K hR hret => ?_)
  have hR : Rl l G RX0 cX0_addBone 6 (RM 0) K := hR
  show K [wX0 G q_b b_kept b_feuds b_bites b_bones b_feudsInAll b_bitten] [(0, .ref (q_b 0)), (1, .int l1), (2, .int l2), (3, .int l3), (4, .int l4)] 0 []
  have J57 : ∀ (b_kept : Nat → Int32) (b_bones : Int32), f_X0_addBone_B57   b_kept b_bones = some (o_b_kept, o_b_bones) → K [wX0 G q_b b_kept b_feuds b_bites b_bones b_feudsInAll b_bitten] [(0, .ref (q_b 0))] 57 [] := by
    intro b_kept b_bones hM
    refine st_aload_n hR dX0_addBone_57 0 rfl rfl (pc' := 58) rfl ?_
    refine st_dup hR dX0_addBone_58 (pc' := 59) rfl rfl ?_
    refine st_get hR dX0_addBone_59 fg_X0_21_0_3 0 0 rfl rfl rfl (pc' := 62) rfl ?_
    refine st_iconst hR dX0_addBone_62 (v := 1) rfl (pc' := 63) rfl ?_
    refine st_iadd hR dX0_addBone_63 (pc' := 64) rfl ?_
    refine st_topi (fun b_bones_1 e_ => ?_)
    have hM := lt_e e_ hM
    refine st_put hR dX0_addBone_64 fp_X0_21_0_3 0 0 rfl rfl (Nat.le_of_ble_eq_true rfl) rfl rfl (pc' := 67) rfl (W' := [wX0 G q_b b_kept b_feuds b_bites b_bones_1 b_feudsInAll b_bitten]) rfl ?_
    cases hM
    exact hret _ _ dX0_addBone_67 ro_v
  refine st_aload_n hR dX0_addBone_0 0 rfl rfl (pc' := 1) rfl ?_
  refine st_get hR dX0_addBone_1 fg_X0_21_0_3 0 0 rfl rfl rfl (pc' := 4) rfl ?_
  refine st_sipush hR dX0_addBone_4 (v := 200) rfl (pc' := 7) rfl ?_
  refine st_icmp_ge hR dX0_addBone_7 (tgt := 57) (by decide) (pc' := 10) rfl (fun c_ => ?_) (fun c_ => ?_)
  · have hM := it_t c_ hM
    exact st_lv hR [0] rfl (J57 _ _ hM)
  · have hM := it_f c_ hM
    refine st_aload_n hR dX0_addBone_10 0 rfl rfl (pc' := 11) rfl ?_
    refine st_get hR dX0_addBone_11 fg_X0_21_0_3 0 0 rfl rfl rfl (pc' := 14) rfl ?_
    refine st_iconst hR dX0_addBone_14 (v := 4) rfl (pc' := 15) rfl ?_
    refine st_imul hR dX0_addBone_15 (pc' := 16) rfl ?_
    refine st_topi (fun l5_1 e_ => ?_)
    have hM := lt_e e_ hM
    refine st_istore hR dX0_addBone_16 (Nat.le_of_ble_eq_true rfl) [1, 2, 3, 4, 5, 0] (lv' := [(0, .ref (q_b 0)), (1, .int l1), (2, .int l2), (3, .int l3), (4, .int l4), (5, .int l5_1)]) rfl (pc' := 18) rfl ?_
    refine st_aload_n hR dX0_addBone_18 0 rfl rfl (pc' := 19) rfl ?_
    refine st_get hR dX0_addBone_19 fg_X0_11_0_0 0 0 rfl rfl rfl (pc' := 22) rfl ?_
    refine st_iload hR dX0_addBone_22 5 rfl (pc' := 24) rfl ?_
    refine st_iload_n hR dX0_addBone_24 1 rfl rfl (pc' := 25) rfl ?_
    obtain ⟨hin_, hM⟩ := g_in_e hM
    refine st_iast hR dX0_addBone_25 0 1 rfl rfl hin_ (ix := (ix l5_1)) rfl (pc' := 26) rfl (fun b_kept_1 => [wX0 G q_b b_kept_1 b_feuds b_bites b_bones b_feudsInAll b_bitten]) (fun _ => rfl) (fun b_kept_1 e_ => ?_)
    have hM := lt_e e_ hM
    refine st_aload_n hR dX0_addBone_26 0 rfl rfl (pc' := 27) rfl ?_
    refine st_get hR dX0_addBone_27 fg_X0_11_0_0 0 0 rfl rfl rfl (pc' := 30) rfl ?_
    refine st_iload hR dX0_addBone_30 5 rfl (pc' := 32) rfl ?_
    refine st_iconst hR dX0_addBone_32 (v := 1) rfl (pc' := 33) rfl ?_
    refine st_iadd hR dX0_addBone_33 (pc' := 34) rfl ?_
    refine st_iload_n hR dX0_addBone_34 2 rfl rfl (pc' := 35) rfl ?_
    obtain ⟨hin_, hM⟩ := g_in_e hM
    refine st_iast hR dX0_addBone_35 0 1 rfl rfl hin_ (ix := (ix (l5_1 + 1))) rfl (pc' := 36) rfl (fun b_kept_2 => [wX0 G q_b b_kept_2 b_feuds b_bites b_bones b_feudsInAll b_bitten]) (fun _ => rfl) (fun b_kept_2 e_ => ?_)
    have hM := lt_e e_ hM
    refine st_aload_n hR dX0_addBone_36 0 rfl rfl (pc' := 37) rfl ?_
    refine st_get hR dX0_addBone_37 fg_X0_11_0_0 0 0 rfl rfl rfl (pc' := 40) rfl ?_
    refine st_iload hR dX0_addBone_40 5 rfl (pc' := 42) rfl ?_
    refine st_iconst hR dX0_addBone_42 (v := 2) rfl (pc' := 43) rfl ?_
    refine st_iadd hR dX0_addBone_43 (pc' := 44) rfl ?_
    refine st_iload_n hR dX0_addBone_44 3 rfl rfl (pc' := 45) rfl ?_
    obtain ⟨hin_, hM⟩ := g_in_e hM
    refine st_iast hR dX0_addBone_45 0 1 rfl rfl hin_ (ix := (ix (l5_1 + 2))) rfl (pc' := 46) rfl (fun b_kept_3 => [wX0 G q_b b_kept_3 b_feuds b_bites b_bones b_feudsInAll b_bitten]) (fun _ => rfl) (fun b_kept_3 e_ => ?_)
    have hM := lt_e e_ hM
    refine st_aload_n hR dX0_addBone_46 0 rfl rfl (pc' := 47) rfl ?_
    refine st_get hR dX0_addBone_47 fg_X0_11_0_0 0 0 rfl rfl rfl (pc' := 50) rfl ?_
    refine st_iload hR dX0_addBone_50 5 rfl (pc' := 52) rfl ?_
    refine st_iconst hR dX0_addBone_52 (v := 3) rfl (pc' := 53) rfl ?_
    refine st_iadd hR dX0_addBone_53 (pc' := 54) rfl ?_
    refine st_iload hR dX0_addBone_54 4 rfl (pc' := 56) rfl ?_
    obtain ⟨hin_, hM⟩ := g_in_e hM
    refine st_iast hR dX0_addBone_56 0 1 rfl rfl hin_ (ix := (ix (l5_1 + 3))) rfl (pc' := 57) rfl (fun b_kept_4 => [wX0 G q_b b_kept_4 b_feuds b_bites b_bones b_feudsInAll b_bitten]) (fun _ => rfl) (fun b_kept_4 e_ => ?_)
    have hM := lt_e e_ hM
    exact st_lv hR [0] rfl (J57 _ _ hM)
set_option maxHeartbeats 16000000 in
set_option maxRecDepth 100000 in
theorem k_X0_addFeud {l : Launch} {G : GG} {q_b : Nat → Nat} {b_bones b_feudsInAll b_bitten : Int32} {b_kept b_feuds b_bites : Nat → Int32} {l1 l2 : Int32} {o_b_feuds : Nat → Int32} {o_b_feudsInAll : Int32} (hM : f_X0_addFeud b_feuds b_feudsInAll l1 l2 = some (o_b_feuds, o_b_feudsInAll)) : MC l G yX0_addFeud cX0_addFeud 3 none (RM 0) [.ref (q_b 0), .int l1, .int l2] [wX0 G q_b b_kept b_feuds b_bites b_bones b_feudsInAll b_bitten] none [wX0 G q_b b_kept o_b_feuds b_bites b_bones o_b_feudsInAll b_bitten] := by
  refine MC.of pn_X0 (Nat.le_of_ble_eq_true rfl) (fun K hR hret => ?_)
  have hR : Rl l G RX0 cX0_addFeud 3 (RM 0) K := hR
  show K [wX0 G q_b b_kept b_feuds b_bites b_bones b_feudsInAll b_bitten] [(0, .ref (q_b 0)), (1, .int l1), (2, .int l2)] 0 []
  refine st_aload_n hR dX0_addFeud_0 0 rfl rfl (pc' := 1) rfl ?_
  refine st_get hR dX0_addFeud_1 fg_X0_15_0_1 0 0 rfl rfl rfl (pc' := 4) rfl ?_
  refine st_iload_n hR dX0_addFeud_4 1 rfl rfl (pc' := 5) rfl ?_
  refine st_bipush hR dX0_addFeud_5 (v := 6) rfl (pc' := 7) rfl ?_
  refine st_imul hR dX0_addFeud_7 (pc' := 8) rfl ?_
  refine st_iload_n hR dX0_addFeud_8 2 rfl rfl (pc' := 9) rfl ?_
  refine st_iadd hR dX0_addFeud_9 (pc' := 10) rfl ?_
  refine st_dup2 hR dX0_addFeud_10 (pc' := 11) rfl rfl rfl ?_
  obtain ⟨hin_, hM⟩ := g_in_e hM
  refine st_iald hR dX0_addFeud_11 0 2 rfl rfl hin_ (v := b_feuds (ix ((l1 * 6) + l2))) rfl (pc' := 12) rfl ?_
  refine st_iconst hR dX0_addFeud_12 (v := 1) rfl (pc' := 13) rfl ?_
  refine st_iadd hR dX0_addFeud_13 (pc' := 14) rfl ?_
  obtain ⟨hin_, hM⟩ := g_in_e hM
  refine st_iast hR dX0_addFeud_14 0 2 rfl rfl hin_ (ix := (ix ((l1 * 6) + l2))) rfl (pc' := 15) rfl (fun b_feuds_1 => [wX0 G q_b b_kept b_feuds_1 b_bites b_bones b_feudsInAll b_bitten]) (fun _ => rfl) (fun b_feuds_1 e_ => ?_)
  have hM := lt_e e_ hM
  refine st_aload_n hR dX0_addFeud_15 0 rfl rfl (pc' := 16) rfl ?_
  refine st_get hR dX0_addFeud_16 fg_X0_15_0_1 0 0 rfl rfl rfl (pc' := 19) rfl ?_
  refine st_iload_n hR dX0_addFeud_19 2 rfl rfl (pc' := 20) rfl ?_
  refine st_bipush hR dX0_addFeud_20 (v := 6) rfl (pc' := 22) rfl ?_
  refine st_imul hR dX0_addFeud_22 (pc' := 23) rfl ?_
  refine st_iload_n hR dX0_addFeud_23 1 rfl rfl (pc' := 24) rfl ?_
  refine st_iadd hR dX0_addFeud_24 (pc' := 25) rfl ?_
  refine st_dup2 hR dX0_addFeud_25 (pc' := 26) rfl rfl rfl ?_
  obtain ⟨hin_, hM⟩ := g_in_e hM
  refine st_iald hR dX0_addFeud_26 0 2 rfl rfl hin_ (v := b_feuds_1 (ix ((l2 * 6) + l1))) rfl (pc' := 27) rfl ?_
  refine st_iconst hR dX0_addFeud_27 (v := 1) rfl (pc' := 28) rfl ?_
  refine st_iadd hR dX0_addFeud_28 (pc' := 29) rfl ?_
  obtain ⟨hin_, hM⟩ := g_in_e hM
  refine st_iast hR dX0_addFeud_29 0 2 rfl rfl hin_ (ix := (ix ((l2 * 6) + l1))) rfl (pc' := 30) rfl (fun b_feuds_2 => [wX0 G q_b b_kept b_feuds_2 b_bites b_bones b_feudsInAll b_bitten]) (fun _ => rfl) (fun b_feuds_2 e_ => ?_)
  have hM := lt_e e_ hM
  refine st_aload_n hR dX0_addFeud_30 0 rfl rfl (pc' := 31) rfl ?_
  refine st_dup hR dX0_addFeud_31 (pc' := 32) rfl rfl ?_
  refine st_get hR dX0_addFeud_32 fg_X0_25_0_4 0 0 rfl rfl rfl (pc' := 35) rfl ?_
  refine st_iconst hR dX0_addFeud_35 (v := 1) rfl (pc' := 36) rfl ?_
  refine st_iadd hR dX0_addFeud_36 (pc' := 37) rfl ?_
  refine st_topi (fun b_feudsInAll_1 e_ => ?_)
  have hM := lt_e e_ hM
  refine st_put hR dX0_addFeud_37 fp_X0_25_0_4 0 0 rfl rfl (Nat.le_of_ble_eq_true rfl) rfl rfl (pc' := 40) rfl (W' := [wX0 G q_b b_kept b_feuds_2 b_bites b_bones b_feudsInAll_1 b_bitten]) rfl ?_
  cases hM
  exact hret _ _ dX0_addFeud_40 ro_v
set_option maxHeartbeats 16000000 in
set_option maxRecDepth 100000 in
theorem k_X0_clear {l : Launch} {G : GG} {q_b : Nat → Nat} {b_bones b_feudsInAll b_bitten : Int32} {b_kept b_feuds b_bites : Nat → Int32}  {o_b_feuds : Nat → Int32} {o_b_bones : Int32} {o_b_feudsInAll : Int32} {o_b_bitten : Int32} (hM : f_X0_clear b_feuds b_bones b_feudsInAll b_bitten = some (o_b_feuds, o_b_bones, o_b_feudsInAll, o_b_bitten)) : MC l G yX0_clear cX0_clear 1 none (RM 1) [.ref (q_b 0)] [wX0 G q_b b_kept b_feuds b_bites b_bones b_feudsInAll b_bitten] none [wX0 G q_b b_kept o_b_feuds b_bites o_b_bones o_b_feudsInAll o_b_bitten] := by
  refine MC.of pn_X0 (Nat.le_of_ble_eq_true rfl) (fun K hR hret => ?_)
  have hR : Rl l G RX0 cX0_clear 1 (RM 1) K := hR
  show K [wX0 G q_b b_kept b_feuds b_bites b_bones b_feudsInAll b_bitten] [(0, .ref (q_b 0))] 0 []
  refine st_aload_n hR dX0_clear_0 0 rfl rfl (pc' := 1) rfl ?_
  refine st_iconst hR dX0_clear_1 (v := 0) rfl (pc' := 2) rfl ?_
  refine st_put hR dX0_clear_2 fp_X0_21_0_3 0 0 rfl rfl (Nat.le_of_ble_eq_true rfl) rfl rfl (pc' := 5) rfl (W' := [wX0 G q_b b_kept b_feuds b_bites 0 b_feudsInAll b_bitten]) rfl ?_
  refine st_aload_n hR dX0_clear_5 0 rfl rfl (pc' := 6) rfl ?_
  refine st_iconst hR dX0_clear_6 (v := 0) rfl (pc' := 7) rfl ?_
  refine st_put hR dX0_clear_7 fp_X0_25_0_4 0 0 rfl rfl (Nat.le_of_ble_eq_true rfl) rfl rfl (pc' := 10) rfl (W' := [wX0 G q_b b_kept b_feuds b_bites 0 0 b_bitten]) rfl ?_
  refine st_aload_n hR dX0_clear_10 0 rfl rfl (pc' := 11) rfl ?_
  refine st_iconst hR dX0_clear_11 (v := 0) rfl (pc' := 12) rfl ?_
  refine st_put hR dX0_clear_12 fp_X0_28_0_5 0 0 rfl rfl (Nat.le_of_ble_eq_true rfl) rfl rfl (pc' := 15) rfl (W' := [wX0 G q_b b_kept b_feuds b_bites 0 0 0]) rfl ?_
  refine st_aload_n hR dX0_clear_15 0 rfl rfl (pc' := 16) rfl ?_
  refine st_get hR dX0_clear_16 fg_X0_15_0_1 0 0 rfl rfl rfl (pc' := 19) rfl ?_
  refine st_iconst hR dX0_clear_19 (v := 0) rfl (pc' := 20) rfl ?_
  refine st_fill hR dX0_clear_20 ff_X0_31 (Nat.le_of_ble_eq_true rfl) (Nat.le_of_ble_eq_true rfl) 0 2 rfl rfl (Nat.le_of_ble_eq_true rfl) (rest := []) (Nat.le_of_ble_eq_true rfl) (pc' := 23) rfl (fun b_feuds_1 => [wX0 G q_b b_kept b_feuds_1 b_bites 0 0 0]) (fun _ => rfl) (fun b_feuds_1 e_ => ?_)
  have hM := lt_e e_ hM
  cases hM
  exact hret _ _ dX0_clear_23 ro_v
set_option maxHeartbeats 16000000 in
set_option maxRecDepth 100000 in
theorem k_X0_copyFrom {l : Launch} {G : GG} {q_b q_o : Nat → Nat} {b_bones b_feudsInAll b_bitten o_bones o_feudsInAll o_bitten : Int32} {b_kept b_feuds b_bites o_kept o_feuds o_bites : Nat → Int32}  {o_b_kept : Nat → Int32} {o_b_feuds : Nat → Int32} {o_b_bites : Nat → Int32} {o_b_bones : Int32} {o_b_feudsInAll : Int32} {o_b_bitten : Int32} (hM : f_X0_copyFrom o_kept o_feuds o_bites o_bones o_feudsInAll o_bitten b_kept b_feuds b_bites b_bones b_feudsInAll b_bitten = some (o_b_kept, o_b_feuds, o_b_bites, o_b_bones, o_b_feudsInAll, o_b_bitten)) : MC l G yX0_copyFrom cX0_copyFrom 2 none (RM 1) [.ref (q_b 0), .ref (q_o 0)] [wX0 G q_b b_kept b_feuds b_bites b_bones b_feudsInAll b_bitten, wX0 G q_o o_kept o_feuds o_bites o_bones o_feudsInAll o_bitten] none [wX0 G q_b o_b_kept o_b_feuds o_b_bites o_b_bones o_b_feudsInAll o_b_bitten, wX0 G q_o o_kept o_feuds o_bites o_bones o_feudsInAll o_bitten] := by
  refine MC.of pn_X0 (Nat.le_of_ble_eq_true rfl) (fun K hR hret => ?_)
  have hR : Rl l G RX0 cX0_copyFrom 2 (RM 1) K := hR
  show K [wX0 G q_b b_kept b_feuds b_bites b_bones b_feudsInAll b_bitten, wX0 G q_o o_kept o_feuds o_bites o_bones o_feudsInAll o_bitten] [(0, .ref (q_b 0)), (1, .ref (q_o 0))] 0 []
  refine st_aload_n hR dX0_copyFrom_0 0 rfl rfl (pc' := 1) rfl ?_
  refine st_aload_n hR dX0_copyFrom_1 1 rfl rfl (pc' := 2) rfl ?_
  refine st_get hR dX0_copyFrom_2 fg_X0_21_0_3 1 0 rfl rfl rfl (pc' := 5) rfl ?_
  refine st_put hR dX0_copyFrom_5 fp_X0_21_0_3 0 0 rfl rfl (Nat.le_of_ble_eq_true rfl) rfl rfl (pc' := 8) rfl (W' := [wX0 G q_b b_kept b_feuds b_bites o_bones b_feudsInAll b_bitten, wX0 G q_o o_kept o_feuds o_bites o_bones o_feudsInAll o_bitten]) rfl ?_
  refine st_aload_n hR dX0_copyFrom_8 0 rfl rfl (pc' := 9) rfl ?_
  refine st_aload_n hR dX0_copyFrom_9 1 rfl rfl (pc' := 10) rfl ?_
  refine st_get hR dX0_copyFrom_10 fg_X0_25_0_4 1 0 rfl rfl rfl (pc' := 13) rfl ?_
  refine st_put hR dX0_copyFrom_13 fp_X0_25_0_4 0 0 rfl rfl (Nat.le_of_ble_eq_true rfl) rfl rfl (pc' := 16) rfl (W' := [wX0 G q_b b_kept b_feuds b_bites o_bones o_feudsInAll b_bitten, wX0 G q_o o_kept o_feuds o_bites o_bones o_feudsInAll o_bitten]) rfl ?_
  refine st_aload_n hR dX0_copyFrom_16 0 rfl rfl (pc' := 17) rfl ?_
  refine st_aload_n hR dX0_copyFrom_17 1 rfl rfl (pc' := 18) rfl ?_
  refine st_get hR dX0_copyFrom_18 fg_X0_28_0_5 1 0 rfl rfl rfl (pc' := 21) rfl ?_
  refine st_put hR dX0_copyFrom_21 fp_X0_28_0_5 0 0 rfl rfl (Nat.le_of_ble_eq_true rfl) rfl rfl (pc' := 24) rfl (W' := [wX0 G q_b b_kept b_feuds b_bites o_bones o_feudsInAll o_bitten, wX0 G q_o o_kept o_feuds o_bites o_bones o_feudsInAll o_bitten]) rfl ?_
  refine st_aload_n hR dX0_copyFrom_24 1 rfl rfl (pc' := 25) rfl ?_
  refine st_get hR dX0_copyFrom_25 fg_X0_11_0_0 1 0 rfl rfl rfl (pc' := 28) rfl ?_
  refine st_iconst hR dX0_copyFrom_28 (v := 0) rfl (pc' := 29) rfl ?_
  refine st_aload_n hR dX0_copyFrom_29 0 rfl rfl (pc' := 30) rfl ?_
  refine st_get hR dX0_copyFrom_30 fg_X0_11_0_0 0 0 rfl rfl rfl (pc' := 33) rfl ?_
  refine st_iconst hR dX0_copyFrom_33 (v := 0) rfl (pc' := 34) rfl ?_
  refine st_sipush hR dX0_copyFrom_34 (v := 800) rfl (pc' := 37) rfl ?_
  refine st_copyi hR dX0_copyFrom_37 cp_X0_37 1 1 0 1 rfl rfl rfl rfl (by decide) (by decide) (by decide) (cl_lit 0 rfl rfl) (cl_lit 0 rfl rfl) (cl_lit 800 rfl rfl) (Nat.le_of_ble_eq_true rfl) (Nat.le_of_ble_eq_true rfl) (Nat.le_of_ble_eq_true rfl) (rest := []) (Nat.le_of_ble_eq_true rfl) (pc' := 40) rfl (fun b_kept_1 => [wX0 G q_b b_kept_1 b_feuds b_bites o_bones o_feudsInAll o_bitten, wX0 G q_o o_kept o_feuds o_bites o_bones o_feudsInAll o_bitten]) (fun _ => rfl) (fun b_kept_1 e_ => ?_)
  have hM := lt_e e_ hM
  refine st_aload_n hR dX0_copyFrom_40 1 rfl rfl (pc' := 41) rfl ?_
  refine st_get hR dX0_copyFrom_41 fg_X0_15_0_1 1 0 rfl rfl rfl (pc' := 44) rfl ?_
  refine st_iconst hR dX0_copyFrom_44 (v := 0) rfl (pc' := 45) rfl ?_
  refine st_aload_n hR dX0_copyFrom_45 0 rfl rfl (pc' := 46) rfl ?_
  refine st_get hR dX0_copyFrom_46 fg_X0_15_0_1 0 0 rfl rfl rfl (pc' := 49) rfl ?_
  refine st_iconst hR dX0_copyFrom_49 (v := 0) rfl (pc' := 50) rfl ?_
  refine st_bipush hR dX0_copyFrom_50 (v := 36) rfl (pc' := 52) rfl ?_
  refine st_copyi hR dX0_copyFrom_52 cp_X0_37 1 2 0 2 rfl rfl rfl rfl (by decide) (by decide) (by decide) (cl_lit 0 rfl rfl) (cl_lit 0 rfl rfl) (cl_lit 36 rfl rfl) (Nat.le_of_ble_eq_true rfl) (Nat.le_of_ble_eq_true rfl) (Nat.le_of_ble_eq_true rfl) (rest := []) (Nat.le_of_ble_eq_true rfl) (pc' := 55) rfl (fun b_feuds_1 => [wX0 G q_b b_kept_1 b_feuds_1 b_bites o_bones o_feudsInAll o_bitten, wX0 G q_o o_kept o_feuds o_bites o_bones o_feudsInAll o_bitten]) (fun _ => rfl) (fun b_feuds_1 e_ => ?_)
  have hM := lt_e e_ hM
  refine st_aload_n hR dX0_copyFrom_55 1 rfl rfl (pc' := 56) rfl ?_
  refine st_get hR dX0_copyFrom_56 fg_X0_18_0_2 1 0 rfl rfl rfl (pc' := 59) rfl ?_
  refine st_iconst hR dX0_copyFrom_59 (v := 0) rfl (pc' := 60) rfl ?_
  refine st_aload_n hR dX0_copyFrom_60 0 rfl rfl (pc' := 61) rfl ?_
  refine st_get hR dX0_copyFrom_61 fg_X0_18_0_2 0 0 rfl rfl rfl (pc' := 64) rfl ?_
  refine st_iconst hR dX0_copyFrom_64 (v := 0) rfl (pc' := 65) rfl ?_
  refine st_bipush hR dX0_copyFrom_65 (v := 8) rfl (pc' := 67) rfl ?_
  refine st_copyi hR dX0_copyFrom_67 cp_X0_37 1 3 0 3 rfl rfl rfl rfl (by decide) (by decide) (by decide) (cl_lit 0 rfl rfl) (cl_lit 0 rfl rfl) (cl_lit 8 rfl rfl) (Nat.le_of_ble_eq_true rfl) (Nat.le_of_ble_eq_true rfl) (Nat.le_of_ble_eq_true rfl) (rest := []) (Nat.le_of_ble_eq_true rfl) (pc' := 70) rfl (fun b_bites_1 => [wX0 G q_b b_kept_1 b_feuds_1 b_bites_1 o_bones o_feudsInAll o_bitten, wX0 G q_o o_kept o_feuds o_bites o_bones o_feudsInAll o_bitten]) (fun _ => rfl) (fun b_bites_1 e_ => ?_)
  have hM := lt_e e_ hM
  cases hM
  exact hret _ _ dX0_copyFrom_70 ro_v
set_option maxHeartbeats 16000000 in
set_option maxRecDepth 100000 in
theorem k_X3_clear {l : Launch} {G : GG} {q_la : Nat → Nat} {la_steps : Int32} {la_kinds la_lefts la_rights la_values : Nat → Int32}  {o_la_steps : Int32} (hM : f_X3_clear la_steps = some o_la_steps) : MC l G yX3_clear cX3_clear 1 none (RM 0) [.ref (q_la 0)] [wX3 G q_la la_kinds la_lefts la_rights la_values la_steps] none [wX3 G q_la la_kinds la_lefts la_rights la_values o_la_steps] := by
  refine MC.of pn_X3 (Nat.le_of_ble_eq_true rfl) (fun K hR hret => ?_)
  have hR : Rl l G RX3 cX3_clear 1 (RM 0) K := hR
  show K [wX3 G q_la la_kinds la_lefts la_rights la_values la_steps] [(0, .ref (q_la 0))] 0 []
  refine st_aload_n hR dX3_clear_0 0 rfl rfl (pc' := 1) rfl ?_
  refine st_iconst hR dX3_clear_1 (v := 0) rfl (pc' := 2) rfl ?_
  refine st_put hR dX3_clear_2 fp_X3_26_3_4 0 0 rfl rfl (Nat.le_of_ble_eq_true rfl) rfl rfl (pc' := 5) rfl (W' := [wX3 G q_la la_kinds la_lefts la_rights la_values 0]) rfl ?_
  cases hM
  exact hret _ _ dX3_clear_5 ro_v
set_option maxHeartbeats 16000000 in
set_option maxRecDepth 100000 in
theorem k_X3_add {l : Launch} {G : GG} {q_la : Nat → Nat} {la_steps : Int32} {la_kinds la_lefts la_rights la_values : Nat → Int32} {l1 l2 l3 : Int32} {o_r : Int32} {o_la_kinds : Nat → Int32} {o_la_lefts : Nat → Int32} {o_la_rights : Nat → Int32} {o_la_steps : Int32} (hM : f_X3_add la_kinds la_lefts la_rights la_steps l1 l2 l3 = some (o_r, o_la_kinds, o_la_lefts, o_la_rights, o_la_steps)) : MC l G yX3_add cX3_add 4 (some .int) (RM 0) [.ref (q_la 0), .int l1, .int l2, .int l3] [wX3 G q_la la_kinds la_lefts la_rights la_values la_steps] (some (.int o_r)) [wX3 G q_la o_la_kinds o_la_lefts o_la_rights la_values o_la_steps] := by
  refine MC.of pn_X3 (Nat.le_of_ble_eq_true rfl) (fun K hR hret => ?_)
  have hR : Rl l G RX3 cX3_add 4 (RM 0) K := hR
  show K [wX3 G q_la la_kinds la_lefts la_rights la_values la_steps] [(0, .ref (q_la 0)), (1, .int l1), (2, .int l2), (3, .int l3)] 0 []
  refine st_aload_n hR dX3_add_0 0 rfl rfl (pc' := 1) rfl ?_
  refine st_get hR dX3_add_1 fg_X3_26_3_4 0 0 rfl rfl rfl (pc' := 4) rfl ?_
  refine st_sipush hR dX3_add_4 (v := 1000) rfl (pc' := 7) rfl ?_
  refine st_icmp_lt hR dX3_add_7 (tgt := 12) (by decide) (pc' := 10) rfl (fun c_ => ?_) (fun c_ => ?_)
  · have hM := it_t c_ hM
    refine st_aload_n hR dX3_add_12 0 rfl rfl (pc' := 13) rfl ?_
    refine st_get hR dX3_add_13 fg_X3_13_3_0 0 0 rfl rfl rfl (pc' := 16) rfl ?_
    refine st_aload_n hR dX3_add_16 0 rfl rfl (pc' := 17) rfl ?_
    refine st_get hR dX3_add_17 fg_X3_26_3_4 0 0 rfl rfl rfl (pc' := 20) rfl ?_
    refine st_iload_n hR dX3_add_20 1 rfl rfl (pc' := 21) rfl ?_
    obtain ⟨hin_, hM⟩ := g_in_e hM
    refine st_iast hR dX3_add_21 0 1 rfl rfl hin_ (ix := (ix la_steps)) rfl (pc' := 22) rfl (fun la_kinds_1 => [wX3 G q_la la_kinds_1 la_lefts la_rights la_values la_steps]) (fun _ => rfl) (fun la_kinds_1 e_ => ?_)
    have hM := lt_e e_ hM
    refine st_aload_n hR dX3_add_22 0 rfl rfl (pc' := 23) rfl ?_
    refine st_get hR dX3_add_23 fg_X3_17_3_1 0 0 rfl rfl rfl (pc' := 26) rfl ?_
    refine st_aload_n hR dX3_add_26 0 rfl rfl (pc' := 27) rfl ?_
    refine st_get hR dX3_add_27 fg_X3_26_3_4 0 0 rfl rfl rfl (pc' := 30) rfl ?_
    refine st_iload_n hR dX3_add_30 2 rfl rfl (pc' := 31) rfl ?_
    obtain ⟨hin_, hM⟩ := g_in_e hM
    refine st_iast hR dX3_add_31 0 2 rfl rfl hin_ (ix := (ix la_steps)) rfl (pc' := 32) rfl (fun la_lefts_1 => [wX3 G q_la la_kinds_1 la_lefts_1 la_rights la_values la_steps]) (fun _ => rfl) (fun la_lefts_1 e_ => ?_)
    have hM := lt_e e_ hM
    refine st_aload_n hR dX3_add_32 0 rfl rfl (pc' := 33) rfl ?_
    refine st_get hR dX3_add_33 fg_X3_20_3_2 0 0 rfl rfl rfl (pc' := 36) rfl ?_
    refine st_aload_n hR dX3_add_36 0 rfl rfl (pc' := 37) rfl ?_
    refine st_get hR dX3_add_37 fg_X3_26_3_4 0 0 rfl rfl rfl (pc' := 40) rfl ?_
    refine st_iload_n hR dX3_add_40 3 rfl rfl (pc' := 41) rfl ?_
    obtain ⟨hin_, hM⟩ := g_in_e hM
    refine st_iast hR dX3_add_41 0 3 rfl rfl hin_ (ix := (ix la_steps)) rfl (pc' := 42) rfl (fun la_rights_1 => [wX3 G q_la la_kinds_1 la_lefts_1 la_rights_1 la_values la_steps]) (fun _ => rfl) (fun la_rights_1 e_ => ?_)
    have hM := lt_e e_ hM
    refine st_aload_n hR dX3_add_42 0 rfl rfl (pc' := 43) rfl ?_
    refine st_dup hR dX3_add_43 (pc' := 44) rfl rfl ?_
    refine st_get hR dX3_add_44 fg_X3_26_3_4 0 0 rfl rfl rfl (pc' := 47) rfl ?_
    refine st_iconst hR dX3_add_47 (v := 1) rfl (pc' := 48) rfl ?_
    refine st_iadd hR dX3_add_48 (pc' := 49) rfl ?_
    refine st_topi (fun la_steps_1 e_ => ?_)
    have hM := lt_e e_ hM
    refine st_put hR dX3_add_49 fp_X3_26_3_4 0 0 rfl rfl (Nat.le_of_ble_eq_true rfl) rfl rfl (pc' := 52) rfl (W' := [wX3 G q_la la_kinds_1 la_lefts_1 la_rights_1 la_values la_steps_1]) rfl ?_
    refine st_aload_n hR dX3_add_52 0 rfl rfl (pc' := 53) rfl ?_
    refine st_get hR dX3_add_53 fg_X3_26_3_4 0 0 rfl rfl rfl (pc' := 56) rfl ?_
    refine st_iconst hR dX3_add_56 (v := 1) rfl (pc' := 57) rfl ?_
    refine st_isub hR dX3_add_57 (pc' := 58) rfl ?_
    cases hM
    exact hret _ _ dX3_add_58 (ro_i _)
  · have hM := it_f c_ hM
    refine st_iconst hR dX3_add_10 (v := (-1)) (by decide) (pc' := 11) rfl ?_
    cases hM
    exact hret _ _ dX3_add_11 (ro_i _)
set_option maxHeartbeats 16000000 in
set_option maxRecDepth 100000 in
theorem k_X3_addNumber {l : Launch} {G : GG} {q_la : Nat → Nat} {la_steps : Int32} {la_kinds la_lefts la_rights la_values : Nat → Int32} {l1 : Int32} {o_r : Int32} {o_la_kinds : Nat → Int32} {o_la_lefts : Nat → Int32} {o_la_rights : Nat → Int32} {o_la_steps : Int32} (hM : f_X3_addNumber la_kinds la_lefts la_rights la_steps l1 = some (o_r, o_la_kinds, o_la_lefts, o_la_rights, o_la_steps)) : MC l G yX3_addNumber cX3_addNumber 2 (some .int) (RM 1) [.ref (q_la 0), .int l1] [wX3 G q_la la_kinds la_lefts la_rights la_values la_steps] (some (.int o_r)) [wX3 G q_la o_la_kinds o_la_lefts o_la_rights la_values o_la_steps] := by
  refine MC.of pn_X3 (Nat.le_of_ble_eq_true rfl) (fun K hR hret => ?_)
  have hR : Rl l G RX3 cX3_addNumber 2 (RM 1) K := hR
  show K [wX3 G q_la la_kinds la_lefts la_rights la_values la_steps] [(0, .ref (q_la 0)), (1, .int l1)] 0 []
  refine st_aload_n hR dX3_addNumber_0 0 rfl rfl (pc' := 1) rfl ?_
  refine st_iconst hR dX3_addNumber_1 (v := 0) rfl (pc' := 2) rfl ?_
  refine st_iload_n hR dX3_addNumber_2 1 rfl rfl (pc' := 3) rfl ?_
  refine st_iconst hR dX3_addNumber_3 (v := 0) rfl (pc' := 4) rfl ?_
  obtain ⟨⟨r_1, la_kinds_1, la_lefts_1, la_rights_1, la_steps_1⟩, hc_, hM⟩ := bd_e hM
  refine st_callV hR (k_X3_add hc_) cf_X3_30 (rm_le (Nat.le_of_ble_eq_true rfl) (Nat.le_of_ble_eq_true rfl)) [0] rfl rfl rfl 0 0 3 5 rfl rfl rfl rfl (rest := []) rfl (Nat.le_of_ble_eq_true rfl) dX3_addNumber_4 (pc' := 7) rfl (Wn := [wX3 G q_la la_kinds_1 la_lefts_1 la_rights_1 la_values la_steps_1]) rfl ?_
  cases hM
  exact hret _ _ dX3_addNumber_7 (ro_i _)
set_option maxHeartbeats 16000000 in
set_option maxRecDepth 100000 in
theorem k_X3_addFact {l : Launch} {G : GG} {q_la : Nat → Nat} {la_steps : Int32} {la_kinds la_lefts la_rights la_values : Nat → Int32} {l1 : Int32} {o_r : Int32} {o_la_kinds : Nat → Int32} {o_la_lefts : Nat → Int32} {o_la_rights : Nat → Int32} {o_la_steps : Int32} (hM : f_X3_addFact la_kinds la_lefts la_rights la_steps l1 = some (o_r, o_la_kinds, o_la_lefts, o_la_rights, o_la_steps)) : MC l G yX3_addFact cX3_addFact 2 (some .int) (RM 1) [.ref (q_la 0), .int l1] [wX3 G q_la la_kinds la_lefts la_rights la_values la_steps] (some (.int o_r)) [wX3 G q_la o_la_kinds o_la_lefts o_la_rights la_values o_la_steps] := by
  refine MC.of pn_X3 (Nat.le_of_ble_eq_true rfl) (fun K hR hret => ?_)
  have hR : Rl l G RX3 cX3_addFact 2 (RM 1) K := hR
  show K [wX3 G q_la la_kinds la_lefts la_rights la_values la_steps] [(0, .ref (q_la 0)), (1, .int l1)] 0 []
  refine st_iload_n hR dX3_addFact_0 1 rfl rfl (pc' := 1) rfl ?_
  refine st_if_lt hR dX3_addFact_1 (tgt := 20) (by decide) (pc' := 4) rfl (fun c_ => ?_) (fun c_ => ?_)
  · have hM := it_t c_ hM
    refine st_iconst hR dX3_addFact_20 (v := (-1)) (by decide) (pc' := 21) rfl ?_
    cases hM
    exact hret _ _ dX3_addFact_21 (ro_i _)
  · have hM := it_f c_ hM
    refine st_iload_n hR dX3_addFact_4 1 rfl rfl (pc' := 5) rfl ?_
    refine st_bipush hR dX3_addFact_5 (v := 6) rfl (pc' := 7) rfl ?_
    refine st_icmp_ge hR dX3_addFact_7 (tgt := 20) (by decide) (pc' := 10) rfl (fun c_ => ?_) (fun c_ => ?_)
    · have hM := it_t c_ hM
      refine st_iconst hR dX3_addFact_20 (v := (-1)) (by decide) (pc' := 21) rfl ?_
      cases hM
      exact hret _ _ dX3_addFact_21 (ro_i _)
    · have hM := it_f c_ hM
      refine st_aload_n hR dX3_addFact_10 0 rfl rfl (pc' := 11) rfl ?_
      refine st_iconst hR dX3_addFact_11 (v := 1) rfl (pc' := 12) rfl ?_
      refine st_iload_n hR dX3_addFact_12 1 rfl rfl (pc' := 13) rfl ?_
      refine st_iconst hR dX3_addFact_13 (v := 0) rfl (pc' := 14) rfl ?_
      obtain ⟨⟨r_1, la_kinds_1, la_lefts_1, la_rights_1, la_steps_1⟩, hc_, hM⟩ := bd_e hM
      refine st_callV hR (k_X3_add hc_) cf_X3_30 (rm_le (Nat.le_of_ble_eq_true rfl) (Nat.le_of_ble_eq_true rfl)) [0] rfl rfl rfl 0 0 3 5 rfl rfl rfl rfl (rest := []) rfl (Nat.le_of_ble_eq_true rfl) dX3_addFact_14 (pc' := 17) rfl (Wn := [wX3 G q_la la_kinds_1 la_lefts_1 la_rights_1 la_values la_steps_1]) rfl ?_
      refine st_goto hR dX3_addFact_17 (tgt := 21) (by decide) ?_
      cases hM
      exact hret _ _ dX3_addFact_21 (ro_i _)
set_option maxHeartbeats 16000000 in
set_option maxRecDepth 100000 in
theorem k_X3_join {l : Launch} {G : GG} {q_la : Nat → Nat} {la_steps : Int32} {la_kinds la_lefts la_rights la_values : Nat → Int32} {l1 l2 l3 : Int32} {o_r : Int32} {o_la_kinds : Nat → Int32} {o_la_lefts : Nat → Int32} {o_la_rights : Nat → Int32} {o_la_steps : Int32} (hM : f_X3_join la_kinds la_lefts la_rights la_steps l1 l2 l3 = some (o_r, o_la_kinds, o_la_lefts, o_la_rights, o_la_steps)) : MC l G yX3_join cX3_join 5 (some .int) (RM 1) [.ref (q_la 0), .int l1, .int l2, .int l3] [wX3 G q_la la_kinds la_lefts la_rights la_values la_steps] (some (.int o_r)) [wX3 G q_la o_la_kinds o_la_lefts o_la_rights la_values o_la_steps] := by
  refine MC.of pn_X3 (Nat.le_of_ble_eq_true rfl) (fun K hR hret => ?_)
  have hR : Rl l G RX3 cX3_join 5 (RM 1) K := hR
  show K [wX3 G q_la la_kinds la_lefts la_rights la_values la_steps] [(0, .ref (q_la 0)), (1, .int l1), (2, .int l2), (3, .int l3)] 0 []
  have J29 : ∀ (la_kinds : Nat → Int32) (la_lefts : Nat → Int32) (la_rights : Nat → Int32) (la_steps : Int32) (l1 : Int32) (l2 : Int32) (l3 : Int32) (s0 : Int32), f_X3_join_B29   la_kinds la_lefts la_rights la_steps l1 l2 l3 s0 = some (o_r, o_la_kinds, o_la_lefts, o_la_rights, o_la_steps) → K [wX3 G q_la la_kinds la_lefts la_rights la_values la_steps] [(0, .ref (q_la 0)), (1, .int l1), (2, .int l2), (3, .int l3)] 29 [.int s0] := by
    intro la_kinds la_lefts la_rights la_steps l1 l2 l3 s0 hM
    refine st_istore hR dX3_join_29 (Nat.le_of_ble_eq_true rfl) [1, 2, 3, 4, 0] (lv' := [(0, .ref (q_la 0)), (1, .int l1), (2, .int l2), (3, .int l3), (4, .int s0)]) rfl (pc' := 31) rfl ?_
    refine st_iload hR dX3_join_31 4 rfl (pc' := 33) rfl ?_
    refine st_if_eq hR dX3_join_33 (tgt := 46) (by decide) (pc' := 36) rfl (fun c_ => ?_) (fun c_ => ?_)
    · have hM := it_t c_ hM
      refine st_iconst hR dX3_join_46 (v := (-1)) (by decide) (pc' := 47) rfl ?_
      cases hM
      exact hret _ _ dX3_join_47 (ro_i _)
    · have hM := it_f c_ hM
      refine st_aload_n hR dX3_join_36 0 rfl rfl (pc' := 37) rfl ?_
      refine st_iload_n hR dX3_join_37 1 rfl rfl (pc' := 38) rfl ?_
      refine st_iload_n hR dX3_join_38 2 rfl rfl (pc' := 39) rfl ?_
      refine st_iload_n hR dX3_join_39 3 rfl rfl (pc' := 40) rfl ?_
      obtain ⟨⟨r_1, la_kinds_1, la_lefts_1, la_rights_1, la_steps_1⟩, hc_, hM⟩ := bd_e hM
      refine st_callV hR (k_X3_add hc_) cf_X3_30 (rm_le (Nat.le_of_ble_eq_true rfl) (Nat.le_of_ble_eq_true rfl)) [0] rfl rfl rfl 0 0 3 5 rfl rfl rfl rfl (rest := []) rfl (Nat.le_of_ble_eq_true rfl) dX3_join_40 (pc' := 43) rfl (Wn := [wX3 G q_la la_kinds_1 la_lefts_1 la_rights_1 la_values la_steps_1]) rfl ?_
      refine st_goto hR dX3_join_43 (tgt := 47) (by decide) ?_
      cases hM
      exact hret _ _ dX3_join_47 (ro_i _)
  have J28 : ∀ (la_kinds : Nat → Int32) (la_lefts : Nat → Int32) (la_rights : Nat → Int32) (la_steps : Int32) (l1 : Int32) (l2 : Int32) (l3 : Int32), f_X3_join_B28   la_kinds la_lefts la_rights la_steps l1 l2 l3 = some (o_r, o_la_kinds, o_la_lefts, o_la_rights, o_la_steps) → K [wX3 G q_la la_kinds la_lefts la_rights la_values la_steps] [(0, .ref (q_la 0)), (1, .int l1), (2, .int l2), (3, .int l3)] 28 [] := by
    intro la_kinds la_lefts la_rights la_steps l1 l2 l3 hM
    refine st_iconst hR dX3_join_28 (v := 0) rfl (pc' := 29) rfl ?_
    exact J29 _ _ _ _ _ _ _ _ hM
  refine st_iload_n hR dX3_join_0 2 rfl rfl (pc' := 1) rfl ?_
  refine st_if_lt hR dX3_join_1 (tgt := 28) (by decide) (pc' := 4) rfl (fun c_ => ?_) (fun c_ => ?_)
  · have hM := it_t c_ hM
    exact J28 _ _ _ _ _ _ _ hM
  · have hM := it_f c_ hM
    refine st_iload_n hR dX3_join_4 2 rfl rfl (pc' := 5) rfl ?_
    refine st_aload_n hR dX3_join_5 0 rfl rfl (pc' := 6) rfl ?_
    refine st_get hR dX3_join_6 fg_X3_26_3_4 0 0 rfl rfl rfl (pc' := 9) rfl ?_
    refine st_icmp_ge hR dX3_join_9 (tgt := 28) (by decide) (pc' := 12) rfl (fun c_ => ?_) (fun c_ => ?_)
    · have hM := it_t c_ hM
      exact J28 _ _ _ _ _ _ _ hM
    · have hM := it_f c_ hM
      refine st_iload_n hR dX3_join_12 3 rfl rfl (pc' := 13) rfl ?_
      refine st_if_lt hR dX3_join_13 (tgt := 28) (by decide) (pc' := 16) rfl (fun c_ => ?_) (fun c_ => ?_)
      · have hM := it_t c_ hM
        exact J28 _ _ _ _ _ _ _ hM
      · have hM := it_f c_ hM
        refine st_iload_n hR dX3_join_16 3 rfl rfl (pc' := 17) rfl ?_
        refine st_aload_n hR dX3_join_17 0 rfl rfl (pc' := 18) rfl ?_
        refine st_get hR dX3_join_18 fg_X3_26_3_4 0 0 rfl rfl rfl (pc' := 21) rfl ?_
        refine st_icmp_ge hR dX3_join_21 (tgt := 28) (by decide) (pc' := 24) rfl (fun c_ => ?_) (fun c_ => ?_)
        · have hM := it_t c_ hM
          exact J28 _ _ _ _ _ _ _ hM
        · have hM := it_f c_ hM
          refine st_iconst hR dX3_join_24 (v := 1) rfl (pc' := 25) rfl ?_
          refine st_goto hR dX3_join_25 (tgt := 29) (by decide) ?_
          exact J29 _ _ _ _ _ _ _ _ hM
set_option maxHeartbeats 16000000 in
set_option maxRecDepth 100000 in
theorem k_X3_worth {l : Launch} {G : GG} {q_la q_v : Nat → Nat} {la_steps v_night : Int32} {v_g : Int64} {la_kinds la_lefts la_rights la_values v_flock v_hunger v_lean v_fed v_taken v_pacts v_levels v_facts : Nat → Int32} {v_mountain : Nat}  {o_r : Int32} {o_la_values : Nat → Int32} (hM : f_X3_worth la_kinds la_lefts la_rights la_steps v_facts la_values = some (o_r, o_la_values)) : MC l G yX3_worth cX3_worth 6 (some .int) (RM 0) [.ref (q_la 0), .ref (q_v 8)] [wX3 G q_la la_kinds la_lefts la_rights la_values la_steps, wX9 G q_v v_mountain v_night v_g v_flock v_hunger v_lean v_fed v_taken v_pacts v_levels v_facts] (some (.int o_r)) [wX3 G q_la la_kinds la_lefts la_rights o_la_values la_steps, wX9 G q_v v_mountain v_night v_g v_flock v_hunger v_lean v_fed v_taken v_pacts v_levels v_facts] := by
  refine MC.of pn_X3 (Nat.le_of_ble_eq_true rfl) (fun K hR hret => ?_)
  have hR : Rl l G RX3 cX3_worth 6 (RM 0) K := hR
  show K [wX3 G q_la la_kinds la_lefts la_rights la_values la_steps, wX9 G q_v v_mountain v_night v_g v_flock v_hunger v_lean v_fed v_taken v_pacts v_levels v_facts] [(0, .ref (q_la 0)), (1, .ref (q_v 8))] 0 []
  have L4 : ∀ (n4 : Nat) (la_values : Nat → Int32) (l2 : Int32) (l3 : Int32), f_X3_worth_L4  la_kinds la_lefts la_rights la_steps v_facts n4 la_values l2 l3 = some (o_r, o_la_values) → K [wX3 G q_la la_kinds la_lefts la_rights la_values la_steps, wX9 G q_v v_mountain v_night v_g v_flock v_hunger v_lean v_fed v_taken v_pacts v_levels v_facts] [(0, .ref (q_la 0)), (1, .ref (q_v 8)), (2, .int l2), (3, .int l3)] 4 [] := by
    intro n4
    induction n4 with
    | zero => intro la_values l2 l3 hM; exact no_some hM
    | succ n4 ih4 =>
      have J292 : ∀ (la_values : Nat → Int32) (l2 : Int32) (l3 : Int32), f_X3_worth_B292  (f_X3_worth_L4  la_kinds la_lefts la_rights la_steps v_facts n4) la_kinds la_lefts la_rights la_steps v_facts la_values l2 l3 = some (o_r, o_la_values) → K [wX3 G q_la la_kinds la_lefts la_rights la_values la_steps, wX9 G q_v v_mountain v_night v_g v_flock v_hunger v_lean v_fed v_taken v_pacts v_levels v_facts] [(0, .ref (q_la 0)), (1, .ref (q_v 8)), (2, .int l2), (3, .int l3)] 292 [] := by
        intro la_values l2 l3 hM
        refine st_aload_n hR dX3_worth_292 0 rfl rfl (pc' := 293) rfl ?_
        refine st_get hR dX3_worth_293 fg_X3_23_3_3 0 0 rfl rfl rfl (pc' := 296) rfl ?_
        refine st_iload_n hR dX3_worth_296 3 rfl rfl (pc' := 297) rfl ?_
        refine st_iload_n hR dX3_worth_297 2 rfl rfl (pc' := 298) rfl ?_
        obtain ⟨hin_, hM⟩ := g_in_e hM
        refine st_iast hR dX3_worth_298 0 4 rfl rfl hin_ (ix := (ix l3)) rfl (pc' := 299) rfl (fun la_values_1 => [wX3 G q_la la_kinds la_lefts la_rights la_values_1 la_steps, wX9 G q_v v_mountain v_night v_g v_flock v_hunger v_lean v_fed v_taken v_pacts v_levels v_facts]) (fun _ => rfl) (fun la_values_1 e_ => ?_)
        have hM := lt_e e_ hM
        obtain ⟨l3_1, e_⟩ : ∃ y : Int32, y = l3 + 1 := ⟨_, rfl⟩
        refine st_iinc hR dX3_worth_299 (Nat.le_of_ble_eq_true rfl) 3 [1, 2, 3, 0] (v := l3_1) rfl (by rw [e_]; rfl) (lv' := [(0, .ref (q_la 0)), (1, .ref (q_v 8)), (2, .int l2), (3, .int l3_1)]) rfl (pc' := 302) rfl ?_
        have hM := lt_e e_ hM
        refine st_goto hR dX3_worth_302 (tgt := 4) (by decide) ?_
        exact ih4 _ _ _ hM
      have J105 : ∀ (la_values : Nat → Int32) (l3 : Int32) (s0 : Int32), f_X3_worth_B105  (f_X3_worth_L4  la_kinds la_lefts la_rights la_steps v_facts n4) la_kinds la_lefts la_rights la_steps v_facts la_values l3 s0 = some (o_r, o_la_values) → K [wX3 G q_la la_kinds la_lefts la_rights la_values la_steps, wX9 G q_v v_mountain v_night v_g v_flock v_hunger v_lean v_fed v_taken v_pacts v_levels v_facts] [(0, .ref (q_la 0)), (1, .ref (q_v 8)), (3, .int l3)] 105 [.int s0] := by
        intro la_values l3 s0 hM
        refine st_istore_n hR dX3_worth_105 rfl (Nat.le_of_ble_eq_true rfl) [1, 2, 0, 3] (lv' := [(0, .ref (q_la 0)), (1, .ref (q_v 8)), (2, .int s0), (3, .int l3)]) rfl (pc' := 106) rfl ?_
        refine st_goto hR dX3_worth_106 (tgt := 292) (by decide) ?_
        exact J292 _ _ _ hM
      have J124 : ∀ (la_values : Nat → Int32) (l3 : Int32) (s0 : Int32), f_X3_worth_B124  (f_X3_worth_L4  la_kinds la_lefts la_rights la_steps v_facts n4) la_kinds la_lefts la_rights la_steps v_facts la_values l3 s0 = some (o_r, o_la_values) → K [wX3 G q_la la_kinds la_lefts la_rights la_values la_steps, wX9 G q_v v_mountain v_night v_g v_flock v_hunger v_lean v_fed v_taken v_pacts v_levels v_facts] [(0, .ref (q_la 0)), (1, .ref (q_v 8)), (3, .int l3)] 124 [.int s0] := by
        intro la_values l3 s0 hM
        refine st_istore_n hR dX3_worth_124 rfl (Nat.le_of_ble_eq_true rfl) [1, 2, 0, 3] (lv' := [(0, .ref (q_la 0)), (1, .ref (q_v 8)), (2, .int s0), (3, .int l3)]) rfl (pc' := 125) rfl ?_
        refine st_goto hR dX3_worth_125 (tgt := 292) (by decide) ?_
        exact J292 _ _ _ hM
      have J153 : ∀ (la_values : Nat → Int32) (l3 : Int32) (s0 : Int32), f_X3_worth_B153  (f_X3_worth_L4  la_kinds la_lefts la_rights la_steps v_facts n4) la_kinds la_lefts la_rights la_steps v_facts la_values l3 s0 = some (o_r, o_la_values) → K [wX3 G q_la la_kinds la_lefts la_rights la_values la_steps, wX9 G q_v v_mountain v_night v_g v_flock v_hunger v_lean v_fed v_taken v_pacts v_levels v_facts] [(0, .ref (q_la 0)), (1, .ref (q_v 8)), (3, .int l3)] 153 [.int s0] := by
        intro la_values l3 s0 hM
        refine st_istore_n hR dX3_worth_153 rfl (Nat.le_of_ble_eq_true rfl) [1, 2, 0, 3] (lv' := [(0, .ref (q_la 0)), (1, .ref (q_v 8)), (2, .int s0), (3, .int l3)]) rfl (pc' := 154) rfl ?_
        refine st_goto hR dX3_worth_154 (tgt := 292) (by decide) ?_
        exact J292 _ _ _ hM
      have J152 : ∀ (la_values : Nat → Int32) (l3 : Int32), f_X3_worth_B152  (f_X3_worth_L4  la_kinds la_lefts la_rights la_steps v_facts n4) la_kinds la_lefts la_rights la_steps v_facts la_values l3 = some (o_r, o_la_values) → K [wX3 G q_la la_kinds la_lefts la_rights la_values la_steps, wX9 G q_v v_mountain v_night v_g v_flock v_hunger v_lean v_fed v_taken v_pacts v_levels v_facts] [(0, .ref (q_la 0)), (1, .ref (q_v 8)), (3, .int l3)] 152 [] := by
        intro la_values l3 hM
        refine st_iconst hR dX3_worth_152 (v := 0) rfl (pc' := 153) rfl ?_
        exact J153 _ _ _ hM
      have J182 : ∀ (la_values : Nat → Int32) (l3 : Int32) (s0 : Int32), f_X3_worth_B182  (f_X3_worth_L4  la_kinds la_lefts la_rights la_steps v_facts n4) la_kinds la_lefts la_rights la_steps v_facts la_values l3 s0 = some (o_r, o_la_values) → K [wX3 G q_la la_kinds la_lefts la_rights la_values la_steps, wX9 G q_v v_mountain v_night v_g v_flock v_hunger v_lean v_fed v_taken v_pacts v_levels v_facts] [(0, .ref (q_la 0)), (1, .ref (q_v 8)), (3, .int l3)] 182 [.int s0] := by
        intro la_values l3 s0 hM
        refine st_istore_n hR dX3_worth_182 rfl (Nat.le_of_ble_eq_true rfl) [1, 2, 0, 3] (lv' := [(0, .ref (q_la 0)), (1, .ref (q_v 8)), (2, .int s0), (3, .int l3)]) rfl (pc' := 183) rfl ?_
        refine st_goto hR dX3_worth_183 (tgt := 292) (by decide) ?_
        exact J292 _ _ _ hM
      have J177 : ∀ (la_values : Nat → Int32) (l3 : Int32), f_X3_worth_B177  (f_X3_worth_L4  la_kinds la_lefts la_rights la_steps v_facts n4) la_kinds la_lefts la_rights la_steps v_facts la_values l3 = some (o_r, o_la_values) → K [wX3 G q_la la_kinds la_lefts la_rights la_values la_steps, wX9 G q_v v_mountain v_night v_g v_flock v_hunger v_lean v_fed v_taken v_pacts v_levels v_facts] [(0, .ref (q_la 0)), (1, .ref (q_v 8)), (3, .int l3)] 177 [] := by
        intro la_values l3 hM
        refine st_iconst hR dX3_worth_177 (v := 1) rfl (pc' := 178) rfl ?_
        refine st_goto hR dX3_worth_178 (tgt := 182) (by decide) ?_
        exact J182 _ _ _ hM
      have J208 : ∀ (la_values : Nat → Int32) (l3 : Int32) (s0 : Int32), f_X3_worth_B208  (f_X3_worth_L4  la_kinds la_lefts la_rights la_steps v_facts n4) la_kinds la_lefts la_rights la_steps v_facts la_values l3 s0 = some (o_r, o_la_values) → K [wX3 G q_la la_kinds la_lefts la_rights la_values la_steps, wX9 G q_v v_mountain v_night v_g v_flock v_hunger v_lean v_fed v_taken v_pacts v_levels v_facts] [(0, .ref (q_la 0)), (1, .ref (q_v 8)), (3, .int l3)] 208 [.int s0] := by
        intro la_values l3 s0 hM
        refine st_istore_n hR dX3_worth_208 rfl (Nat.le_of_ble_eq_true rfl) [1, 2, 0, 3] (lv' := [(0, .ref (q_la 0)), (1, .ref (q_v 8)), (2, .int s0), (3, .int l3)]) rfl (pc' := 209) rfl ?_
        refine st_goto hR dX3_worth_209 (tgt := 292) (by decide) ?_
        exact J292 _ _ _ hM
      have J234 : ∀ (la_values : Nat → Int32) (l3 : Int32) (s0 : Int32), f_X3_worth_B234  (f_X3_worth_L4  la_kinds la_lefts la_rights la_steps v_facts n4) la_kinds la_lefts la_rights la_steps v_facts la_values l3 s0 = some (o_r, o_la_values) → K [wX3 G q_la la_kinds la_lefts la_rights la_values la_steps, wX9 G q_v v_mountain v_night v_g v_flock v_hunger v_lean v_fed v_taken v_pacts v_levels v_facts] [(0, .ref (q_la 0)), (1, .ref (q_v 8)), (3, .int l3)] 234 [.int s0] := by
        intro la_values l3 s0 hM
        refine st_istore_n hR dX3_worth_234 rfl (Nat.le_of_ble_eq_true rfl) [1, 2, 0, 3] (lv' := [(0, .ref (q_la 0)), (1, .ref (q_v 8)), (2, .int s0), (3, .int l3)]) rfl (pc' := 235) rfl ?_
        refine st_goto hR dX3_worth_235 (tgt := 292) (by decide) ?_
        exact J292 _ _ _ hM
      intro la_values l2 l3 hM
      have hM : f_X3_worth_L4b  (f_X3_worth_L4  la_kinds la_lefts la_rights la_steps v_facts n4) la_kinds la_lefts la_rights la_steps v_facts la_values l2 l3 = some (o_r, o_la_values) := hM
      refine st_iload_n hR dX3_worth_4 3 rfl rfl (pc' := 5) rfl ?_
      refine st_aload_n hR dX3_worth_5 0 rfl rfl (pc' := 6) rfl ?_
      refine st_get hR dX3_worth_6 fg_X3_26_3_4 0 0 rfl rfl rfl (pc' := 9) rfl ?_
      refine st_icmp_ge hR dX3_worth_9 (tgt := 305) (by decide) (pc' := 12) rfl (fun c_ => ?_) (fun c_ => ?_)
      · have hM := it_t c_ hM
        refine st_iload_n hR dX3_worth_305 2 rfl rfl (pc' := 306) rfl ?_
        cases hM
        exact hret _ _ dX3_worth_306 (ro_i _)
      · have hM := it_f c_ hM
        refine st_aload_n hR dX3_worth_12 0 rfl rfl (pc' := 13) rfl ?_
        refine st_get hR dX3_worth_13 fg_X3_17_3_1 0 0 rfl rfl rfl (pc' := 16) rfl ?_
        refine st_iload_n hR dX3_worth_16 3 rfl rfl (pc' := 17) rfl ?_
        obtain ⟨hin_, hM⟩ := g_in_e hM
        refine st_iald hR dX3_worth_17 0 2 rfl rfl hin_ (v := la_lefts (ix l3)) rfl (pc' := 18) rfl ?_
        refine st_topi (fun l4_1 e_ => ?_)
        have hM := lt_e e_ hM
        refine st_istore hR dX3_worth_18 (Nat.le_of_ble_eq_true rfl) [1, 2, 3, 4, 0] (lv' := [(0, .ref (q_la 0)), (1, .ref (q_v 8)), (2, .int l2), (3, .int l3), (4, .int l4_1)]) rfl (pc' := 20) rfl ?_
        refine st_aload_n hR dX3_worth_20 0 rfl rfl (pc' := 21) rfl ?_
        refine st_get hR dX3_worth_21 fg_X3_20_3_2 0 0 rfl rfl rfl (pc' := 24) rfl ?_
        refine st_iload_n hR dX3_worth_24 3 rfl rfl (pc' := 25) rfl ?_
        obtain ⟨hin_, hM⟩ := g_in_e hM
        refine st_iald hR dX3_worth_25 0 3 rfl rfl hin_ (v := la_rights (ix l3)) rfl (pc' := 26) rfl ?_
        refine st_topi (fun l5_1 e_ => ?_)
        have hM := lt_e e_ hM
        refine st_istore hR dX3_worth_26 (Nat.le_of_ble_eq_true rfl) [1, 2, 3, 4, 5, 0] (lv' := [(0, .ref (q_la 0)), (1, .ref (q_v 8)), (2, .int l2), (3, .int l3), (4, .int l4_1), (5, .int l5_1)]) rfl (pc' := 28) rfl ?_
        refine st_aload_n hR dX3_worth_28 0 rfl rfl (pc' := 29) rfl ?_
        refine st_get hR dX3_worth_29 fg_X3_13_3_0 0 0 rfl rfl rfl (pc' := 32) rfl ?_
        refine st_iload_n hR dX3_worth_32 3 rfl rfl (pc' := 33) rfl ?_
        obtain ⟨hin_, hM⟩ := g_in_e hM
        refine st_iald hR dX3_worth_33 0 1 rfl rfl hin_ (v := la_kinds (ix l3)) rfl (pc' := 34) rfl ?_
        refine st_topi (fun sw_1 e_ => ?_)
        have hM := lt_e e_ hM
        refine st_sw_case hR dX3_worth_34 0 (x0 := 0) (by decide) (by decide) rfl (tgt := 84) (by decide) (fun c0_ => ?_) (fun c0_ => ?_)
        · have hM := it_t c0_ hM
          refine st_iload hR dX3_worth_84 4 rfl (pc' := 86) rfl ?_
          refine st_istore_n hR dX3_worth_86 rfl (Nat.le_of_ble_eq_true rfl) [1, 2, 0, 3, 4, 5] (lv' := [(0, .ref (q_la 0)), (1, .ref (q_v 8)), (2, .int l4_1), (3, .int l3), (4, .int l4_1), (5, .int l5_1)]) rfl (pc' := 87) rfl ?_
          refine st_goto hR dX3_worth_87 (tgt := 292) (by decide) ?_
          exact st_lv hR [0, 1, 2, 3] rfl (J292 _ _ _ hM)
        · have hM := it_f c0_ hM
          refine st_sw_case hR dX3_worth_34 1 (x0 := 1) (by decide) (by decide) rfl (tgt := 90) (by decide) (fun c1_ => ?_) (fun c1_ => ?_)
          · have hM := it_t c1_ hM
            refine st_iload hR dX3_worth_90 4 rfl (pc' := 92) rfl ?_
            refine st_aload_n hR dX3_worth_92 1 rfl rfl (pc' := 93) rfl ?_
            refine st_alen hR dX3_worth_93 1 8 0 rfl rfl rfl (v := 6) rfl (pc' := 94) rfl ?_
            refine st_icmp_ge hR dX3_worth_94 (tgt := 104) (by decide) (pc' := 97) rfl (fun c_ => ?_) (fun c_ => ?_)
            · have hM := it_t c_ hM
              refine st_iconst hR dX3_worth_104 (v := 0) rfl (pc' := 105) rfl ?_
              exact st_lv hR [0, 1, 3] rfl (J105 _ _ _ hM)
            · have hM := it_f c_ hM
              refine st_aload_n hR dX3_worth_97 1 rfl rfl (pc' := 98) rfl ?_
              refine st_iload hR dX3_worth_98 4 rfl (pc' := 100) rfl ?_
              obtain ⟨hin_, hM⟩ := g_in_e hM
              refine st_iald hR dX3_worth_100 1 8 rfl rfl hin_ (v := v_facts (ix l4_1)) rfl (pc' := 101) rfl ?_
              refine st_goto hR dX3_worth_101 (tgt := 105) (by decide) ?_
              exact st_lv hR [0, 1, 3] rfl (J105 _ _ _ hM)
          · have hM := it_f c1_ hM
            refine st_sw_case hR dX3_worth_34 2 (x0 := 2) (by decide) (by decide) rfl (tgt := 109) (by decide) (fun c2_ => ?_) (fun c2_ => ?_)
            · have hM := it_t c2_ hM
              refine st_aload_n hR dX3_worth_109 0 rfl rfl (pc' := 110) rfl ?_
              refine st_get hR dX3_worth_110 fg_X3_23_3_3 0 0 rfl rfl rfl (pc' := 113) rfl ?_
              refine st_iload hR dX3_worth_113 4 rfl (pc' := 115) rfl ?_
              obtain ⟨hin_, hM⟩ := g_in_e hM
              refine st_iald hR dX3_worth_115 0 4 rfl rfl hin_ (v := la_values (ix l4_1)) rfl (pc' := 116) rfl ?_
              refine st_if_ne hR dX3_worth_116 (tgt := 123) (by decide) (pc' := 119) rfl (fun c_ => ?_) (fun c_ => ?_)
              · have hM := it_f c_ hM
                refine st_iconst hR dX3_worth_123 (v := 0) rfl (pc' := 124) rfl ?_
                exact st_lv hR [0, 1, 3] rfl (J124 _ _ _ hM)
              · have hM := it_t c_ hM
                refine st_iconst hR dX3_worth_119 (v := 1) rfl (pc' := 120) rfl ?_
                refine st_goto hR dX3_worth_120 (tgt := 124) (by decide) ?_
                exact st_lv hR [0, 1, 3] rfl (J124 _ _ _ hM)
            · have hM := it_f c2_ hM
              refine st_sw_case hR dX3_worth_34 3 (x0 := 3) (by decide) (by decide) rfl (tgt := 128) (by decide) (fun c3_ => ?_) (fun c3_ => ?_)
              · have hM := it_t c3_ hM
                refine st_aload_n hR dX3_worth_128 0 rfl rfl (pc' := 129) rfl ?_
                refine st_get hR dX3_worth_129 fg_X3_23_3_3 0 0 rfl rfl rfl (pc' := 132) rfl ?_
                refine st_iload hR dX3_worth_132 4 rfl (pc' := 134) rfl ?_
                obtain ⟨hin_, hM⟩ := g_in_e hM
                refine st_iald hR dX3_worth_134 0 4 rfl rfl hin_ (v := la_values (ix l4_1)) rfl (pc' := 135) rfl ?_
                refine st_if_eq hR dX3_worth_135 (tgt := 152) (by decide) (pc' := 138) rfl (fun c_ => ?_) (fun c_ => ?_)
                · have hM := it_t c_ hM
                  exact st_lv hR [0, 1, 3] rfl (J152 _ _ hM)
                · have hM := it_f c_ hM
                  refine st_aload_n hR dX3_worth_138 0 rfl rfl (pc' := 139) rfl ?_
                  refine st_get hR dX3_worth_139 fg_X3_23_3_3 0 0 rfl rfl rfl (pc' := 142) rfl ?_
                  refine st_iload hR dX3_worth_142 5 rfl (pc' := 144) rfl ?_
                  obtain ⟨hin_, hM⟩ := g_in_e hM
                  refine st_iald hR dX3_worth_144 0 4 rfl rfl hin_ (v := la_values (ix l5_1)) rfl (pc' := 145) rfl ?_
                  refine st_if_eq hR dX3_worth_145 (tgt := 152) (by decide) (pc' := 148) rfl (fun c_ => ?_) (fun c_ => ?_)
                  · have hM := it_t c_ hM
                    exact st_lv hR [0, 1, 3] rfl (J152 _ _ hM)
                  · have hM := it_f c_ hM
                    refine st_iconst hR dX3_worth_148 (v := 1) rfl (pc' := 149) rfl ?_
                    refine st_goto hR dX3_worth_149 (tgt := 153) (by decide) ?_
                    exact st_lv hR [0, 1, 3] rfl (J153 _ _ _ hM)
              · have hM := it_f c3_ hM
                refine st_sw_case hR dX3_worth_34 4 (x0 := 4) (by decide) (by decide) rfl (tgt := 157) (by decide) (fun c4_ => ?_) (fun c4_ => ?_)
                · have hM := it_t c4_ hM
                  refine st_aload_n hR dX3_worth_157 0 rfl rfl (pc' := 158) rfl ?_
                  refine st_get hR dX3_worth_158 fg_X3_23_3_3 0 0 rfl rfl rfl (pc' := 161) rfl ?_
                  refine st_iload hR dX3_worth_161 4 rfl (pc' := 163) rfl ?_
                  obtain ⟨hin_, hM⟩ := g_in_e hM
                  refine st_iald hR dX3_worth_163 0 4 rfl rfl hin_ (v := la_values (ix l4_1)) rfl (pc' := 164) rfl ?_
                  refine st_if_ne hR dX3_worth_164 (tgt := 177) (by decide) (pc' := 167) rfl (fun c_ => ?_) (fun c_ => ?_)
                  · have hM := it_f c_ hM
                    exact st_lv hR [0, 1, 3] rfl (J177 _ _ hM)
                  · have hM := it_t c_ hM
                    refine st_aload_n hR dX3_worth_167 0 rfl rfl (pc' := 168) rfl ?_
                    refine st_get hR dX3_worth_168 fg_X3_23_3_3 0 0 rfl rfl rfl (pc' := 171) rfl ?_
                    refine st_iload hR dX3_worth_171 5 rfl (pc' := 173) rfl ?_
                    obtain ⟨hin_, hM⟩ := g_in_e hM
                    refine st_iald hR dX3_worth_173 0 4 rfl rfl hin_ (v := la_values (ix l5_1)) rfl (pc' := 174) rfl ?_
                    refine st_if_eq hR dX3_worth_174 (tgt := 181) (by decide) (pc' := 177) rfl (fun c_ => ?_) (fun c_ => ?_)
                    · have hM := it_t c_ hM
                      refine st_iconst hR dX3_worth_181 (v := 0) rfl (pc' := 182) rfl ?_
                      exact st_lv hR [0, 1, 3] rfl (J182 _ _ _ hM)
                    · have hM := it_f c_ hM
                      exact st_lv hR [0, 1, 3] rfl (J177 _ _ hM)
                · have hM := it_f c4_ hM
                  refine st_sw_case hR dX3_worth_34 5 (x0 := 5) (by decide) (by decide) rfl (tgt := 186) (by decide) (fun c5_ => ?_) (fun c5_ => ?_)
                  · have hM := it_t c5_ hM
                    refine st_aload_n hR dX3_worth_186 0 rfl rfl (pc' := 187) rfl ?_
                    refine st_get hR dX3_worth_187 fg_X3_23_3_3 0 0 rfl rfl rfl (pc' := 190) rfl ?_
                    refine st_iload hR dX3_worth_190 4 rfl (pc' := 192) rfl ?_
                    obtain ⟨hin_, hM⟩ := g_in_e hM
                    refine st_iald hR dX3_worth_192 0 4 rfl rfl hin_ (v := la_values (ix l4_1)) rfl (pc' := 193) rfl ?_
                    refine st_aload_n hR dX3_worth_193 0 rfl rfl (pc' := 194) rfl ?_
                    refine st_get hR dX3_worth_194 fg_X3_23_3_3 0 0 rfl rfl rfl (pc' := 197) rfl ?_
                    refine st_iload hR dX3_worth_197 5 rfl (pc' := 199) rfl ?_
                    obtain ⟨hin_, hM⟩ := g_in_e hM
                    refine st_iald hR dX3_worth_199 0 4 rfl rfl hin_ (v := la_values (ix l5_1)) rfl (pc' := 200) rfl ?_
                    refine st_icmp_ge hR dX3_worth_200 (tgt := 207) (by decide) (pc' := 203) rfl (fun c_ => ?_) (fun c_ => ?_)
                    · have hM := it_t c_ hM
                      refine st_iconst hR dX3_worth_207 (v := 0) rfl (pc' := 208) rfl ?_
                      exact st_lv hR [0, 1, 3] rfl (J208 _ _ _ hM)
                    · have hM := it_f c_ hM
                      refine st_iconst hR dX3_worth_203 (v := 1) rfl (pc' := 204) rfl ?_
                      refine st_goto hR dX3_worth_204 (tgt := 208) (by decide) ?_
                      exact st_lv hR [0, 1, 3] rfl (J208 _ _ _ hM)
                  · have hM := it_f c5_ hM
                    refine st_sw_case hR dX3_worth_34 6 (x0 := 6) (by decide) (by decide) rfl (tgt := 212) (by decide) (fun c6_ => ?_) (fun c6_ => ?_)
                    · have hM := it_t c6_ hM
                      refine st_aload_n hR dX3_worth_212 0 rfl rfl (pc' := 213) rfl ?_
                      refine st_get hR dX3_worth_213 fg_X3_23_3_3 0 0 rfl rfl rfl (pc' := 216) rfl ?_
                      refine st_iload hR dX3_worth_216 4 rfl (pc' := 218) rfl ?_
                      obtain ⟨hin_, hM⟩ := g_in_e hM
                      refine st_iald hR dX3_worth_218 0 4 rfl rfl hin_ (v := la_values (ix l4_1)) rfl (pc' := 219) rfl ?_
                      refine st_aload_n hR dX3_worth_219 0 rfl rfl (pc' := 220) rfl ?_
                      refine st_get hR dX3_worth_220 fg_X3_23_3_3 0 0 rfl rfl rfl (pc' := 223) rfl ?_
                      refine st_iload hR dX3_worth_223 5 rfl (pc' := 225) rfl ?_
                      obtain ⟨hin_, hM⟩ := g_in_e hM
                      refine st_iald hR dX3_worth_225 0 4 rfl rfl hin_ (v := la_values (ix l5_1)) rfl (pc' := 226) rfl ?_
                      refine st_icmp_ne hR dX3_worth_226 (tgt := 233) (by decide) (pc' := 229) rfl (fun c_ => ?_) (fun c_ => ?_)
                      · have hM := it_f c_ hM
                        refine st_iconst hR dX3_worth_233 (v := 0) rfl (pc' := 234) rfl ?_
                        exact st_lv hR [0, 1, 3] rfl (J234 _ _ _ hM)
                      · have hM := it_t c_ hM
                        refine st_iconst hR dX3_worth_229 (v := 1) rfl (pc' := 230) rfl ?_
                        refine st_goto hR dX3_worth_230 (tgt := 234) (by decide) ?_
                        exact st_lv hR [0, 1, 3] rfl (J234 _ _ _ hM)
                    · have hM := it_f c6_ hM
                      refine st_sw_case hR dX3_worth_34 7 (x0 := 7) (by decide) (by decide) rfl (tgt := 238) (by decide) (fun c7_ => ?_) (fun c7_ => ?_)
                      · have hM := it_t c7_ hM
                        refine st_aload_n hR dX3_worth_238 0 rfl rfl (pc' := 239) rfl ?_
                        refine st_get hR dX3_worth_239 fg_X3_23_3_3 0 0 rfl rfl rfl (pc' := 242) rfl ?_
                        refine st_iload hR dX3_worth_242 4 rfl (pc' := 244) rfl ?_
                        obtain ⟨hin_, hM⟩ := g_in_e hM
                        refine st_iald hR dX3_worth_244 0 4 rfl rfl hin_ (v := la_values (ix l4_1)) rfl (pc' := 245) rfl ?_
                        refine st_aload_n hR dX3_worth_245 0 rfl rfl (pc' := 246) rfl ?_
                        refine st_get hR dX3_worth_246 fg_X3_23_3_3 0 0 rfl rfl rfl (pc' := 249) rfl ?_
                        refine st_iload hR dX3_worth_249 5 rfl (pc' := 251) rfl ?_
                        obtain ⟨hin_, hM⟩ := g_in_e hM
                        refine st_iald hR dX3_worth_251 0 4 rfl rfl hin_ (v := la_values (ix l5_1)) rfl (pc' := 252) rfl ?_
                        refine st_iadd hR dX3_worth_252 (pc' := 253) rfl ?_
                        refine st_topi (fun l2_1 e_ => ?_)
                        have hM := lt_e e_ hM
                        refine st_istore_n hR dX3_worth_253 rfl (Nat.le_of_ble_eq_true rfl) [1, 2, 0, 3, 4, 5] (lv' := [(0, .ref (q_la 0)), (1, .ref (q_v 8)), (2, .int l2_1), (3, .int l3), (4, .int l4_1), (5, .int l5_1)]) rfl (pc' := 254) rfl ?_
                        refine st_goto hR dX3_worth_254 (tgt := 292) (by decide) ?_
                        exact st_lv hR [0, 1, 2, 3] rfl (J292 _ _ _ hM)
                      · have hM := it_f c7_ hM
                        refine st_sw_case hR dX3_worth_34 8 (x0 := 8) (by decide) (by decide) rfl (tgt := 257) (by decide) (fun c8_ => ?_) (fun c8_ => ?_)
                        · have hM := it_t c8_ hM
                          refine st_aload_n hR dX3_worth_257 0 rfl rfl (pc' := 258) rfl ?_
                          refine st_get hR dX3_worth_258 fg_X3_23_3_3 0 0 rfl rfl rfl (pc' := 261) rfl ?_
                          refine st_iload hR dX3_worth_261 4 rfl (pc' := 263) rfl ?_
                          obtain ⟨hin_, hM⟩ := g_in_e hM
                          refine st_iald hR dX3_worth_263 0 4 rfl rfl hin_ (v := la_values (ix l4_1)) rfl (pc' := 264) rfl ?_
                          refine st_aload_n hR dX3_worth_264 0 rfl rfl (pc' := 265) rfl ?_
                          refine st_get hR dX3_worth_265 fg_X3_23_3_3 0 0 rfl rfl rfl (pc' := 268) rfl ?_
                          refine st_iload hR dX3_worth_268 5 rfl (pc' := 270) rfl ?_
                          obtain ⟨hin_, hM⟩ := g_in_e hM
                          refine st_iald hR dX3_worth_270 0 4 rfl rfl hin_ (v := la_values (ix l5_1)) rfl (pc' := 271) rfl ?_
                          refine st_isub hR dX3_worth_271 (pc' := 272) rfl ?_
                          refine st_topi (fun l2_2 e_ => ?_)
                          have hM := lt_e e_ hM
                          refine st_istore_n hR dX3_worth_272 rfl (Nat.le_of_ble_eq_true rfl) [1, 2, 0, 3, 4, 5] (lv' := [(0, .ref (q_la 0)), (1, .ref (q_v 8)), (2, .int l2_2), (3, .int l3), (4, .int l4_1), (5, .int l5_1)]) rfl (pc' := 273) rfl ?_
                          refine st_goto hR dX3_worth_273 (tgt := 292) (by decide) ?_
                          exact st_lv hR [0, 1, 2, 3] rfl (J292 _ _ _ hM)
                        · have hM := it_f c8_ hM
                          have z0_ := sw_ne c0_ (k := 0) (by decide)
                          have z1_ := sw_ne c1_ (k := 1) (by decide)
                          have z2_ := sw_ne c2_ (k := 2) (by decide)
                          have z3_ := sw_ne c3_ (k := 3) (by decide)
                          have z4_ := sw_ne c4_ (k := 4) (by decide)
                          have z5_ := sw_ne c5_ (k := 5) (by decide)
                          have z6_ := sw_ne c6_ (k := 6) (by decide)
                          have z7_ := sw_ne c7_ (k := 7) (by decide)
                          have z8_ := sw_ne c8_ (k := 8) (by decide)
                          refine st_sw_def hR dX3_worth_34 (tgt := 276) (by decide) (by omega) ?_
                          refine st_aload_n hR dX3_worth_276 0 rfl rfl (pc' := 277) rfl ?_
                          refine st_get hR dX3_worth_277 fg_X3_23_3_3 0 0 rfl rfl rfl (pc' := 280) rfl ?_
                          refine st_iload hR dX3_worth_280 4 rfl (pc' := 282) rfl ?_
                          obtain ⟨hin_, hM⟩ := g_in_e hM
                          refine st_iald hR dX3_worth_282 0 4 rfl rfl hin_ (v := la_values (ix l4_1)) rfl (pc' := 283) rfl ?_
                          refine st_aload_n hR dX3_worth_283 0 rfl rfl (pc' := 284) rfl ?_
                          refine st_get hR dX3_worth_284 fg_X3_23_3_3 0 0 rfl rfl rfl (pc' := 287) rfl ?_
                          refine st_iload hR dX3_worth_287 5 rfl (pc' := 289) rfl ?_
                          obtain ⟨hin_, hM⟩ := g_in_e hM
                          refine st_iald hR dX3_worth_289 0 4 rfl rfl hin_ (v := la_values (ix l5_1)) rfl (pc' := 290) rfl ?_
                          refine st_imul hR dX3_worth_290 (pc' := 291) rfl ?_
                          refine st_topi (fun l2_3 e_ => ?_)
                          have hM := lt_e e_ hM
                          refine st_istore_n hR dX3_worth_291 rfl (Nat.le_of_ble_eq_true rfl) [1, 2, 0, 3, 4, 5] (lv' := [(0, .ref (q_la 0)), (1, .ref (q_v 8)), (2, .int l2_3), (3, .int l3), (4, .int l4_1), (5, .int l5_1)]) rfl (pc' := 292) rfl ?_
                          exact st_lv hR [0, 1, 2, 3] rfl (J292 _ _ _ hM)
  refine st_iconst hR dX3_worth_0 (v := 0) rfl (pc' := 1) rfl ?_
  refine st_istore_n hR dX3_worth_1 rfl (Nat.le_of_ble_eq_true rfl) [1, 2, 0] (lv' := [(0, .ref (q_la 0)), (1, .ref (q_v 8)), (2, .int 0)]) rfl (pc' := 2) rfl ?_
  refine st_iconst hR dX3_worth_2 (v := 0) rfl (pc' := 3) rfl ?_
  refine st_istore_n hR dX3_worth_3 rfl (Nat.le_of_ble_eq_true rfl) [1, 2, 3, 0] (lv' := [(0, .ref (q_la 0)), (1, .ref (q_v 8)), (2, .int 0), (3, .int 0)]) rfl (pc' := 4) rfl ?_
  exact L4 FU _ _ _ hM
set_option maxHeartbeats 16000000 in
set_option maxRecDepth 100000 in
theorem k_X8_put {l : Launch} {G : GG} {q_t : Nat → Nat} {t_length t_at t_place t_number t_sign t_end : Int32} {t_word : Int64} {t_signs : Nat → Int32} {l1 : Int64} {o_t_signs : Nat → Int32} {o_t_length : Int32} (hM : f_X8_put t_signs t_length l1 = some (o_t_signs, o_t_length)) : MC l G yX8_put cX8_put 6 none (RM 0) [.ref (q_t 0), .long l1] [wX8 G q_t t_signs t_length t_at t_place t_word t_number t_sign t_end] none [wX8 G q_t o_t_signs o_t_length t_at t_place t_word t_number t_sign t_end] := by
  refine MC.of pn_X8 (Nat.le_of_ble_eq_true rfl) (fun K hR hret => ?_)
  have hR : Rl l G RX8 cX8_put 6 (RM 0) K := hR
  show K [wX8 G q_t t_signs t_length t_at t_place t_word t_number t_sign t_end] [(0, .ref (q_t 0)), (1, .long l1)] 0 []
  have L3 : ∀ (n3 : Nat) (t_signs : Nat → Int32) (t_length : Int32) (l1 : Int64) (l3 : Int32), f_X8_put_L3   n3 t_signs t_length l1 l3 = some (o_t_signs, o_t_length) → K [wX8 G q_t t_signs t_length t_at t_place t_word t_number t_sign t_end] [(0, .ref (q_t 0)), (1, .long l1), (3, .int l3)] 3 [] := by
    intro n3
    induction n3 with
    | zero => intro t_signs t_length l1 l3 hM; exact no_some hM
    | succ n3 ih3 =>
      have J82 : ∀ (t_signs : Nat → Int32) (t_length : Int32) (l1 : Int64) (l3 : Int32), f_X8_put_B82  (f_X8_put_L3   n3)  t_signs t_length l1 l3 = some (o_t_signs, o_t_length) → K [wX8 G q_t t_signs t_length t_at t_place t_word t_number t_sign t_end] [(0, .ref (q_t 0)), (1, .long l1), (3, .int l3)] 82 [] := by
        intro t_signs t_length l1 l3 hM
        obtain ⟨l3_1, e_⟩ : ∃ y : Int32, y = l3 + (-8) := ⟨_, rfl⟩
        refine st_iinc hR dX8_put_82 (Nat.le_of_ble_eq_true rfl) 2 [1, 2, 0] (v := l3_1) rfl (by rw [e_]; rfl) (lv' := [(0, .ref (q_t 0)), (1, .long l1), (3, .int l3_1)]) rfl (pc' := 85) rfl ?_
        have hM := lt_e e_ hM
        refine st_goto hR dX8_put_85 (tgt := 3) (by decide) ?_
        exact ih3 _ _ _ _ hM
      have J43 : ∀ (t_signs : Nat → Int32) (t_length : Int32) (l1 : Int64) (l3 : Int32) (l4 : Int32) (s0 : Int32), f_X8_put_B43  (f_X8_put_L3   n3)  t_signs t_length l1 l3 l4 s0 = some (o_t_signs, o_t_length) → K [wX8 G q_t t_signs t_length t_at t_place t_word t_number t_sign t_end] [(0, .ref (q_t 0)), (1, .long l1), (3, .int l3), (4, .int l4)] 43 [.int s0] := by
        intro t_signs t_length l1 l3 l4 s0 hM
        refine st_istore hR dX8_put_43 (Nat.le_of_ble_eq_true rfl) [1, 2, 3, 4, 0] (lv' := [(0, .ref (q_t 0)), (1, .long l1), (3, .int l3), (4, .int l4), (5, .int s0)]) rfl (pc' := 45) rfl ?_
        refine st_iload hR dX8_put_45 4 rfl (pc' := 47) rfl ?_
        refine st_if_eq hR dX8_put_47 (tgt := 82) (by decide) (pc' := 50) rfl (fun c_ => ?_) (fun c_ => ?_)
        · have hM := it_t c_ hM
          exact st_lv hR [0, 1, 2] rfl (J82 _ _ _ _ hM)
        · have hM := it_f c_ hM
          refine st_aload_n hR dX8_put_50 0 rfl rfl (pc' := 51) rfl ?_
          refine st_get hR dX8_put_51 fg_X8_15_7_1 0 0 rfl rfl rfl (pc' := 54) rfl ?_
          refine st_sipush hR dX8_put_54 (v := 1000) rfl (pc' := 57) rfl ?_
          refine st_icmp_ge hR dX8_put_57 (tgt := 82) (by decide) (pc' := 60) rfl (fun c_ => ?_) (fun c_ => ?_)
          · have hM := it_t c_ hM
            exact st_lv hR [0, 1, 2] rfl (J82 _ _ _ _ hM)
          · have hM := it_f c_ hM
            refine st_aload_n hR dX8_put_60 0 rfl rfl (pc' := 61) rfl ?_
            refine st_get hR dX8_put_61 fg_X8_11_7_0 0 0 rfl rfl rfl (pc' := 64) rfl ?_
            refine st_aload_n hR dX8_put_64 0 rfl rfl (pc' := 65) rfl ?_
            refine st_get hR dX8_put_65 fg_X8_15_7_1 0 0 rfl rfl rfl (pc' := 68) rfl ?_
            refine st_iload hR dX8_put_68 3 rfl (pc' := 70) rfl ?_
            refine st_i2c hR dX8_put_70 (pc' := 71) rfl ?_
            obtain ⟨hin_, hM⟩ := g_in_e hM
            refine st_cast hR dX8_put_71 0 1 rfl rfl hin_ (ix := (ix t_length)) rfl (pc' := 72) rfl (fun t_signs_1 => [wX8 G q_t t_signs_1 t_length t_at t_place t_word t_number t_sign t_end]) (fun _ => rfl) (fun t_signs_1 e_ => ?_)
            have hM := lt_e e_ hM
            refine st_aload_n hR dX8_put_72 0 rfl rfl (pc' := 73) rfl ?_
            refine st_dup hR dX8_put_73 (pc' := 74) rfl rfl ?_
            refine st_get hR dX8_put_74 fg_X8_15_7_1 0 0 rfl rfl rfl (pc' := 77) rfl ?_
            refine st_iconst hR dX8_put_77 (v := 1) rfl (pc' := 78) rfl ?_
            refine st_iadd hR dX8_put_78 (pc' := 79) rfl ?_
            refine st_topi (fun t_length_1 e_ => ?_)
            have hM := lt_e e_ hM
            refine st_put hR dX8_put_79 fp_X8_15_7_1 0 0 rfl rfl (Nat.le_of_ble_eq_true rfl) rfl rfl (pc' := 82) rfl (W' := [wX8 G q_t t_signs_1 t_length_1 t_at t_place t_word t_number t_sign t_end]) rfl ?_
            exact st_lv hR [0, 1, 2] rfl (J82 _ _ _ _ hM)
      have J38 : ∀ (t_signs : Nat → Int32) (t_length : Int32) (l1 : Int64) (l3 : Int32) (l4 : Int32), f_X8_put_B38  (f_X8_put_L3   n3)  t_signs t_length l1 l3 l4 = some (o_t_signs, o_t_length) → K [wX8 G q_t t_signs t_length t_at t_place t_word t_number t_sign t_end] [(0, .ref (q_t 0)), (1, .long l1), (3, .int l3), (4, .int l4)] 38 [] := by
        intro t_signs t_length l1 l3 l4 hM
        refine st_iconst hR dX8_put_38 (v := 1) rfl (pc' := 39) rfl ?_
        refine st_goto hR dX8_put_39 (tgt := 43) (by decide) ?_
        exact J43 _ _ _ _ _ _ hM
      have J42 : ∀ (t_signs : Nat → Int32) (t_length : Int32) (l1 : Int64) (l3 : Int32) (l4 : Int32), f_X8_put_B42  (f_X8_put_L3   n3)  t_signs t_length l1 l3 l4 = some (o_t_signs, o_t_length) → K [wX8 G q_t t_signs t_length t_at t_place t_word t_number t_sign t_end] [(0, .ref (q_t 0)), (1, .long l1), (3, .int l3), (4, .int l4)] 42 [] := by
        intro t_signs t_length l1 l3 l4 hM
        refine st_iconst hR dX8_put_42 (v := 0) rfl (pc' := 43) rfl ?_
        exact J43 _ _ _ _ _ _ hM
      intro t_signs t_length l1 l3 hM
      have hM : f_X8_put_L3b  (f_X8_put_L3   n3)  t_signs t_length l1 l3 = some (o_t_signs, o_t_length) := hM
      refine st_iload_n hR dX8_put_3 2 rfl rfl (pc' := 4) rfl ?_
      refine st_if_lt hR dX8_put_4 (tgt := 88) (by decide) (pc' := 7) rfl (fun c_ => ?_) (fun c_ => ?_)
      · have hM := it_t c_ hM
        cases hM
        exact hret _ _ dX8_put_88 ro_v
      · have hM := it_f c_ hM
        refine st_lload_n hR dX8_put_7 1 rfl rfl (pc' := 8) rfl ?_
        refine st_iload_n hR dX8_put_8 2 rfl rfl (pc' := 9) rfl ?_
        refine st_lushr hR dX8_put_9 (pc' := 10) rfl ?_
        refine st_l2i hR dX8_put_10 (pc' := 11) rfl ?_
        refine st_sipush hR dX8_put_11 (v := 255) rfl (pc' := 14) rfl ?_
        refine st_iand hR dX8_put_14 (pc' := 15) rfl ?_
        refine st_topi (fun l4_1 e_ => ?_)
        have hM := lt_e e_ hM
        refine st_istore hR dX8_put_15 (Nat.le_of_ble_eq_true rfl) [1, 2, 3, 0] (lv' := [(0, .ref (q_t 0)), (1, .long l1), (3, .int l3), (4, .int l4_1)]) rfl (pc' := 17) rfl ?_
        refine st_iload hR dX8_put_17 3 rfl (pc' := 19) rfl ?_
        refine st_bipush hR dX8_put_19 (v := 10) rfl (pc' := 21) rfl ?_
        refine st_icmp_eq hR dX8_put_21 (tgt := 38) (by decide) (pc' := 24) rfl (fun c_ => ?_) (fun c_ => ?_)
        · have hM := it_t c_ hM
          exact J38 _ _ _ _ _ hM
        · have hM := it_f c_ hM
          refine st_iload hR dX8_put_24 3 rfl (pc' := 26) rfl ?_
          refine st_bipush hR dX8_put_26 (v := 32) rfl (pc' := 28) rfl ?_
          refine st_icmp_lt hR dX8_put_28 (tgt := 42) (by decide) (pc' := 31) rfl (fun c_ => ?_) (fun c_ => ?_)
          · have hM := it_t c_ hM
            exact J42 _ _ _ _ _ hM
          · have hM := it_f c_ hM
            refine st_iload hR dX8_put_31 3 rfl (pc' := 33) rfl ?_
            refine st_bipush hR dX8_put_33 (v := 126) rfl (pc' := 35) rfl ?_
            refine st_icmp_gt hR dX8_put_35 (tgt := 42) (by decide) (pc' := 38) rfl (fun c_ => ?_) (fun c_ => ?_)
            · have hM := it_t c_ hM
              exact J42 _ _ _ _ _ hM
            · have hM := it_f c_ hM
              exact J38 _ _ _ _ _ hM
  refine st_bipush hR dX8_put_0 (v := 56) rfl (pc' := 2) rfl ?_
  refine st_istore_n hR dX8_put_2 rfl (Nat.le_of_ble_eq_true rfl) [1, 2, 0] (lv' := [(0, .ref (q_t 0)), (1, .long l1), (3, .int 56)]) rfl (pc' := 3) rfl ?_
  exact L3 FU _ _ _ _ hM
set_option maxHeartbeats 16000000 in
set_option maxRecDepth 100000 in
theorem k_X8_clear {l : Launch} {G : GG} {q_t : Nat → Nat} {t_length t_at t_place t_number t_sign t_end : Int32} {t_word : Int64} {t_signs : Nat → Int32}  {o_t_length : Int32} (hM : f_X8_clear t_length = some o_t_length) : MC l G yX8_clear cX8_clear 1 none (RM 0) [.ref (q_t 0)] [wX8 G q_t t_signs t_length t_at t_place t_word t_number t_sign t_end] none [wX8 G q_t t_signs o_t_length t_at t_place t_word t_number t_sign t_end] := by
  refine MC.of pn_X8 (Nat.le_of_ble_eq_true rfl) (fun K hR hret => ?_)
  have hR : Rl l G RX8 cX8_clear 1 (RM 0) K := hR
  show K [wX8 G q_t t_signs t_length t_at t_place t_word t_number t_sign t_end] [(0, .ref (q_t 0))] 0 []
  refine st_aload_n hR dX8_clear_0 0 rfl rfl (pc' := 1) rfl ?_
  refine st_iconst hR dX8_clear_1 (v := 0) rfl (pc' := 2) rfl ?_
  refine st_put hR dX8_clear_2 fp_X8_15_7_1 0 0 rfl rfl (Nat.le_of_ble_eq_true rfl) rfl rfl (pc' := 5) rfl (W' := [wX8 G q_t t_signs 0 t_at t_place t_word t_number t_sign t_end]) rfl ?_
  cases hM
  exact hret _ _ dX8_clear_5 ro_v
set_option maxHeartbeats 16000000 in
set_option maxRecDepth 100000 in
theorem k_X8_next {l : Launch} {G : GG} {q_t : Nat → Nat} {t_length t_at t_place t_number t_sign t_end : Int32} {t_word : Int64} {t_signs : Nat → Int32}  {o_t_at : Int32} {o_t_place : Int32} {o_t_word : Int64} {o_t_number : Int32} {o_t_sign : Int32} {o_t_end : Int32} (hM : f_X8_next t_signs t_length t_at t_place t_word t_number t_sign t_end = some (o_t_at, o_t_place, o_t_word, o_t_number, o_t_sign, o_t_end)) : MC l G yX8_next cX8_next 4 none (RM 0) [.ref (q_t 0)] [wX8 G q_t t_signs t_length t_at t_place t_word t_number t_sign t_end] none [wX8 G q_t t_signs t_length o_t_at o_t_place o_t_word o_t_number o_t_sign o_t_end] := by
  refine MC.of pn_X8 (Nat.le_of_ble_eq_true rfl) (fun K hR hret => ?_)
  have hR : Rl l G RX8 cX8_next 4 (RM 0) K := hR
  show K [wX8 G q_t t_signs t_length t_at t_place t_word t_number t_sign t_end] [(0, .ref (q_t 0))] 0 []
  have J398 : ∀ (t_at : Int32) (t_place : Int32) (t_word : Int64) (t_number : Int32) (t_sign : Int32) (t_end : Int32) (s0 : Int32), f_X8_next_B398  t_signs t_length t_at t_place t_word t_number t_sign t_end s0 = some (o_t_at, o_t_place, o_t_word, o_t_number, o_t_sign, o_t_end) → K [wX8 G q_t t_signs t_length t_at t_place t_word t_number t_sign t_end] [(0, .ref (q_t 0))] 398 [.int s0, .ref (q_t 0)] := by
    intro t_at t_place t_word t_number t_sign t_end s0 hM
    obtain ⟨hz_, hM⟩ := g_c_e hM
    refine st_put hR dX8_next_398 fp_X8_39_7_6 0 0 rfl rfl (Nat.le_of_ble_eq_true rfl) (nc_c hz_) (fc_c hz_) (pc' := 401) rfl (W' := [wX8 G q_t t_signs t_length t_at t_place t_word t_number s0 t_end]) rfl ?_
    refine st_aload_n hR dX8_next_401 0 rfl rfl (pc' := 402) rfl ?_
    refine st_dup hR dX8_next_402 (pc' := 403) rfl rfl ?_
    refine st_get hR dX8_next_403 fg_X8_19_7_2 0 0 rfl rfl rfl (pc' := 406) rfl ?_
    refine st_iconst hR dX8_next_406 (v := 1) rfl (pc' := 407) rfl ?_
    refine st_iadd hR dX8_next_407 (pc' := 408) rfl ?_
    refine st_topi (fun t_at_1 e_ => ?_)
    have hM := lt_e e_ hM
    refine st_put hR dX8_next_408 fp_X8_19_7_2 0 0 rfl rfl (Nat.le_of_ble_eq_true rfl) rfl rfl (pc' := 411) rfl (W' := [wX8 G q_t t_signs t_length t_at_1 t_place t_word t_number s0 t_end]) rfl ?_
    cases hM
    exact hret _ _ dX8_next_411 ro_v
  have J387 : ∀ (t_at : Int32) (t_place : Int32) (t_word : Int64) (t_number : Int32) (t_sign : Int32) (t_end : Int32) (l2 : Int32) (s0 : Int32), f_X8_next_B387  t_signs t_length t_at t_place t_word t_number t_sign t_end l2 s0 = some (o_t_at, o_t_place, o_t_word, o_t_number, o_t_sign, o_t_end) → K [wX8 G q_t t_signs t_length t_at t_place t_word t_number t_sign t_end] [(0, .ref (q_t 0)), (2, .int l2)] 387 [.int s0] := by
    intro t_at t_place t_word t_number t_sign t_end l2 s0 hM
    refine st_istore_n hR dX8_next_387 rfl (Nat.le_of_ble_eq_true rfl) [1, 2, 0] (lv' := [(0, .ref (q_t 0)), (2, .int l2), (3, .int s0)]) rfl (pc' := 388) rfl ?_
    refine st_aload_n hR dX8_next_388 0 rfl rfl (pc' := 389) rfl ?_
    refine st_iload_n hR dX8_next_389 2 rfl rfl (pc' := 390) rfl ?_
    refine st_if_eq hR dX8_next_390 (tgt := 397) (by decide) (pc' := 393) rfl (fun c_ => ?_) (fun c_ => ?_)
    · have hM := it_t c_ hM
      refine st_iconst hR dX8_next_397 (v := 0) rfl (pc' := 398) rfl ?_
      exact st_lv hR [0] rfl (J398 _ _ _ _ _ _ _ hM)
    · have hM := it_f c_ hM
      refine st_iload_n hR dX8_next_393 1 rfl rfl (pc' := 394) rfl ?_
      refine st_goto hR dX8_next_394 (tgt := 398) (by decide) ?_
      exact st_lv hR [0] rfl (J398 _ _ _ _ _ _ _ hM)
  have J382 : ∀ (t_at : Int32) (t_place : Int32) (t_word : Int64) (t_number : Int32) (t_sign : Int32) (t_end : Int32) (l2 : Int32), f_X8_next_B382  t_signs t_length t_at t_place t_word t_number t_sign t_end l2 = some (o_t_at, o_t_place, o_t_word, o_t_number, o_t_sign, o_t_end) → K [wX8 G q_t t_signs t_length t_at t_place t_word t_number t_sign t_end] [(0, .ref (q_t 0)), (2, .int l2)] 382 [] := by
    intro t_at t_place t_word t_number t_sign t_end l2 hM
    refine st_iconst hR dX8_next_382 (v := 1) rfl (pc' := 383) rfl ?_
    refine st_goto hR dX8_next_383 (tgt := 387) (by decide) ?_
    exact J387 _ _ _ _ _ _ _ _ hM
  have J279 : ∀ (t_at : Int32) (t_place : Int32) (t_word : Int64) (t_number : Int32) (t_sign : Int32) (t_end : Int32) (l1 : Int32), f_X8_next_B279  t_signs t_length t_at t_place t_word t_number t_sign t_end l1 = some (o_t_at, o_t_place, o_t_word, o_t_number, o_t_sign, o_t_end) → K [wX8 G q_t t_signs t_length t_at t_place t_word t_number t_sign t_end] [(0, .ref (q_t 0)), (1, .int l1)] 279 [] := by
    intro t_at t_place t_word t_number t_sign t_end l1 hM
    refine st_aload_n hR dX8_next_279 0 rfl rfl (pc' := 280) rfl ?_
    refine st_get hR dX8_next_280 fg_X8_19_7_2 0 0 rfl rfl rfl (pc' := 283) rfl ?_
    refine st_aload_n hR dX8_next_283 0 rfl rfl (pc' := 284) rfl ?_
    refine st_get hR dX8_next_284 fg_X8_25_7_3 0 0 rfl rfl rfl (pc' := 287) rfl ?_
    refine st_icmp_le hR dX8_next_287 (tgt := 313) (by decide) (pc' := 290) rfl (fun c_ => ?_) (fun c_ => ?_)
    · have hM := it_t c_ hM
      refine st_aload_n hR dX8_next_313 0 rfl rfl (pc' := 314) rfl ?_
      refine st_get hR dX8_next_314 fg_X8_19_7_2 0 0 rfl rfl rfl (pc' := 317) rfl ?_
      refine st_aload_n hR dX8_next_317 0 rfl rfl (pc' := 318) rfl ?_
      refine st_get hR dX8_next_318 fg_X8_15_7_1 0 0 rfl rfl rfl (pc' := 321) rfl ?_
      refine st_icmp_ge hR dX8_next_321 (tgt := 411) (by decide) (pc' := 324) rfl (fun c_ => ?_) (fun c_ => ?_)
      · have hM := it_t c_ hM
        cases hM
        exact hret _ _ dX8_next_411 ro_v
      · have hM := it_f c_ hM
        refine st_aload_n hR dX8_next_324 0 rfl rfl (pc' := 325) rfl ?_
        refine st_get hR dX8_next_325 fg_X8_11_7_0 0 0 rfl rfl rfl (pc' := 328) rfl ?_
        refine st_aload_n hR dX8_next_328 0 rfl rfl (pc' := 329) rfl ?_
        refine st_get hR dX8_next_329 fg_X8_19_7_2 0 0 rfl rfl rfl (pc' := 332) rfl ?_
        obtain ⟨hin_, hM⟩ := g_in_e hM
        refine st_cald hR dX8_next_332 0 1 rfl rfl hin_ (v := t_signs (ix t_at)) rfl (pc' := 333) rfl ?_
        refine st_topi (fun l2_1 e_ => ?_)
        have hM := lt_e e_ hM
        refine st_istore_n hR dX8_next_333 rfl (Nat.le_of_ble_eq_true rfl) [1, 2, 0] (lv' := [(0, .ref (q_t 0)), (1, .int l1), (2, .int l2_1)]) rfl (pc' := 334) rfl ?_
        refine st_iload_n hR dX8_next_334 2 rfl rfl (pc' := 335) rfl ?_
        refine st_bipush hR dX8_next_335 (v := 40) rfl (pc' := 337) rfl ?_
        refine st_icmp_eq hR dX8_next_337 (tgt := 382) (by decide) (pc' := 340) rfl (fun c_ => ?_) (fun c_ => ?_)
        · have hM := it_t c_ hM
          exact st_lv hR [0, 2] rfl (J382 _ _ _ _ _ _ _ hM)
        · have hM := it_f c_ hM
          refine st_iload_n hR dX8_next_340 2 rfl rfl (pc' := 341) rfl ?_
          refine st_bipush hR dX8_next_341 (v := 41) rfl (pc' := 343) rfl ?_
          refine st_icmp_eq hR dX8_next_343 (tgt := 382) (by decide) (pc' := 346) rfl (fun c_ => ?_) (fun c_ => ?_)
          · have hM := it_t c_ hM
            exact st_lv hR [0, 2] rfl (J382 _ _ _ _ _ _ _ hM)
          · have hM := it_f c_ hM
            refine st_iload_n hR dX8_next_346 2 rfl rfl (pc' := 347) rfl ?_
            refine st_bipush hR dX8_next_347 (v := 60) rfl (pc' := 349) rfl ?_
            refine st_icmp_eq hR dX8_next_349 (tgt := 382) (by decide) (pc' := 352) rfl (fun c_ => ?_) (fun c_ => ?_)
            · have hM := it_t c_ hM
              exact st_lv hR [0, 2] rfl (J382 _ _ _ _ _ _ _ hM)
            · have hM := it_f c_ hM
              refine st_iload_n hR dX8_next_352 2 rfl rfl (pc' := 353) rfl ?_
              refine st_bipush hR dX8_next_353 (v := 61) rfl (pc' := 355) rfl ?_
              refine st_icmp_eq hR dX8_next_355 (tgt := 382) (by decide) (pc' := 358) rfl (fun c_ => ?_) (fun c_ => ?_)
              · have hM := it_t c_ hM
                exact st_lv hR [0, 2] rfl (J382 _ _ _ _ _ _ _ hM)
              · have hM := it_f c_ hM
                refine st_iload_n hR dX8_next_358 2 rfl rfl (pc' := 359) rfl ?_
                refine st_bipush hR dX8_next_359 (v := 43) rfl (pc' := 361) rfl ?_
                refine st_icmp_eq hR dX8_next_361 (tgt := 382) (by decide) (pc' := 364) rfl (fun c_ => ?_) (fun c_ => ?_)
                · have hM := it_t c_ hM
                  exact st_lv hR [0, 2] rfl (J382 _ _ _ _ _ _ _ hM)
                · have hM := it_f c_ hM
                  refine st_iload_n hR dX8_next_364 2 rfl rfl (pc' := 365) rfl ?_
                  refine st_bipush hR dX8_next_365 (v := 45) rfl (pc' := 367) rfl ?_
                  refine st_icmp_eq hR dX8_next_367 (tgt := 382) (by decide) (pc' := 370) rfl (fun c_ => ?_) (fun c_ => ?_)
                  · have hM := it_t c_ hM
                    exact st_lv hR [0, 2] rfl (J382 _ _ _ _ _ _ _ hM)
                  · have hM := it_f c_ hM
                    refine st_iload_n hR dX8_next_370 2 rfl rfl (pc' := 371) rfl ?_
                    refine st_bipush hR dX8_next_371 (v := 42) rfl (pc' := 373) rfl ?_
                    refine st_icmp_eq hR dX8_next_373 (tgt := 382) (by decide) (pc' := 376) rfl (fun c_ => ?_) (fun c_ => ?_)
                    · have hM := it_t c_ hM
                      exact st_lv hR [0, 2] rfl (J382 _ _ _ _ _ _ _ hM)
                    · have hM := it_f c_ hM
                      refine st_iload_n hR dX8_next_376 2 rfl rfl (pc' := 377) rfl ?_
                      refine st_bipush hR dX8_next_377 (v := 59) rfl (pc' := 379) rfl ?_
                      refine st_icmp_ne hR dX8_next_379 (tgt := 386) (by decide) (pc' := 382) rfl (fun c_ => ?_) (fun c_ => ?_)
                      · have hM := it_f c_ hM
                        refine st_iconst hR dX8_next_386 (v := 0) rfl (pc' := 387) rfl ?_
                        exact st_lv hR [0, 2] rfl (J387 _ _ _ _ _ _ _ _ hM)
                      · have hM := it_t c_ hM
                        exact st_lv hR [0, 2] rfl (J382 _ _ _ _ _ _ _ hM)
    · have hM := it_f c_ hM
      refine st_aload_n hR dX8_next_290 0 rfl rfl (pc' := 291) rfl ?_
      refine st_aload_n hR dX8_next_291 0 rfl rfl (pc' := 292) rfl ?_
      refine st_get hR dX8_next_292 fg_X8_19_7_2 0 0 rfl rfl rfl (pc' := 295) rfl ?_
      refine st_aload_n hR dX8_next_295 0 rfl rfl (pc' := 296) rfl ?_
      refine st_get hR dX8_next_296 fg_X8_25_7_3 0 0 rfl rfl rfl (pc' := 299) rfl ?_
      refine st_isub hR dX8_next_299 (pc' := 300) rfl ?_
      refine st_iconst hR dX8_next_300 (v := 4) rfl (pc' := 301) rfl ?_
      refine st_icmp_gt hR dX8_next_301 (tgt := 308) (by decide) (pc' := 304) rfl (fun c_ => ?_) (fun c_ => ?_)
      · have hM := it_t c_ hM
        refine st_iconst hR dX8_next_308 (v := (-1)) (by decide) (pc' := 309) rfl ?_
        refine st_put hR dX8_next_309 fp_X8_36_7_5 0 0 rfl rfl (Nat.le_of_ble_eq_true rfl) rfl rfl (pc' := 312) rfl (W' := [wX8 G q_t t_signs t_length t_at t_place t_word (-1) t_sign t_end]) rfl ?_
        cases hM
        exact hret _ _ dX8_next_312 ro_v
      · have hM := it_f c_ hM
        refine st_iload_n hR dX8_next_304 1 rfl rfl (pc' := 305) rfl ?_
        refine st_goto hR dX8_next_305 (tgt := 309) (by decide) ?_
        refine st_put hR dX8_next_309 fp_X8_36_7_5 0 0 rfl rfl (Nat.le_of_ble_eq_true rfl) rfl rfl (pc' := 312) rfl (W' := [wX8 G q_t t_signs t_length t_at t_place t_word l1 t_sign t_end]) rfl ?_
        cases hM
        exact hret _ _ dX8_next_312 ro_v
  have L209 : ∀ (n209 : Nat) (t_at : Int32) (t_place : Int32) (t_word : Int64) (t_number : Int32) (t_sign : Int32) (t_end : Int32) (l1 : Int32), f_X8_next_L209  t_signs t_length n209 t_at t_place t_word t_number t_sign t_end l1 = some (o_t_at, o_t_place, o_t_word, o_t_number, o_t_sign, o_t_end) → K [wX8 G q_t t_signs t_length t_at t_place t_word t_number t_sign t_end] [(0, .ref (q_t 0)), (1, .int l1)] 209 [] := by
    intro n209
    induction n209 with
    | zero => intro t_at t_place t_word t_number t_sign t_end l1 hM; exact no_some hM
    | succ n209 ih209 =>
      intro t_at t_place t_word t_number t_sign t_end l1 hM
      have hM : f_X8_next_L209b  (f_X8_next_L209  t_signs t_length n209) t_signs t_length t_at t_place t_word t_number t_sign t_end l1 = some (o_t_at, o_t_place, o_t_word, o_t_number, o_t_sign, o_t_end) := hM
      refine st_aload_n hR dX8_next_209 0 rfl rfl (pc' := 210) rfl ?_
      refine st_get hR dX8_next_210 fg_X8_19_7_2 0 0 rfl rfl rfl (pc' := 213) rfl ?_
      refine st_aload_n hR dX8_next_213 0 rfl rfl (pc' := 214) rfl ?_
      refine st_get hR dX8_next_214 fg_X8_15_7_1 0 0 rfl rfl rfl (pc' := 217) rfl ?_
      refine st_icmp_ge hR dX8_next_217 (tgt := 279) (by decide) (pc' := 220) rfl (fun c_ => ?_) (fun c_ => ?_)
      · have hM := it_t c_ hM
        exact J279 _ _ _ _ _ _ _ hM
      · have hM := it_f c_ hM
        refine st_aload_n hR dX8_next_220 0 rfl rfl (pc' := 221) rfl ?_
        refine st_get hR dX8_next_221 fg_X8_11_7_0 0 0 rfl rfl rfl (pc' := 224) rfl ?_
        refine st_aload_n hR dX8_next_224 0 rfl rfl (pc' := 225) rfl ?_
        refine st_get hR dX8_next_225 fg_X8_19_7_2 0 0 rfl rfl rfl (pc' := 228) rfl ?_
        obtain ⟨hin_, hM⟩ := g_in_e hM
        refine st_cald hR dX8_next_228 0 1 rfl rfl hin_ (v := t_signs (ix t_at)) rfl (pc' := 229) rfl ?_
        refine st_bipush hR dX8_next_229 (v := 48) rfl (pc' := 231) rfl ?_
        refine st_icmp_lt hR dX8_next_231 (tgt := 279) (by decide) (pc' := 234) rfl (fun c_ => ?_) (fun c_ => ?_)
        · have hM := it_t c_ hM
          exact J279 _ _ _ _ _ _ _ hM
        · have hM := it_f c_ hM
          refine st_aload_n hR dX8_next_234 0 rfl rfl (pc' := 235) rfl ?_
          refine st_get hR dX8_next_235 fg_X8_11_7_0 0 0 rfl rfl rfl (pc' := 238) rfl ?_
          refine st_aload_n hR dX8_next_238 0 rfl rfl (pc' := 239) rfl ?_
          refine st_get hR dX8_next_239 fg_X8_19_7_2 0 0 rfl rfl rfl (pc' := 242) rfl ?_
          obtain ⟨hin_, hM⟩ := g_in_e hM
          refine st_cald hR dX8_next_242 0 1 rfl rfl hin_ (v := t_signs (ix t_at)) rfl (pc' := 243) rfl ?_
          refine st_bipush hR dX8_next_243 (v := 57) rfl (pc' := 245) rfl ?_
          refine st_icmp_gt hR dX8_next_245 (tgt := 279) (by decide) (pc' := 248) rfl (fun c_ => ?_) (fun c_ => ?_)
          · have hM := it_t c_ hM
            exact J279 _ _ _ _ _ _ _ hM
          · have hM := it_f c_ hM
            refine st_iload_n hR dX8_next_248 1 rfl rfl (pc' := 249) rfl ?_
            refine st_bipush hR dX8_next_249 (v := 10) rfl (pc' := 251) rfl ?_
            refine st_imul hR dX8_next_251 (pc' := 252) rfl ?_
            refine st_aload_n hR dX8_next_252 0 rfl rfl (pc' := 253) rfl ?_
            refine st_get hR dX8_next_253 fg_X8_11_7_0 0 0 rfl rfl rfl (pc' := 256) rfl ?_
            refine st_aload_n hR dX8_next_256 0 rfl rfl (pc' := 257) rfl ?_
            refine st_get hR dX8_next_257 fg_X8_19_7_2 0 0 rfl rfl rfl (pc' := 260) rfl ?_
            obtain ⟨hin_, hM⟩ := g_in_e hM
            refine st_cald hR dX8_next_260 0 1 rfl rfl hin_ (v := t_signs (ix t_at)) rfl (pc' := 261) rfl ?_
            refine st_bipush hR dX8_next_261 (v := 48) rfl (pc' := 263) rfl ?_
            refine st_isub hR dX8_next_263 (pc' := 264) rfl ?_
            refine st_iadd hR dX8_next_264 (pc' := 265) rfl ?_
            refine st_topi (fun l1_1 e_ => ?_)
            have hM := lt_e e_ hM
            refine st_istore_n hR dX8_next_265 rfl (Nat.le_of_ble_eq_true rfl) [1, 0] (lv' := [(0, .ref (q_t 0)), (1, .int l1_1)]) rfl (pc' := 266) rfl ?_
            refine st_aload_n hR dX8_next_266 0 rfl rfl (pc' := 267) rfl ?_
            refine st_dup hR dX8_next_267 (pc' := 268) rfl rfl ?_
            refine st_get hR dX8_next_268 fg_X8_19_7_2 0 0 rfl rfl rfl (pc' := 271) rfl ?_
            refine st_iconst hR dX8_next_271 (v := 1) rfl (pc' := 272) rfl ?_
            refine st_iadd hR dX8_next_272 (pc' := 273) rfl ?_
            refine st_topi (fun t_at_1 e_ => ?_)
            have hM := lt_e e_ hM
            refine st_put hR dX8_next_273 fp_X8_19_7_2 0 0 rfl rfl (Nat.le_of_ble_eq_true rfl) rfl rfl (pc' := 276) rfl (W' := [wX8 G q_t t_signs t_length t_at_1 t_place t_word t_number t_sign t_end]) rfl ?_
            refine st_goto hR dX8_next_276 (tgt := 209) (by decide) ?_
            exact ih209 _ _ _ _ _ _ _ hM
  have J169 : ∀ (t_at : Int32) (t_place : Int32) (t_word : Int64) (t_number : Int32) (t_sign : Int32) (t_end : Int32), f_X8_next_B169  t_signs t_length t_at t_place t_word t_number t_sign t_end = some (o_t_at, o_t_place, o_t_word, o_t_number, o_t_sign, o_t_end) → K [wX8 G q_t t_signs t_length t_at t_place t_word t_number t_sign t_end] [(0, .ref (q_t 0))] 169 [] := by
    intro t_at t_place t_word t_number t_sign t_end hM
    refine st_aload_n hR dX8_next_169 0 rfl rfl (pc' := 170) rfl ?_
    refine st_get hR dX8_next_170 fg_X8_19_7_2 0 0 rfl rfl rfl (pc' := 173) rfl ?_
    refine st_aload_n hR dX8_next_173 0 rfl rfl (pc' := 174) rfl ?_
    refine st_get hR dX8_next_174 fg_X8_25_7_3 0 0 rfl rfl rfl (pc' := 177) rfl ?_
    refine st_icmp_le hR dX8_next_177 (tgt := 207) (by decide) (pc' := 180) rfl (fun c_ => ?_) (fun c_ => ?_)
    · have hM := it_t c_ hM
      refine st_iconst hR dX8_next_207 (v := 0) rfl (pc' := 208) rfl ?_
      refine st_istore_n hR dX8_next_208 rfl (Nat.le_of_ble_eq_true rfl) [1, 0] (lv' := [(0, .ref (q_t 0)), (1, .int 0)]) rfl (pc' := 209) rfl ?_
      exact L209 FU _ _ _ _ _ _ _ hM
    · have hM := it_f c_ hM
      refine st_aload_n hR dX8_next_180 0 rfl rfl (pc' := 181) rfl ?_
      refine st_aload_n hR dX8_next_181 0 rfl rfl (pc' := 182) rfl ?_
      refine st_get hR dX8_next_182 fg_X8_19_7_2 0 0 rfl rfl rfl (pc' := 185) rfl ?_
      refine st_aload_n hR dX8_next_185 0 rfl rfl (pc' := 186) rfl ?_
      refine st_get hR dX8_next_186 fg_X8_25_7_3 0 0 rfl rfl rfl (pc' := 189) rfl ?_
      refine st_isub hR dX8_next_189 (pc' := 190) rfl ?_
      refine st_bipush hR dX8_next_190 (v := 8) rfl (pc' := 192) rfl ?_
      refine st_icmp_gt hR dX8_next_192 (tgt := 202) (by decide) (pc' := 195) rfl (fun c_ => ?_) (fun c_ => ?_)
      · have hM := it_t c_ hM
        refine st_lconst hR dX8_next_202 (v := 0) rfl (pc' := 203) rfl ?_
        refine st_put hR dX8_next_203 fp_X8_32_7_4 0 0 rfl rfl (Nat.le_of_ble_eq_true rfl) rfl rfl (pc' := 206) rfl (W' := [wX8 G q_t t_signs t_length t_at t_place 0 t_number t_sign t_end]) rfl ?_
        cases hM
        exact hret _ _ dX8_next_206 ro_v
      · have hM := it_f c_ hM
        refine st_aload_n hR dX8_next_195 0 rfl rfl (pc' := 196) rfl ?_
        refine st_get hR dX8_next_196 fg_X8_32_7_4 0 0 rfl rfl rfl (pc' := 199) rfl ?_
        refine st_goto hR dX8_next_199 (tgt := 203) (by decide) ?_
        refine st_put hR dX8_next_203 fp_X8_32_7_4 0 0 rfl rfl (Nat.le_of_ble_eq_true rfl) rfl rfl (pc' := 206) rfl (W' := [wX8 G q_t t_signs t_length t_at t_place t_word t_number t_sign t_end]) rfl ?_
        cases hM
        exact hret _ _ dX8_next_206 ro_v
  have L95 : ∀ (n95 : Nat) (t_at : Int32) (t_place : Int32) (t_word : Int64) (t_number : Int32) (t_sign : Int32) (t_end : Int32), f_X8_next_L95  t_signs t_length n95 t_at t_place t_word t_number t_sign t_end = some (o_t_at, o_t_place, o_t_word, o_t_number, o_t_sign, o_t_end) → K [wX8 G q_t t_signs t_length t_at t_place t_word t_number t_sign t_end] [(0, .ref (q_t 0))] 95 [] := by
    intro n95
    induction n95 with
    | zero => intro t_at t_place t_word t_number t_sign t_end hM; exact no_some hM
    | succ n95 ih95 =>
      intro t_at t_place t_word t_number t_sign t_end hM
      have hM : f_X8_next_L95b  (f_X8_next_L95  t_signs t_length n95) t_signs t_length t_at t_place t_word t_number t_sign t_end = some (o_t_at, o_t_place, o_t_word, o_t_number, o_t_sign, o_t_end) := hM
      refine st_aload_n hR dX8_next_95 0 rfl rfl (pc' := 96) rfl ?_
      refine st_get hR dX8_next_96 fg_X8_19_7_2 0 0 rfl rfl rfl (pc' := 99) rfl ?_
      refine st_aload_n hR dX8_next_99 0 rfl rfl (pc' := 100) rfl ?_
      refine st_get hR dX8_next_100 fg_X8_15_7_1 0 0 rfl rfl rfl (pc' := 103) rfl ?_
      refine st_icmp_ge hR dX8_next_103 (tgt := 169) (by decide) (pc' := 106) rfl (fun c_ => ?_) (fun c_ => ?_)
      · have hM := it_t c_ hM
        exact J169 _ _ _ _ _ _ hM
      · have hM := it_f c_ hM
        refine st_aload_n hR dX8_next_106 0 rfl rfl (pc' := 107) rfl ?_
        refine st_get hR dX8_next_107 fg_X8_11_7_0 0 0 rfl rfl rfl (pc' := 110) rfl ?_
        refine st_aload_n hR dX8_next_110 0 rfl rfl (pc' := 111) rfl ?_
        refine st_get hR dX8_next_111 fg_X8_19_7_2 0 0 rfl rfl rfl (pc' := 114) rfl ?_
        obtain ⟨hin_, hM⟩ := g_in_e hM
        refine st_cald hR dX8_next_114 0 1 rfl rfl hin_ (v := t_signs (ix t_at)) rfl (pc' := 115) rfl ?_
        refine st_bipush hR dX8_next_115 (v := 97) rfl (pc' := 117) rfl ?_
        refine st_icmp_lt hR dX8_next_117 (tgt := 169) (by decide) (pc' := 120) rfl (fun c_ => ?_) (fun c_ => ?_)
        · have hM := it_t c_ hM
          exact J169 _ _ _ _ _ _ hM
        · have hM := it_f c_ hM
          refine st_aload_n hR dX8_next_120 0 rfl rfl (pc' := 121) rfl ?_
          refine st_get hR dX8_next_121 fg_X8_11_7_0 0 0 rfl rfl rfl (pc' := 124) rfl ?_
          refine st_aload_n hR dX8_next_124 0 rfl rfl (pc' := 125) rfl ?_
          refine st_get hR dX8_next_125 fg_X8_19_7_2 0 0 rfl rfl rfl (pc' := 128) rfl ?_
          obtain ⟨hin_, hM⟩ := g_in_e hM
          refine st_cald hR dX8_next_128 0 1 rfl rfl hin_ (v := t_signs (ix t_at)) rfl (pc' := 129) rfl ?_
          refine st_bipush hR dX8_next_129 (v := 122) rfl (pc' := 131) rfl ?_
          refine st_icmp_gt hR dX8_next_131 (tgt := 169) (by decide) (pc' := 134) rfl (fun c_ => ?_) (fun c_ => ?_)
          · have hM := it_t c_ hM
            exact J169 _ _ _ _ _ _ hM
          · have hM := it_f c_ hM
            refine st_aload_n hR dX8_next_134 0 rfl rfl (pc' := 135) rfl ?_
            refine st_aload_n hR dX8_next_135 0 rfl rfl (pc' := 136) rfl ?_
            refine st_get hR dX8_next_136 fg_X8_32_7_4 0 0 rfl rfl rfl (pc' := 139) rfl ?_
            refine st_bipush hR dX8_next_139 (v := 8) rfl (pc' := 141) rfl ?_
            refine st_lshl hR dX8_next_141 (pc' := 142) rfl ?_
            refine st_aload_n hR dX8_next_142 0 rfl rfl (pc' := 143) rfl ?_
            refine st_get hR dX8_next_143 fg_X8_11_7_0 0 0 rfl rfl rfl (pc' := 146) rfl ?_
            refine st_aload_n hR dX8_next_146 0 rfl rfl (pc' := 147) rfl ?_
            refine st_get hR dX8_next_147 fg_X8_19_7_2 0 0 rfl rfl rfl (pc' := 150) rfl ?_
            obtain ⟨hin_, hM⟩ := g_in_e hM
            refine st_cald hR dX8_next_150 0 1 rfl rfl hin_ (v := t_signs (ix t_at)) rfl (pc' := 151) rfl ?_
            refine st_i2l hR dX8_next_151 (pc' := 152) rfl ?_
            refine st_lor hR dX8_next_152 (pc' := 153) rfl ?_
            refine st_topl (fun t_word_1 e_ => ?_)
            have hM := lt_e e_ hM
            refine st_put hR dX8_next_153 fp_X8_32_7_4 0 0 rfl rfl (Nat.le_of_ble_eq_true rfl) rfl rfl (pc' := 156) rfl (W' := [wX8 G q_t t_signs t_length t_at t_place t_word_1 t_number t_sign t_end]) rfl ?_
            refine st_aload_n hR dX8_next_156 0 rfl rfl (pc' := 157) rfl ?_
            refine st_dup hR dX8_next_157 (pc' := 158) rfl rfl ?_
            refine st_get hR dX8_next_158 fg_X8_19_7_2 0 0 rfl rfl rfl (pc' := 161) rfl ?_
            refine st_iconst hR dX8_next_161 (v := 1) rfl (pc' := 162) rfl ?_
            refine st_iadd hR dX8_next_162 (pc' := 163) rfl ?_
            refine st_topi (fun t_at_1 e_ => ?_)
            have hM := lt_e e_ hM
            refine st_put hR dX8_next_163 fp_X8_19_7_2 0 0 rfl rfl (Nat.le_of_ble_eq_true rfl) rfl rfl (pc' := 166) rfl (W' := [wX8 G q_t t_signs t_length t_at_1 t_place t_word_1 t_number t_sign t_end]) rfl ?_
            refine st_goto hR dX8_next_166 (tgt := 95) (by decide) ?_
            exact ih95 _ _ _ _ _ _ hM
  have J77 : ∀ (t_at : Int32) (t_place : Int32) (t_word : Int64) (t_number : Int32) (t_sign : Int32) (t_end : Int32) (s0 : Int32), f_X8_next_B77  t_signs t_length t_at t_place t_word t_number t_sign t_end s0 = some (o_t_at, o_t_place, o_t_word, o_t_number, o_t_sign, o_t_end) → K [wX8 G q_t t_signs t_length t_at t_place t_word t_number t_sign t_end] [(0, .ref (q_t 0))] 77 [.int s0, .ref (q_t 0)] := by
    intro t_at t_place t_word t_number t_sign t_end s0 hM
    obtain ⟨hz_, hM⟩ := g_z_e hM
    refine st_put hR dX8_next_77 fp_X8_28_7_7 0 0 rfl rfl (Nat.le_of_ble_eq_true rfl) (nz_01 hz_) (fz_01 hz_) (pc' := 80) rfl (W' := [wX8 G q_t t_signs t_length t_at t_place t_word t_number t_sign s0]) rfl ?_
    refine st_aload_n hR dX8_next_80 0 rfl rfl (pc' := 81) rfl ?_
    refine st_lconst hR dX8_next_81 (v := 0) rfl (pc' := 82) rfl ?_
    refine st_put hR dX8_next_82 fp_X8_32_7_4 0 0 rfl rfl (Nat.le_of_ble_eq_true rfl) rfl rfl (pc' := 85) rfl (W' := [wX8 G q_t t_signs t_length t_at t_place 0 t_number t_sign s0]) rfl ?_
    refine st_aload_n hR dX8_next_85 0 rfl rfl (pc' := 86) rfl ?_
    refine st_iconst hR dX8_next_86 (v := (-1)) (by decide) (pc' := 87) rfl ?_
    refine st_put hR dX8_next_87 fp_X8_36_7_5 0 0 rfl rfl (Nat.le_of_ble_eq_true rfl) rfl rfl (pc' := 90) rfl (W' := [wX8 G q_t t_signs t_length t_at t_place 0 (-1) t_sign s0]) rfl ?_
    refine st_aload_n hR dX8_next_90 0 rfl rfl (pc' := 91) rfl ?_
    refine st_iconst hR dX8_next_91 (v := 0) rfl (pc' := 92) rfl ?_
    refine st_put hR dX8_next_92 fp_X8_39_7_6 0 0 rfl rfl (Nat.le_of_ble_eq_true rfl) (by decide) (by decide) (pc' := 95) rfl (W' := [wX8 G q_t t_signs t_length t_at t_place 0 (-1) 0 s0]) rfl ?_
    exact L95 FU _ _ _ _ _ _ hM
  have J52 : ∀ (t_at : Int32) (t_place : Int32) (t_word : Int64) (t_number : Int32) (t_sign : Int32) (t_end : Int32), f_X8_next_B52  t_signs t_length t_at t_place t_word t_number t_sign t_end = some (o_t_at, o_t_place, o_t_word, o_t_number, o_t_sign, o_t_end) → K [wX8 G q_t t_signs t_length t_at t_place t_word t_number t_sign t_end] [(0, .ref (q_t 0))] 52 [] := by
    intro t_at t_place t_word t_number t_sign t_end hM
    refine st_aload_n hR dX8_next_52 0 rfl rfl (pc' := 53) rfl ?_
    refine st_aload_n hR dX8_next_53 0 rfl rfl (pc' := 54) rfl ?_
    refine st_get hR dX8_next_54 fg_X8_19_7_2 0 0 rfl rfl rfl (pc' := 57) rfl ?_
    refine st_put hR dX8_next_57 fp_X8_25_7_3 0 0 rfl rfl (Nat.le_of_ble_eq_true rfl) rfl rfl (pc' := 60) rfl (W' := [wX8 G q_t t_signs t_length t_at t_at t_word t_number t_sign t_end]) rfl ?_
    refine st_aload_n hR dX8_next_60 0 rfl rfl (pc' := 61) rfl ?_
    refine st_aload_n hR dX8_next_61 0 rfl rfl (pc' := 62) rfl ?_
    refine st_get hR dX8_next_62 fg_X8_19_7_2 0 0 rfl rfl rfl (pc' := 65) rfl ?_
    refine st_aload_n hR dX8_next_65 0 rfl rfl (pc' := 66) rfl ?_
    refine st_get hR dX8_next_66 fg_X8_15_7_1 0 0 rfl rfl rfl (pc' := 69) rfl ?_
    refine st_icmp_lt hR dX8_next_69 (tgt := 76) (by decide) (pc' := 72) rfl (fun c_ => ?_) (fun c_ => ?_)
    · have hM := it_t c_ hM
      refine st_iconst hR dX8_next_76 (v := 0) rfl (pc' := 77) rfl ?_
      exact J77 _ _ _ _ _ _ _ hM
    · have hM := it_f c_ hM
      refine st_iconst hR dX8_next_72 (v := 1) rfl (pc' := 73) rfl ?_
      refine st_goto hR dX8_next_73 (tgt := 77) (by decide) ?_
      exact J77 _ _ _ _ _ _ _ hM
  have L0 : ∀ (n0 : Nat) (t_at : Int32) (t_place : Int32) (t_word : Int64) (t_number : Int32) (t_sign : Int32) (t_end : Int32), f_X8_next_L0  t_signs t_length n0 t_at t_place t_word t_number t_sign t_end = some (o_t_at, o_t_place, o_t_word, o_t_number, o_t_sign, o_t_end) → K [wX8 G q_t t_signs t_length t_at t_place t_word t_number t_sign t_end] [(0, .ref (q_t 0))] 0 [] := by
    intro n0
    induction n0 with
    | zero => intro t_at t_place t_word t_number t_sign t_end hM; exact no_some hM
    | succ n0 ih0 =>
      have J39 : ∀ (t_at : Int32) (t_place : Int32) (t_word : Int64) (t_number : Int32) (t_sign : Int32) (t_end : Int32), f_X8_next_B39  (f_X8_next_L0  t_signs t_length n0) t_signs t_length t_at t_place t_word t_number t_sign t_end = some (o_t_at, o_t_place, o_t_word, o_t_number, o_t_sign, o_t_end) → K [wX8 G q_t t_signs t_length t_at t_place t_word t_number t_sign t_end] [(0, .ref (q_t 0))] 39 [] := by
        intro t_at t_place t_word t_number t_sign t_end hM
        refine st_aload_n hR dX8_next_39 0 rfl rfl (pc' := 40) rfl ?_
        refine st_dup hR dX8_next_40 (pc' := 41) rfl rfl ?_
        refine st_get hR dX8_next_41 fg_X8_19_7_2 0 0 rfl rfl rfl (pc' := 44) rfl ?_
        refine st_iconst hR dX8_next_44 (v := 1) rfl (pc' := 45) rfl ?_
        refine st_iadd hR dX8_next_45 (pc' := 46) rfl ?_
        refine st_topi (fun t_at_1 e_ => ?_)
        have hM := lt_e e_ hM
        refine st_put hR dX8_next_46 fp_X8_19_7_2 0 0 rfl rfl (Nat.le_of_ble_eq_true rfl) rfl rfl (pc' := 49) rfl (W' := [wX8 G q_t t_signs t_length t_at_1 t_place t_word t_number t_sign t_end]) rfl ?_
        refine st_goto hR dX8_next_49 (tgt := 0) (by decide) ?_
        exact ih0 _ _ _ _ _ _ hM
      intro t_at t_place t_word t_number t_sign t_end hM
      have hM : f_X8_next_L0b  (f_X8_next_L0  t_signs t_length n0) t_signs t_length t_at t_place t_word t_number t_sign t_end = some (o_t_at, o_t_place, o_t_word, o_t_number, o_t_sign, o_t_end) := hM
      refine st_aload_n hR dX8_next_0 0 rfl rfl (pc' := 1) rfl ?_
      refine st_get hR dX8_next_1 fg_X8_19_7_2 0 0 rfl rfl rfl (pc' := 4) rfl ?_
      refine st_aload_n hR dX8_next_4 0 rfl rfl (pc' := 5) rfl ?_
      refine st_get hR dX8_next_5 fg_X8_15_7_1 0 0 rfl rfl rfl (pc' := 8) rfl ?_
      refine st_icmp_ge hR dX8_next_8 (tgt := 52) (by decide) (pc' := 11) rfl (fun c_ => ?_) (fun c_ => ?_)
      · have hM := it_t c_ hM
        exact J52 _ _ _ _ _ _ hM
      · have hM := it_f c_ hM
        refine st_aload_n hR dX8_next_11 0 rfl rfl (pc' := 12) rfl ?_
        refine st_get hR dX8_next_12 fg_X8_11_7_0 0 0 rfl rfl rfl (pc' := 15) rfl ?_
        refine st_aload_n hR dX8_next_15 0 rfl rfl (pc' := 16) rfl ?_
        refine st_get hR dX8_next_16 fg_X8_19_7_2 0 0 rfl rfl rfl (pc' := 19) rfl ?_
        obtain ⟨hin_, hM⟩ := g_in_e hM
        refine st_cald hR dX8_next_19 0 1 rfl rfl hin_ (v := t_signs (ix t_at)) rfl (pc' := 20) rfl ?_
        refine st_bipush hR dX8_next_20 (v := 10) rfl (pc' := 22) rfl ?_
        refine st_icmp_eq hR dX8_next_22 (tgt := 39) (by decide) (pc' := 25) rfl (fun c_ => ?_) (fun c_ => ?_)
        · have hM := it_t c_ hM
          exact J39 _ _ _ _ _ _ hM
        · have hM := it_f c_ hM
          refine st_aload_n hR dX8_next_25 0 rfl rfl (pc' := 26) rfl ?_
          refine st_get hR dX8_next_26 fg_X8_11_7_0 0 0 rfl rfl rfl (pc' := 29) rfl ?_
          refine st_aload_n hR dX8_next_29 0 rfl rfl (pc' := 30) rfl ?_
          refine st_get hR dX8_next_30 fg_X8_19_7_2 0 0 rfl rfl rfl (pc' := 33) rfl ?_
          obtain ⟨hin_, hM⟩ := g_in_e hM
          refine st_cald hR dX8_next_33 0 1 rfl rfl hin_ (v := t_signs (ix t_at)) rfl (pc' := 34) rfl ?_
          refine st_bipush hR dX8_next_34 (v := 32) rfl (pc' := 36) rfl ?_
          refine st_icmp_ne hR dX8_next_36 (tgt := 52) (by decide) (pc' := 39) rfl (fun c_ => ?_) (fun c_ => ?_)
          · have hM := it_f c_ hM
            exact J52 _ _ _ _ _ _ hM
          · have hM := it_t c_ hM
            exact J39 _ _ _ _ _ _ hM
  exact L0 FU _ _ _ _ _ _ hM
set_option maxHeartbeats 16000000 in
set_option maxRecDepth 100000 in
theorem k_X8_start {l : Launch} {G : GG} {q_t : Nat → Nat} {t_length t_at t_place t_number t_sign t_end : Int32} {t_word : Int64} {t_signs : Nat → Int32}  {o_t_at : Int32} {o_t_place : Int32} {o_t_word : Int64} {o_t_number : Int32} {o_t_sign : Int32} {o_t_end : Int32} (hM : f_X8_start t_signs t_length t_at t_place t_word t_number t_sign t_end = some (o_t_at, o_t_place, o_t_word, o_t_number, o_t_sign, o_t_end)) : MC l G yX8_start cX8_start 1 none (RM 1) [.ref (q_t 0)] [wX8 G q_t t_signs t_length t_at t_place t_word t_number t_sign t_end] none [wX8 G q_t t_signs t_length o_t_at o_t_place o_t_word o_t_number o_t_sign o_t_end] := by
  refine MC.of pn_X8 (Nat.le_of_ble_eq_true rfl) (fun K hR hret => ?_)
  have hR : Rl l G RX8 cX8_start 1 (RM 1) K := hR
  show K [wX8 G q_t t_signs t_length t_at t_place t_word t_number t_sign t_end] [(0, .ref (q_t 0))] 0 []
  refine st_aload_n hR dX8_start_0 0 rfl rfl (pc' := 1) rfl ?_
  refine st_iconst hR dX8_start_1 (v := 0) rfl (pc' := 2) rfl ?_
  refine st_put hR dX8_start_2 fp_X8_19_7_2 0 0 rfl rfl (Nat.le_of_ble_eq_true rfl) rfl rfl (pc' := 5) rfl (W' := [wX8 G q_t t_signs t_length 0 t_place t_word t_number t_sign t_end]) rfl ?_
  refine st_aload_n hR dX8_start_5 0 rfl rfl (pc' := 6) rfl ?_
  obtain ⟨⟨t_at_1, t_place_1, t_word_1, t_number_1, t_sign_1, t_end_1⟩, hc_, hM⟩ := bd_e hM
  refine st_callV hR (k_X8_next hc_) cf_X8_22 (rm_le (Nat.le_of_ble_eq_true rfl) (Nat.le_of_ble_eq_true rfl)) [0] rfl rfl rfl 0 0 7 8 rfl rfl rfl rfl (rest := []) rfl (Nat.le_of_ble_eq_true rfl) dX8_start_6 (pc' := 9) rfl (Wn := [wX8 G q_t t_signs t_length t_at_1 t_place_1 t_word_1 t_number_1 t_sign_1 t_end_1]) rfl ?_
  cases hM
  exact hret _ _ dX8_start_9 ro_v
set_option maxHeartbeats 16000000 in
set_option maxRecDepth 100000 in
theorem k_X5_named {l : Launch} {G : GG} {q_mt : Nat → Nat} {mt_farms mt_fences mt_shares mt_toothed : Int32} {mt_flock mt_dogs mt_hunger mt_fenced mt_heights mt_pacts mt_partner mt_often : Nat → Int32} {mt_names : Nat → Int64} {mt_feeding mt_going : Nat} {l1 : Int64} {o_r : Int32} (hM : f_X5_named mt_farms mt_names l1 = some o_r) : MC l G yX5_named cX5_named 4 (some .int) (RM 0) [.ref (q_mt 0), .long l1] [wX5 G q_mt mt_farms mt_fences mt_shares mt_names mt_flock mt_dogs mt_hunger mt_fenced mt_heights mt_pacts mt_partner mt_often mt_toothed mt_feeding mt_going] (some (.int o_r)) [wX5 G q_mt mt_farms mt_fences mt_shares mt_names mt_flock mt_dogs mt_hunger mt_fenced mt_heights mt_pacts mt_partner mt_often mt_toothed mt_feeding mt_going] := by
  refine MC.of pn_X5 (Nat.le_of_ble_eq_true rfl) (fun K hR hret => ?_)
  have hR : Rl l G RX5 cX5_named 4 (RM 0) K := hR
  show K [wX5 G q_mt mt_farms mt_fences mt_shares mt_names mt_flock mt_dogs mt_hunger mt_fenced mt_heights mt_pacts mt_partner mt_often mt_toothed mt_feeding mt_going] [(0, .ref (q_mt 0)), (1, .long l1)] 0 []
  have L2 : ∀ (n2 : Nat) (l1 : Int64) (l3 : Int32), f_X5_named_L2  mt_farms mt_names n2 l1 l3 = some o_r → K [wX5 G q_mt mt_farms mt_fences mt_shares mt_names mt_flock mt_dogs mt_hunger mt_fenced mt_heights mt_pacts mt_partner mt_often mt_toothed mt_feeding mt_going] [(0, .ref (q_mt 0)), (1, .long l1), (3, .int l3)] 2 [] := by
    intro n2
    induction n2 with
    | zero => intro l1 l3 hM; exact no_some hM
    | succ n2 ih2 =>
      intro l1 l3 hM
      have hM : f_X5_named_L2b  (f_X5_named_L2  mt_farms mt_names n2) mt_farms mt_names l1 l3 = some o_r := hM
      refine st_iload_n hR dX5_named_2 2 rfl rfl (pc' := 3) rfl ?_
      refine st_aload_n hR dX5_named_3 0 rfl rfl (pc' := 4) rfl ?_
      refine st_get hR dX5_named_4 fg_X5_50_5_0 0 0 rfl rfl rfl (pc' := 7) rfl ?_
      refine st_icmp_ge hR dX5_named_7 (tgt := 29) (by decide) (pc' := 10) rfl (fun c_ => ?_) (fun c_ => ?_)
      · have hM := it_t c_ hM
        refine st_iconst hR dX5_named_29 (v := (-1)) (by decide) (pc' := 30) rfl ?_
        cases hM
        exact hret _ _ dX5_named_30 (ro_i _)
      · have hM := it_f c_ hM
        refine st_aload_n hR dX5_named_10 0 rfl rfl (pc' := 11) rfl ?_
        refine st_get hR dX5_named_11 fg_X5_9_5_3 0 0 rfl rfl rfl (pc' := 14) rfl ?_
        refine st_iload_n hR dX5_named_14 2 rfl rfl (pc' := 15) rfl ?_
        obtain ⟨hin_, hM⟩ := g_in_e hM
        refine st_lald hR dX5_named_15 0 1 rfl rfl hin_ (v := mt_names (ix l3)) rfl (pc' := 16) rfl ?_
        refine st_lload_n hR dX5_named_16 1 rfl rfl (pc' := 17) rfl ?_
        refine st_lcmp hR dX5_named_17 (pc' := 18) rfl ?_
        refine st_if_ne hR dX5_named_18 (tgt := 23) (by decide) (pc' := 21) rfl (fun c_ => ?_) (fun c_ => ?_)
        · have hM := it_f c_ hM
          obtain ⟨l3_1, e_⟩ : ∃ y : Int32, y = l3 + 1 := ⟨_, rfl⟩
          refine st_iinc hR dX5_named_23 (Nat.le_of_ble_eq_true rfl) 2 [1, 2, 0] (v := l3_1) rfl (by rw [e_]; rfl) (lv' := [(0, .ref (q_mt 0)), (1, .long l1), (3, .int l3_1)]) rfl (pc' := 26) rfl ?_
          have hM := lt_e e_ hM
          refine st_goto hR dX5_named_26 (tgt := 2) (by decide) ?_
          exact ih2 _ _ hM
        · have hM := it_t c_ hM
          refine st_iload_n hR dX5_named_21 2 rfl rfl (pc' := 22) rfl ?_
          cases hM
          exact hret _ _ dX5_named_22 (ro_i _)
  refine st_iconst hR dX5_named_0 (v := 0) rfl (pc' := 1) rfl ?_
  refine st_istore_n hR dX5_named_1 rfl (Nat.le_of_ble_eq_true rfl) [1, 2, 0] (lv' := [(0, .ref (q_mt 0)), (1, .long l1), (3, .int 0)]) rfl (pc' := 2) rfl ?_
  exact L2 FU _ _ hM
set_option maxHeartbeats 16000000 in
set_option maxRecDepth 100000 in
theorem k_X5_addFarm {l : Launch} {G : GG} {q_mt : Nat → Nat} {mt_farms mt_fences mt_shares mt_toothed : Int32} {mt_flock mt_dogs mt_hunger mt_fenced mt_heights mt_pacts mt_partner mt_often : Nat → Int32} {mt_names : Nat → Int64} {mt_feeding mt_going : Nat} {l3 l4 l5 : Int32} {l1 : Int64} {o_mt_farms : Int32} {o_mt_names : Nat → Int64} {o_mt_flock : Nat → Int32} {o_mt_dogs : Nat → Int32} {o_mt_hunger : Nat → Int32} (hM : f_X5_addFarm mt_farms mt_names mt_flock mt_dogs mt_hunger l1 l3 l4 l5 = some (o_mt_farms, o_mt_names, o_mt_flock, o_mt_dogs, o_mt_hunger)) : MC l G yX5_addFarm cX5_addFarm 6 none (RM 0) [.ref (q_mt 0), .long l1, .int l3, .int l4, .int l5] [wX5 G q_mt mt_farms mt_fences mt_shares mt_names mt_flock mt_dogs mt_hunger mt_fenced mt_heights mt_pacts mt_partner mt_often mt_toothed mt_feeding mt_going] none [wX5 G q_mt o_mt_farms mt_fences mt_shares o_mt_names o_mt_flock o_mt_dogs o_mt_hunger mt_fenced mt_heights mt_pacts mt_partner mt_often mt_toothed mt_feeding mt_going] := by
  refine MC.of pn_X5 (Nat.le_of_ble_eq_true rfl) (fun K hR hret => ?_)
  have hR : Rl l G RX5 cX5_addFarm 6 (RM 0) K := hR
  show K [wX5 G q_mt mt_farms mt_fences mt_shares mt_names mt_flock mt_dogs mt_hunger mt_fenced mt_heights mt_pacts mt_partner mt_often mt_toothed mt_feeding mt_going] [(0, .ref (q_mt 0)), (1, .long l1), (3, .int l3), (4, .int l4), (5, .int l5)] 0 []
  refine st_aload_n hR dX5_addFarm_0 0 rfl rfl (pc' := 1) rfl ?_
  refine st_get hR dX5_addFarm_1 fg_X5_50_5_0 0 0 rfl rfl rfl (pc' := 4) rfl ?_
  refine st_bipush hR dX5_addFarm_4 (v := 6) rfl (pc' := 6) rfl ?_
  refine st_icmp_ge hR dX5_addFarm_6 (tgt := 61) (by decide) (pc' := 9) rfl (fun c_ => ?_) (fun c_ => ?_)
  · have hM := it_t c_ hM
    cases hM
    exact hret _ _ dX5_addFarm_61 ro_v
  · have hM := it_f c_ hM
    refine st_aload_n hR dX5_addFarm_9 0 rfl rfl (pc' := 10) rfl ?_
    refine st_get hR dX5_addFarm_10 fg_X5_9_5_3 0 0 rfl rfl rfl (pc' := 13) rfl ?_
    refine st_aload_n hR dX5_addFarm_13 0 rfl rfl (pc' := 14) rfl ?_
    refine st_get hR dX5_addFarm_14 fg_X5_50_5_0 0 0 rfl rfl rfl (pc' := 17) rfl ?_
    refine st_lload_n hR dX5_addFarm_17 1 rfl rfl (pc' := 18) rfl ?_
    obtain ⟨hin_, hM⟩ := g_in_e hM
    refine st_last hR dX5_addFarm_18 0 1 rfl rfl hin_ (ix := (ix mt_farms)) rfl (pc' := 19) rfl (fun mt_names_1 => [wX5 G q_mt mt_farms mt_fences mt_shares mt_names_1 mt_flock mt_dogs mt_hunger mt_fenced mt_heights mt_pacts mt_partner mt_often mt_toothed mt_feeding mt_going]) (fun _ => rfl) (fun mt_names_1 e_ => ?_)
    have hM := lt_e e_ hM
    refine st_aload_n hR dX5_addFarm_19 0 rfl rfl (pc' := 20) rfl ?_
    refine st_get hR dX5_addFarm_20 fg_X5_15_5_4 0 0 rfl rfl rfl (pc' := 23) rfl ?_
    refine st_aload_n hR dX5_addFarm_23 0 rfl rfl (pc' := 24) rfl ?_
    refine st_get hR dX5_addFarm_24 fg_X5_50_5_0 0 0 rfl rfl rfl (pc' := 27) rfl ?_
    refine st_iload_n hR dX5_addFarm_27 2 rfl rfl (pc' := 28) rfl ?_
    obtain ⟨hin_, hM⟩ := g_in_e hM
    refine st_iast hR dX5_addFarm_28 0 2 rfl rfl hin_ (ix := (ix mt_farms)) rfl (pc' := 29) rfl (fun mt_flock_1 => [wX5 G q_mt mt_farms mt_fences mt_shares mt_names_1 mt_flock_1 mt_dogs mt_hunger mt_fenced mt_heights mt_pacts mt_partner mt_often mt_toothed mt_feeding mt_going]) (fun _ => rfl) (fun mt_flock_1 e_ => ?_)
    have hM := lt_e e_ hM
    refine st_aload_n hR dX5_addFarm_29 0 rfl rfl (pc' := 30) rfl ?_
    refine st_get hR dX5_addFarm_30 fg_X5_19_5_5 0 0 rfl rfl rfl (pc' := 33) rfl ?_
    refine st_aload_n hR dX5_addFarm_33 0 rfl rfl (pc' := 34) rfl ?_
    refine st_get hR dX5_addFarm_34 fg_X5_50_5_0 0 0 rfl rfl rfl (pc' := 37) rfl ?_
    refine st_iload hR dX5_addFarm_37 3 rfl (pc' := 39) rfl ?_
    obtain ⟨hin_, hM⟩ := g_in_e hM
    refine st_iast hR dX5_addFarm_39 0 3 rfl rfl hin_ (ix := (ix mt_farms)) rfl (pc' := 40) rfl (fun mt_dogs_1 => [wX5 G q_mt mt_farms mt_fences mt_shares mt_names_1 mt_flock_1 mt_dogs_1 mt_hunger mt_fenced mt_heights mt_pacts mt_partner mt_often mt_toothed mt_feeding mt_going]) (fun _ => rfl) (fun mt_dogs_1 e_ => ?_)
    have hM := lt_e e_ hM
    refine st_aload_n hR dX5_addFarm_40 0 rfl rfl (pc' := 41) rfl ?_
    refine st_get hR dX5_addFarm_41 fg_X5_22_5_6 0 0 rfl rfl rfl (pc' := 44) rfl ?_
    refine st_aload_n hR dX5_addFarm_44 0 rfl rfl (pc' := 45) rfl ?_
    refine st_get hR dX5_addFarm_45 fg_X5_50_5_0 0 0 rfl rfl rfl (pc' := 48) rfl ?_
    refine st_iload hR dX5_addFarm_48 4 rfl (pc' := 50) rfl ?_
    obtain ⟨hin_, hM⟩ := g_in_e hM
    refine st_iast hR dX5_addFarm_50 0 4 rfl rfl hin_ (ix := (ix mt_farms)) rfl (pc' := 51) rfl (fun mt_hunger_1 => [wX5 G q_mt mt_farms mt_fences mt_shares mt_names_1 mt_flock_1 mt_dogs_1 mt_hunger_1 mt_fenced mt_heights mt_pacts mt_partner mt_often mt_toothed mt_feeding mt_going]) (fun _ => rfl) (fun mt_hunger_1 e_ => ?_)
    have hM := lt_e e_ hM
    refine st_aload_n hR dX5_addFarm_51 0 rfl rfl (pc' := 52) rfl ?_
    refine st_dup hR dX5_addFarm_52 (pc' := 53) rfl rfl ?_
    refine st_get hR dX5_addFarm_53 fg_X5_50_5_0 0 0 rfl rfl rfl (pc' := 56) rfl ?_
    refine st_iconst hR dX5_addFarm_56 (v := 1) rfl (pc' := 57) rfl ?_
    refine st_iadd hR dX5_addFarm_57 (pc' := 58) rfl ?_
    refine st_topi (fun mt_farms_1 e_ => ?_)
    have hM := lt_e e_ hM
    refine st_put hR dX5_addFarm_58 fp_X5_50_5_0 0 0 rfl rfl (Nat.le_of_ble_eq_true rfl) rfl rfl (pc' := 61) rfl (W' := [wX5 G q_mt mt_farms_1 mt_fences mt_shares mt_names_1 mt_flock_1 mt_dogs_1 mt_hunger_1 mt_fenced mt_heights mt_pacts mt_partner mt_often mt_toothed mt_feeding mt_going]) rfl ?_
    cases hM
    exact hret _ _ dX5_addFarm_61 ro_v
set_option maxHeartbeats 16000000 in
set_option maxRecDepth 100000 in
theorem k_X5_haveFence {l : Launch} {G : GG} {q_mt : Nat → Nat} {mt_farms mt_fences mt_shares mt_toothed : Int32} {mt_flock mt_dogs mt_hunger mt_fenced mt_heights mt_pacts mt_partner mt_often : Nat → Int32} {mt_names : Nat → Int64} {mt_feeding mt_going : Nat} {l1 l2 : Int32} {o_r : Int32} (hM : f_X5_haveFence mt_fenced l1 l2 = some o_r) : MC l G yX5_haveFence cX5_haveFence 3 (some .boolean) (RM 0) [.ref (q_mt 0), .int l1, .int l2] [wX5 G q_mt mt_farms mt_fences mt_shares mt_names mt_flock mt_dogs mt_hunger mt_fenced mt_heights mt_pacts mt_partner mt_often mt_toothed mt_feeding mt_going] (some (.int o_r)) [wX5 G q_mt mt_farms mt_fences mt_shares mt_names mt_flock mt_dogs mt_hunger mt_fenced mt_heights mt_pacts mt_partner mt_often mt_toothed mt_feeding mt_going] := by
  refine MC.of pn_X5 (Nat.le_of_ble_eq_true rfl) (fun K hR hret => ?_)
  have hR : Rl l G RX5 cX5_haveFence 3 (RM 0) K := hR
  show K [wX5 G q_mt mt_farms mt_fences mt_shares mt_names mt_flock mt_dogs mt_hunger mt_fenced mt_heights mt_pacts mt_partner mt_often mt_toothed mt_feeding mt_going] [(0, .ref (q_mt 0)), (1, .int l1), (2, .int l2)] 0 []
  refine st_aload_n hR dX5_haveFence_0 0 rfl rfl (pc' := 1) rfl ?_
  refine st_get hR dX5_haveFence_1 fg_X5_25_5_7 0 0 rfl rfl rfl (pc' := 4) rfl ?_
  refine st_iload_n hR dX5_haveFence_4 1 rfl rfl (pc' := 5) rfl ?_
  obtain ⟨hin_, hM⟩ := g_in_e hM
  refine st_iald hR dX5_haveFence_5 0 5 rfl rfl hin_ (v := mt_fenced (ix l1)) rfl (pc' := 6) rfl ?_
  refine st_iload_n hR dX5_haveFence_6 2 rfl rfl (pc' := 7) rfl ?_
  refine st_ishr hR dX5_haveFence_7 (pc' := 8) rfl ?_
  refine st_iconst hR dX5_haveFence_8 (v := 1) rfl (pc' := 9) rfl ?_
  refine st_iand hR dX5_haveFence_9 (pc' := 10) rfl ?_
  refine st_iconst hR dX5_haveFence_10 (v := 1) rfl (pc' := 11) rfl ?_
  refine st_icmp_ne hR dX5_haveFence_11 (tgt := 18) (by decide) (pc' := 14) rfl (fun c_ => ?_) (fun c_ => ?_)
  · have hM := it_f c_ hM
    refine st_iconst hR dX5_haveFence_18 (v := 0) rfl (pc' := 19) rfl ?_
    cases hM
    exact hret _ _ dX5_haveFence_19 (ro_z (Or.inl rfl))
  · have hM := it_t c_ hM
    refine st_iconst hR dX5_haveFence_14 (v := 1) rfl (pc' := 15) rfl ?_
    refine st_goto hR dX5_haveFence_15 (tgt := 19) (by decide) ?_
    cases hM
    exact hret _ _ dX5_haveFence_19 (ro_z (Or.inr rfl))
set_option maxHeartbeats 16000000 in
set_option maxRecDepth 100000 in
theorem k_X5_addFence {l : Launch} {G : GG} {q_mt : Nat → Nat} {mt_farms mt_fences mt_shares mt_toothed : Int32} {mt_flock mt_dogs mt_hunger mt_fenced mt_heights mt_pacts mt_partner mt_often : Nat → Int32} {mt_names : Nat → Int64} {mt_feeding mt_going : Nat} {l1 l2 l3 : Int32} {o_mt_fences : Int32} {o_mt_fenced : Nat → Int32} {o_mt_heights : Nat → Int32} (hM : f_X5_addFence mt_fences mt_fenced mt_heights l1 l2 l3 = some (o_mt_fences, o_mt_fenced, o_mt_heights)) : MC l G yX5_addFence cX5_addFence 4 none (RM 0) [.ref (q_mt 0), .int l1, .int l2, .int l3] [wX5 G q_mt mt_farms mt_fences mt_shares mt_names mt_flock mt_dogs mt_hunger mt_fenced mt_heights mt_pacts mt_partner mt_often mt_toothed mt_feeding mt_going] none [wX5 G q_mt mt_farms o_mt_fences mt_shares mt_names mt_flock mt_dogs mt_hunger o_mt_fenced o_mt_heights mt_pacts mt_partner mt_often mt_toothed mt_feeding mt_going] := by
  refine MC.of pn_X5 (Nat.le_of_ble_eq_true rfl) (fun K hR hret => ?_)
  have hR : Rl l G RX5 cX5_addFence 4 (RM 0) K := hR
  show K [wX5 G q_mt mt_farms mt_fences mt_shares mt_names mt_flock mt_dogs mt_hunger mt_fenced mt_heights mt_pacts mt_partner mt_often mt_toothed mt_feeding mt_going] [(0, .ref (q_mt 0)), (1, .int l1), (2, .int l2), (3, .int l3)] 0 []
  refine st_aload_n hR dX5_addFence_0 0 rfl rfl (pc' := 1) rfl ?_
  refine st_get hR dX5_addFence_1 fg_X5_25_5_7 0 0 rfl rfl rfl (pc' := 4) rfl ?_
  refine st_iload_n hR dX5_addFence_4 1 rfl rfl (pc' := 5) rfl ?_
  refine st_dup2 hR dX5_addFence_5 (pc' := 6) rfl rfl rfl ?_
  obtain ⟨hin_, hM⟩ := g_in_e hM
  refine st_iald hR dX5_addFence_6 0 5 rfl rfl hin_ (v := mt_fenced (ix l1)) rfl (pc' := 7) rfl ?_
  refine st_iconst hR dX5_addFence_7 (v := 1) rfl (pc' := 8) rfl ?_
  refine st_iload_n hR dX5_addFence_8 2 rfl rfl (pc' := 9) rfl ?_
  refine st_ishl hR dX5_addFence_9 (pc' := 10) rfl ?_
  refine st_ior hR dX5_addFence_10 (pc' := 11) rfl ?_
  obtain ⟨hin_, hM⟩ := g_in_e hM
  refine st_iast hR dX5_addFence_11 0 5 rfl rfl hin_ (ix := (ix l1)) rfl (pc' := 12) rfl (fun mt_fenced_1 => [wX5 G q_mt mt_farms mt_fences mt_shares mt_names mt_flock mt_dogs mt_hunger mt_fenced_1 mt_heights mt_pacts mt_partner mt_often mt_toothed mt_feeding mt_going]) (fun _ => rfl) (fun mt_fenced_1 e_ => ?_)
  have hM := lt_e e_ hM
  refine st_aload_n hR dX5_addFence_12 0 rfl rfl (pc' := 13) rfl ?_
  refine st_get hR dX5_addFence_13 fg_X5_25_5_7 0 0 rfl rfl rfl (pc' := 16) rfl ?_
  refine st_iload_n hR dX5_addFence_16 2 rfl rfl (pc' := 17) rfl ?_
  refine st_dup2 hR dX5_addFence_17 (pc' := 18) rfl rfl rfl ?_
  obtain ⟨hin_, hM⟩ := g_in_e hM
  refine st_iald hR dX5_addFence_18 0 5 rfl rfl hin_ (v := mt_fenced_1 (ix l2)) rfl (pc' := 19) rfl ?_
  refine st_iconst hR dX5_addFence_19 (v := 1) rfl (pc' := 20) rfl ?_
  refine st_iload_n hR dX5_addFence_20 1 rfl rfl (pc' := 21) rfl ?_
  refine st_ishl hR dX5_addFence_21 (pc' := 22) rfl ?_
  refine st_ior hR dX5_addFence_22 (pc' := 23) rfl ?_
  obtain ⟨hin_, hM⟩ := g_in_e hM
  refine st_iast hR dX5_addFence_23 0 5 rfl rfl hin_ (ix := (ix l2)) rfl (pc' := 24) rfl (fun mt_fenced_2 => [wX5 G q_mt mt_farms mt_fences mt_shares mt_names mt_flock mt_dogs mt_hunger mt_fenced_2 mt_heights mt_pacts mt_partner mt_often mt_toothed mt_feeding mt_going]) (fun _ => rfl) (fun mt_fenced_2 e_ => ?_)
  have hM := lt_e e_ hM
  refine st_aload_n hR dX5_addFence_24 0 rfl rfl (pc' := 25) rfl ?_
  refine st_get hR dX5_addFence_25 fg_X5_28_5_8 0 0 rfl rfl rfl (pc' := 28) rfl ?_
  refine st_iload_n hR dX5_addFence_28 1 rfl rfl (pc' := 29) rfl ?_
  refine st_bipush hR dX5_addFence_29 (v := 6) rfl (pc' := 31) rfl ?_
  refine st_imul hR dX5_addFence_31 (pc' := 32) rfl ?_
  refine st_iload_n hR dX5_addFence_32 2 rfl rfl (pc' := 33) rfl ?_
  refine st_iadd hR dX5_addFence_33 (pc' := 34) rfl ?_
  refine st_iload_n hR dX5_addFence_34 3 rfl rfl (pc' := 35) rfl ?_
  obtain ⟨hin_, hM⟩ := g_in_e hM
  refine st_iast hR dX5_addFence_35 0 6 rfl rfl hin_ (ix := (ix ((l1 * 6) + l2))) rfl (pc' := 36) rfl (fun mt_heights_1 => [wX5 G q_mt mt_farms mt_fences mt_shares mt_names mt_flock mt_dogs mt_hunger mt_fenced_2 mt_heights_1 mt_pacts mt_partner mt_often mt_toothed mt_feeding mt_going]) (fun _ => rfl) (fun mt_heights_1 e_ => ?_)
  have hM := lt_e e_ hM
  refine st_aload_n hR dX5_addFence_36 0 rfl rfl (pc' := 37) rfl ?_
  refine st_get hR dX5_addFence_37 fg_X5_28_5_8 0 0 rfl rfl rfl (pc' := 40) rfl ?_
  refine st_iload_n hR dX5_addFence_40 2 rfl rfl (pc' := 41) rfl ?_
  refine st_bipush hR dX5_addFence_41 (v := 6) rfl (pc' := 43) rfl ?_
  refine st_imul hR dX5_addFence_43 (pc' := 44) rfl ?_
  refine st_iload_n hR dX5_addFence_44 1 rfl rfl (pc' := 45) rfl ?_
  refine st_iadd hR dX5_addFence_45 (pc' := 46) rfl ?_
  refine st_iload_n hR dX5_addFence_46 3 rfl rfl (pc' := 47) rfl ?_
  obtain ⟨hin_, hM⟩ := g_in_e hM
  refine st_iast hR dX5_addFence_47 0 6 rfl rfl hin_ (ix := (ix ((l2 * 6) + l1))) rfl (pc' := 48) rfl (fun mt_heights_2 => [wX5 G q_mt mt_farms mt_fences mt_shares mt_names mt_flock mt_dogs mt_hunger mt_fenced_2 mt_heights_2 mt_pacts mt_partner mt_often mt_toothed mt_feeding mt_going]) (fun _ => rfl) (fun mt_heights_2 e_ => ?_)
  have hM := lt_e e_ hM
  refine st_aload_n hR dX5_addFence_48 0 rfl rfl (pc' := 49) rfl ?_
  refine st_dup hR dX5_addFence_49 (pc' := 50) rfl rfl ?_
  refine st_get hR dX5_addFence_50 fg_X5_54_5_1 0 0 rfl rfl rfl (pc' := 53) rfl ?_
  refine st_iconst hR dX5_addFence_53 (v := 1) rfl (pc' := 54) rfl ?_
  refine st_iadd hR dX5_addFence_54 (pc' := 55) rfl ?_
  refine st_topi (fun mt_fences_1 e_ => ?_)
  have hM := lt_e e_ hM
  refine st_put hR dX5_addFence_55 fp_X5_54_5_1 0 0 rfl rfl (Nat.le_of_ble_eq_true rfl) rfl rfl (pc' := 58) rfl (W' := [wX5 G q_mt mt_farms mt_fences_1 mt_shares mt_names mt_flock mt_dogs mt_hunger mt_fenced_2 mt_heights_2 mt_pacts mt_partner mt_often mt_toothed mt_feeding mt_going]) rfl ?_
  cases hM
  exact hret _ _ dX5_addFence_58 ro_v
set_option maxHeartbeats 16000000 in
set_option maxRecDepth 100000 in
theorem k_X5_havePact {l : Launch} {G : GG} {q_mt : Nat → Nat} {mt_farms mt_fences mt_shares mt_toothed : Int32} {mt_flock mt_dogs mt_hunger mt_fenced mt_heights mt_pacts mt_partner mt_often : Nat → Int32} {mt_names : Nat → Int64} {mt_feeding mt_going : Nat} {l1 l2 : Int32} {o_r : Int32} (hM : f_X5_havePact mt_pacts l1 l2 = some o_r) : MC l G yX5_havePact cX5_havePact 3 (some .boolean) (RM 0) [.ref (q_mt 0), .int l1, .int l2] [wX5 G q_mt mt_farms mt_fences mt_shares mt_names mt_flock mt_dogs mt_hunger mt_fenced mt_heights mt_pacts mt_partner mt_often mt_toothed mt_feeding mt_going] (some (.int o_r)) [wX5 G q_mt mt_farms mt_fences mt_shares mt_names mt_flock mt_dogs mt_hunger mt_fenced mt_heights mt_pacts mt_partner mt_often mt_toothed mt_feeding mt_going] := by
  refine MC.of pn_X5 (Nat.le_of_ble_eq_true rfl) (fun K hR hret => ?_)
  have hR : Rl l G RX5 cX5_havePact 3 (RM 0) K := hR
  show K [wX5 G q_mt mt_farms mt_fences mt_shares mt_names mt_flock mt_dogs mt_hunger mt_fenced mt_heights mt_pacts mt_partner mt_often mt_toothed mt_feeding mt_going] [(0, .ref (q_mt 0)), (1, .int l1), (2, .int l2)] 0 []
  refine st_aload_n hR dX5_havePact_0 0 rfl rfl (pc' := 1) rfl ?_
  refine st_get hR dX5_havePact_1 fg_X5_31_5_9 0 0 rfl rfl rfl (pc' := 4) rfl ?_
  refine st_iload_n hR dX5_havePact_4 1 rfl rfl (pc' := 5) rfl ?_
  obtain ⟨hin_, hM⟩ := g_in_e hM
  refine st_iald hR dX5_havePact_5 0 7 rfl rfl hin_ (v := mt_pacts (ix l1)) rfl (pc' := 6) rfl ?_
  refine st_iload_n hR dX5_havePact_6 2 rfl rfl (pc' := 7) rfl ?_
  refine st_ishr hR dX5_havePact_7 (pc' := 8) rfl ?_
  refine st_iconst hR dX5_havePact_8 (v := 1) rfl (pc' := 9) rfl ?_
  refine st_iand hR dX5_havePact_9 (pc' := 10) rfl ?_
  refine st_iconst hR dX5_havePact_10 (v := 1) rfl (pc' := 11) rfl ?_
  refine st_icmp_ne hR dX5_havePact_11 (tgt := 18) (by decide) (pc' := 14) rfl (fun c_ => ?_) (fun c_ => ?_)
  · have hM := it_f c_ hM
    refine st_iconst hR dX5_havePact_18 (v := 0) rfl (pc' := 19) rfl ?_
    cases hM
    exact hret _ _ dX5_havePact_19 (ro_z (Or.inl rfl))
  · have hM := it_t c_ hM
    refine st_iconst hR dX5_havePact_14 (v := 1) rfl (pc' := 15) rfl ?_
    refine st_goto hR dX5_havePact_15 (tgt := 19) (by decide) ?_
    cases hM
    exact hret _ _ dX5_havePact_19 (ro_z (Or.inr rfl))
set_option maxHeartbeats 16000000 in
set_option maxRecDepth 100000 in
theorem k_X5_addPact {l : Launch} {G : GG} {q_mt : Nat → Nat} {mt_farms mt_fences mt_shares mt_toothed : Int32} {mt_flock mt_dogs mt_hunger mt_fenced mt_heights mt_pacts mt_partner mt_often : Nat → Int32} {mt_names : Nat → Int64} {mt_feeding mt_going : Nat} {l1 l2 : Int32} {o_mt_pacts : Nat → Int32} (hM : f_X5_addPact mt_pacts l1 l2 = some o_mt_pacts) : MC l G yX5_addPact cX5_addPact 3 none (RM 0) [.ref (q_mt 0), .int l1, .int l2] [wX5 G q_mt mt_farms mt_fences mt_shares mt_names mt_flock mt_dogs mt_hunger mt_fenced mt_heights mt_pacts mt_partner mt_often mt_toothed mt_feeding mt_going] none [wX5 G q_mt mt_farms mt_fences mt_shares mt_names mt_flock mt_dogs mt_hunger mt_fenced mt_heights o_mt_pacts mt_partner mt_often mt_toothed mt_feeding mt_going] := by
  refine MC.of pn_X5 (Nat.le_of_ble_eq_true rfl) (fun K hR hret => ?_)
  have hR : Rl l G RX5 cX5_addPact 3 (RM 0) K := hR
  show K [wX5 G q_mt mt_farms mt_fences mt_shares mt_names mt_flock mt_dogs mt_hunger mt_fenced mt_heights mt_pacts mt_partner mt_often mt_toothed mt_feeding mt_going] [(0, .ref (q_mt 0)), (1, .int l1), (2, .int l2)] 0 []
  refine st_aload_n hR dX5_addPact_0 0 rfl rfl (pc' := 1) rfl ?_
  refine st_get hR dX5_addPact_1 fg_X5_31_5_9 0 0 rfl rfl rfl (pc' := 4) rfl ?_
  refine st_iload_n hR dX5_addPact_4 1 rfl rfl (pc' := 5) rfl ?_
  refine st_dup2 hR dX5_addPact_5 (pc' := 6) rfl rfl rfl ?_
  obtain ⟨hin_, hM⟩ := g_in_e hM
  refine st_iald hR dX5_addPact_6 0 7 rfl rfl hin_ (v := mt_pacts (ix l1)) rfl (pc' := 7) rfl ?_
  refine st_iconst hR dX5_addPact_7 (v := 1) rfl (pc' := 8) rfl ?_
  refine st_iload_n hR dX5_addPact_8 2 rfl rfl (pc' := 9) rfl ?_
  refine st_ishl hR dX5_addPact_9 (pc' := 10) rfl ?_
  refine st_ior hR dX5_addPact_10 (pc' := 11) rfl ?_
  obtain ⟨hin_, hM⟩ := g_in_e hM
  refine st_iast hR dX5_addPact_11 0 7 rfl rfl hin_ (ix := (ix l1)) rfl (pc' := 12) rfl (fun mt_pacts_1 => [wX5 G q_mt mt_farms mt_fences mt_shares mt_names mt_flock mt_dogs mt_hunger mt_fenced mt_heights mt_pacts_1 mt_partner mt_often mt_toothed mt_feeding mt_going]) (fun _ => rfl) (fun mt_pacts_1 e_ => ?_)
  have hM := lt_e e_ hM
  refine st_aload_n hR dX5_addPact_12 0 rfl rfl (pc' := 13) rfl ?_
  refine st_get hR dX5_addPact_13 fg_X5_31_5_9 0 0 rfl rfl rfl (pc' := 16) rfl ?_
  refine st_iload_n hR dX5_addPact_16 2 rfl rfl (pc' := 17) rfl ?_
  refine st_dup2 hR dX5_addPact_17 (pc' := 18) rfl rfl rfl ?_
  obtain ⟨hin_, hM⟩ := g_in_e hM
  refine st_iald hR dX5_addPact_18 0 7 rfl rfl hin_ (v := mt_pacts_1 (ix l2)) rfl (pc' := 19) rfl ?_
  refine st_iconst hR dX5_addPact_19 (v := 1) rfl (pc' := 20) rfl ?_
  refine st_iload_n hR dX5_addPact_20 1 rfl rfl (pc' := 21) rfl ?_
  refine st_ishl hR dX5_addPact_21 (pc' := 22) rfl ?_
  refine st_ior hR dX5_addPact_22 (pc' := 23) rfl ?_
  obtain ⟨hin_, hM⟩ := g_in_e hM
  refine st_iast hR dX5_addPact_23 0 7 rfl rfl hin_ (ix := (ix l2)) rfl (pc' := 24) rfl (fun mt_pacts_2 => [wX5 G q_mt mt_farms mt_fences mt_shares mt_names mt_flock mt_dogs mt_hunger mt_fenced mt_heights mt_pacts_2 mt_partner mt_often mt_toothed mt_feeding mt_going]) (fun _ => rfl) (fun mt_pacts_2 e_ => ?_)
  have hM := lt_e e_ hM
  cases hM
  exact hret _ _ dX5_addPact_24 ro_v
set_option maxHeartbeats 16000000 in
set_option maxRecDepth 100000 in
theorem k_X5_addShare {l : Launch} {G : GG} {q_mt : Nat → Nat} {mt_farms mt_fences mt_shares mt_toothed : Int32} {mt_flock mt_dogs mt_hunger mt_fenced mt_heights mt_pacts mt_partner mt_often : Nat → Int32} {mt_names : Nat → Int64} {mt_feeding mt_going : Nat} {l1 l2 : Int32} {o_mt_shares : Int32} {o_mt_partner : Nat → Int32} (hM : f_X5_addShare mt_shares mt_partner l1 l2 = some (o_mt_shares, o_mt_partner)) : MC l G yX5_addShare cX5_addShare 3 none (RM 0) [.ref (q_mt 0), .int l1, .int l2] [wX5 G q_mt mt_farms mt_fences mt_shares mt_names mt_flock mt_dogs mt_hunger mt_fenced mt_heights mt_pacts mt_partner mt_often mt_toothed mt_feeding mt_going] none [wX5 G q_mt mt_farms mt_fences o_mt_shares mt_names mt_flock mt_dogs mt_hunger mt_fenced mt_heights mt_pacts o_mt_partner mt_often mt_toothed mt_feeding mt_going] := by
  refine MC.of pn_X5 (Nat.le_of_ble_eq_true rfl) (fun K hR hret => ?_)
  have hR : Rl l G RX5 cX5_addShare 3 (RM 0) K := hR
  show K [wX5 G q_mt mt_farms mt_fences mt_shares mt_names mt_flock mt_dogs mt_hunger mt_fenced mt_heights mt_pacts mt_partner mt_often mt_toothed mt_feeding mt_going] [(0, .ref (q_mt 0)), (1, .int l1), (2, .int l2)] 0 []
  refine st_aload_n hR dX5_addShare_0 0 rfl rfl (pc' := 1) rfl ?_
  refine st_get hR dX5_addShare_1 fg_X5_34_5_10 0 0 rfl rfl rfl (pc' := 4) rfl ?_
  refine st_iload_n hR dX5_addShare_4 1 rfl rfl (pc' := 5) rfl ?_
  refine st_iload_n hR dX5_addShare_5 2 rfl rfl (pc' := 6) rfl ?_
  obtain ⟨hin_, hM⟩ := g_in_e hM
  refine st_iast hR dX5_addShare_6 0 8 rfl rfl hin_ (ix := (ix l1)) rfl (pc' := 7) rfl (fun mt_partner_1 => [wX5 G q_mt mt_farms mt_fences mt_shares mt_names mt_flock mt_dogs mt_hunger mt_fenced mt_heights mt_pacts mt_partner_1 mt_often mt_toothed mt_feeding mt_going]) (fun _ => rfl) (fun mt_partner_1 e_ => ?_)
  have hM := lt_e e_ hM
  refine st_aload_n hR dX5_addShare_7 0 rfl rfl (pc' := 8) rfl ?_
  refine st_dup hR dX5_addShare_8 (pc' := 9) rfl rfl ?_
  refine st_get hR dX5_addShare_9 fg_X5_57_5_2 0 0 rfl rfl rfl (pc' := 12) rfl ?_
  refine st_iconst hR dX5_addShare_12 (v := 1) rfl (pc' := 13) rfl ?_
  refine st_iadd hR dX5_addShare_13 (pc' := 14) rfl ?_
  refine st_topi (fun mt_shares_1 e_ => ?_)
  have hM := lt_e e_ hM
  refine st_put hR dX5_addShare_14 fp_X5_57_5_2 0 0 rfl rfl (Nat.le_of_ble_eq_true rfl) rfl rfl (pc' := 17) rfl (W' := [wX5 G q_mt mt_farms mt_fences mt_shares_1 mt_names mt_flock mt_dogs mt_hunger mt_fenced mt_heights mt_pacts mt_partner_1 mt_often mt_toothed mt_feeding mt_going]) rfl ?_
  cases hM
  exact hret _ _ dX5_addShare_17 ro_v
set_option maxHeartbeats 16000000 in
set_option maxRecDepth 100000 in
theorem k_X5_hasTooth {l : Launch} {G : GG} {q_mt : Nat → Nat} {mt_farms mt_fences mt_shares mt_toothed : Int32} {mt_flock mt_dogs mt_hunger mt_fenced mt_heights mt_pacts mt_partner mt_often : Nat → Int32} {mt_names : Nat → Int64} {mt_feeding mt_going : Nat} {l1 : Int32} {o_r : Int32} (hM : f_X5_hasTooth mt_toothed l1 = some o_r) : MC l G yX5_hasTooth cX5_hasTooth 2 (some .boolean) (RM 0) [.ref (q_mt 0), .int l1] [wX5 G q_mt mt_farms mt_fences mt_shares mt_names mt_flock mt_dogs mt_hunger mt_fenced mt_heights mt_pacts mt_partner mt_often mt_toothed mt_feeding mt_going] (some (.int o_r)) [wX5 G q_mt mt_farms mt_fences mt_shares mt_names mt_flock mt_dogs mt_hunger mt_fenced mt_heights mt_pacts mt_partner mt_often mt_toothed mt_feeding mt_going] := by
  refine MC.of pn_X5 (Nat.le_of_ble_eq_true rfl) (fun K hR hret => ?_)
  have hR : Rl l G RX5 cX5_hasTooth 2 (RM 0) K := hR
  show K [wX5 G q_mt mt_farms mt_fences mt_shares mt_names mt_flock mt_dogs mt_hunger mt_fenced mt_heights mt_pacts mt_partner mt_often mt_toothed mt_feeding mt_going] [(0, .ref (q_mt 0)), (1, .int l1)] 0 []
  refine st_aload_n hR dX5_hasTooth_0 0 rfl rfl (pc' := 1) rfl ?_
  refine st_get hR dX5_hasTooth_1 fg_X5_60_5_12 0 0 rfl rfl rfl (pc' := 4) rfl ?_
  refine st_iload_n hR dX5_hasTooth_4 1 rfl rfl (pc' := 5) rfl ?_
  refine st_ishr hR dX5_hasTooth_5 (pc' := 6) rfl ?_
  refine st_iconst hR dX5_hasTooth_6 (v := 1) rfl (pc' := 7) rfl ?_
  refine st_iand hR dX5_hasTooth_7 (pc' := 8) rfl ?_
  refine st_iconst hR dX5_hasTooth_8 (v := 1) rfl (pc' := 9) rfl ?_
  refine st_icmp_ne hR dX5_hasTooth_9 (tgt := 16) (by decide) (pc' := 12) rfl (fun c_ => ?_) (fun c_ => ?_)
  · have hM := it_f c_ hM
    refine st_iconst hR dX5_hasTooth_16 (v := 0) rfl (pc' := 17) rfl ?_
    cases hM
    exact hret _ _ dX5_hasTooth_17 (ro_z (Or.inl rfl))
  · have hM := it_t c_ hM
    refine st_iconst hR dX5_hasTooth_12 (v := 1) rfl (pc' := 13) rfl ?_
    refine st_goto hR dX5_hasTooth_13 (tgt := 17) (by decide) ?_
    cases hM
    exact hret _ _ dX5_hasTooth_17 (ro_z (Or.inr rfl))
set_option maxHeartbeats 16000000 in
set_option maxRecDepth 100000 in
theorem k_X5_addTooth {l : Launch} {G : GG} {q_mt : Nat → Nat} {mt_farms mt_fences mt_shares mt_toothed : Int32} {mt_flock mt_dogs mt_hunger mt_fenced mt_heights mt_pacts mt_partner mt_often : Nat → Int32} {mt_names : Nat → Int64} {mt_feeding mt_going : Nat} {l1 : Int32} {o_mt_toothed : Int32} (hM : f_X5_addTooth mt_toothed l1 = some o_mt_toothed) : MC l G yX5_addTooth cX5_addTooth 2 none (RM 0) [.ref (q_mt 0), .int l1] [wX5 G q_mt mt_farms mt_fences mt_shares mt_names mt_flock mt_dogs mt_hunger mt_fenced mt_heights mt_pacts mt_partner mt_often mt_toothed mt_feeding mt_going] none [wX5 G q_mt mt_farms mt_fences mt_shares mt_names mt_flock mt_dogs mt_hunger mt_fenced mt_heights mt_pacts mt_partner mt_often o_mt_toothed mt_feeding mt_going] := by
  refine MC.of pn_X5 (Nat.le_of_ble_eq_true rfl) (fun K hR hret => ?_)
  have hR : Rl l G RX5 cX5_addTooth 2 (RM 0) K := hR
  show K [wX5 G q_mt mt_farms mt_fences mt_shares mt_names mt_flock mt_dogs mt_hunger mt_fenced mt_heights mt_pacts mt_partner mt_often mt_toothed mt_feeding mt_going] [(0, .ref (q_mt 0)), (1, .int l1)] 0 []
  refine st_aload_n hR dX5_addTooth_0 0 rfl rfl (pc' := 1) rfl ?_
  refine st_dup hR dX5_addTooth_1 (pc' := 2) rfl rfl ?_
  refine st_get hR dX5_addTooth_2 fg_X5_60_5_12 0 0 rfl rfl rfl (pc' := 5) rfl ?_
  refine st_iconst hR dX5_addTooth_5 (v := 1) rfl (pc' := 6) rfl ?_
  refine st_iload_n hR dX5_addTooth_6 1 rfl rfl (pc' := 7) rfl ?_
  refine st_ishl hR dX5_addTooth_7 (pc' := 8) rfl ?_
  refine st_ior hR dX5_addTooth_8 (pc' := 9) rfl ?_
  refine st_topi (fun mt_toothed_1 e_ => ?_)
  have hM := lt_e e_ hM
  refine st_put hR dX5_addTooth_9 fp_X5_60_5_12 0 0 rfl rfl (Nat.le_of_ble_eq_true rfl) rfl rfl (pc' := 12) rfl (W' := [wX5 G q_mt mt_farms mt_fences mt_shares mt_names mt_flock mt_dogs mt_hunger mt_fenced mt_heights mt_pacts mt_partner mt_often mt_toothed_1 mt_feeding mt_going]) rfl ?_
  cases hM
  exact hret _ _ dX5_addTooth_12 ro_v
set_option maxHeartbeats 16000000 in
set_option maxRecDepth 100000 in
theorem k_X5_setOften {l : Launch} {G : GG} {q_mt : Nat → Nat} {mt_farms mt_fences mt_shares mt_toothed : Int32} {mt_flock mt_dogs mt_hunger mt_fenced mt_heights mt_pacts mt_partner mt_often : Nat → Int32} {mt_names : Nat → Int64} {mt_feeding mt_going : Nat} {l1 l2 l3 : Int32} {o_mt_often : Nat → Int32} (hM : f_X5_setOften mt_often l1 l2 l3 = some o_mt_often) : MC l G yX5_setOften cX5_setOften 4 none (RM 0) [.ref (q_mt 0), .int l1, .int l2, .int l3] [wX5 G q_mt mt_farms mt_fences mt_shares mt_names mt_flock mt_dogs mt_hunger mt_fenced mt_heights mt_pacts mt_partner mt_often mt_toothed mt_feeding mt_going] none [wX5 G q_mt mt_farms mt_fences mt_shares mt_names mt_flock mt_dogs mt_hunger mt_fenced mt_heights mt_pacts mt_partner o_mt_often mt_toothed mt_feeding mt_going] := by
  refine MC.of pn_X5 (Nat.le_of_ble_eq_true rfl) (fun K hR hret => ?_)
  have hR : Rl l G RX5 cX5_setOften 4 (RM 0) K := hR
  show K [wX5 G q_mt mt_farms mt_fences mt_shares mt_names mt_flock mt_dogs mt_hunger mt_fenced mt_heights mt_pacts mt_partner mt_often mt_toothed mt_feeding mt_going] [(0, .ref (q_mt 0)), (1, .int l1), (2, .int l2), (3, .int l3)] 0 []
  refine st_aload_n hR dX5_setOften_0 0 rfl rfl (pc' := 1) rfl ?_
  refine st_get hR dX5_setOften_1 fg_X5_37_5_11 0 0 rfl rfl rfl (pc' := 4) rfl ?_
  refine st_iload_n hR dX5_setOften_4 1 rfl rfl (pc' := 5) rfl ?_
  refine st_iconst hR dX5_setOften_5 (v := 4) rfl (pc' := 6) rfl ?_
  refine st_imul hR dX5_setOften_6 (pc' := 7) rfl ?_
  refine st_iload_n hR dX5_setOften_7 2 rfl rfl (pc' := 8) rfl ?_
  refine st_iadd hR dX5_setOften_8 (pc' := 9) rfl ?_
  refine st_iconst hR dX5_setOften_9 (v := 1) rfl (pc' := 10) rfl ?_
  refine st_isub hR dX5_setOften_10 (pc' := 11) rfl ?_
  refine st_iload_n hR dX5_setOften_11 3 rfl rfl (pc' := 12) rfl ?_
  obtain ⟨hin_, hM⟩ := g_in_e hM
  refine st_iast hR dX5_setOften_12 0 9 rfl rfl hin_ (ix := (ix (((l1 * 4) + l2) - 1))) rfl (pc' := 13) rfl (fun mt_often_1 => [wX5 G q_mt mt_farms mt_fences mt_shares mt_names mt_flock mt_dogs mt_hunger mt_fenced mt_heights mt_pacts mt_partner mt_often_1 mt_toothed mt_feeding mt_going]) (fun _ => rfl) (fun mt_often_1 e_ => ?_)
  have hM := lt_e e_ hM
  cases hM
  exact hret _ _ dX5_setOften_13 ro_v
set_option maxHeartbeats 16000000 in
set_option maxRecDepth 100000 in
theorem k_X5_oftenBites {l : Launch} {G : GG} {q_mt : Nat → Nat} {mt_farms mt_fences mt_shares mt_toothed : Int32} {mt_flock mt_dogs mt_hunger mt_fenced mt_heights mt_pacts mt_partner mt_often : Nat → Int32} {mt_names : Nat → Int64} {mt_feeding mt_going : Nat} {l1 l2 : Int32} {o_r : Int32} (hM : f_X5_oftenBites mt_often l1 l2 = some o_r) : MC l G yX5_oftenBites cX5_oftenBites 3 (some .int) (RM 0) [.ref (q_mt 0), .int l1, .int l2] [wX5 G q_mt mt_farms mt_fences mt_shares mt_names mt_flock mt_dogs mt_hunger mt_fenced mt_heights mt_pacts mt_partner mt_often mt_toothed mt_feeding mt_going] (some (.int o_r)) [wX5 G q_mt mt_farms mt_fences mt_shares mt_names mt_flock mt_dogs mt_hunger mt_fenced mt_heights mt_pacts mt_partner mt_often mt_toothed mt_feeding mt_going] := by
  refine MC.of pn_X5 (Nat.le_of_ble_eq_true rfl) (fun K hR hret => ?_)
  have hR : Rl l G RX5 cX5_oftenBites 3 (RM 0) K := hR
  show K [wX5 G q_mt mt_farms mt_fences mt_shares mt_names mt_flock mt_dogs mt_hunger mt_fenced mt_heights mt_pacts mt_partner mt_often mt_toothed mt_feeding mt_going] [(0, .ref (q_mt 0)), (1, .int l1), (2, .int l2)] 0 []
  refine st_aload_n hR dX5_oftenBites_0 0 rfl rfl (pc' := 1) rfl ?_
  refine st_get hR dX5_oftenBites_1 fg_X5_37_5_11 0 0 rfl rfl rfl (pc' := 4) rfl ?_
  refine st_iload_n hR dX5_oftenBites_4 1 rfl rfl (pc' := 5) rfl ?_
  refine st_iconst hR dX5_oftenBites_5 (v := 4) rfl (pc' := 6) rfl ?_
  refine st_imul hR dX5_oftenBites_6 (pc' := 7) rfl ?_
  refine st_iload_n hR dX5_oftenBites_7 2 rfl rfl (pc' := 8) rfl ?_
  refine st_iadd hR dX5_oftenBites_8 (pc' := 9) rfl ?_
  refine st_iconst hR dX5_oftenBites_9 (v := 1) rfl (pc' := 10) rfl ?_
  refine st_isub hR dX5_oftenBites_10 (pc' := 11) rfl ?_
  obtain ⟨hin_, hM⟩ := g_in_e hM
  refine st_iald hR dX5_oftenBites_11 0 9 rfl rfl hin_ (v := mt_often (ix (((l1 * 4) + l2) - 1))) rfl (pc' := 12) rfl ?_
  cases hM
  exact hret _ _ dX5_oftenBites_12 (ro_i _)
set_option maxHeartbeats 16000000 in
set_option maxRecDepth 100000 in
theorem k_X5_clear {l : Launch} {G : GG} {q_mt q_fe q_go : Nat → Nat} {mt_farms mt_fences mt_shares mt_toothed fe_steps go_steps : Int32} {mt_flock mt_dogs mt_hunger mt_fenced mt_heights mt_pacts mt_partner mt_often fe_kinds fe_lefts fe_rights fe_values go_kinds go_lefts go_rights go_values : Nat → Int32} {mt_names : Nat → Int64}  {o_mt_farms : Int32} {o_mt_fences : Int32} {o_mt_shares : Int32} {o_mt_fenced : Nat → Int32} {o_mt_pacts : Nat → Int32} {o_mt_partner : Nat → Int32} {o_mt_often : Nat → Int32} {o_mt_toothed : Int32} {o_fe_steps : Int32} {o_go_steps : Int32} (hM : f_X5_clear mt_farms mt_fences mt_shares mt_fenced mt_pacts mt_partner mt_often mt_toothed fe_steps go_steps = some (o_mt_farms, o_mt_fences, o_mt_shares, o_mt_fenced, o_mt_pacts, o_mt_partner, o_mt_often, o_mt_toothed, o_fe_steps, o_go_steps)) : MC l G yX5_clear cX5_clear 1 none (RM 1) [.ref (q_mt 0)] [wX5 G q_mt mt_farms mt_fences mt_shares mt_names mt_flock mt_dogs mt_hunger mt_fenced mt_heights mt_pacts mt_partner mt_often mt_toothed (q_fe 0) (q_go 0), wX3 G q_fe fe_kinds fe_lefts fe_rights fe_values fe_steps, wX3 G q_go go_kinds go_lefts go_rights go_values go_steps] none [wX5 G q_mt o_mt_farms o_mt_fences o_mt_shares mt_names mt_flock mt_dogs mt_hunger o_mt_fenced mt_heights o_mt_pacts o_mt_partner o_mt_often o_mt_toothed (q_fe 0) (q_go 0), wX3 G q_fe fe_kinds fe_lefts fe_rights fe_values o_fe_steps, wX3 G q_go go_kinds go_lefts go_rights go_values o_go_steps] := by
  refine MC.of pn_X5 (Nat.le_of_ble_eq_true rfl) (fun K hR hret => ?_)
  have hR : Rl l G RX5 cX5_clear 1 (RM 1) K := hR
  show K [wX5 G q_mt mt_farms mt_fences mt_shares mt_names mt_flock mt_dogs mt_hunger mt_fenced mt_heights mt_pacts mt_partner mt_often mt_toothed (q_fe 0) (q_go 0), wX3 G q_fe fe_kinds fe_lefts fe_rights fe_values fe_steps, wX3 G q_go go_kinds go_lefts go_rights go_values go_steps] [(0, .ref (q_mt 0))] 0 []
  refine st_aload_n hR dX5_clear_0 0 rfl rfl (pc' := 1) rfl ?_
  refine st_iconst hR dX5_clear_1 (v := 0) rfl (pc' := 2) rfl ?_
  refine st_put hR dX5_clear_2 fp_X5_50_5_0 0 0 rfl rfl (Nat.le_of_ble_eq_true rfl) rfl rfl (pc' := 5) rfl (W' := [wX5 G q_mt 0 mt_fences mt_shares mt_names mt_flock mt_dogs mt_hunger mt_fenced mt_heights mt_pacts mt_partner mt_often mt_toothed (q_fe 0) (q_go 0), wX3 G q_fe fe_kinds fe_lefts fe_rights fe_values fe_steps, wX3 G q_go go_kinds go_lefts go_rights go_values go_steps]) rfl ?_
  refine st_aload_n hR dX5_clear_5 0 rfl rfl (pc' := 6) rfl ?_
  refine st_iconst hR dX5_clear_6 (v := 0) rfl (pc' := 7) rfl ?_
  refine st_put hR dX5_clear_7 fp_X5_54_5_1 0 0 rfl rfl (Nat.le_of_ble_eq_true rfl) rfl rfl (pc' := 10) rfl (W' := [wX5 G q_mt 0 0 mt_shares mt_names mt_flock mt_dogs mt_hunger mt_fenced mt_heights mt_pacts mt_partner mt_often mt_toothed (q_fe 0) (q_go 0), wX3 G q_fe fe_kinds fe_lefts fe_rights fe_values fe_steps, wX3 G q_go go_kinds go_lefts go_rights go_values go_steps]) rfl ?_
  refine st_aload_n hR dX5_clear_10 0 rfl rfl (pc' := 11) rfl ?_
  refine st_iconst hR dX5_clear_11 (v := 0) rfl (pc' := 12) rfl ?_
  refine st_put hR dX5_clear_12 fp_X5_57_5_2 0 0 rfl rfl (Nat.le_of_ble_eq_true rfl) rfl rfl (pc' := 15) rfl (W' := [wX5 G q_mt 0 0 0 mt_names mt_flock mt_dogs mt_hunger mt_fenced mt_heights mt_pacts mt_partner mt_often mt_toothed (q_fe 0) (q_go 0), wX3 G q_fe fe_kinds fe_lefts fe_rights fe_values fe_steps, wX3 G q_go go_kinds go_lefts go_rights go_values go_steps]) rfl ?_
  refine st_aload_n hR dX5_clear_15 0 rfl rfl (pc' := 16) rfl ?_
  refine st_iconst hR dX5_clear_16 (v := 0) rfl (pc' := 17) rfl ?_
  refine st_put hR dX5_clear_17 fp_X5_60_5_12 0 0 rfl rfl (Nat.le_of_ble_eq_true rfl) rfl rfl (pc' := 20) rfl (W' := [wX5 G q_mt 0 0 0 mt_names mt_flock mt_dogs mt_hunger mt_fenced mt_heights mt_pacts mt_partner mt_often 0 (q_fe 0) (q_go 0), wX3 G q_fe fe_kinds fe_lefts fe_rights fe_values fe_steps, wX3 G q_go go_kinds go_lefts go_rights go_values go_steps]) rfl ?_
  refine st_aload_n hR dX5_clear_20 0 rfl rfl (pc' := 21) rfl ?_
  refine st_get hR dX5_clear_21 fg_X5_43_5_13 0 0 rfl rfl rfl (pc' := 24) rfl ?_
  obtain ⟨fe_steps_1, hc_, hM⟩ := bd_e hM
  refine st_callV hR (k_X3_clear hc_) cf_X5_63 (rm_le (Nat.le_of_ble_eq_true rfl) (Nat.le_of_ble_eq_true rfl)) [1] rfl rfl rfl 1 0 3 5 rfl rfl rfl rfl (rest := []) rfl (Nat.le_of_ble_eq_true rfl) dX5_clear_24 (pc' := 27) rfl (Wn := [wX5 G q_mt 0 0 0 mt_names mt_flock mt_dogs mt_hunger mt_fenced mt_heights mt_pacts mt_partner mt_often 0 (q_fe 0) (q_go 0), wX3 G q_fe fe_kinds fe_lefts fe_rights fe_values fe_steps_1, wX3 G q_go go_kinds go_lefts go_rights go_values go_steps]) rfl ?_
  refine st_aload_n hR dX5_clear_27 0 rfl rfl (pc' := 28) rfl ?_
  refine st_get hR dX5_clear_28 fg_X5_47_5_14 0 0 rfl rfl rfl (pc' := 31) rfl ?_
  obtain ⟨go_steps_1, hc_, hM⟩ := bd_e hM
  refine st_callV hR (k_X3_clear hc_) cf_X5_63 (rm_le (Nat.le_of_ble_eq_true rfl) (Nat.le_of_ble_eq_true rfl)) [2] rfl rfl rfl 2 0 3 5 rfl rfl rfl rfl (rest := []) rfl (Nat.le_of_ble_eq_true rfl) dX5_clear_31 (pc' := 34) rfl (Wn := [wX5 G q_mt 0 0 0 mt_names mt_flock mt_dogs mt_hunger mt_fenced mt_heights mt_pacts mt_partner mt_often 0 (q_fe 0) (q_go 0), wX3 G q_fe fe_kinds fe_lefts fe_rights fe_values fe_steps_1, wX3 G q_go go_kinds go_lefts go_rights go_values go_steps_1]) rfl ?_
  refine st_aload_n hR dX5_clear_34 0 rfl rfl (pc' := 35) rfl ?_
  refine st_get hR dX5_clear_35 fg_X5_25_5_7 0 0 rfl rfl rfl (pc' := 38) rfl ?_
  refine st_iconst hR dX5_clear_38 (v := 0) rfl (pc' := 39) rfl ?_
  refine st_fill hR dX5_clear_39 ff_X5_66 (Nat.le_of_ble_eq_true rfl) (Nat.le_of_ble_eq_true rfl) 0 5 rfl rfl (Nat.le_of_ble_eq_true rfl) (rest := []) (Nat.le_of_ble_eq_true rfl) (pc' := 42) rfl (fun mt_fenced_1 => [wX5 G q_mt 0 0 0 mt_names mt_flock mt_dogs mt_hunger mt_fenced_1 mt_heights mt_pacts mt_partner mt_often 0 (q_fe 0) (q_go 0), wX3 G q_fe fe_kinds fe_lefts fe_rights fe_values fe_steps_1, wX3 G q_go go_kinds go_lefts go_rights go_values go_steps_1]) (fun _ => rfl) (fun mt_fenced_1 e_ => ?_)
  have hM := lt_e e_ hM
  refine st_aload_n hR dX5_clear_42 0 rfl rfl (pc' := 43) rfl ?_
  refine st_get hR dX5_clear_43 fg_X5_31_5_9 0 0 rfl rfl rfl (pc' := 46) rfl ?_
  refine st_iconst hR dX5_clear_46 (v := 0) rfl (pc' := 47) rfl ?_
  refine st_fill hR dX5_clear_47 ff_X5_66 (Nat.le_of_ble_eq_true rfl) (Nat.le_of_ble_eq_true rfl) 0 7 rfl rfl (Nat.le_of_ble_eq_true rfl) (rest := []) (Nat.le_of_ble_eq_true rfl) (pc' := 50) rfl (fun mt_pacts_1 => [wX5 G q_mt 0 0 0 mt_names mt_flock mt_dogs mt_hunger mt_fenced_1 mt_heights mt_pacts_1 mt_partner mt_often 0 (q_fe 0) (q_go 0), wX3 G q_fe fe_kinds fe_lefts fe_rights fe_values fe_steps_1, wX3 G q_go go_kinds go_lefts go_rights go_values go_steps_1]) (fun _ => rfl) (fun mt_pacts_1 e_ => ?_)
  have hM := lt_e e_ hM
  refine st_aload_n hR dX5_clear_50 0 rfl rfl (pc' := 51) rfl ?_
  refine st_get hR dX5_clear_51 fg_X5_34_5_10 0 0 rfl rfl rfl (pc' := 54) rfl ?_
  refine st_iconst hR dX5_clear_54 (v := (-1)) (by decide) (pc' := 55) rfl ?_
  refine st_fill hR dX5_clear_55 ff_X5_66 (Nat.le_of_ble_eq_true rfl) (Nat.le_of_ble_eq_true rfl) 0 8 rfl rfl (Nat.le_of_ble_eq_true rfl) (rest := []) (Nat.le_of_ble_eq_true rfl) (pc' := 58) rfl (fun mt_partner_1 => [wX5 G q_mt 0 0 0 mt_names mt_flock mt_dogs mt_hunger mt_fenced_1 mt_heights mt_pacts_1 mt_partner_1 mt_often 0 (q_fe 0) (q_go 0), wX3 G q_fe fe_kinds fe_lefts fe_rights fe_values fe_steps_1, wX3 G q_go go_kinds go_lefts go_rights go_values go_steps_1]) (fun _ => rfl) (fun mt_partner_1 e_ => ?_)
  have hM := lt_e e_ hM
  refine st_aload_n hR dX5_clear_58 0 rfl rfl (pc' := 59) rfl ?_
  refine st_get hR dX5_clear_59 fg_X5_37_5_11 0 0 rfl rfl rfl (pc' := 62) rfl ?_
  refine st_iconst hR dX5_clear_62 (v := 1) rfl (pc' := 63) rfl ?_
  refine st_fill hR dX5_clear_63 ff_X5_66 (Nat.le_of_ble_eq_true rfl) (Nat.le_of_ble_eq_true rfl) 0 9 rfl rfl (Nat.le_of_ble_eq_true rfl) (rest := []) (Nat.le_of_ble_eq_true rfl) (pc' := 66) rfl (fun mt_often_1 => [wX5 G q_mt 0 0 0 mt_names mt_flock mt_dogs mt_hunger mt_fenced_1 mt_heights mt_pacts_1 mt_partner_1 mt_often_1 0 (q_fe 0) (q_go 0), wX3 G q_fe fe_kinds fe_lefts fe_rights fe_values fe_steps_1, wX3 G q_go go_kinds go_lefts go_rights go_values go_steps_1]) (fun _ => rfl) (fun mt_often_1 e_ => ?_)
  have hM := lt_e e_ hM
  cases hM
  exact hret _ _ dX5_clear_66 ro_v
set_option maxHeartbeats 16000000 in
set_option maxRecDepth 100000 in
theorem k_X9_begin {l : Launch} {G : GG} {q_v q_mt : Nat → Nat} {v_night mt_farms mt_fences mt_shares mt_toothed : Int32} {v_g : Int64} {v_flock v_hunger v_lean v_fed v_taken v_pacts v_levels v_facts mt_flock mt_dogs mt_hunger mt_fenced mt_heights mt_pacts mt_partner mt_often : Nat → Int32} {mt_names : Nat → Int64} {v_mountain mt_feeding mt_going : Nat}  {o_v_night : Int32} {o_v_g : Int64} {o_v_flock : Nat → Int32} {o_v_hunger : Nat → Int32} {o_v_lean : Nat → Int32} {o_v_fed : Nat → Int32} {o_v_taken : Nat → Int32} {o_v_pacts : Nat → Int32} {o_v_levels : Nat → Int32} (hM : f_X9_begin mt_flock mt_hunger mt_pacts v_night v_g v_flock v_hunger v_lean v_fed v_taken v_pacts v_levels = some (o_v_night, o_v_g, o_v_flock, o_v_hunger, o_v_lean, o_v_fed, o_v_taken, o_v_pacts, o_v_levels)) : MC l G yX9_begin cX9_begin 2 none (RM 1) [.ref (q_v 0), .ref (q_mt 0)] [wX9 G q_v v_mountain v_night v_g v_flock v_hunger v_lean v_fed v_taken v_pacts v_levels v_facts, wX5 G q_mt mt_farms mt_fences mt_shares mt_names mt_flock mt_dogs mt_hunger mt_fenced mt_heights mt_pacts mt_partner mt_often mt_toothed mt_feeding mt_going] none [wX9 G q_v (q_mt 0) o_v_night o_v_g o_v_flock o_v_hunger o_v_lean o_v_fed o_v_taken o_v_pacts o_v_levels v_facts, wX5 G q_mt mt_farms mt_fences mt_shares mt_names mt_flock mt_dogs mt_hunger mt_fenced mt_heights mt_pacts mt_partner mt_often mt_toothed mt_feeding mt_going] := by
  refine MC.of pn_X9 (Nat.le_of_ble_eq_true rfl) (fun K hR hret => ?_)
  have hR : Rl l G RX9 cX9_begin 2 (RM 1) K := hR
  show K [wX9 G q_v v_mountain v_night v_g v_flock v_hunger v_lean v_fed v_taken v_pacts v_levels v_facts, wX5 G q_mt mt_farms mt_fences mt_shares mt_names mt_flock mt_dogs mt_hunger mt_fenced mt_heights mt_pacts mt_partner mt_often mt_toothed mt_feeding mt_going] [(0, .ref (q_v 0)), (1, .ref (q_mt 0))] 0 []
  refine st_aload_n hR dX9_begin_0 0 rfl rfl (pc' := 1) rfl ?_
  refine st_aload_n hR dX9_begin_1 1 rfl rfl (pc' := 2) rfl ?_
  refine st_put hR dX9_begin_2 fp_X9_36_8_0 0 0 rfl rfl (Nat.le_of_ble_eq_true rfl) rfl rfl (pc' := 5) rfl (W' := [wX9 G q_v (q_mt 0) v_night v_g v_flock v_hunger v_lean v_fed v_taken v_pacts v_levels v_facts, wX5 G q_mt mt_farms mt_fences mt_shares mt_names mt_flock mt_dogs mt_hunger mt_fenced mt_heights mt_pacts mt_partner mt_often mt_toothed mt_feeding mt_going]) rfl ?_
  refine st_aload_n hR dX9_begin_5 0 rfl rfl (pc' := 6) rfl ?_
  refine st_iconst hR dX9_begin_6 (v := 0) rfl (pc' := 7) rfl ?_
  refine st_put hR dX9_begin_7 fp_X9_40_8_1 0 0 rfl rfl (Nat.le_of_ble_eq_true rfl) rfl rfl (pc' := 10) rfl (W' := [wX9 G q_v (q_mt 0) 0 v_g v_flock v_hunger v_lean v_fed v_taken v_pacts v_levels v_facts, wX5 G q_mt mt_farms mt_fences mt_shares mt_names mt_flock mt_dogs mt_hunger mt_fenced mt_heights mt_pacts mt_partner mt_often mt_toothed mt_feeding mt_going]) rfl ?_
  refine st_aload_n hR dX9_begin_10 0 rfl rfl (pc' := 11) rfl ?_
  refine st_lconst hR dX9_begin_11 (v := 0) rfl (pc' := 12) rfl ?_
  refine st_put hR dX9_begin_12 fp_X9_44_8_2 0 0 rfl rfl (Nat.le_of_ble_eq_true rfl) rfl rfl (pc' := 15) rfl (W' := [wX9 G q_v (q_mt 0) 0 0 v_flock v_hunger v_lean v_fed v_taken v_pacts v_levels v_facts, wX5 G q_mt mt_farms mt_fences mt_shares mt_names mt_flock mt_dogs mt_hunger mt_fenced mt_heights mt_pacts mt_partner mt_often mt_toothed mt_feeding mt_going]) rfl ?_
  refine st_aload_n hR dX9_begin_15 1 rfl rfl (pc' := 16) rfl ?_
  refine st_get hR dX9_begin_16 fg_X9_48_5_4 1 0 rfl rfl rfl (pc' := 19) rfl ?_
  refine st_iconst hR dX9_begin_19 (v := 0) rfl (pc' := 20) rfl ?_
  refine st_aload_n hR dX9_begin_20 0 rfl rfl (pc' := 21) rfl ?_
  refine st_get hR dX9_begin_21 fg_X9_9_8_3 0 0 rfl rfl rfl (pc' := 24) rfl ?_
  refine st_iconst hR dX9_begin_24 (v := 0) rfl (pc' := 25) rfl ?_
  refine st_bipush hR dX9_begin_25 (v := 6) rfl (pc' := 27) rfl ?_
  refine st_copyi hR dX9_begin_27 cp_X9_51 1 2 0 1 rfl rfl rfl rfl (by decide) (by decide) (by decide) (cl_lit 0 rfl rfl) (cl_lit 0 rfl rfl) (cl_lit 6 rfl rfl) (Nat.le_of_ble_eq_true rfl) (Nat.le_of_ble_eq_true rfl) (Nat.le_of_ble_eq_true rfl) (rest := []) (Nat.le_of_ble_eq_true rfl) (pc' := 30) rfl (fun v_flock_1 => [wX9 G q_v (q_mt 0) 0 0 v_flock_1 v_hunger v_lean v_fed v_taken v_pacts v_levels v_facts, wX5 G q_mt mt_farms mt_fences mt_shares mt_names mt_flock mt_dogs mt_hunger mt_fenced mt_heights mt_pacts mt_partner mt_often mt_toothed mt_feeding mt_going]) (fun _ => rfl) (fun v_flock_1 e_ => ?_)
  have hM := lt_e e_ hM
  refine st_aload_n hR dX9_begin_30 1 rfl rfl (pc' := 31) rfl ?_
  refine st_get hR dX9_begin_31 fg_X9_57_5_6 1 0 rfl rfl rfl (pc' := 34) rfl ?_
  refine st_iconst hR dX9_begin_34 (v := 0) rfl (pc' := 35) rfl ?_
  refine st_aload_n hR dX9_begin_35 0 rfl rfl (pc' := 36) rfl ?_
  refine st_get hR dX9_begin_36 fg_X9_15_8_4 0 0 rfl rfl rfl (pc' := 39) rfl ?_
  refine st_iconst hR dX9_begin_39 (v := 0) rfl (pc' := 40) rfl ?_
  refine st_bipush hR dX9_begin_40 (v := 6) rfl (pc' := 42) rfl ?_
  refine st_copyi hR dX9_begin_42 cp_X9_51 1 4 0 2 rfl rfl rfl rfl (by decide) (by decide) (by decide) (cl_lit 0 rfl rfl) (cl_lit 0 rfl rfl) (cl_lit 6 rfl rfl) (Nat.le_of_ble_eq_true rfl) (Nat.le_of_ble_eq_true rfl) (Nat.le_of_ble_eq_true rfl) (rest := []) (Nat.le_of_ble_eq_true rfl) (pc' := 45) rfl (fun v_hunger_1 => [wX9 G q_v (q_mt 0) 0 0 v_flock_1 v_hunger_1 v_lean v_fed v_taken v_pacts v_levels v_facts, wX5 G q_mt mt_farms mt_fences mt_shares mt_names mt_flock mt_dogs mt_hunger mt_fenced mt_heights mt_pacts mt_partner mt_often mt_toothed mt_feeding mt_going]) (fun _ => rfl) (fun v_hunger_1 e_ => ?_)
  have hM := lt_e e_ hM
  refine st_aload_n hR dX9_begin_45 1 rfl rfl (pc' := 46) rfl ?_
  refine st_get hR dX9_begin_46 fg_X9_58_5_9 1 0 rfl rfl rfl (pc' := 49) rfl ?_
  refine st_iconst hR dX9_begin_49 (v := 0) rfl (pc' := 50) rfl ?_
  refine st_aload_n hR dX9_begin_50 0 rfl rfl (pc' := 51) rfl ?_
  refine st_get hR dX9_begin_51 fg_X9_27_8_8 0 0 rfl rfl rfl (pc' := 54) rfl ?_
  refine st_iconst hR dX9_begin_54 (v := 0) rfl (pc' := 55) rfl ?_
  refine st_bipush hR dX9_begin_55 (v := 6) rfl (pc' := 57) rfl ?_
  refine st_copyi hR dX9_begin_57 cp_X9_51 1 7 0 6 rfl rfl rfl rfl (by decide) (by decide) (by decide) (cl_lit 0 rfl rfl) (cl_lit 0 rfl rfl) (cl_lit 6 rfl rfl) (Nat.le_of_ble_eq_true rfl) (Nat.le_of_ble_eq_true rfl) (Nat.le_of_ble_eq_true rfl) (rest := []) (Nat.le_of_ble_eq_true rfl) (pc' := 60) rfl (fun v_pacts_1 => [wX9 G q_v (q_mt 0) 0 0 v_flock_1 v_hunger_1 v_lean v_fed v_taken v_pacts_1 v_levels v_facts, wX5 G q_mt mt_farms mt_fences mt_shares mt_names mt_flock mt_dogs mt_hunger mt_fenced mt_heights mt_pacts mt_partner mt_often mt_toothed mt_feeding mt_going]) (fun _ => rfl) (fun v_pacts_1 e_ => ?_)
  have hM := lt_e e_ hM
  refine st_aload_n hR dX9_begin_60 0 rfl rfl (pc' := 61) rfl ?_
  refine st_get hR dX9_begin_61 fg_X9_18_8_5 0 0 rfl rfl rfl (pc' := 64) rfl ?_
  refine st_iconst hR dX9_begin_64 (v := 0) rfl (pc' := 65) rfl ?_
  refine st_fill hR dX9_begin_65 ff_X9_59 (Nat.le_of_ble_eq_true rfl) (Nat.le_of_ble_eq_true rfl) 0 3 rfl rfl (Nat.le_of_ble_eq_true rfl) (rest := []) (Nat.le_of_ble_eq_true rfl) (pc' := 68) rfl (fun v_lean_1 => [wX9 G q_v (q_mt 0) 0 0 v_flock_1 v_hunger_1 v_lean_1 v_fed v_taken v_pacts_1 v_levels v_facts, wX5 G q_mt mt_farms mt_fences mt_shares mt_names mt_flock mt_dogs mt_hunger mt_fenced mt_heights mt_pacts mt_partner mt_often mt_toothed mt_feeding mt_going]) (fun _ => rfl) (fun v_lean_1 e_ => ?_)
  have hM := lt_e e_ hM
  refine st_aload_n hR dX9_begin_68 0 rfl rfl (pc' := 69) rfl ?_
  refine st_get hR dX9_begin_69 fg_X9_21_8_6 0 0 rfl rfl rfl (pc' := 72) rfl ?_
  refine st_iconst hR dX9_begin_72 (v := 0) rfl (pc' := 73) rfl ?_
  refine st_fill hR dX9_begin_73 ff_X9_59 (Nat.le_of_ble_eq_true rfl) (Nat.le_of_ble_eq_true rfl) 0 4 rfl rfl (Nat.le_of_ble_eq_true rfl) (rest := []) (Nat.le_of_ble_eq_true rfl) (pc' := 76) rfl (fun v_fed_1 => [wX9 G q_v (q_mt 0) 0 0 v_flock_1 v_hunger_1 v_lean_1 v_fed_1 v_taken v_pacts_1 v_levels v_facts, wX5 G q_mt mt_farms mt_fences mt_shares mt_names mt_flock mt_dogs mt_hunger mt_fenced mt_heights mt_pacts mt_partner mt_often mt_toothed mt_feeding mt_going]) (fun _ => rfl) (fun v_fed_1 e_ => ?_)
  have hM := lt_e e_ hM
  refine st_aload_n hR dX9_begin_76 0 rfl rfl (pc' := 77) rfl ?_
  refine st_get hR dX9_begin_77 fg_X9_24_8_7 0 0 rfl rfl rfl (pc' := 80) rfl ?_
  refine st_iconst hR dX9_begin_80 (v := 0) rfl (pc' := 81) rfl ?_
  refine st_fill hR dX9_begin_81 ff_X9_59 (Nat.le_of_ble_eq_true rfl) (Nat.le_of_ble_eq_true rfl) 0 5 rfl rfl (Nat.le_of_ble_eq_true rfl) (rest := []) (Nat.le_of_ble_eq_true rfl) (pc' := 84) rfl (fun v_taken_1 => [wX9 G q_v (q_mt 0) 0 0 v_flock_1 v_hunger_1 v_lean_1 v_fed_1 v_taken_1 v_pacts_1 v_levels v_facts, wX5 G q_mt mt_farms mt_fences mt_shares mt_names mt_flock mt_dogs mt_hunger mt_fenced mt_heights mt_pacts mt_partner mt_often mt_toothed mt_feeding mt_going]) (fun _ => rfl) (fun v_taken_1 e_ => ?_)
  have hM := lt_e e_ hM
  refine st_aload_n hR dX9_begin_84 0 rfl rfl (pc' := 85) rfl ?_
  refine st_get hR dX9_begin_85 fg_X9_30_8_9 0 0 rfl rfl rfl (pc' := 88) rfl ?_
  refine st_iconst hR dX9_begin_88 (v := (-1)) (by decide) (pc' := 89) rfl ?_
  refine st_fill hR dX9_begin_89 ff_X9_59 (Nat.le_of_ble_eq_true rfl) (Nat.le_of_ble_eq_true rfl) 0 7 rfl rfl (Nat.le_of_ble_eq_true rfl) (rest := []) (Nat.le_of_ble_eq_true rfl) (pc' := 92) rfl (fun v_levels_1 => [wX9 G q_v (q_mt 0) 0 0 v_flock_1 v_hunger_1 v_lean_1 v_fed_1 v_taken_1 v_pacts_1 v_levels_1 v_facts, wX5 G q_mt mt_farms mt_fences mt_shares mt_names mt_flock mt_dogs mt_hunger mt_fenced mt_heights mt_pacts mt_partner mt_often mt_toothed mt_feeding mt_going]) (fun _ => rfl) (fun v_levels_1 e_ => ?_)
  have hM := lt_e e_ hM
  cases hM
  exact hret _ _ dX9_begin_92 ro_v
set_option maxHeartbeats 16000000 in
set_option maxRecDepth 100000 in
theorem k_X9_copyFrom {l : Launch} {G : GG} {q_v q_o : Nat → Nat} {v_night o_night : Int32} {v_g o_g : Int64} {v_flock v_hunger v_lean v_fed v_taken v_pacts v_levels v_facts o_flock o_hunger o_lean o_fed o_taken o_pacts o_levels o_facts : Nat → Int32} {v_mountain o_mountain : Nat}  {o_v_night : Int32} {o_v_g : Int64} {o_v_flock : Nat → Int32} {o_v_hunger : Nat → Int32} {o_v_lean : Nat → Int32} {o_v_fed : Nat → Int32} {o_v_taken : Nat → Int32} {o_v_pacts : Nat → Int32} {o_v_levels : Nat → Int32} (hM : f_X9_copyFrom o_night o_g o_flock o_hunger o_lean o_fed o_taken o_pacts o_levels v_night v_g v_flock v_hunger v_lean v_fed v_taken v_pacts v_levels = some (o_v_night, o_v_g, o_v_flock, o_v_hunger, o_v_lean, o_v_fed, o_v_taken, o_v_pacts, o_v_levels)) : MC l G yX9_copyFrom cX9_copyFrom 2 none (RM 1) [.ref (q_v 0), .ref (q_o 0)] [wX9 G q_v v_mountain v_night v_g v_flock v_hunger v_lean v_fed v_taken v_pacts v_levels v_facts, wX9 G q_o o_mountain o_night o_g o_flock o_hunger o_lean o_fed o_taken o_pacts o_levels o_facts] none [wX9 G q_v o_mountain o_v_night o_v_g o_v_flock o_v_hunger o_v_lean o_v_fed o_v_taken o_v_pacts o_v_levels v_facts, wX9 G q_o o_mountain o_night o_g o_flock o_hunger o_lean o_fed o_taken o_pacts o_levels o_facts] := by
  refine MC.of pn_X9 (Nat.le_of_ble_eq_true rfl) (fun K hR hret => ?_)
  have hR : Rl l G RX9 cX9_copyFrom 2 (RM 1) K := hR
  show K [wX9 G q_v v_mountain v_night v_g v_flock v_hunger v_lean v_fed v_taken v_pacts v_levels v_facts, wX9 G q_o o_mountain o_night o_g o_flock o_hunger o_lean o_fed o_taken o_pacts o_levels o_facts] [(0, .ref (q_v 0)), (1, .ref (q_o 0))] 0 []
  refine st_aload_n hR dX9_copyFrom_0 0 rfl rfl (pc' := 1) rfl ?_
  refine st_aload_n hR dX9_copyFrom_1 1 rfl rfl (pc' := 2) rfl ?_
  refine st_get hR dX9_copyFrom_2 fg_X9_36_8_0 1 0 rfl rfl rfl (pc' := 5) rfl ?_
  refine st_put hR dX9_copyFrom_5 fp_X9_36_8_0 0 0 rfl rfl (Nat.le_of_ble_eq_true rfl) rfl rfl (pc' := 8) rfl (W' := [wX9 G q_v o_mountain v_night v_g v_flock v_hunger v_lean v_fed v_taken v_pacts v_levels v_facts, wX9 G q_o o_mountain o_night o_g o_flock o_hunger o_lean o_fed o_taken o_pacts o_levels o_facts]) rfl ?_
  refine st_aload_n hR dX9_copyFrom_8 0 rfl rfl (pc' := 9) rfl ?_
  refine st_aload_n hR dX9_copyFrom_9 1 rfl rfl (pc' := 10) rfl ?_
  refine st_get hR dX9_copyFrom_10 fg_X9_40_8_1 1 0 rfl rfl rfl (pc' := 13) rfl ?_
  refine st_put hR dX9_copyFrom_13 fp_X9_40_8_1 0 0 rfl rfl (Nat.le_of_ble_eq_true rfl) rfl rfl (pc' := 16) rfl (W' := [wX9 G q_v o_mountain o_night v_g v_flock v_hunger v_lean v_fed v_taken v_pacts v_levels v_facts, wX9 G q_o o_mountain o_night o_g o_flock o_hunger o_lean o_fed o_taken o_pacts o_levels o_facts]) rfl ?_
  refine st_aload_n hR dX9_copyFrom_16 0 rfl rfl (pc' := 17) rfl ?_
  refine st_aload_n hR dX9_copyFrom_17 1 rfl rfl (pc' := 18) rfl ?_
  refine st_get hR dX9_copyFrom_18 fg_X9_44_8_2 1 0 rfl rfl rfl (pc' := 21) rfl ?_
  refine st_put hR dX9_copyFrom_21 fp_X9_44_8_2 0 0 rfl rfl (Nat.le_of_ble_eq_true rfl) rfl rfl (pc' := 24) rfl (W' := [wX9 G q_v o_mountain o_night o_g v_flock v_hunger v_lean v_fed v_taken v_pacts v_levels v_facts, wX9 G q_o o_mountain o_night o_g o_flock o_hunger o_lean o_fed o_taken o_pacts o_levels o_facts]) rfl ?_
  refine st_aload_n hR dX9_copyFrom_24 1 rfl rfl (pc' := 25) rfl ?_
  refine st_get hR dX9_copyFrom_25 fg_X9_9_8_3 1 0 rfl rfl rfl (pc' := 28) rfl ?_
  refine st_iconst hR dX9_copyFrom_28 (v := 0) rfl (pc' := 29) rfl ?_
  refine st_aload_n hR dX9_copyFrom_29 0 rfl rfl (pc' := 30) rfl ?_
  refine st_get hR dX9_copyFrom_30 fg_X9_9_8_3 0 0 rfl rfl rfl (pc' := 33) rfl ?_
  refine st_iconst hR dX9_copyFrom_33 (v := 0) rfl (pc' := 34) rfl ?_
  refine st_bipush hR dX9_copyFrom_34 (v := 6) rfl (pc' := 36) rfl ?_
  refine st_copyi hR dX9_copyFrom_36 cp_X9_51 1 1 0 1 rfl rfl rfl rfl (by decide) (by decide) (by decide) (cl_lit 0 rfl rfl) (cl_lit 0 rfl rfl) (cl_lit 6 rfl rfl) (Nat.le_of_ble_eq_true rfl) (Nat.le_of_ble_eq_true rfl) (Nat.le_of_ble_eq_true rfl) (rest := []) (Nat.le_of_ble_eq_true rfl) (pc' := 39) rfl (fun v_flock_1 => [wX9 G q_v o_mountain o_night o_g v_flock_1 v_hunger v_lean v_fed v_taken v_pacts v_levels v_facts, wX9 G q_o o_mountain o_night o_g o_flock o_hunger o_lean o_fed o_taken o_pacts o_levels o_facts]) (fun _ => rfl) (fun v_flock_1 e_ => ?_)
  have hM := lt_e e_ hM
  refine st_aload_n hR dX9_copyFrom_39 1 rfl rfl (pc' := 40) rfl ?_
  refine st_get hR dX9_copyFrom_40 fg_X9_15_8_4 1 0 rfl rfl rfl (pc' := 43) rfl ?_
  refine st_iconst hR dX9_copyFrom_43 (v := 0) rfl (pc' := 44) rfl ?_
  refine st_aload_n hR dX9_copyFrom_44 0 rfl rfl (pc' := 45) rfl ?_
  refine st_get hR dX9_copyFrom_45 fg_X9_15_8_4 0 0 rfl rfl rfl (pc' := 48) rfl ?_
  refine st_iconst hR dX9_copyFrom_48 (v := 0) rfl (pc' := 49) rfl ?_
  refine st_bipush hR dX9_copyFrom_49 (v := 6) rfl (pc' := 51) rfl ?_
  refine st_copyi hR dX9_copyFrom_51 cp_X9_51 1 2 0 2 rfl rfl rfl rfl (by decide) (by decide) (by decide) (cl_lit 0 rfl rfl) (cl_lit 0 rfl rfl) (cl_lit 6 rfl rfl) (Nat.le_of_ble_eq_true rfl) (Nat.le_of_ble_eq_true rfl) (Nat.le_of_ble_eq_true rfl) (rest := []) (Nat.le_of_ble_eq_true rfl) (pc' := 54) rfl (fun v_hunger_1 => [wX9 G q_v o_mountain o_night o_g v_flock_1 v_hunger_1 v_lean v_fed v_taken v_pacts v_levels v_facts, wX9 G q_o o_mountain o_night o_g o_flock o_hunger o_lean o_fed o_taken o_pacts o_levels o_facts]) (fun _ => rfl) (fun v_hunger_1 e_ => ?_)
  have hM := lt_e e_ hM
  refine st_aload_n hR dX9_copyFrom_54 1 rfl rfl (pc' := 55) rfl ?_
  refine st_get hR dX9_copyFrom_55 fg_X9_18_8_5 1 0 rfl rfl rfl (pc' := 58) rfl ?_
  refine st_iconst hR dX9_copyFrom_58 (v := 0) rfl (pc' := 59) rfl ?_
  refine st_aload_n hR dX9_copyFrom_59 0 rfl rfl (pc' := 60) rfl ?_
  refine st_get hR dX9_copyFrom_60 fg_X9_18_8_5 0 0 rfl rfl rfl (pc' := 63) rfl ?_
  refine st_iconst hR dX9_copyFrom_63 (v := 0) rfl (pc' := 64) rfl ?_
  refine st_bipush hR dX9_copyFrom_64 (v := 6) rfl (pc' := 66) rfl ?_
  refine st_copyi hR dX9_copyFrom_66 cp_X9_51 1 3 0 3 rfl rfl rfl rfl (by decide) (by decide) (by decide) (cl_lit 0 rfl rfl) (cl_lit 0 rfl rfl) (cl_lit 6 rfl rfl) (Nat.le_of_ble_eq_true rfl) (Nat.le_of_ble_eq_true rfl) (Nat.le_of_ble_eq_true rfl) (rest := []) (Nat.le_of_ble_eq_true rfl) (pc' := 69) rfl (fun v_lean_1 => [wX9 G q_v o_mountain o_night o_g v_flock_1 v_hunger_1 v_lean_1 v_fed v_taken v_pacts v_levels v_facts, wX9 G q_o o_mountain o_night o_g o_flock o_hunger o_lean o_fed o_taken o_pacts o_levels o_facts]) (fun _ => rfl) (fun v_lean_1 e_ => ?_)
  have hM := lt_e e_ hM
  refine st_aload_n hR dX9_copyFrom_69 1 rfl rfl (pc' := 70) rfl ?_
  refine st_get hR dX9_copyFrom_70 fg_X9_21_8_6 1 0 rfl rfl rfl (pc' := 73) rfl ?_
  refine st_iconst hR dX9_copyFrom_73 (v := 0) rfl (pc' := 74) rfl ?_
  refine st_aload_n hR dX9_copyFrom_74 0 rfl rfl (pc' := 75) rfl ?_
  refine st_get hR dX9_copyFrom_75 fg_X9_21_8_6 0 0 rfl rfl rfl (pc' := 78) rfl ?_
  refine st_iconst hR dX9_copyFrom_78 (v := 0) rfl (pc' := 79) rfl ?_
  refine st_bipush hR dX9_copyFrom_79 (v := 6) rfl (pc' := 81) rfl ?_
  refine st_copyi hR dX9_copyFrom_81 cp_X9_51 1 4 0 4 rfl rfl rfl rfl (by decide) (by decide) (by decide) (cl_lit 0 rfl rfl) (cl_lit 0 rfl rfl) (cl_lit 6 rfl rfl) (Nat.le_of_ble_eq_true rfl) (Nat.le_of_ble_eq_true rfl) (Nat.le_of_ble_eq_true rfl) (rest := []) (Nat.le_of_ble_eq_true rfl) (pc' := 84) rfl (fun v_fed_1 => [wX9 G q_v o_mountain o_night o_g v_flock_1 v_hunger_1 v_lean_1 v_fed_1 v_taken v_pacts v_levels v_facts, wX9 G q_o o_mountain o_night o_g o_flock o_hunger o_lean o_fed o_taken o_pacts o_levels o_facts]) (fun _ => rfl) (fun v_fed_1 e_ => ?_)
  have hM := lt_e e_ hM
  refine st_aload_n hR dX9_copyFrom_84 1 rfl rfl (pc' := 85) rfl ?_
  refine st_get hR dX9_copyFrom_85 fg_X9_24_8_7 1 0 rfl rfl rfl (pc' := 88) rfl ?_
  refine st_iconst hR dX9_copyFrom_88 (v := 0) rfl (pc' := 89) rfl ?_
  refine st_aload_n hR dX9_copyFrom_89 0 rfl rfl (pc' := 90) rfl ?_
  refine st_get hR dX9_copyFrom_90 fg_X9_24_8_7 0 0 rfl rfl rfl (pc' := 93) rfl ?_
  refine st_iconst hR dX9_copyFrom_93 (v := 0) rfl (pc' := 94) rfl ?_
  refine st_bipush hR dX9_copyFrom_94 (v := 6) rfl (pc' := 96) rfl ?_
  refine st_copyi hR dX9_copyFrom_96 cp_X9_51 1 5 0 5 rfl rfl rfl rfl (by decide) (by decide) (by decide) (cl_lit 0 rfl rfl) (cl_lit 0 rfl rfl) (cl_lit 6 rfl rfl) (Nat.le_of_ble_eq_true rfl) (Nat.le_of_ble_eq_true rfl) (Nat.le_of_ble_eq_true rfl) (rest := []) (Nat.le_of_ble_eq_true rfl) (pc' := 99) rfl (fun v_taken_1 => [wX9 G q_v o_mountain o_night o_g v_flock_1 v_hunger_1 v_lean_1 v_fed_1 v_taken_1 v_pacts v_levels v_facts, wX9 G q_o o_mountain o_night o_g o_flock o_hunger o_lean o_fed o_taken o_pacts o_levels o_facts]) (fun _ => rfl) (fun v_taken_1 e_ => ?_)
  have hM := lt_e e_ hM
  refine st_aload_n hR dX9_copyFrom_99 1 rfl rfl (pc' := 100) rfl ?_
  refine st_get hR dX9_copyFrom_100 fg_X9_27_8_8 1 0 rfl rfl rfl (pc' := 103) rfl ?_
  refine st_iconst hR dX9_copyFrom_103 (v := 0) rfl (pc' := 104) rfl ?_
  refine st_aload_n hR dX9_copyFrom_104 0 rfl rfl (pc' := 105) rfl ?_
  refine st_get hR dX9_copyFrom_105 fg_X9_27_8_8 0 0 rfl rfl rfl (pc' := 108) rfl ?_
  refine st_iconst hR dX9_copyFrom_108 (v := 0) rfl (pc' := 109) rfl ?_
  refine st_bipush hR dX9_copyFrom_109 (v := 6) rfl (pc' := 111) rfl ?_
  refine st_copyi hR dX9_copyFrom_111 cp_X9_51 1 6 0 6 rfl rfl rfl rfl (by decide) (by decide) (by decide) (cl_lit 0 rfl rfl) (cl_lit 0 rfl rfl) (cl_lit 6 rfl rfl) (Nat.le_of_ble_eq_true rfl) (Nat.le_of_ble_eq_true rfl) (Nat.le_of_ble_eq_true rfl) (rest := []) (Nat.le_of_ble_eq_true rfl) (pc' := 114) rfl (fun v_pacts_1 => [wX9 G q_v o_mountain o_night o_g v_flock_1 v_hunger_1 v_lean_1 v_fed_1 v_taken_1 v_pacts_1 v_levels v_facts, wX9 G q_o o_mountain o_night o_g o_flock o_hunger o_lean o_fed o_taken o_pacts o_levels o_facts]) (fun _ => rfl) (fun v_pacts_1 e_ => ?_)
  have hM := lt_e e_ hM
  refine st_aload_n hR dX9_copyFrom_114 1 rfl rfl (pc' := 115) rfl ?_
  refine st_get hR dX9_copyFrom_115 fg_X9_30_8_9 1 0 rfl rfl rfl (pc' := 118) rfl ?_
  refine st_iconst hR dX9_copyFrom_118 (v := 0) rfl (pc' := 119) rfl ?_
  refine st_aload_n hR dX9_copyFrom_119 0 rfl rfl (pc' := 120) rfl ?_
  refine st_get hR dX9_copyFrom_120 fg_X9_30_8_9 0 0 rfl rfl rfl (pc' := 123) rfl ?_
  refine st_iconst hR dX9_copyFrom_123 (v := 0) rfl (pc' := 124) rfl ?_
  refine st_bipush hR dX9_copyFrom_124 (v := 6) rfl (pc' := 126) rfl ?_
  refine st_copyi hR dX9_copyFrom_126 cp_X9_51 1 7 0 7 rfl rfl rfl rfl (by decide) (by decide) (by decide) (cl_lit 0 rfl rfl) (cl_lit 0 rfl rfl) (cl_lit 6 rfl rfl) (Nat.le_of_ble_eq_true rfl) (Nat.le_of_ble_eq_true rfl) (Nat.le_of_ble_eq_true rfl) (rest := []) (Nat.le_of_ble_eq_true rfl) (pc' := 129) rfl (fun v_levels_1 => [wX9 G q_v o_mountain o_night o_g v_flock_1 v_hunger_1 v_lean_1 v_fed_1 v_taken_1 v_pacts_1 v_levels_1 v_facts, wX9 G q_o o_mountain o_night o_g o_flock o_hunger o_lean o_fed o_taken o_pacts o_levels o_facts]) (fun _ => rfl) (fun v_levels_1 e_ => ?_)
  have hM := lt_e e_ hM
  cases hM
  exact hret _ _ dX9_copyFrom_129 ro_v
set_option maxHeartbeats 16000000 in
set_option maxRecDepth 100000 in
theorem k_X9_homeOf {l : Launch} {G : GG} {q_v q_mt : Nat → Nat} {v_night mt_farms mt_fences mt_shares mt_toothed : Int32} {v_g : Int64} {v_flock v_hunger v_lean v_fed v_taken v_pacts v_levels v_facts mt_flock mt_dogs mt_hunger mt_fenced mt_heights mt_pacts mt_partner mt_often : Nat → Int32} {mt_names : Nat → Int64} {mt_feeding mt_going : Nat} {l1 : Int32} {o_r : Int32} (hM : f_X9_homeOf v_night mt_partner l1 = some o_r) : MC l G yX9_homeOf cX9_homeOf 4 (some .int) (RM 0) [.ref (q_v 0), .int l1] [wX9 G q_v (q_mt 0) v_night v_g v_flock v_hunger v_lean v_fed v_taken v_pacts v_levels v_facts, wX5 G q_mt mt_farms mt_fences mt_shares mt_names mt_flock mt_dogs mt_hunger mt_fenced mt_heights mt_pacts mt_partner mt_often mt_toothed mt_feeding mt_going] (some (.int o_r)) [wX9 G q_v (q_mt 0) v_night v_g v_flock v_hunger v_lean v_fed v_taken v_pacts v_levels v_facts, wX5 G q_mt mt_farms mt_fences mt_shares mt_names mt_flock mt_dogs mt_hunger mt_fenced mt_heights mt_pacts mt_partner mt_often mt_toothed mt_feeding mt_going] := by
  refine MC.of pn_X9 (Nat.le_of_ble_eq_true rfl) (fun K hR hret => ?_)
  have hR : Rl l G RX9 cX9_homeOf 4 (RM 0) K := hR
  show K [wX9 G q_v (q_mt 0) v_night v_g v_flock v_hunger v_lean v_fed v_taken v_pacts v_levels v_facts, wX5 G q_mt mt_farms mt_fences mt_shares mt_names mt_flock mt_dogs mt_hunger mt_fenced mt_heights mt_pacts mt_partner mt_often mt_toothed mt_feeding mt_going] [(0, .ref (q_v 0)), (1, .int l1)] 0 []
  have J28 : ∀ (l1 : Int32) (l2 : Int32) (s0 : Int32), f_X9_homeOf_B28  v_night mt_partner l1 l2 s0 = some o_r → K [wX9 G q_v (q_mt 0) v_night v_g v_flock v_hunger v_lean v_fed v_taken v_pacts v_levels v_facts, wX5 G q_mt mt_farms mt_fences mt_shares mt_names mt_flock mt_dogs mt_hunger mt_fenced mt_heights mt_pacts mt_partner mt_often mt_toothed mt_feeding mt_going] [(1, .int l1), (2, .int l2)] 28 [.int s0] := by
    intro l1 l2 s0 hM
    refine st_istore_n hR dX9_homeOf_28 rfl (Nat.le_of_ble_eq_true rfl) [1, 2, 0] (lv' := [(1, .int l1), (2, .int l2), (3, .int s0)]) rfl (pc' := 29) rfl ?_
    refine st_iload_n hR dX9_homeOf_29 2 rfl rfl (pc' := 30) rfl ?_
    refine st_if_eq hR dX9_homeOf_30 (tgt := 42) (by decide) (pc' := 33) rfl (fun c_ => ?_) (fun c_ => ?_)
    · have hM := it_t c_ hM
      refine st_iload_n hR dX9_homeOf_42 0 rfl rfl (pc' := 43) rfl ?_
      cases hM
      exact hret _ _ dX9_homeOf_43 (ro_i _)
    · have hM := it_f c_ hM
      refine st_iload_n hR dX9_homeOf_33 1 rfl rfl (pc' := 34) rfl ?_
      refine st_iconst hR dX9_homeOf_34 (v := (-1)) (by decide) (pc' := 35) rfl ?_
      refine st_icmp_eq hR dX9_homeOf_35 (tgt := 42) (by decide) (pc' := 38) rfl (fun c_ => ?_) (fun c_ => ?_)
      · have hM := it_t c_ hM
        refine st_iload_n hR dX9_homeOf_42 0 rfl rfl (pc' := 43) rfl ?_
        cases hM
        exact hret _ _ dX9_homeOf_43 (ro_i _)
      · have hM := it_f c_ hM
        refine st_iload_n hR dX9_homeOf_38 1 rfl rfl (pc' := 39) rfl ?_
        refine st_goto hR dX9_homeOf_39 (tgt := 43) (by decide) ?_
        cases hM
        exact hret _ _ dX9_homeOf_43 (ro_i _)
  refine st_aload_n hR dX9_homeOf_0 0 rfl rfl (pc' := 1) rfl ?_
  refine st_get hR dX9_homeOf_1 fg_X9_36_8_0 0 0 rfl rfl rfl (pc' := 4) rfl ?_
  refine st_get hR dX9_homeOf_4 fg_X9_65_5_10 1 0 rfl rfl rfl (pc' := 7) rfl ?_
  refine st_iload_n hR dX9_homeOf_7 1 rfl rfl (pc' := 8) rfl ?_
  obtain ⟨hin_, hM⟩ := g_in_e hM
  refine st_iald hR dX9_homeOf_8 1 8 rfl rfl hin_ (v := mt_partner (ix l1)) rfl (pc' := 9) rfl ?_
  refine st_topi (fun l2_1 e_ => ?_)
  have hM := lt_e e_ hM
  refine st_istore_n hR dX9_homeOf_9 rfl (Nat.le_of_ble_eq_true rfl) [1, 2, 0] (lv' := [(0, .ref (q_v 0)), (1, .int l1), (2, .int l2_1)]) rfl (pc' := 10) rfl ?_
  refine st_aload_n hR dX9_homeOf_10 0 rfl rfl (pc' := 11) rfl ?_
  refine st_get hR dX9_homeOf_11 fg_X9_40_8_1 0 0 rfl rfl rfl (pc' := 14) rfl ?_
  refine st_bipush hR dX9_homeOf_14 (v := 28) rfl (pc' := 16) rfl ?_
  refine st_idiv hR dX9_homeOf_16 (pc' := 17) rfl (by decide) ?_
  refine st_iconst hR dX9_homeOf_17 (v := 2) rfl (pc' := 18) rfl ?_
  refine st_irem hR dX9_homeOf_18 (pc' := 19) rfl (by decide) ?_
  refine st_iconst hR dX9_homeOf_19 (v := 1) rfl (pc' := 20) rfl ?_
  refine st_icmp_ne hR dX9_homeOf_20 (tgt := 27) (by decide) (pc' := 23) rfl (fun c_ => ?_) (fun c_ => ?_)
  · have hM := it_f c_ hM
    refine st_iconst hR dX9_homeOf_27 (v := 0) rfl (pc' := 28) rfl ?_
    exact st_lv hR [1, 2] rfl (J28 _ _ _ hM)
  · have hM := it_t c_ hM
    refine st_iconst hR dX9_homeOf_23 (v := 1) rfl (pc' := 24) rfl ?_
    refine st_goto hR dX9_homeOf_24 (tgt := 28) (by decide) ?_
    exact st_lv hR [1, 2] rfl (J28 _ _ _ hM)
set_option maxHeartbeats 16000000 in
set_option maxRecDepth 100000 in
theorem k_X9_neighboursOf {l : Launch} {G : GG} {q_v q_mt : Nat → Nat} {v_night mt_farms mt_fences mt_shares mt_toothed : Int32} {v_g : Int64} {v_flock v_hunger v_lean v_fed v_taken v_pacts v_levels v_facts mt_flock mt_dogs mt_hunger mt_fenced mt_heights mt_pacts mt_partner mt_often : Nat → Int32} {mt_names : Nat → Int64} {mt_feeding mt_going : Nat} {l1 : Int32} {o_r : Int32} (hM : f_X9_neighboursOf v_pacts mt_fenced l1 = some o_r) : MC l G yX9_neighboursOf cX9_neighboursOf 2 (some .int) (RM 0) [.ref (q_v 0), .int l1] [wX9 G q_v (q_mt 0) v_night v_g v_flock v_hunger v_lean v_fed v_taken v_pacts v_levels v_facts, wX5 G q_mt mt_farms mt_fences mt_shares mt_names mt_flock mt_dogs mt_hunger mt_fenced mt_heights mt_pacts mt_partner mt_often mt_toothed mt_feeding mt_going] (some (.int o_r)) [wX9 G q_v (q_mt 0) v_night v_g v_flock v_hunger v_lean v_fed v_taken v_pacts v_levels v_facts, wX5 G q_mt mt_farms mt_fences mt_shares mt_names mt_flock mt_dogs mt_hunger mt_fenced mt_heights mt_pacts mt_partner mt_often mt_toothed mt_feeding mt_going] := by
  refine MC.of pn_X9 (Nat.le_of_ble_eq_true rfl) (fun K hR hret => ?_)
  have hR : Rl l G RX9 cX9_neighboursOf 2 (RM 0) K := hR
  show K [wX9 G q_v (q_mt 0) v_night v_g v_flock v_hunger v_lean v_fed v_taken v_pacts v_levels v_facts, wX5 G q_mt mt_farms mt_fences mt_shares mt_names mt_flock mt_dogs mt_hunger mt_fenced mt_heights mt_pacts mt_partner mt_often mt_toothed mt_feeding mt_going] [(0, .ref (q_v 0)), (1, .int l1)] 0 []
  refine st_aload_n hR dX9_neighboursOf_0 0 rfl rfl (pc' := 1) rfl ?_
  refine st_get hR dX9_neighboursOf_1 fg_X9_36_8_0 0 0 rfl rfl rfl (pc' := 4) rfl ?_
  refine st_get hR dX9_neighboursOf_4 fg_X9_68_5_7 1 0 rfl rfl rfl (pc' := 7) rfl ?_
  refine st_iload_n hR dX9_neighboursOf_7 1 rfl rfl (pc' := 8) rfl ?_
  obtain ⟨hin_, hM⟩ := g_in_e hM
  refine st_iald hR dX9_neighboursOf_8 1 5 rfl rfl hin_ (v := mt_fenced (ix l1)) rfl (pc' := 9) rfl ?_
  refine st_aload_n hR dX9_neighboursOf_9 0 rfl rfl (pc' := 10) rfl ?_
  refine st_get hR dX9_neighboursOf_10 fg_X9_27_8_8 0 0 rfl rfl rfl (pc' := 13) rfl ?_
  refine st_iload_n hR dX9_neighboursOf_13 1 rfl rfl (pc' := 14) rfl ?_
  obtain ⟨hin_, hM⟩ := g_in_e hM
  refine st_iald hR dX9_neighboursOf_14 0 6 rfl rfl hin_ (v := v_pacts (ix l1)) rfl (pc' := 15) rfl ?_
  refine st_iconst hR dX9_neighboursOf_15 (v := (-1)) (by decide) (pc' := 16) rfl ?_
  refine st_ixor hR dX9_neighboursOf_16 (pc' := 17) rfl ?_
  refine st_iand hR dX9_neighboursOf_17 (pc' := 18) rfl ?_
  cases hM
  exact hret _ _ dX9_neighboursOf_18 (ro_i _)
set_option maxHeartbeats 16000000 in
set_option maxRecDepth 100000 in
theorem k_J6_bitCount_0f7a4 {l : Launch} {G : GG}  {l0 : Int32} {o_r : Int32} (hM : f_J6_bitCount_0f7a4 l0 = some o_r) : MC l G yJ6_bitCount_0f7a4 cJ6_bitCount_0f7a4 1 (some .int) (RM 0) [.int l0] [] (some (.int o_r)) [] := by
  refine MC.of pn_J6 (Nat.le_of_ble_eq_true rfl) (fun K hR hret => ?_)
  have hR : Rl l G RJ6 cJ6_bitCount_0f7a4 1 (RM 0) K := hR
  show K [] [(0, .int l0)] 0 []
  refine st_iload_n hR dJ6_bitCount_0f7a4_0 0 rfl rfl (pc' := 1) rfl ?_
  refine st_iload_n hR dJ6_bitCount_0f7a4_1 0 rfl rfl (pc' := 2) rfl ?_
  refine st_iconst hR dJ6_bitCount_0f7a4_2 (v := 1) rfl (pc' := 3) rfl ?_
  refine st_iushr hR dJ6_bitCount_0f7a4_3 (pc' := 4) rfl ?_
  refine st_ldcw hR (v := 1431655765) ct_J6_265 dJ6_bitCount_0f7a4_4 (pc' := 7) rfl ?_
  refine st_iand hR dJ6_bitCount_0f7a4_7 (pc' := 8) rfl ?_
  refine st_isub hR dJ6_bitCount_0f7a4_8 (pc' := 9) rfl ?_
  refine st_topi (fun l0_1 e_ => ?_)
  have hM := lt_e e_ hM
  refine st_istore_n hR dJ6_bitCount_0f7a4_9 rfl (Nat.le_of_ble_eq_true rfl) [0] (lv' := [(0, .int l0_1)]) rfl (pc' := 10) rfl ?_
  refine st_iload_n hR dJ6_bitCount_0f7a4_10 0 rfl rfl (pc' := 11) rfl ?_
  refine st_ldcw hR (v := 858993459) ct_J6_266 dJ6_bitCount_0f7a4_11 (pc' := 14) rfl ?_
  refine st_iand hR dJ6_bitCount_0f7a4_14 (pc' := 15) rfl ?_
  refine st_iload_n hR dJ6_bitCount_0f7a4_15 0 rfl rfl (pc' := 16) rfl ?_
  refine st_iconst hR dJ6_bitCount_0f7a4_16 (v := 2) rfl (pc' := 17) rfl ?_
  refine st_iushr hR dJ6_bitCount_0f7a4_17 (pc' := 18) rfl ?_
  refine st_ldcw hR (v := 858993459) ct_J6_266 dJ6_bitCount_0f7a4_18 (pc' := 21) rfl ?_
  refine st_iand hR dJ6_bitCount_0f7a4_21 (pc' := 22) rfl ?_
  refine st_iadd hR dJ6_bitCount_0f7a4_22 (pc' := 23) rfl ?_
  refine st_topi (fun l0_2 e_ => ?_)
  have hM := lt_e e_ hM
  refine st_istore_n hR dJ6_bitCount_0f7a4_23 rfl (Nat.le_of_ble_eq_true rfl) [0] (lv' := [(0, .int l0_2)]) rfl (pc' := 24) rfl ?_
  refine st_iload_n hR dJ6_bitCount_0f7a4_24 0 rfl rfl (pc' := 25) rfl ?_
  refine st_iload_n hR dJ6_bitCount_0f7a4_25 0 rfl rfl (pc' := 26) rfl ?_
  refine st_iconst hR dJ6_bitCount_0f7a4_26 (v := 4) rfl (pc' := 27) rfl ?_
  refine st_iushr hR dJ6_bitCount_0f7a4_27 (pc' := 28) rfl ?_
  refine st_iadd hR dJ6_bitCount_0f7a4_28 (pc' := 29) rfl ?_
  refine st_ldcw hR (v := 252645135) ct_J6_267 dJ6_bitCount_0f7a4_29 (pc' := 32) rfl ?_
  refine st_iand hR dJ6_bitCount_0f7a4_32 (pc' := 33) rfl ?_
  refine st_topi (fun l0_3 e_ => ?_)
  have hM := lt_e e_ hM
  refine st_istore_n hR dJ6_bitCount_0f7a4_33 rfl (Nat.le_of_ble_eq_true rfl) [0] (lv' := [(0, .int l0_3)]) rfl (pc' := 34) rfl ?_
  refine st_iload_n hR dJ6_bitCount_0f7a4_34 0 rfl rfl (pc' := 35) rfl ?_
  refine st_iload_n hR dJ6_bitCount_0f7a4_35 0 rfl rfl (pc' := 36) rfl ?_
  refine st_bipush hR dJ6_bitCount_0f7a4_36 (v := 8) rfl (pc' := 38) rfl ?_
  refine st_iushr hR dJ6_bitCount_0f7a4_38 (pc' := 39) rfl ?_
  refine st_iadd hR dJ6_bitCount_0f7a4_39 (pc' := 40) rfl ?_
  refine st_topi (fun l0_4 e_ => ?_)
  have hM := lt_e e_ hM
  refine st_istore_n hR dJ6_bitCount_0f7a4_40 rfl (Nat.le_of_ble_eq_true rfl) [0] (lv' := [(0, .int l0_4)]) rfl (pc' := 41) rfl ?_
  refine st_iload_n hR dJ6_bitCount_0f7a4_41 0 rfl rfl (pc' := 42) rfl ?_
  refine st_iload_n hR dJ6_bitCount_0f7a4_42 0 rfl rfl (pc' := 43) rfl ?_
  refine st_bipush hR dJ6_bitCount_0f7a4_43 (v := 16) rfl (pc' := 45) rfl ?_
  refine st_iushr hR dJ6_bitCount_0f7a4_45 (pc' := 46) rfl ?_
  refine st_iadd hR dJ6_bitCount_0f7a4_46 (pc' := 47) rfl ?_
  refine st_topi (fun l0_5 e_ => ?_)
  have hM := lt_e e_ hM
  refine st_istore_n hR dJ6_bitCount_0f7a4_47 rfl (Nat.le_of_ble_eq_true rfl) [0] (lv' := [(0, .int l0_5)]) rfl (pc' := 48) rfl ?_
  refine st_iload_n hR dJ6_bitCount_0f7a4_48 0 rfl rfl (pc' := 49) rfl ?_
  refine st_bipush hR dJ6_bitCount_0f7a4_49 (v := 63) rfl (pc' := 51) rfl ?_
  refine st_iand hR dJ6_bitCount_0f7a4_51 (pc' := 52) rfl ?_
  cases hM
  exact hret _ _ dJ6_bitCount_0f7a4_52 (ro_i _)
set_option maxHeartbeats 16000000 in
set_option maxRecDepth 100000 in
theorem k_X9_pactsInAll {l : Launch} {G : GG} {q_v q_mt : Nat → Nat} {v_night mt_farms mt_fences mt_shares mt_toothed : Int32} {v_g : Int64} {v_flock v_hunger v_lean v_fed v_taken v_pacts v_levels v_facts mt_flock mt_dogs mt_hunger mt_fenced mt_heights mt_pacts mt_partner mt_often : Nat → Int32} {mt_names : Nat → Int64} {mt_feeding mt_going : Nat}  {o_r : Int32} (hM : f_X9_pactsInAll v_pacts mt_farms = some o_r) : MC l G yX9_pactsInAll cX9_pactsInAll 3 (some .int) (RM 1) [.ref (q_v 0)] [wX9 G q_v (q_mt 0) v_night v_g v_flock v_hunger v_lean v_fed v_taken v_pacts v_levels v_facts, wX5 G q_mt mt_farms mt_fences mt_shares mt_names mt_flock mt_dogs mt_hunger mt_fenced mt_heights mt_pacts mt_partner mt_often mt_toothed mt_feeding mt_going] (some (.int o_r)) [wX9 G q_v (q_mt 0) v_night v_g v_flock v_hunger v_lean v_fed v_taken v_pacts v_levels v_facts, wX5 G q_mt mt_farms mt_fences mt_shares mt_names mt_flock mt_dogs mt_hunger mt_fenced mt_heights mt_pacts mt_partner mt_often mt_toothed mt_feeding mt_going] := by
  refine MC.of pn_X9 (Nat.le_of_ble_eq_true rfl) (fun K hR hret => ?_)
  have hR : Rl l G RX9 cX9_pactsInAll 3 (RM 1) K := hR
  show K [wX9 G q_v (q_mt 0) v_night v_g v_flock v_hunger v_lean v_fed v_taken v_pacts v_levels v_facts, wX5 G q_mt mt_farms mt_fences mt_shares mt_names mt_flock mt_dogs mt_hunger mt_fenced mt_heights mt_pacts mt_partner mt_often mt_toothed mt_feeding mt_going] [(0, .ref (q_v 0))] 0 []
  have L4 : ∀ (n4 : Nat) (l1 : Int32) (l2 : Int32), f_X9_pactsInAll_L4  v_pacts mt_farms n4 l1 l2 = some o_r → K [wX9 G q_v (q_mt 0) v_night v_g v_flock v_hunger v_lean v_fed v_taken v_pacts v_levels v_facts, wX5 G q_mt mt_farms mt_fences mt_shares mt_names mt_flock mt_dogs mt_hunger mt_fenced mt_heights mt_pacts mt_partner mt_often mt_toothed mt_feeding mt_going] [(0, .ref (q_v 0)), (1, .int l1), (2, .int l2)] 4 [] := by
    intro n4
    induction n4 with
    | zero => intro l1 l2 hM; exact no_some hM
    | succ n4 ih4 =>
      intro l1 l2 hM
      have hM : f_X9_pactsInAll_L4b  (f_X9_pactsInAll_L4  v_pacts mt_farms n4) v_pacts mt_farms l1 l2 = some o_r := hM
      refine st_iload_n hR dX9_pactsInAll_4 2 rfl rfl (pc' := 5) rfl ?_
      refine st_aload_n hR dX9_pactsInAll_5 0 rfl rfl (pc' := 6) rfl ?_
      refine st_get hR dX9_pactsInAll_6 fg_X9_36_8_0 0 0 rfl rfl rfl (pc' := 9) rfl ?_
      refine st_get hR dX9_pactsInAll_9 fg_X9_71_5_0 1 0 rfl rfl rfl (pc' := 12) rfl ?_
      refine st_icmp_ge hR dX9_pactsInAll_12 (tgt := 33) (by decide) (pc' := 15) rfl (fun c_ => ?_) (fun c_ => ?_)
      · have hM := it_t c_ hM
        refine st_iload_n hR dX9_pactsInAll_33 1 rfl rfl (pc' := 34) rfl ?_
        refine st_iconst hR dX9_pactsInAll_34 (v := 2) rfl (pc' := 35) rfl ?_
        refine st_idiv hR dX9_pactsInAll_35 (pc' := 36) rfl (by decide) ?_
        cases hM
        exact hret _ _ dX9_pactsInAll_36 (ro_i _)
      · have hM := it_f c_ hM
        refine st_iload_n hR dX9_pactsInAll_15 1 rfl rfl (pc' := 16) rfl ?_
        refine st_aload_n hR dX9_pactsInAll_16 0 rfl rfl (pc' := 17) rfl ?_
        refine st_get hR dX9_pactsInAll_17 fg_X9_27_8_8 0 0 rfl rfl rfl (pc' := 20) rfl ?_
        refine st_iload_n hR dX9_pactsInAll_20 2 rfl rfl (pc' := 21) rfl ?_
        obtain ⟨hin_, hM⟩ := g_in_e hM
        refine st_iald hR dX9_pactsInAll_21 0 6 rfl rfl hin_ (v := v_pacts (ix l2)) rfl (pc' := 22) rfl ?_
        obtain ⟨r_1, hc_, hM⟩ := bd_e hM
        refine st_callS hR (k_J6_bitCount_0f7a4 hc_) cf_X9_74 (rm_le (Nat.le_of_ble_eq_true rfl) (Nat.le_of_ble_eq_true rfl)) [] rfl rfl rfl rfl (rest := [.int l1]) rfl (Nat.le_of_ble_eq_true rfl) dX9_pactsInAll_22 (pc' := 25) rfl (Wn := [wX9 G q_v (q_mt 0) v_night v_g v_flock v_hunger v_lean v_fed v_taken v_pacts v_levels v_facts, wX5 G q_mt mt_farms mt_fences mt_shares mt_names mt_flock mt_dogs mt_hunger mt_fenced mt_heights mt_pacts mt_partner mt_often mt_toothed mt_feeding mt_going]) rfl ?_
        refine st_iadd hR dX9_pactsInAll_25 (pc' := 26) rfl ?_
        refine st_topi (fun l1_1 e_ => ?_)
        have hM := lt_e e_ hM
        refine st_istore_n hR dX9_pactsInAll_26 rfl (Nat.le_of_ble_eq_true rfl) [1, 0, 2] (lv' := [(0, .ref (q_v 0)), (1, .int l1_1), (2, .int l2)]) rfl (pc' := 27) rfl ?_
        obtain ⟨l2_1, e_⟩ : ∃ y : Int32, y = l2 + 1 := ⟨_, rfl⟩
        refine st_iinc hR dX9_pactsInAll_27 (Nat.le_of_ble_eq_true rfl) 2 [1, 2, 0] (v := l2_1) rfl (by rw [e_]; rfl) (lv' := [(0, .ref (q_v 0)), (1, .int l1_1), (2, .int l2_1)]) rfl (pc' := 30) rfl ?_
        have hM := lt_e e_ hM
        refine st_goto hR dX9_pactsInAll_30 (tgt := 4) (by decide) ?_
        exact ih4 _ _ hM
  refine st_iconst hR dX9_pactsInAll_0 (v := 0) rfl (pc' := 1) rfl ?_
  refine st_istore_n hR dX9_pactsInAll_1 rfl (Nat.le_of_ble_eq_true rfl) [1, 0] (lv' := [(0, .ref (q_v 0)), (1, .int 0)]) rfl (pc' := 2) rfl ?_
  refine st_iconst hR dX9_pactsInAll_2 (v := 0) rfl (pc' := 3) rfl ?_
  refine st_istore_n hR dX9_pactsInAll_3 rfl (Nat.le_of_ble_eq_true rfl) [1, 2, 0] (lv' := [(0, .ref (q_v 0)), (1, .int 0), (2, .int 0)]) rfl (pc' := 4) rfl ?_
  exact L4 FU _ _ hM
set_option maxHeartbeats 16000000 in
set_option maxRecDepth 100000 in
theorem k_X9_takenAt {l : Launch} {G : GG} {q_v q_mt : Nat → Nat} {v_night mt_farms mt_fences mt_shares mt_toothed : Int32} {v_g : Int64} {v_flock v_hunger v_lean v_fed v_taken v_pacts v_levels v_facts mt_flock mt_dogs mt_hunger mt_fenced mt_heights mt_pacts mt_partner mt_often : Nat → Int32} {mt_names : Nat → Int64} {mt_feeding mt_going : Nat} {l1 l2 : Int32} {o_r : Int32} (hM : f_X9_takenAt v_flock mt_dogs l1 l2 = some o_r) : MC l G yX9_takenAt cX9_takenAt 4 (some .int) (RM 1) [.ref (q_v 0), .int l1, .int l2] [wX9 G q_v (q_mt 0) v_night v_g v_flock v_hunger v_lean v_fed v_taken v_pacts v_levels v_facts, wX5 G q_mt mt_farms mt_fences mt_shares mt_names mt_flock mt_dogs mt_hunger mt_fenced mt_heights mt_pacts mt_partner mt_often mt_toothed mt_feeding mt_going] (some (.int o_r)) [wX9 G q_v (q_mt 0) v_night v_g v_flock v_hunger v_lean v_fed v_taken v_pacts v_levels v_facts, wX5 G q_mt mt_farms mt_fences mt_shares mt_names mt_flock mt_dogs mt_hunger mt_fenced mt_heights mt_pacts mt_partner mt_often mt_toothed mt_feeding mt_going] := by
  refine MC.of pn_X9 (Nat.le_of_ble_eq_true rfl) (fun K hR hret => ?_)
  have hR : Rl l G RX9 cX9_takenAt 4 (RM 1) K := hR
  show K [wX9 G q_v (q_mt 0) v_night v_g v_flock v_hunger v_lean v_fed v_taken v_pacts v_levels v_facts, wX5 G q_mt mt_farms mt_fences mt_shares mt_names mt_flock mt_dogs mt_hunger mt_fenced mt_heights mt_pacts mt_partner mt_often mt_toothed mt_feeding mt_going] [(0, .ref (q_v 0)), (1, .int l1), (2, .int l2)] 0 []
  refine st_iload_n hR dX9_takenAt_0 2 rfl rfl (pc' := 1) rfl ?_
  refine st_iconst hR dX9_takenAt_1 (v := 1) rfl (pc' := 2) rfl ?_
  refine st_iadd hR dX9_takenAt_2 (pc' := 3) rfl ?_
  refine st_iconst hR dX9_takenAt_3 (v := 2) rfl (pc' := 4) rfl ?_
  refine st_idiv hR dX9_takenAt_4 (pc' := 5) rfl (by decide) ?_
  refine st_aload_n hR dX9_takenAt_5 0 rfl rfl (pc' := 6) rfl ?_
  refine st_get hR dX9_takenAt_6 fg_X9_36_8_0 0 0 rfl rfl rfl (pc' := 9) rfl ?_
  refine st_get hR dX9_takenAt_9 fg_X9_114_5_5 1 0 rfl rfl rfl (pc' := 12) rfl ?_
  refine st_iload_n hR dX9_takenAt_12 1 rfl rfl (pc' := 13) rfl ?_
  obtain ⟨hin_, hM⟩ := g_in_e hM
  refine st_iald hR dX9_takenAt_13 1 3 rfl rfl hin_ (v := mt_dogs (ix l1)) rfl (pc' := 14) rfl ?_
  refine st_isub hR dX9_takenAt_14 (pc' := 15) rfl ?_
  refine st_topi (fun l3_1 e_ => ?_)
  have hM := lt_e e_ hM
  refine st_istore_n hR dX9_takenAt_15 rfl (Nat.le_of_ble_eq_true rfl) [1, 2, 3, 0] (lv' := [(0, .ref (q_v 0)), (1, .int l1), (2, .int l2), (3, .int l3_1)]) rfl (pc' := 16) rfl ?_
  refine st_iload_n hR dX9_takenAt_16 3 rfl rfl (pc' := 17) rfl ?_
  refine st_iconst hR dX9_takenAt_17 (v := 0) rfl (pc' := 18) rfl ?_
  refine st_mmax hR dX9_takenAt_18 mm_X9_127 (Nat.le_of_ble_eq_true rfl) (rest := []) (Nat.le_of_ble_eq_true rfl) (pc' := 21) rfl ?_
  refine st_aload_n hR dX9_takenAt_21 0 rfl rfl (pc' := 22) rfl ?_
  refine st_get hR dX9_takenAt_22 fg_X9_9_8_3 0 0 rfl rfl rfl (pc' := 25) rfl ?_
  refine st_iload_n hR dX9_takenAt_25 1 rfl rfl (pc' := 26) rfl ?_
  obtain ⟨hin_, hM⟩ := g_in_e hM
  refine st_iald hR dX9_takenAt_26 0 1 rfl rfl hin_ (v := v_flock (ix l1)) rfl (pc' := 27) rfl ?_
  refine st_mmin hR dX9_takenAt_27 mm_X9_132 (Nat.le_of_ble_eq_true rfl) (rest := []) (Nat.le_of_ble_eq_true rfl) (pc' := 30) rfl ?_
  cases hM
  exact hret _ _ dX9_takenAt_30 (ro_i _)
set_option maxHeartbeats 16000000 in
set_option maxRecDepth 100000 in
theorem k_X9_endNight {l : Launch} {G : GG} {q_v q_mt : Nat → Nat} {v_night mt_farms mt_fences mt_shares mt_toothed : Int32} {v_g : Int64} {v_flock v_hunger v_lean v_fed v_taken v_pacts v_levels v_facts mt_flock mt_dogs mt_hunger mt_fenced mt_heights mt_pacts mt_partner mt_often : Nat → Int32} {mt_names : Nat → Int64} {mt_feeding mt_going : Nat}  {o_v_night : Int32} {o_v_flock : Nat → Int32} (hM : f_X9_endNight mt_farms v_night v_flock = some (o_v_night, o_v_flock)) : MC l G yX9_endNight cX9_endNight 2 none (RM 1) [.ref (q_v 0)] [wX9 G q_v (q_mt 0) v_night v_g v_flock v_hunger v_lean v_fed v_taken v_pacts v_levels v_facts, wX5 G q_mt mt_farms mt_fences mt_shares mt_names mt_flock mt_dogs mt_hunger mt_fenced mt_heights mt_pacts mt_partner mt_often mt_toothed mt_feeding mt_going] none [wX9 G q_v (q_mt 0) o_v_night v_g o_v_flock v_hunger v_lean v_fed v_taken v_pacts v_levels v_facts, wX5 G q_mt mt_farms mt_fences mt_shares mt_names mt_flock mt_dogs mt_hunger mt_fenced mt_heights mt_pacts mt_partner mt_often mt_toothed mt_feeding mt_going] := by
  refine MC.of pn_X9 (Nat.le_of_ble_eq_true rfl) (fun K hR hret => ?_)
  have hR : Rl l G RX9 cX9_endNight 2 (RM 1) K := hR
  show K [wX9 G q_v (q_mt 0) v_night v_g v_flock v_hunger v_lean v_fed v_taken v_pacts v_levels v_facts, wX5 G q_mt mt_farms mt_fences mt_shares mt_names mt_flock mt_dogs mt_hunger mt_fenced mt_heights mt_pacts mt_partner mt_often mt_toothed mt_feeding mt_going] [(0, .ref (q_v 0))] 0 []
  have L22 : ∀ (n22 : Nat) (v_night : Int32) (v_flock : Nat → Int32) (l1 : Int32), f_X9_endNight_L22  mt_farms n22 v_night v_flock l1 = some (o_v_night, o_v_flock) → K [wX9 G q_v (q_mt 0) v_night v_g v_flock v_hunger v_lean v_fed v_taken v_pacts v_levels v_facts, wX5 G q_mt mt_farms mt_fences mt_shares mt_names mt_flock mt_dogs mt_hunger mt_fenced mt_heights mt_pacts mt_partner mt_often mt_toothed mt_feeding mt_going] [(0, .ref (q_v 0)), (1, .int l1)] 22 [] := by
    intro n22
    induction n22 with
    | zero => intro v_night v_flock l1 hM; exact no_some hM
    | succ n22 ih22 =>
      intro v_night v_flock l1 hM
      have hM : f_X9_endNight_L22b  (f_X9_endNight_L22  mt_farms n22) mt_farms v_night v_flock l1 = some (o_v_night, o_v_flock) := hM
      refine st_iload_n hR dX9_endNight_22 1 rfl rfl (pc' := 23) rfl ?_
      refine st_aload_n hR dX9_endNight_23 0 rfl rfl (pc' := 24) rfl ?_
      refine st_get hR dX9_endNight_24 fg_X9_36_8_0 0 0 rfl rfl rfl (pc' := 27) rfl ?_
      refine st_get hR dX9_endNight_27 fg_X9_71_5_0 1 0 rfl rfl rfl (pc' := 30) rfl ?_
      refine st_icmp_ge hR dX9_endNight_30 (tgt := 67) (by decide) (pc' := 33) rfl (fun c_ => ?_) (fun c_ => ?_)
      · have hM := it_t c_ hM
        cases hM
        exact hret _ _ dX9_endNight_67 ro_v
      · have hM := it_f c_ hM
        refine st_aload_n hR dX9_endNight_33 0 rfl rfl (pc' := 34) rfl ?_
        refine st_get hR dX9_endNight_34 fg_X9_9_8_3 0 0 rfl rfl rfl (pc' := 37) rfl ?_
        refine st_iload_n hR dX9_endNight_37 1 rfl rfl (pc' := 38) rfl ?_
        refine st_aload_n hR dX9_endNight_38 0 rfl rfl (pc' := 39) rfl ?_
        refine st_get hR dX9_endNight_39 fg_X9_9_8_3 0 0 rfl rfl rfl (pc' := 42) rfl ?_
        refine st_iload_n hR dX9_endNight_42 1 rfl rfl (pc' := 43) rfl ?_
        obtain ⟨hin_, hM⟩ := g_in_e hM
        refine st_iald hR dX9_endNight_43 0 1 rfl rfl hin_ (v := v_flock (ix l1)) rfl (pc' := 44) rfl ?_
        refine st_aload_n hR dX9_endNight_44 0 rfl rfl (pc' := 45) rfl ?_
        refine st_get hR dX9_endNight_45 fg_X9_9_8_3 0 0 rfl rfl rfl (pc' := 48) rfl ?_
        refine st_iload_n hR dX9_endNight_48 1 rfl rfl (pc' := 49) rfl ?_
        obtain ⟨hin_, hM⟩ := g_in_e hM
        refine st_iald hR dX9_endNight_49 0 1 rfl rfl hin_ (v := v_flock (ix l1)) rfl (pc' := 50) rfl ?_
        refine st_bipush hR dX9_endNight_50 (v := 10) rfl (pc' := 52) rfl ?_
        refine st_idiv hR dX9_endNight_52 (pc' := 53) rfl (by decide) ?_
        refine st_iadd hR dX9_endNight_53 (pc' := 54) rfl ?_
        refine st_sipush hR dX9_endNight_54 (v := 9999) rfl (pc' := 57) rfl ?_
        refine st_mmin hR dX9_endNight_57 mm_X9_132 (Nat.le_of_ble_eq_true rfl) (rest := [.int l1, .ref (q_v 1)]) (Nat.le_of_ble_eq_true rfl) (pc' := 60) rfl ?_
        obtain ⟨hin_, hM⟩ := g_in_e hM
        refine st_iast hR dX9_endNight_60 0 1 rfl rfl hin_ (ix := (ix l1)) rfl (pc' := 61) rfl (fun v_flock_1 => [wX9 G q_v (q_mt 0) v_night v_g v_flock_1 v_hunger v_lean v_fed v_taken v_pacts v_levels v_facts, wX5 G q_mt mt_farms mt_fences mt_shares mt_names mt_flock mt_dogs mt_hunger mt_fenced mt_heights mt_pacts mt_partner mt_often mt_toothed mt_feeding mt_going]) (fun _ => rfl) (fun v_flock_1 e_ => ?_)
        have hM := lt_e e_ hM
        obtain ⟨l1_1, e_⟩ : ∃ y : Int32, y = l1 + 1 := ⟨_, rfl⟩
        refine st_iinc hR dX9_endNight_61 (Nat.le_of_ble_eq_true rfl) 1 [1, 0] (v := l1_1) rfl (by rw [e_]; rfl) (lv' := [(0, .ref (q_v 0)), (1, .int l1_1)]) rfl (pc' := 64) rfl ?_
        have hM := lt_e e_ hM
        refine st_goto hR dX9_endNight_64 (tgt := 22) (by decide) ?_
        exact ih22 _ _ _ hM
  refine st_aload_n hR dX9_endNight_0 0 rfl rfl (pc' := 1) rfl ?_
  refine st_dup hR dX9_endNight_1 (pc' := 2) rfl rfl ?_
  refine st_get hR dX9_endNight_2 fg_X9_40_8_1 0 0 rfl rfl rfl (pc' := 5) rfl ?_
  refine st_iconst hR dX9_endNight_5 (v := 1) rfl (pc' := 6) rfl ?_
  refine st_iadd hR dX9_endNight_6 (pc' := 7) rfl ?_
  refine st_topi (fun v_night_1 e_ => ?_)
  have hM := lt_e e_ hM
  refine st_put hR dX9_endNight_7 fp_X9_40_8_1 0 0 rfl rfl (Nat.le_of_ble_eq_true rfl) rfl rfl (pc' := 10) rfl (W' := [wX9 G q_v (q_mt 0) v_night_1 v_g v_flock v_hunger v_lean v_fed v_taken v_pacts v_levels v_facts, wX5 G q_mt mt_farms mt_fences mt_shares mt_names mt_flock mt_dogs mt_hunger mt_fenced mt_heights mt_pacts mt_partner mt_often mt_toothed mt_feeding mt_going]) rfl ?_
  refine st_aload_n hR dX9_endNight_10 0 rfl rfl (pc' := 11) rfl ?_
  refine st_get hR dX9_endNight_11 fg_X9_40_8_1 0 0 rfl rfl rfl (pc' := 14) rfl ?_
  refine st_bipush hR dX9_endNight_14 (v := 28) rfl (pc' := 16) rfl ?_
  refine st_irem hR dX9_endNight_16 (pc' := 17) rfl (by decide) ?_
  refine st_if_ne hR dX9_endNight_17 (tgt := 67) (by decide) (pc' := 20) rfl (fun c_ => ?_) (fun c_ => ?_)
  · have hM := it_f c_ hM
    cases hM
    exact hret _ _ dX9_endNight_67 ro_v
  · have hM := it_t c_ hM
    refine st_iconst hR dX9_endNight_20 (v := 0) rfl (pc' := 21) rfl ?_
    refine st_istore_n hR dX9_endNight_21 rfl (Nat.le_of_ble_eq_true rfl) [1, 0] (lv' := [(0, .ref (q_v 0)), (1, .int 0)]) rfl (pc' := 22) rfl ?_
    exact L22 FU _ _ _ hM
set_option maxHeartbeats 16000000 in
set_option maxRecDepth 100000 in
theorem k_X9_havePact {l : Launch} {G : GG} {q_v : Nat → Nat} {v_night : Int32} {v_g : Int64} {v_flock v_hunger v_lean v_fed v_taken v_pacts v_levels v_facts : Nat → Int32} {v_mountain : Nat} {l1 l2 : Int32} {o_r : Int32} (hM : f_X9_havePact v_pacts l1 l2 = some o_r) : MC l G yX9_havePact cX9_havePact 3 (some .boolean) (RM 0) [.ref (q_v 0), .int l1, .int l2] [wX9 G q_v v_mountain v_night v_g v_flock v_hunger v_lean v_fed v_taken v_pacts v_levels v_facts] (some (.int o_r)) [wX9 G q_v v_mountain v_night v_g v_flock v_hunger v_lean v_fed v_taken v_pacts v_levels v_facts] := by
  refine MC.of pn_X9 (Nat.le_of_ble_eq_true rfl) (fun K hR hret => ?_)
  have hR : Rl l G RX9 cX9_havePact 3 (RM 0) K := hR
  show K [wX9 G q_v v_mountain v_night v_g v_flock v_hunger v_lean v_fed v_taken v_pacts v_levels v_facts] [(0, .ref (q_v 0)), (1, .int l1), (2, .int l2)] 0 []
  refine st_aload_n hR dX9_havePact_0 0 rfl rfl (pc' := 1) rfl ?_
  refine st_get hR dX9_havePact_1 fg_X9_27_8_8 0 0 rfl rfl rfl (pc' := 4) rfl ?_
  refine st_iload_n hR dX9_havePact_4 1 rfl rfl (pc' := 5) rfl ?_
  obtain ⟨hin_, hM⟩ := g_in_e hM
  refine st_iald hR dX9_havePact_5 0 6 rfl rfl hin_ (v := v_pacts (ix l1)) rfl (pc' := 6) rfl ?_
  refine st_iload_n hR dX9_havePact_6 2 rfl rfl (pc' := 7) rfl ?_
  refine st_ishr hR dX9_havePact_7 (pc' := 8) rfl ?_
  refine st_iconst hR dX9_havePact_8 (v := 1) rfl (pc' := 9) rfl ?_
  refine st_iand hR dX9_havePact_9 (pc' := 10) rfl ?_
  refine st_iconst hR dX9_havePact_10 (v := 1) rfl (pc' := 11) rfl ?_
  refine st_icmp_ne hR dX9_havePact_11 (tgt := 18) (by decide) (pc' := 14) rfl (fun c_ => ?_) (fun c_ => ?_)
  · have hM := it_f c_ hM
    refine st_iconst hR dX9_havePact_18 (v := 0) rfl (pc' := 19) rfl ?_
    cases hM
    exact hret _ _ dX9_havePact_19 (ro_z (Or.inl rfl))
  · have hM := it_t c_ hM
    refine st_iconst hR dX9_havePact_14 (v := 1) rfl (pc' := 15) rfl ?_
    refine st_goto hR dX9_havePact_15 (tgt := 19) (by decide) ?_
    cases hM
    exact hret _ _ dX9_havePact_19 (ro_z (Or.inr rfl))
set_option maxHeartbeats 16000000 in
set_option maxRecDepth 100000 in
theorem k_X9_turnPact {l : Launch} {G : GG} {q_v : Nat → Nat} {v_night : Int32} {v_g : Int64} {v_flock v_hunger v_lean v_fed v_taken v_pacts v_levels v_facts : Nat → Int32} {v_mountain : Nat} {l1 l2 : Int32} {o_v_pacts : Nat → Int32} (hM : f_X9_turnPact v_pacts l1 l2 = some o_v_pacts) : MC l G yX9_turnPact cX9_turnPact 3 none (RM 0) [.ref (q_v 0), .int l1, .int l2] [wX9 G q_v v_mountain v_night v_g v_flock v_hunger v_lean v_fed v_taken v_pacts v_levels v_facts] none [wX9 G q_v v_mountain v_night v_g v_flock v_hunger v_lean v_fed v_taken o_v_pacts v_levels v_facts] := by
  refine MC.of pn_X9 (Nat.le_of_ble_eq_true rfl) (fun K hR hret => ?_)
  have hR : Rl l G RX9 cX9_turnPact 3 (RM 0) K := hR
  show K [wX9 G q_v v_mountain v_night v_g v_flock v_hunger v_lean v_fed v_taken v_pacts v_levels v_facts] [(0, .ref (q_v 0)), (1, .int l1), (2, .int l2)] 0 []
  refine st_aload_n hR dX9_turnPact_0 0 rfl rfl (pc' := 1) rfl ?_
  refine st_get hR dX9_turnPact_1 fg_X9_27_8_8 0 0 rfl rfl rfl (pc' := 4) rfl ?_
  refine st_iload_n hR dX9_turnPact_4 1 rfl rfl (pc' := 5) rfl ?_
  refine st_dup2 hR dX9_turnPact_5 (pc' := 6) rfl rfl rfl ?_
  obtain ⟨hin_, hM⟩ := g_in_e hM
  refine st_iald hR dX9_turnPact_6 0 6 rfl rfl hin_ (v := v_pacts (ix l1)) rfl (pc' := 7) rfl ?_
  refine st_iconst hR dX9_turnPact_7 (v := 1) rfl (pc' := 8) rfl ?_
  refine st_iload_n hR dX9_turnPact_8 2 rfl rfl (pc' := 9) rfl ?_
  refine st_ishl hR dX9_turnPact_9 (pc' := 10) rfl ?_
  refine st_ixor hR dX9_turnPact_10 (pc' := 11) rfl ?_
  obtain ⟨hin_, hM⟩ := g_in_e hM
  refine st_iast hR dX9_turnPact_11 0 6 rfl rfl hin_ (ix := (ix l1)) rfl (pc' := 12) rfl (fun v_pacts_1 => [wX9 G q_v v_mountain v_night v_g v_flock v_hunger v_lean v_fed v_taken v_pacts_1 v_levels v_facts]) (fun _ => rfl) (fun v_pacts_1 e_ => ?_)
  have hM := lt_e e_ hM
  refine st_aload_n hR dX9_turnPact_12 0 rfl rfl (pc' := 13) rfl ?_
  refine st_get hR dX9_turnPact_13 fg_X9_27_8_8 0 0 rfl rfl rfl (pc' := 16) rfl ?_
  refine st_iload_n hR dX9_turnPact_16 2 rfl rfl (pc' := 17) rfl ?_
  refine st_dup2 hR dX9_turnPact_17 (pc' := 18) rfl rfl rfl ?_
  obtain ⟨hin_, hM⟩ := g_in_e hM
  refine st_iald hR dX9_turnPact_18 0 6 rfl rfl hin_ (v := v_pacts_1 (ix l2)) rfl (pc' := 19) rfl ?_
  refine st_iconst hR dX9_turnPact_19 (v := 1) rfl (pc' := 20) rfl ?_
  refine st_iload_n hR dX9_turnPact_20 1 rfl rfl (pc' := 21) rfl ?_
  refine st_ishl hR dX9_turnPact_21 (pc' := 22) rfl ?_
  refine st_ixor hR dX9_turnPact_22 (pc' := 23) rfl ?_
  obtain ⟨hin_, hM⟩ := g_in_e hM
  refine st_iast hR dX9_turnPact_23 0 6 rfl rfl hin_ (ix := (ix l2)) rfl (pc' := 24) rfl (fun v_pacts_2 => [wX9 G q_v v_mountain v_night v_g v_flock v_hunger v_lean v_fed v_taken v_pacts_2 v_levels v_facts]) (fun _ => rfl) (fun v_pacts_2 e_ => ?_)
  have hM := lt_e e_ hM
  cases hM
  exact hret _ _ dX9_turnPact_24 ro_v
set_option maxHeartbeats 16000000 in
set_option maxRecDepth 100000 in
theorem k_X9_goneFrom {l : Launch} {G : GG} {q_v : Nat → Nat} {v_night : Int32} {v_g : Int64} {v_flock v_hunger v_lean v_fed v_taken v_pacts v_levels v_facts : Nat → Int32} {v_mountain : Nat} {l1 : Int32} {o_r : Int32} (hM : f_X9_goneFrom v_fed v_taken l1 = some o_r) : MC l G yX9_goneFrom cX9_goneFrom 2 (some .int) (RM 0) [.ref (q_v 0), .int l1] [wX9 G q_v v_mountain v_night v_g v_flock v_hunger v_lean v_fed v_taken v_pacts v_levels v_facts] (some (.int o_r)) [wX9 G q_v v_mountain v_night v_g v_flock v_hunger v_lean v_fed v_taken v_pacts v_levels v_facts] := by
  refine MC.of pn_X9 (Nat.le_of_ble_eq_true rfl) (fun K hR hret => ?_)
  have hR : Rl l G RX9 cX9_goneFrom 2 (RM 0) K := hR
  show K [wX9 G q_v v_mountain v_night v_g v_flock v_hunger v_lean v_fed v_taken v_pacts v_levels v_facts] [(0, .ref (q_v 0)), (1, .int l1)] 0 []
  refine st_aload_n hR dX9_goneFrom_0 0 rfl rfl (pc' := 1) rfl ?_
  refine st_get hR dX9_goneFrom_1 fg_X9_21_8_6 0 0 rfl rfl rfl (pc' := 4) rfl ?_
  refine st_iload_n hR dX9_goneFrom_4 1 rfl rfl (pc' := 5) rfl ?_
  obtain ⟨hin_, hM⟩ := g_in_e hM
  refine st_iald hR dX9_goneFrom_5 0 4 rfl rfl hin_ (v := v_fed (ix l1)) rfl (pc' := 6) rfl ?_
  refine st_aload_n hR dX9_goneFrom_6 0 rfl rfl (pc' := 7) rfl ?_
  refine st_get hR dX9_goneFrom_7 fg_X9_24_8_7 0 0 rfl rfl rfl (pc' := 10) rfl ?_
  refine st_iload_n hR dX9_goneFrom_10 1 rfl rfl (pc' := 11) rfl ?_
  obtain ⟨hin_, hM⟩ := g_in_e hM
  refine st_iald hR dX9_goneFrom_11 0 5 rfl rfl hin_ (v := v_taken (ix l1)) rfl (pc' := 12) rfl ?_
  refine st_iadd hR dX9_goneFrom_12 (pc' := 13) rfl ?_
  cases hM
  exact hret _ _ dX9_goneFrom_13 (ro_i _)
set_option maxHeartbeats 16000000 in
set_option maxRecDepth 100000 in
theorem k_X9_draw {l : Launch} {G : GG} {q_v : Nat → Nat} {v_night : Int32} {v_g : Int64} {v_flock v_hunger v_lean v_fed v_taken v_pacts v_levels v_facts : Nat → Int32} {v_mountain : Nat} {l1 : Int32} {o_r : Int32} {o_v_g : Int64} (hM : f_X9_draw v_g l1 = some (o_r, o_v_g)) : MC l G yX9_draw cX9_draw 2 (some .int) (RM 0) [.ref (q_v 0), .int l1] [wX9 G q_v v_mountain v_night v_g v_flock v_hunger v_lean v_fed v_taken v_pacts v_levels v_facts] (some (.int o_r)) [wX9 G q_v v_mountain v_night o_v_g v_flock v_hunger v_lean v_fed v_taken v_pacts v_levels v_facts] := by
  refine MC.of pn_X9 (Nat.le_of_ble_eq_true rfl) (fun K hR hret => ?_)
  have hR : Rl l G RX9 cX9_draw 2 (RM 0) K := hR
  show K [wX9 G q_v v_mountain v_night v_g v_flock v_hunger v_lean v_fed v_taken v_pacts v_levels v_facts] [(0, .ref (q_v 0)), (1, .int l1)] 0 []
  refine st_aload_n hR dX9_draw_0 0 rfl rfl (pc' := 1) rfl ?_
  refine st_aload_n hR dX9_draw_1 0 rfl rfl (pc' := 2) rfl ?_
  refine st_get hR dX9_draw_2 fg_X9_44_8_2 0 0 rfl rfl rfl (pc' := 5) rfl ?_
  refine st_ldc2 hR (v := 1103515245) cl_X9_147 dX9_draw_5 (pc' := 8) rfl ?_
  refine st_lmul hR dX9_draw_8 (pc' := 9) rfl ?_
  refine st_ldc2 hR (v := 12345) cl_X9_149 dX9_draw_9 (pc' := 12) rfl ?_
  refine st_ladd hR dX9_draw_12 (pc' := 13) rfl ?_
  refine st_ldc2 hR (v := 2147483648) cl_X9_151 dX9_draw_13 (pc' := 16) rfl ?_
  refine st_lrem hR dX9_draw_16 (pc' := 17) rfl (by decide) ?_
  refine st_topl (fun v_g_1 e_ => ?_)
  have hM := lt_e e_ hM
  refine st_put hR dX9_draw_17 fp_X9_44_8_2 0 0 rfl rfl (Nat.le_of_ble_eq_true rfl) rfl rfl (pc' := 20) rfl (W' := [wX9 G q_v v_mountain v_night v_g_1 v_flock v_hunger v_lean v_fed v_taken v_pacts v_levels v_facts]) rfl ?_
  refine st_iload_n hR dX9_draw_20 1 rfl rfl (pc' := 21) rfl ?_
  refine st_if_le hR dX9_draw_21 (tgt := 39) (by decide) (pc' := 24) rfl (fun c_ => ?_) (fun c_ => ?_)
  · have hM := it_t c_ hM
    refine st_iconst hR dX9_draw_39 (v := 0) rfl (pc' := 40) rfl ?_
    cases hM
    exact hret _ _ dX9_draw_40 (ro_i _)
  · have hM := it_f c_ hM
    refine st_aload_n hR dX9_draw_24 0 rfl rfl (pc' := 25) rfl ?_
    refine st_get hR dX9_draw_25 fg_X9_44_8_2 0 0 rfl rfl rfl (pc' := 28) rfl ?_
    refine st_ldc2 hR (v := 65536) cl_X9_153 dX9_draw_28 (pc' := 31) rfl ?_
    refine st_ldiv hR dX9_draw_31 (pc' := 32) rfl (by decide) ?_
    refine st_iload_n hR dX9_draw_32 1 rfl rfl (pc' := 33) rfl ?_
    refine st_i2l hR dX9_draw_33 (pc' := 34) rfl ?_
    obtain ⟨hnz_, hM⟩ := g_nzL_e hM
    refine st_lrem hR dX9_draw_34 (pc' := 35) rfl hnz_ ?_
    refine st_l2i hR dX9_draw_35 (pc' := 36) rfl ?_
    refine st_goto hR dX9_draw_36 (tgt := 40) (by decide) ?_
    cases hM
    exact hret _ _ dX9_draw_40 (ro_i _)
set_option maxHeartbeats 16000000 in
set_option maxRecDepth 100000 in
theorem k_X9_oneOf {l : Launch} {G : GG} {q_v : Nat → Nat} {v_night : Int32} {v_g : Int64} {v_flock v_hunger v_lean v_fed v_taken v_pacts v_levels v_facts : Nat → Int32} {v_mountain : Nat} {l1 : Int32} {o_r : Int32} {o_v_g : Int64} (hM : f_X9_oneOf v_g l1 = some (o_r, o_v_g)) : MC l G yX9_oneOf cX9_oneOf 5 (some .int) (RM 1) [.ref (q_v 0), .int l1] [wX9 G q_v v_mountain v_night v_g v_flock v_hunger v_lean v_fed v_taken v_pacts v_levels v_facts] (some (.int o_r)) [wX9 G q_v v_mountain v_night o_v_g v_flock v_hunger v_lean v_fed v_taken v_pacts v_levels v_facts] := by
  refine MC.of pn_X9 (Nat.le_of_ble_eq_true rfl) (fun K hR hret => ?_)
  have hR : Rl l G RX9 cX9_oneOf 5 (RM 1) K := hR
  show K [wX9 G q_v v_mountain v_night v_g v_flock v_hunger v_lean v_fed v_taken v_pacts v_levels v_facts] [(0, .ref (q_v 0)), (1, .int l1)] 0 []
  have L23 : ∀ (n23 : Nat) (v_g : Int64) (l1 : Int32) (l3 : Int32) (l4 : Int32), f_X9_oneOf_L23   n23 v_g l1 l3 l4 = some (o_r, o_v_g) → K [wX9 G q_v v_mountain v_night v_g v_flock v_hunger v_lean v_fed v_taken v_pacts v_levels v_facts] [(1, .int l1), (3, .int l3), (4, .int l4)] 23 [] := by
    intro n23
    induction n23 with
    | zero => intro v_g l1 l3 l4 hM; exact no_some hM
    | succ n23 ih23 =>
      have J50 : ∀ (v_g : Int64) (l1 : Int32) (l3 : Int32) (l4 : Int32), f_X9_oneOf_B50  (f_X9_oneOf_L23   n23)  v_g l1 l3 l4 = some (o_r, o_v_g) → K [wX9 G q_v v_mountain v_night v_g v_flock v_hunger v_lean v_fed v_taken v_pacts v_levels v_facts] [(1, .int l1), (3, .int l3), (4, .int l4)] 50 [] := by
        intro v_g l1 l3 l4 hM
        obtain ⟨l4_1, e_⟩ : ∃ y : Int32, y = l4 + 1 := ⟨_, rfl⟩
        refine st_iinc hR dX9_oneOf_50 (Nat.le_of_ble_eq_true rfl) 2 [1, 2, 0] (v := l4_1) rfl (by rw [e_]; rfl) (lv' := [(1, .int l1), (3, .int l3), (4, .int l4_1)]) rfl (pc' := 53) rfl ?_
        have hM := lt_e e_ hM
        refine st_goto hR dX9_oneOf_53 (tgt := 23) (by decide) ?_
        exact ih23 _ _ _ _ hM
      intro v_g l1 l3 l4 hM
      have hM : f_X9_oneOf_L23b  (f_X9_oneOf_L23   n23)  v_g l1 l3 l4 = some (o_r, o_v_g) := hM
      refine st_iload hR dX9_oneOf_23 2 rfl (pc' := 25) rfl ?_
      refine st_bipush hR dX9_oneOf_25 (v := 6) rfl (pc' := 27) rfl ?_
      refine st_icmp_ge hR dX9_oneOf_27 (tgt := 56) (by decide) (pc' := 30) rfl (fun c_ => ?_) (fun c_ => ?_)
      · have hM := it_t c_ hM
        refine st_iconst hR dX9_oneOf_56 (v := (-1)) (by decide) (pc' := 57) rfl ?_
        cases hM
        exact hret _ _ dX9_oneOf_57 (ro_i _)
      · have hM := it_f c_ hM
        refine st_iload_n hR dX9_oneOf_30 0 rfl rfl (pc' := 31) rfl ?_
        refine st_iload hR dX9_oneOf_31 2 rfl (pc' := 33) rfl ?_
        refine st_ishr hR dX9_oneOf_33 (pc' := 34) rfl ?_
        refine st_iconst hR dX9_oneOf_34 (v := 1) rfl (pc' := 35) rfl ?_
        refine st_iand hR dX9_oneOf_35 (pc' := 36) rfl ?_
        refine st_iconst hR dX9_oneOf_36 (v := 1) rfl (pc' := 37) rfl ?_
        refine st_icmp_ne hR dX9_oneOf_37 (tgt := 50) (by decide) (pc' := 40) rfl (fun c_ => ?_) (fun c_ => ?_)
        · have hM := it_f c_ hM
          exact J50 _ _ _ _ hM
        · have hM := it_t c_ hM
          refine st_iload_n hR dX9_oneOf_40 1 rfl rfl (pc' := 41) rfl ?_
          refine st_if_ne hR dX9_oneOf_41 (tgt := 47) (by decide) (pc' := 44) rfl (fun c_ => ?_) (fun c_ => ?_)
          · have hM := it_f c_ hM
            obtain ⟨l3_1, e_⟩ : ∃ y : Int32, y = l3 + (-1) := ⟨_, rfl⟩
            refine st_iinc hR dX9_oneOf_47 (Nat.le_of_ble_eq_true rfl) 1 [1, 0, 2] (v := l3_1) rfl (by rw [e_]; rfl) (lv' := [(1, .int l1), (3, .int l3_1), (4, .int l4)]) rfl (pc' := 50) rfl ?_
            have hM := lt_e e_ hM
            exact J50 _ _ _ _ hM
          · have hM := it_t c_ hM
            refine st_iload hR dX9_oneOf_44 2 rfl (pc' := 46) rfl ?_
            cases hM
            exact hret _ _ dX9_oneOf_46 (ro_i _)
  have J19 : ∀ (v_g : Int64) (l1 : Int32) (s0 : Int32), f_X9_oneOf_B19   v_g l1 s0 = some (o_r, o_v_g) → K [wX9 G q_v v_mountain v_night v_g v_flock v_hunger v_lean v_fed v_taken v_pacts v_levels v_facts] [(1, .int l1)] 19 [.int s0] := by
    intro v_g l1 s0 hM
    refine st_istore_n hR dX9_oneOf_19 rfl (Nat.le_of_ble_eq_true rfl) [1, 0] (lv' := [(1, .int l1), (3, .int s0)]) rfl (pc' := 20) rfl ?_
    refine st_iconst hR dX9_oneOf_20 (v := 0) rfl (pc' := 21) rfl ?_
    refine st_istore hR dX9_oneOf_21 (Nat.le_of_ble_eq_true rfl) [1, 2, 0] (lv' := [(1, .int l1), (3, .int s0), (4, .int 0)]) rfl (pc' := 23) rfl ?_
    exact L23 FU _ _ _ _ hM
  refine st_iload_n hR dX9_oneOf_0 1 rfl rfl (pc' := 1) rfl ?_
  obtain ⟨r_1, hc_, hM⟩ := bd_e hM
  refine st_callS hR (k_J6_bitCount_0f7a4 hc_) cf_X9_74 (rm_le (Nat.le_of_ble_eq_true rfl) (Nat.le_of_ble_eq_true rfl)) [] rfl rfl rfl rfl (rest := []) rfl (Nat.le_of_ble_eq_true rfl) dX9_oneOf_1 (pc' := 4) rfl (Wn := [wX9 G q_v v_mountain v_night v_g v_flock v_hunger v_lean v_fed v_taken v_pacts v_levels v_facts]) rfl ?_
  refine st_istore_n hR dX9_oneOf_4 rfl (Nat.le_of_ble_eq_true rfl) [1, 2, 0] (lv' := [(0, .ref (q_v 0)), (1, .int l1), (2, .int r_1)]) rfl (pc' := 5) rfl ?_
  refine st_iload_n hR dX9_oneOf_5 2 rfl rfl (pc' := 6) rfl ?_
  refine st_iconst hR dX9_oneOf_6 (v := 1) rfl (pc' := 7) rfl ?_
  refine st_icmp_le hR dX9_oneOf_7 (tgt := 18) (by decide) (pc' := 10) rfl (fun c_ => ?_) (fun c_ => ?_)
  · have hM := it_t c_ hM
    refine st_iconst hR dX9_oneOf_18 (v := 0) rfl (pc' := 19) rfl ?_
    exact st_lv hR [1] rfl (J19 _ _ _ hM)
  · have hM := it_f c_ hM
    refine st_aload_n hR dX9_oneOf_10 0 rfl rfl (pc' := 11) rfl ?_
    refine st_iload_n hR dX9_oneOf_11 2 rfl rfl (pc' := 12) rfl ?_
    obtain ⟨⟨r_2, v_g_1⟩, hc_, hM⟩ := bd_e hM
    refine st_callV hR (k_X9_draw hc_) cf_X9_144 (rm_le (Nat.le_of_ble_eq_true rfl) (Nat.le_of_ble_eq_true rfl)) [0] rfl rfl rfl 0 0 8 11 rfl rfl rfl rfl (rest := []) rfl (Nat.le_of_ble_eq_true rfl) dX9_oneOf_12 (pc' := 15) rfl (Wn := [wX9 G q_v v_mountain v_night v_g_1 v_flock v_hunger v_lean v_fed v_taken v_pacts v_levels v_facts]) rfl ?_
    refine st_goto hR dX9_oneOf_15 (tgt := 19) (by decide) ?_
    exact st_lv hR [1] rfl (J19 _ _ _ hM)
set_option maxHeartbeats 16000000 in
set_option maxRecDepth 100000 in
theorem k_X9_fedAt {l : Launch} {G : GG} {q_v q_mt q_fe : Nat → Nat} {v_night mt_farms mt_fences mt_shares mt_toothed fe_steps : Int32} {v_g : Int64} {v_flock v_hunger v_lean v_fed v_taken v_pacts v_levels v_facts mt_flock mt_dogs mt_hunger mt_fenced mt_heights mt_pacts mt_partner mt_often fe_kinds fe_lefts fe_rights fe_values : Nat → Int32} {mt_names : Nat → Int64} {mt_going : Nat} {l1 l2 : Int32} {o_r : Int32} {o_v_facts : Nat → Int32} {o_fe_values : Nat → Int32} (hM : f_X9_fedAt v_night v_flock v_levels mt_dogs fe_kinds fe_lefts fe_rights fe_steps v_facts fe_values l1 l2 = some (o_r, o_v_facts, o_fe_values)) : MC l G yX9_fedAt cX9_fedAt 4 (some .int) (RM 1) [.ref (q_v 0), .int l1, .int l2] [wX9 G q_v (q_mt 0) v_night v_g v_flock v_hunger v_lean v_fed v_taken v_pacts v_levels v_facts, wX5 G q_mt mt_farms mt_fences mt_shares mt_names mt_flock mt_dogs mt_hunger mt_fenced mt_heights mt_pacts mt_partner mt_often mt_toothed (q_fe 0) mt_going, wX3 G q_fe fe_kinds fe_lefts fe_rights fe_values fe_steps] (some (.int o_r)) [wX9 G q_v (q_mt 0) v_night v_g v_flock v_hunger v_lean v_fed v_taken v_pacts v_levels o_v_facts, wX5 G q_mt mt_farms mt_fences mt_shares mt_names mt_flock mt_dogs mt_hunger mt_fenced mt_heights mt_pacts mt_partner mt_often mt_toothed (q_fe 0) mt_going, wX3 G q_fe fe_kinds fe_lefts fe_rights o_fe_values fe_steps] := by
  refine MC.of pn_X9 (Nat.le_of_ble_eq_true rfl) (fun K hR hret => ?_)
  have hR : Rl l G RX9 cX9_fedAt 4 (RM 1) K := hR
  show K [wX9 G q_v (q_mt 0) v_night v_g v_flock v_hunger v_lean v_fed v_taken v_pacts v_levels v_facts, wX5 G q_mt mt_farms mt_fences mt_shares mt_names mt_flock mt_dogs mt_hunger mt_fenced mt_heights mt_pacts mt_partner mt_often mt_toothed (q_fe 0) mt_going, wX3 G q_fe fe_kinds fe_lefts fe_rights fe_values fe_steps] [(0, .ref (q_v 0)), (1, .int l1), (2, .int l2)] 0 []
  have J71 : ∀ (v_facts : Nat → Int32) (fe_values : Nat → Int32) (l1 : Int32) (l2 : Int32) (l3 : Int32), f_X9_fedAt_B71  v_night v_flock v_levels mt_dogs fe_kinds fe_lefts fe_rights fe_steps v_facts fe_values l1 l2 l3 = some (o_r, o_v_facts, o_fe_values) → K [wX9 G q_v (q_mt 0) v_night v_g v_flock v_hunger v_lean v_fed v_taken v_pacts v_levels v_facts, wX5 G q_mt mt_farms mt_fences mt_shares mt_names mt_flock mt_dogs mt_hunger mt_fenced mt_heights mt_pacts mt_partner mt_often mt_toothed (q_fe 0) mt_going, wX3 G q_fe fe_kinds fe_lefts fe_rights fe_values fe_steps] [(0, .ref (q_v 0)), (1, .int l1), (2, .int l2), (3, .int l3)] 71 [] := by
    intro v_facts fe_values l1 l2 l3 hM
    refine st_iload_n hR dX9_fedAt_71 3 rfl rfl (pc' := 72) rfl ?_
    refine st_iconst hR dX9_fedAt_72 (v := 0) rfl (pc' := 73) rfl ?_
    refine st_mmax hR dX9_fedAt_73 mm_X9_127 (Nat.le_of_ble_eq_true rfl) (rest := []) (Nat.le_of_ble_eq_true rfl) (pc' := 76) rfl ?_
    refine st_aload_n hR dX9_fedAt_76 0 rfl rfl (pc' := 77) rfl ?_
    refine st_get hR dX9_fedAt_77 fg_X9_9_8_3 0 0 rfl rfl rfl (pc' := 80) rfl ?_
    refine st_iload_n hR dX9_fedAt_80 1 rfl rfl (pc' := 81) rfl ?_
    obtain ⟨hin_, hM⟩ := g_in_e hM
    refine st_iald hR dX9_fedAt_81 0 1 rfl rfl hin_ (v := v_flock (ix l1)) rfl (pc' := 82) rfl ?_
    refine st_iload_n hR dX9_fedAt_82 2 rfl rfl (pc' := 83) rfl ?_
    refine st_mmin hR dX9_fedAt_83 mm_X9_132 (Nat.le_of_ble_eq_true rfl) (rest := [.int (if l3 < 0 then 0 else l3)]) (Nat.le_of_ble_eq_true rfl) (pc' := 86) rfl ?_
    refine st_mmin hR dX9_fedAt_86 mm_X9_132 (Nat.le_of_ble_eq_true rfl) (rest := []) (Nat.le_of_ble_eq_true rfl) (pc' := 89) rfl ?_
    cases hM
    exact hret _ _ dX9_fedAt_89 (ro_i _)
  refine st_aload_n hR dX9_fedAt_0 0 rfl rfl (pc' := 1) rfl ?_
  refine st_get hR dX9_fedAt_1 fg_X9_30_8_9 0 0 rfl rfl rfl (pc' := 4) rfl ?_
  refine st_iload_n hR dX9_fedAt_4 1 rfl rfl (pc' := 5) rfl ?_
  obtain ⟨hin_, hM⟩ := g_in_e hM
  refine st_iald hR dX9_fedAt_5 0 7 rfl rfl hin_ (v := v_levels (ix l1)) rfl (pc' := 6) rfl ?_
  refine st_topi (fun l3_1 e_ => ?_)
  have hM := lt_e e_ hM
  refine st_istore_n hR dX9_fedAt_6 rfl (Nat.le_of_ble_eq_true rfl) [1, 2, 3, 0] (lv' := [(0, .ref (q_v 0)), (1, .int l1), (2, .int l2), (3, .int l3_1)]) rfl (pc' := 7) rfl ?_
  refine st_iload_n hR dX9_fedAt_7 3 rfl rfl (pc' := 8) rfl ?_
  refine st_iconst hR dX9_fedAt_8 (v := (-1)) (by decide) (pc' := 9) rfl ?_
  refine st_icmp_ne hR dX9_fedAt_9 (tgt := 71) (by decide) (pc' := 12) rfl (fun c_ => ?_) (fun c_ => ?_)
  · have hM := it_f c_ hM
    exact J71 _ _ _ _ _ hM
  · have hM := it_t c_ hM
    refine st_aload_n hR dX9_fedAt_12 0 rfl rfl (pc' := 13) rfl ?_
    refine st_get hR dX9_fedAt_13 fg_X9_33_8_10 0 0 rfl rfl rfl (pc' := 16) rfl ?_
    refine st_iconst hR dX9_fedAt_16 (v := 0) rfl (pc' := 17) rfl ?_
    refine st_aload_n hR dX9_fedAt_17 0 rfl rfl (pc' := 18) rfl ?_
    refine st_get hR dX9_fedAt_18 fg_X9_9_8_3 0 0 rfl rfl rfl (pc' := 21) rfl ?_
    refine st_iload_n hR dX9_fedAt_21 1 rfl rfl (pc' := 22) rfl ?_
    obtain ⟨hin_, hM⟩ := g_in_e hM
    refine st_iald hR dX9_fedAt_22 0 1 rfl rfl hin_ (v := v_flock (ix l1)) rfl (pc' := 23) rfl ?_
    refine st_iast hR dX9_fedAt_23 0 8 rfl rfl (vp_lit 0 rfl rfl rfl) (ix := 0) (cl_lit 0 rfl rfl) (pc' := 24) rfl (fun v_facts_1 => [wX9 G q_v (q_mt 0) v_night v_g v_flock v_hunger v_lean v_fed v_taken v_pacts v_levels v_facts_1, wX5 G q_mt mt_farms mt_fences mt_shares mt_names mt_flock mt_dogs mt_hunger mt_fenced mt_heights mt_pacts mt_partner mt_often mt_toothed (q_fe 0) mt_going, wX3 G q_fe fe_kinds fe_lefts fe_rights fe_values fe_steps]) (fun _ => rfl) (fun v_facts_1 e_ => ?_)
    have hM := lt_e e_ hM
    refine st_aload_n hR dX9_fedAt_24 0 rfl rfl (pc' := 25) rfl ?_
    refine st_get hR dX9_fedAt_25 fg_X9_33_8_10 0 0 rfl rfl rfl (pc' := 28) rfl ?_
    refine st_iconst hR dX9_fedAt_28 (v := 1) rfl (pc' := 29) rfl ?_
    refine st_aload_n hR dX9_fedAt_29 0 rfl rfl (pc' := 30) rfl ?_
    refine st_get hR dX9_fedAt_30 fg_X9_36_8_0 0 0 rfl rfl rfl (pc' := 33) rfl ?_
    refine st_get hR dX9_fedAt_33 fg_X9_114_5_5 1 0 rfl rfl rfl (pc' := 36) rfl ?_
    refine st_iload_n hR dX9_fedAt_36 1 rfl rfl (pc' := 37) rfl ?_
    obtain ⟨hin_, hM⟩ := g_in_e hM
    refine st_iald hR dX9_fedAt_37 1 3 rfl rfl hin_ (v := mt_dogs (ix l1)) rfl (pc' := 38) rfl ?_
    refine st_iast hR dX9_fedAt_38 0 8 rfl rfl (vp_lit 1 rfl rfl rfl) (ix := 1) (cl_lit 1 rfl rfl) (pc' := 39) rfl (fun v_facts_2 => [wX9 G q_v (q_mt 0) v_night v_g v_flock v_hunger v_lean v_fed v_taken v_pacts v_levels v_facts_2, wX5 G q_mt mt_farms mt_fences mt_shares mt_names mt_flock mt_dogs mt_hunger mt_fenced mt_heights mt_pacts mt_partner mt_often mt_toothed (q_fe 0) mt_going, wX3 G q_fe fe_kinds fe_lefts fe_rights fe_values fe_steps]) (fun _ => rfl) (fun v_facts_2 e_ => ?_)
    have hM := lt_e e_ hM
    refine st_aload_n hR dX9_fedAt_39 0 rfl rfl (pc' := 40) rfl ?_
    refine st_get hR dX9_fedAt_40 fg_X9_33_8_10 0 0 rfl rfl rfl (pc' := 43) rfl ?_
    refine st_iconst hR dX9_fedAt_43 (v := 2) rfl (pc' := 44) rfl ?_
    refine st_iload_n hR dX9_fedAt_44 2 rfl rfl (pc' := 45) rfl ?_
    refine st_iast hR dX9_fedAt_45 0 8 rfl rfl (vp_lit 2 rfl rfl rfl) (ix := 2) (cl_lit 2 rfl rfl) (pc' := 46) rfl (fun v_facts_3 => [wX9 G q_v (q_mt 0) v_night v_g v_flock v_hunger v_lean v_fed v_taken v_pacts v_levels v_facts_3, wX5 G q_mt mt_farms mt_fences mt_shares mt_names mt_flock mt_dogs mt_hunger mt_fenced mt_heights mt_pacts mt_partner mt_often mt_toothed (q_fe 0) mt_going, wX3 G q_fe fe_kinds fe_lefts fe_rights fe_values fe_steps]) (fun _ => rfl) (fun v_facts_3 e_ => ?_)
    have hM := lt_e e_ hM
    refine st_aload_n hR dX9_fedAt_46 0 rfl rfl (pc' := 47) rfl ?_
    refine st_get hR dX9_fedAt_47 fg_X9_33_8_10 0 0 rfl rfl rfl (pc' := 50) rfl ?_
    refine st_iconst hR dX9_fedAt_50 (v := 3) rfl (pc' := 51) rfl ?_
    refine st_aload_n hR dX9_fedAt_51 0 rfl rfl (pc' := 52) rfl ?_
    refine st_get hR dX9_fedAt_52 fg_X9_40_8_1 0 0 rfl rfl rfl (pc' := 55) rfl ?_
    refine st_iast hR dX9_fedAt_55 0 8 rfl rfl (vp_lit 3 rfl rfl rfl) (ix := 3) (cl_lit 3 rfl rfl) (pc' := 56) rfl (fun v_facts_4 => [wX9 G q_v (q_mt 0) v_night v_g v_flock v_hunger v_lean v_fed v_taken v_pacts v_levels v_facts_4, wX5 G q_mt mt_farms mt_fences mt_shares mt_names mt_flock mt_dogs mt_hunger mt_fenced mt_heights mt_pacts mt_partner mt_often mt_toothed (q_fe 0) mt_going, wX3 G q_fe fe_kinds fe_lefts fe_rights fe_values fe_steps]) (fun _ => rfl) (fun v_facts_4 e_ => ?_)
    have hM := lt_e e_ hM
    refine st_aload_n hR dX9_fedAt_56 0 rfl rfl (pc' := 57) rfl ?_
    refine st_get hR dX9_fedAt_57 fg_X9_36_8_0 0 0 rfl rfl rfl (pc' := 60) rfl ?_
    refine st_get hR dX9_fedAt_60 fg_X9_117_5_13 1 0 rfl rfl rfl (pc' := 63) rfl ?_
    refine st_aload_n hR dX9_fedAt_63 0 rfl rfl (pc' := 64) rfl ?_
    refine st_get hR dX9_fedAt_64 fg_X9_33_8_10 0 0 rfl rfl rfl (pc' := 67) rfl ?_
    obtain ⟨⟨r_1, fe_values_1⟩, hc_, hM⟩ := bd_e hM
    refine st_callV hR (k_X3_worth hc_) cf_X9_121 (rm_le (Nat.le_of_ble_eq_true rfl) (Nat.le_of_ble_eq_true rfl)) [2, 0] rfl rfl rfl 2 0 3 5 rfl rfl rfl rfl (rest := []) rfl (Nat.le_of_ble_eq_true rfl) dX9_fedAt_67 (pc' := 70) rfl (Wn := [wX9 G q_v (q_mt 0) v_night v_g v_flock v_hunger v_lean v_fed v_taken v_pacts v_levels v_facts_4, wX5 G q_mt mt_farms mt_fences mt_shares mt_names mt_flock mt_dogs mt_hunger mt_fenced mt_heights mt_pacts mt_partner mt_often mt_toothed (q_fe 0) mt_going, wX3 G q_fe fe_kinds fe_lefts fe_rights fe_values_1 fe_steps]) rfl ?_
    refine st_istore_n hR dX9_fedAt_70 rfl (Nat.le_of_ble_eq_true rfl) [1, 2, 3, 0] (lv' := [(0, .ref (q_v 0)), (1, .int l1), (2, .int l2), (3, .int r_1)]) rfl (pc' := 71) rfl ?_
    exact J71 _ _ _ _ _ hM
set_option maxHeartbeats 16000000 in
set_option maxRecDepth 100000 in
theorem k_X9_bestAround {l : Launch} {G : GG} {q_v q_mt q_go : Nat → Nat} {v_night mt_farms mt_fences mt_shares mt_toothed go_steps : Int32} {v_g : Int64} {v_flock v_hunger v_lean v_fed v_taken v_pacts v_levels v_facts mt_flock mt_dogs mt_hunger mt_fenced mt_heights mt_pacts mt_partner mt_often go_kinds go_lefts go_rights go_values : Nat → Int32} {mt_names : Nat → Int64} {mt_feeding : Nat} {l1 l2 l3 : Int32} {o_r : Int32} {o_v_facts : Nat → Int32} {o_go_values : Nat → Int32} (hM : f_X9_bestAround v_flock v_pacts mt_farms mt_dogs mt_fenced mt_heights go_kinds go_lefts go_rights go_steps v_facts go_values l1 l2 l3 = some (o_r, o_v_facts, o_go_values)) : MC l G yX9_bestAround cX9_bestAround 9 (some .int) (RM 1) [.ref (q_v 0), .int l1, .int l2, .int l3] [wX9 G q_v (q_mt 0) v_night v_g v_flock v_hunger v_lean v_fed v_taken v_pacts v_levels v_facts, wX5 G q_mt mt_farms mt_fences mt_shares mt_names mt_flock mt_dogs mt_hunger mt_fenced mt_heights mt_pacts mt_partner mt_often mt_toothed mt_feeding (q_go 0), wX3 G q_go go_kinds go_lefts go_rights go_values go_steps] (some (.int o_r)) [wX9 G q_v (q_mt 0) v_night v_g v_flock v_hunger v_lean v_fed v_taken v_pacts v_levels o_v_facts, wX5 G q_mt mt_farms mt_fences mt_shares mt_names mt_flock mt_dogs mt_hunger mt_fenced mt_heights mt_pacts mt_partner mt_often mt_toothed mt_feeding (q_go 0), wX3 G q_go go_kinds go_lefts go_rights o_go_values go_steps] := by
  refine MC.of pn_X9 (Nat.le_of_ble_eq_true rfl) (fun K hR hret => ?_)
  have hR : Rl l G RX9 cX9_bestAround 9 (RM 1) K := hR
  show K [wX9 G q_v (q_mt 0) v_night v_g v_flock v_hunger v_lean v_fed v_taken v_pacts v_levels v_facts, wX5 G q_mt mt_farms mt_fences mt_shares mt_names mt_flock mt_dogs mt_hunger mt_fenced mt_heights mt_pacts mt_partner mt_often mt_toothed mt_feeding (q_go 0), wX3 G q_go go_kinds go_lefts go_rights go_values go_steps] [(0, .ref (q_v 0)), (1, .int l1), (2, .int l2), (3, .int l3)] 0 []
  have L30 : ∀ (n30 : Nat) (v_facts : Nat → Int32) (go_values : Nat → Int32) (l1 : Int32) (l4 : Int32) (l5 : Int32) (l6 : Int32) (l7 : Int32), f_X9_bestAround_L30  v_flock v_pacts mt_farms mt_dogs mt_fenced mt_heights go_kinds go_lefts go_rights go_steps n30 v_facts go_values l1 l4 l5 l6 l7 = some (o_r, o_v_facts, o_go_values) → K [wX9 G q_v (q_mt 0) v_night v_g v_flock v_hunger v_lean v_fed v_taken v_pacts v_levels v_facts, wX5 G q_mt mt_farms mt_fences mt_shares mt_names mt_flock mt_dogs mt_hunger mt_fenced mt_heights mt_pacts mt_partner mt_often mt_toothed mt_feeding (q_go 0), wX3 G q_go go_kinds go_lefts go_rights go_values go_steps] [(0, .ref (q_v 0)), (1, .int l1), (4, .int l4), (5, .int l5), (6, .int l6), (7, .int l7)] 30 [] := by
    intro n30
    induction n30 with
    | zero => intro v_facts go_values l1 l4 l5 l6 l7 hM; exact no_some hM
    | succ n30 ih30 =>
      have J160 : ∀ (v_facts : Nat → Int32) (go_values : Nat → Int32) (l1 : Int32) (l4 : Int32) (l5 : Int32) (l6 : Int32) (l7 : Int32), f_X9_bestAround_B160  (f_X9_bestAround_L30  v_flock v_pacts mt_farms mt_dogs mt_fenced mt_heights go_kinds go_lefts go_rights go_steps n30) v_flock v_pacts mt_farms mt_dogs mt_fenced mt_heights go_kinds go_lefts go_rights go_steps v_facts go_values l1 l4 l5 l6 l7 = some (o_r, o_v_facts, o_go_values) → K [wX9 G q_v (q_mt 0) v_night v_g v_flock v_hunger v_lean v_fed v_taken v_pacts v_levels v_facts, wX5 G q_mt mt_farms mt_fences mt_shares mt_names mt_flock mt_dogs mt_hunger mt_fenced mt_heights mt_pacts mt_partner mt_often mt_toothed mt_feeding (q_go 0), wX3 G q_go go_kinds go_lefts go_rights go_values go_steps] [(0, .ref (q_v 0)), (1, .int l1), (4, .int l4), (5, .int l5), (6, .int l6), (7, .int l7)] 160 [] := by
        intro v_facts go_values l1 l4 l5 l6 l7 hM
        obtain ⟨l7_1, e_⟩ : ∃ y : Int32, y = l7 + 1 := ⟨_, rfl⟩
        refine st_iinc hR dX9_bestAround_160 (Nat.le_of_ble_eq_true rfl) 5 [1, 2, 3, 4, 5, 0] (v := l7_1) rfl (by rw [e_]; rfl) (lv' := [(0, .ref (q_v 0)), (1, .int l1), (4, .int l4), (5, .int l5), (6, .int l6), (7, .int l7_1)]) rfl (pc' := 163) rfl ?_
        have hM := lt_e e_ hM
        refine st_goto hR dX9_bestAround_163 (tgt := 30) (by decide) ?_
        exact ih30 _ _ _ _ _ _ _ hM
      intro v_facts go_values l1 l4 l5 l6 l7 hM
      have hM : f_X9_bestAround_L30b  (f_X9_bestAround_L30  v_flock v_pacts mt_farms mt_dogs mt_fenced mt_heights go_kinds go_lefts go_rights go_steps n30) v_flock v_pacts mt_farms mt_dogs mt_fenced mt_heights go_kinds go_lefts go_rights go_steps v_facts go_values l1 l4 l5 l6 l7 = some (o_r, o_v_facts, o_go_values) := hM
      refine st_iload hR dX9_bestAround_30 5 rfl (pc' := 32) rfl ?_
      refine st_aload_n hR dX9_bestAround_32 0 rfl rfl (pc' := 33) rfl ?_
      refine st_get hR dX9_bestAround_33 fg_X9_36_8_0 0 0 rfl rfl rfl (pc' := 36) rfl ?_
      refine st_get hR dX9_bestAround_36 fg_X9_71_5_0 1 0 rfl rfl rfl (pc' := 39) rfl ?_
      refine st_icmp_ge hR dX9_bestAround_39 (tgt := 166) (by decide) (pc' := 42) rfl (fun c_ => ?_) (fun c_ => ?_)
      · have hM := it_t c_ hM
        refine st_iload hR dX9_bestAround_166 3 rfl (pc' := 168) rfl ?_
        cases hM
        exact hret _ _ dX9_bestAround_168 (ro_i _)
      · have hM := it_f c_ hM
        refine st_iload hR dX9_bestAround_42 4 rfl (pc' := 44) rfl ?_
        refine st_iload hR dX9_bestAround_44 5 rfl (pc' := 46) rfl ?_
        refine st_ishr hR dX9_bestAround_46 (pc' := 47) rfl ?_
        refine st_iconst hR dX9_bestAround_47 (v := 1) rfl (pc' := 48) rfl ?_
        refine st_iand hR dX9_bestAround_48 (pc' := 49) rfl ?_
        refine st_iconst hR dX9_bestAround_49 (v := 1) rfl (pc' := 50) rfl ?_
        refine st_icmp_ne hR dX9_bestAround_50 (tgt := 160) (by decide) (pc' := 53) rfl (fun c_ => ?_) (fun c_ => ?_)
        · have hM := it_f c_ hM
          exact J160 _ _ _ _ _ _ _ hM
        · have hM := it_t c_ hM
          refine st_aload_n hR dX9_bestAround_53 0 rfl rfl (pc' := 54) rfl ?_
          refine st_get hR dX9_bestAround_54 fg_X9_33_8_10 0 0 rfl rfl rfl (pc' := 57) rfl ?_
          refine st_iconst hR dX9_bestAround_57 (v := 0) rfl (pc' := 58) rfl ?_
          refine st_aload_n hR dX9_bestAround_58 0 rfl rfl (pc' := 59) rfl ?_
          refine st_get hR dX9_bestAround_59 fg_X9_9_8_3 0 0 rfl rfl rfl (pc' := 62) rfl ?_
          refine st_iload hR dX9_bestAround_62 5 rfl (pc' := 64) rfl ?_
          obtain ⟨hin_, hM⟩ := g_in_e hM
          refine st_iald hR dX9_bestAround_64 0 1 rfl rfl hin_ (v := v_flock (ix l7)) rfl (pc' := 65) rfl ?_
          refine st_iast hR dX9_bestAround_65 0 8 rfl rfl (vp_lit 0 rfl rfl rfl) (ix := 0) (cl_lit 0 rfl rfl) (pc' := 66) rfl (fun v_facts_1 => [wX9 G q_v (q_mt 0) v_night v_g v_flock v_hunger v_lean v_fed v_taken v_pacts v_levels v_facts_1, wX5 G q_mt mt_farms mt_fences mt_shares mt_names mt_flock mt_dogs mt_hunger mt_fenced mt_heights mt_pacts mt_partner mt_often mt_toothed mt_feeding (q_go 0), wX3 G q_go go_kinds go_lefts go_rights go_values go_steps]) (fun _ => rfl) (fun v_facts_1 e_ => ?_)
          have hM := lt_e e_ hM
          refine st_aload_n hR dX9_bestAround_66 0 rfl rfl (pc' := 67) rfl ?_
          refine st_get hR dX9_bestAround_67 fg_X9_33_8_10 0 0 rfl rfl rfl (pc' := 70) rfl ?_
          refine st_iconst hR dX9_bestAround_70 (v := 1) rfl (pc' := 71) rfl ?_
          refine st_aload_n hR dX9_bestAround_71 0 rfl rfl (pc' := 72) rfl ?_
          refine st_get hR dX9_bestAround_72 fg_X9_36_8_0 0 0 rfl rfl rfl (pc' := 75) rfl ?_
          refine st_get hR dX9_bestAround_75 fg_X9_114_5_5 1 0 rfl rfl rfl (pc' := 78) rfl ?_
          refine st_iload hR dX9_bestAround_78 5 rfl (pc' := 80) rfl ?_
          obtain ⟨hin_, hM⟩ := g_in_e hM
          refine st_iald hR dX9_bestAround_80 1 3 rfl rfl hin_ (v := mt_dogs (ix l7)) rfl (pc' := 81) rfl ?_
          refine st_iast hR dX9_bestAround_81 0 8 rfl rfl (vp_lit 1 rfl rfl rfl) (ix := 1) (cl_lit 1 rfl rfl) (pc' := 82) rfl (fun v_facts_2 => [wX9 G q_v (q_mt 0) v_night v_g v_flock v_hunger v_lean v_fed v_taken v_pacts v_levels v_facts_2, wX5 G q_mt mt_farms mt_fences mt_shares mt_names mt_flock mt_dogs mt_hunger mt_fenced mt_heights mt_pacts mt_partner mt_often mt_toothed mt_feeding (q_go 0), wX3 G q_go go_kinds go_lefts go_rights go_values go_steps]) (fun _ => rfl) (fun v_facts_2 e_ => ?_)
          have hM := lt_e e_ hM
          refine st_aload_n hR dX9_bestAround_82 0 rfl rfl (pc' := 83) rfl ?_
          refine st_get hR dX9_bestAround_83 fg_X9_33_8_10 0 0 rfl rfl rfl (pc' := 86) rfl ?_
          refine st_iconst hR dX9_bestAround_86 (v := 4) rfl (pc' := 87) rfl ?_
          refine st_aload_n hR dX9_bestAround_87 0 rfl rfl (pc' := 88) rfl ?_
          refine st_get hR dX9_bestAround_88 fg_X9_36_8_0 0 0 rfl rfl rfl (pc' := 91) rfl ?_
          refine st_get hR dX9_bestAround_91 fg_X9_138_5_8 1 0 rfl rfl rfl (pc' := 94) rfl ?_
          refine st_iload_n hR dX9_bestAround_94 1 rfl rfl (pc' := 95) rfl ?_
          refine st_bipush hR dX9_bestAround_95 (v := 6) rfl (pc' := 97) rfl ?_
          refine st_imul hR dX9_bestAround_97 (pc' := 98) rfl ?_
          refine st_iload hR dX9_bestAround_98 5 rfl (pc' := 100) rfl ?_
          refine st_iadd hR dX9_bestAround_100 (pc' := 101) rfl ?_
          obtain ⟨hin_, hM⟩ := g_in_e hM
          refine st_iald hR dX9_bestAround_101 1 6 rfl rfl hin_ (v := mt_heights (ix ((l1 * 6) + l7))) rfl (pc' := 102) rfl ?_
          refine st_iast hR dX9_bestAround_102 0 8 rfl rfl (vp_lit 4 rfl rfl rfl) (ix := 4) (cl_lit 4 rfl rfl) (pc' := 103) rfl (fun v_facts_3 => [wX9 G q_v (q_mt 0) v_night v_g v_flock v_hunger v_lean v_fed v_taken v_pacts v_levels v_facts_3, wX5 G q_mt mt_farms mt_fences mt_shares mt_names mt_flock mt_dogs mt_hunger mt_fenced mt_heights mt_pacts mt_partner mt_often mt_toothed mt_feeding (q_go 0), wX3 G q_go go_kinds go_lefts go_rights go_values go_steps]) (fun _ => rfl) (fun v_facts_3 e_ => ?_)
          have hM := lt_e e_ hM
          refine st_aload_n hR dX9_bestAround_103 0 rfl rfl (pc' := 104) rfl ?_
          refine st_get hR dX9_bestAround_104 fg_X9_36_8_0 0 0 rfl rfl rfl (pc' := 107) rfl ?_
          refine st_get hR dX9_bestAround_107 fg_X9_141_5_14 1 0 rfl rfl rfl (pc' := 110) rfl ?_
          refine st_aload_n hR dX9_bestAround_110 0 rfl rfl (pc' := 111) rfl ?_
          refine st_get hR dX9_bestAround_111 fg_X9_33_8_10 0 0 rfl rfl rfl (pc' := 114) rfl ?_
          obtain ⟨⟨r_1, go_values_1⟩, hc_, hM⟩ := bd_e hM
          refine st_callV hR (k_X3_worth hc_) cf_X9_121 (rm_le (Nat.le_of_ble_eq_true rfl) (Nat.le_of_ble_eq_true rfl)) [2, 0] rfl rfl rfl 2 0 3 5 rfl rfl rfl rfl (rest := []) rfl (Nat.le_of_ble_eq_true rfl) dX9_bestAround_114 (pc' := 117) rfl (Wn := [wX9 G q_v (q_mt 0) v_night v_g v_flock v_hunger v_lean v_fed v_taken v_pacts v_levels v_facts_3, wX5 G q_mt mt_farms mt_fences mt_shares mt_names mt_flock mt_dogs mt_hunger mt_fenced mt_heights mt_pacts mt_partner mt_often mt_toothed mt_feeding (q_go 0), wX3 G q_go go_kinds go_lefts go_rights go_values_1 go_steps]) rfl ?_
          refine st_istore hR dX9_bestAround_117 (Nat.le_of_ble_eq_true rfl) [1, 2, 3, 4, 5, 6, 0] (lv' := [(0, .ref (q_v 0)), (1, .int l1), (4, .int l4), (5, .int l5), (6, .int l6), (7, .int l7), (8, .int r_1)]) rfl (pc' := 119) rfl ?_
          refine st_iload hR dX9_bestAround_119 6 rfl (pc' := 121) rfl ?_
          refine st_iload hR dX9_bestAround_121 2 rfl (pc' := 123) rfl ?_
          refine st_icmp_le hR dX9_bestAround_123 (tgt := 139) (by decide) (pc' := 126) rfl (fun c_ => ?_) (fun c_ => ?_)
          · have hM := it_t c_ hM
            refine st_iload hR dX9_bestAround_139 6 rfl (pc' := 141) rfl ?_
            refine st_iload hR dX9_bestAround_141 2 rfl (pc' := 143) rfl ?_
            refine st_icmp_ne hR dX9_bestAround_143 (tgt := 160) (by decide) (pc' := 146) rfl (fun c_ => ?_) (fun c_ => ?_)
            · have hM := it_f c_ hM
              exact st_lv hR [0, 1, 2, 3, 4, 5] rfl (J160 _ _ _ _ _ _ _ hM)
            · have hM := it_t c_ hM
              refine st_iload hR dX9_bestAround_146 3 rfl (pc' := 148) rfl ?_
              refine st_if_eq hR dX9_bestAround_148 (tgt := 160) (by decide) (pc' := 151) rfl (fun c_ => ?_) (fun c_ => ?_)
              · have hM := it_t c_ hM
                exact st_lv hR [0, 1, 2, 3, 4, 5] rfl (J160 _ _ _ _ _ _ _ hM)
              · have hM := it_f c_ hM
                refine st_iload hR dX9_bestAround_151 3 rfl (pc' := 153) rfl ?_
                refine st_iconst hR dX9_bestAround_153 (v := 1) rfl (pc' := 154) rfl ?_
                refine st_iload hR dX9_bestAround_154 5 rfl (pc' := 156) rfl ?_
                refine st_ishl hR dX9_bestAround_156 (pc' := 157) rfl ?_
                refine st_ior hR dX9_bestAround_157 (pc' := 158) rfl ?_
                refine st_topi (fun l5_1 e_ => ?_)
                have hM := lt_e e_ hM
                refine st_istore hR dX9_bestAround_158 (Nat.le_of_ble_eq_true rfl) [1, 2, 3, 0, 4, 5, 6] (lv' := [(0, .ref (q_v 0)), (1, .int l1), (4, .int l4), (5, .int l5_1), (6, .int l6), (7, .int l7), (8, .int r_1)]) rfl (pc' := 160) rfl ?_
                exact st_lv hR [0, 1, 2, 3, 4, 5] rfl (J160 _ _ _ _ _ _ _ hM)
          · have hM := it_f c_ hM
            refine st_iload hR dX9_bestAround_126 6 rfl (pc' := 128) rfl ?_
            refine st_istore hR dX9_bestAround_128 (Nat.le_of_ble_eq_true rfl) [1, 2, 0, 3, 4, 5, 6] (lv' := [(0, .ref (q_v 0)), (1, .int l1), (4, .int r_1), (5, .int l5), (6, .int l6), (7, .int l7), (8, .int r_1)]) rfl (pc' := 130) rfl ?_
            refine st_iconst hR dX9_bestAround_130 (v := 1) rfl (pc' := 131) rfl ?_
            refine st_iload hR dX9_bestAround_131 5 rfl (pc' := 133) rfl ?_
            refine st_ishl hR dX9_bestAround_133 (pc' := 134) rfl ?_
            refine st_topi (fun l5_2 e_ => ?_)
            have hM := lt_e e_ hM
            refine st_istore hR dX9_bestAround_134 (Nat.le_of_ble_eq_true rfl) [1, 2, 3, 0, 4, 5, 6] (lv' := [(0, .ref (q_v 0)), (1, .int l1), (4, .int r_1), (5, .int l5_2), (6, .int l6), (7, .int l7), (8, .int r_1)]) rfl (pc' := 136) rfl ?_
            refine st_goto hR dX9_bestAround_136 (tgt := 160) (by decide) ?_
            exact st_lv hR [0, 1, 2, 3, 4, 5] rfl (J160 _ _ _ _ _ _ _ hM)
  refine st_iconst hR dX9_bestAround_0 (v := 0) rfl (pc' := 1) rfl ?_
  refine st_istore hR dX9_bestAround_1 (Nat.le_of_ble_eq_true rfl) [1, 2, 3, 4, 0] (lv' := [(0, .ref (q_v 0)), (1, .int l1), (2, .int l2), (3, .int l3), (4, .int 0)]) rfl (pc' := 3) rfl ?_
  refine st_iconst hR dX9_bestAround_3 (v := 0) rfl (pc' := 4) rfl ?_
  refine st_istore hR dX9_bestAround_4 (Nat.le_of_ble_eq_true rfl) [1, 2, 3, 4, 5, 0] (lv' := [(0, .ref (q_v 0)), (1, .int l1), (2, .int l2), (3, .int l3), (4, .int 0), (5, .int 0)]) rfl (pc' := 6) rfl ?_
  refine st_aload_n hR dX9_bestAround_6 0 rfl rfl (pc' := 7) rfl ?_
  refine st_iload_n hR dX9_bestAround_7 1 rfl rfl (pc' := 8) rfl ?_
  obtain ⟨r_1, hc_, hM⟩ := bd_e hM
  refine st_callV hR (k_X9_neighboursOf hc_) cf_X9_135 (rm_le (Nat.le_of_ble_eq_true rfl) (Nat.le_of_ble_eq_true rfl)) [0, 1] rfl rfl rfl 0 0 8 11 rfl rfl rfl rfl (rest := []) rfl (Nat.le_of_ble_eq_true rfl) dX9_bestAround_8 (pc' := 11) rfl (Wn := [wX9 G q_v (q_mt 0) v_night v_g v_flock v_hunger v_lean v_fed v_taken v_pacts v_levels v_facts, wX5 G q_mt mt_farms mt_fences mt_shares mt_names mt_flock mt_dogs mt_hunger mt_fenced mt_heights mt_pacts mt_partner mt_often mt_toothed mt_feeding (q_go 0), wX3 G q_go go_kinds go_lefts go_rights go_values go_steps]) rfl ?_
  refine st_istore hR dX9_bestAround_11 (Nat.le_of_ble_eq_true rfl) [1, 2, 3, 4, 5, 6, 0] (lv' := [(0, .ref (q_v 0)), (1, .int l1), (2, .int l2), (3, .int l3), (4, .int 0), (5, .int 0), (6, .int r_1)]) rfl (pc' := 13) rfl ?_
  refine st_aload_n hR dX9_bestAround_13 0 rfl rfl (pc' := 14) rfl ?_
  refine st_get hR dX9_bestAround_14 fg_X9_33_8_10 0 0 rfl rfl rfl (pc' := 17) rfl ?_
  refine st_iconst hR dX9_bestAround_17 (v := 2) rfl (pc' := 18) rfl ?_
  refine st_iload_n hR dX9_bestAround_18 2 rfl rfl (pc' := 19) rfl ?_
  refine st_iast hR dX9_bestAround_19 0 8 rfl rfl (vp_lit 2 rfl rfl rfl) (ix := 2) (cl_lit 2 rfl rfl) (pc' := 20) rfl (fun v_facts_1 => [wX9 G q_v (q_mt 0) v_night v_g v_flock v_hunger v_lean v_fed v_taken v_pacts v_levels v_facts_1, wX5 G q_mt mt_farms mt_fences mt_shares mt_names mt_flock mt_dogs mt_hunger mt_fenced mt_heights mt_pacts mt_partner mt_often mt_toothed mt_feeding (q_go 0), wX3 G q_go go_kinds go_lefts go_rights go_values go_steps]) (fun _ => rfl) (fun v_facts_1 e_ => ?_)
  have hM := lt_e e_ hM
  refine st_aload_n hR dX9_bestAround_20 0 rfl rfl (pc' := 21) rfl ?_
  refine st_get hR dX9_bestAround_21 fg_X9_33_8_10 0 0 rfl rfl rfl (pc' := 24) rfl ?_
  refine st_iconst hR dX9_bestAround_24 (v := 5) rfl (pc' := 25) rfl ?_
  refine st_iload_n hR dX9_bestAround_25 3 rfl rfl (pc' := 26) rfl ?_
  refine st_iast hR dX9_bestAround_26 0 8 rfl rfl (vp_lit 5 rfl rfl rfl) (ix := 5) (cl_lit 5 rfl rfl) (pc' := 27) rfl (fun v_facts_2 => [wX9 G q_v (q_mt 0) v_night v_g v_flock v_hunger v_lean v_fed v_taken v_pacts v_levels v_facts_2, wX5 G q_mt mt_farms mt_fences mt_shares mt_names mt_flock mt_dogs mt_hunger mt_fenced mt_heights mt_pacts mt_partner mt_often mt_toothed mt_feeding (q_go 0), wX3 G q_go go_kinds go_lefts go_rights go_values go_steps]) (fun _ => rfl) (fun v_facts_2 e_ => ?_)
  have hM := lt_e e_ hM
  refine st_iconst hR dX9_bestAround_27 (v := 0) rfl (pc' := 28) rfl ?_
  refine st_istore hR dX9_bestAround_28 (Nat.le_of_ble_eq_true rfl) [1, 2, 3, 4, 5, 6, 7, 0] (lv' := [(0, .ref (q_v 0)), (1, .int l1), (2, .int l2), (3, .int l3), (4, .int 0), (5, .int 0), (6, .int r_1), (7, .int 0)]) rfl (pc' := 30) rfl ?_
  exact st_lv hR [0, 1, 4, 5, 6, 7] rfl (L30 FU _ _ _ _ _ _ _ hM)
set_option maxHeartbeats 16000000 in
set_option maxRecDepth 100000 in
theorem k_X9_runWolf {l : Launch} {G : GG} {q_v q_mt q_fe q_go q_b : Nat → Nat} {v_night mt_farms mt_fences mt_shares mt_toothed fe_steps go_steps b_bones b_feudsInAll b_bitten : Int32} {v_g : Int64} {v_flock v_hunger v_lean v_fed v_taken v_pacts v_levels v_facts mt_flock mt_dogs mt_hunger mt_fenced mt_heights mt_pacts mt_partner mt_often fe_kinds fe_lefts fe_rights fe_values go_kinds go_lefts go_rights go_values b_kept b_feuds b_bites : Nat → Int32} {mt_names : Nat → Int64} {l2 : Int32} {o_v_g : Int64} {o_v_flock : Nat → Int32} {o_v_lean : Nat → Int32} {o_v_fed : Nat → Int32} {o_v_taken : Nat → Int32} {o_v_facts : Nat → Int32} {o_fe_values : Nat → Int32} {o_go_values : Nat → Int32} {o_b_kept : Nat → Int32} {o_b_feuds : Nat → Int32} {o_b_bones : Int32} {o_b_feudsInAll : Int32} (hM : f_X9_runWolf v_night v_hunger v_pacts v_levels mt_farms mt_dogs mt_fenced mt_heights mt_partner fe_kinds fe_lefts fe_rights fe_steps go_kinds go_lefts go_rights go_steps v_g v_flock v_lean v_fed v_taken v_facts fe_values go_values b_kept b_feuds b_bones b_feudsInAll l2 = some (o_v_g, o_v_flock, o_v_lean, o_v_fed, o_v_taken, o_v_facts, o_fe_values, o_go_values, o_b_kept, o_b_feuds, o_b_bones, o_b_feudsInAll)) : MC l G yX9_runWolf cX9_runWolf 8 none (RM 2) [.ref (q_v 0), .ref (q_b 0), .int l2] [wX9 G q_v (q_mt 0) v_night v_g v_flock v_hunger v_lean v_fed v_taken v_pacts v_levels v_facts, wX5 G q_mt mt_farms mt_fences mt_shares mt_names mt_flock mt_dogs mt_hunger mt_fenced mt_heights mt_pacts mt_partner mt_often mt_toothed (q_fe 0) (q_go 0), wX3 G q_fe fe_kinds fe_lefts fe_rights fe_values fe_steps, wX3 G q_go go_kinds go_lefts go_rights go_values go_steps, wX0 G q_b b_kept b_feuds b_bites b_bones b_feudsInAll b_bitten] none [wX9 G q_v (q_mt 0) v_night o_v_g o_v_flock v_hunger o_v_lean o_v_fed o_v_taken v_pacts v_levels o_v_facts, wX5 G q_mt mt_farms mt_fences mt_shares mt_names mt_flock mt_dogs mt_hunger mt_fenced mt_heights mt_pacts mt_partner mt_often mt_toothed (q_fe 0) (q_go 0), wX3 G q_fe fe_kinds fe_lefts fe_rights o_fe_values fe_steps, wX3 G q_go go_kinds go_lefts go_rights o_go_values go_steps, wX0 G q_b o_b_kept o_b_feuds b_bites o_b_bones o_b_feudsInAll b_bitten] := by
  refine MC.of pn_X9 (Nat.le_of_ble_eq_true rfl) (fun K hR hret => ?_)
  have hR : Rl l G RX9 cX9_runWolf 8 (RM 2) K := hR
  show K [wX9 G q_v (q_mt 0) v_night v_g v_flock v_hunger v_lean v_fed v_taken v_pacts v_levels v_facts, wX5 G q_mt mt_farms mt_fences mt_shares mt_names mt_flock mt_dogs mt_hunger mt_fenced mt_heights mt_pacts mt_partner mt_often mt_toothed (q_fe 0) (q_go 0), wX3 G q_fe fe_kinds fe_lefts fe_rights fe_values fe_steps, wX3 G q_go go_kinds go_lefts go_rights go_values go_steps, wX0 G q_b b_kept b_feuds b_bites b_bones b_feudsInAll b_bitten] [(0, .ref (q_v 0)), (1, .ref (q_b 0)), (2, .int l2)] 0 []
  have J175 : ∀ (v_g : Int64) (v_flock : Nat → Int32) (v_lean : Nat → Int32) (v_fed : Nat → Int32) (v_taken : Nat → Int32) (v_facts : Nat → Int32) (fe_values : Nat → Int32) (go_values : Nat → Int32) (b_kept : Nat → Int32) (b_feuds : Nat → Int32) (b_bones : Int32) (b_feudsInAll : Int32) (l2 : Int32) (l3 : Int32) (l6 : Int32) (s0 : Int32) (s1 : Int32), f_X9_runWolf_B175  v_night v_hunger v_pacts v_levels mt_farms mt_dogs mt_fenced mt_heights mt_partner fe_kinds fe_lefts fe_rights fe_steps go_kinds go_lefts go_rights go_steps v_g v_flock v_lean v_fed v_taken v_facts fe_values go_values b_kept b_feuds b_bones b_feudsInAll l2 l3 l6 s0 s1 = some (o_v_g, o_v_flock, o_v_lean, o_v_fed, o_v_taken, o_v_facts, o_fe_values, o_go_values, o_b_kept, o_b_feuds, o_b_bones, o_b_feudsInAll) → K [wX9 G q_v (q_mt 0) v_night v_g v_flock v_hunger v_lean v_fed v_taken v_pacts v_levels v_facts, wX5 G q_mt mt_farms mt_fences mt_shares mt_names mt_flock mt_dogs mt_hunger mt_fenced mt_heights mt_pacts mt_partner mt_often mt_toothed (q_fe 0) (q_go 0), wX3 G q_fe fe_kinds fe_lefts fe_rights fe_values fe_steps, wX3 G q_go go_kinds go_lefts go_rights go_values go_steps, wX0 G q_b b_kept b_feuds b_bites b_bones b_feudsInAll b_bitten] [(0, .ref (q_v 0)), (1, .ref (q_b 0)), (2, .int l2), (3, .int l3), (6, .int l6)] 175 [.int s0, .int s1, .ref (q_v 3)] := by
    intro v_g v_flock v_lean v_fed v_taken v_facts fe_values go_values b_kept b_feuds b_bones b_feudsInAll l2 l3 l6 s0 s1 hM
    obtain ⟨hin_, hM⟩ := g_in_e hM
    refine st_iast hR dX9_runWolf_175 0 3 rfl rfl hin_ (ix := (ix s1)) rfl (pc' := 176) rfl (fun v_lean_1 => [wX9 G q_v (q_mt 0) v_night v_g v_flock v_hunger v_lean_1 v_fed v_taken v_pacts v_levels v_facts, wX5 G q_mt mt_farms mt_fences mt_shares mt_names mt_flock mt_dogs mt_hunger mt_fenced mt_heights mt_pacts mt_partner mt_often mt_toothed (q_fe 0) (q_go 0), wX3 G q_fe fe_kinds fe_lefts fe_rights fe_values fe_steps, wX3 G q_go go_kinds go_lefts go_rights go_values go_steps, wX0 G q_b b_kept b_feuds b_bites b_bones b_feudsInAll b_bitten]) (fun _ => rfl) (fun v_lean_1 e_ => ?_)
    have hM := lt_e e_ hM
    refine st_iload hR dX9_runWolf_176 4 rfl (pc' := 178) rfl ?_
    refine st_iconst hR dX9_runWolf_178 (v := (-1)) (by decide) (pc' := 179) rfl ?_
    refine st_icmp_eq hR dX9_runWolf_179 (tgt := 206) (by decide) (pc' := 182) rfl (fun c_ => ?_) (fun c_ => ?_)
    · have hM := it_t c_ hM
      cases hM
      exact hret _ _ dX9_runWolf_206 ro_v
    · have hM := it_f c_ hM
      refine st_aload_n hR dX9_runWolf_182 0 rfl rfl (pc' := 183) rfl ?_
      refine st_get hR dX9_runWolf_183 fg_X9_18_8_5 0 0 rfl rfl rfl (pc' := 186) rfl ?_
      refine st_iload_n hR dX9_runWolf_186 2 rfl rfl (pc' := 187) rfl ?_
      obtain ⟨hin_, hM⟩ := g_in_e hM
      refine st_iald hR dX9_runWolf_187 0 3 rfl rfl hin_ (v := v_lean_1 (ix l2)) rfl (pc' := 188) rfl ?_
      refine st_iconst hR dX9_runWolf_188 (v := 3) rfl (pc' := 189) rfl ?_
      refine st_icmp_lt hR dX9_runWolf_189 (tgt := 206) (by decide) (pc' := 192) rfl (fun c_ => ?_) (fun c_ => ?_)
      · have hM := it_t c_ hM
        cases hM
        exact hret _ _ dX9_runWolf_206 ro_v
      · have hM := it_f c_ hM
        refine st_aload_n hR dX9_runWolf_192 1 rfl rfl (pc' := 193) rfl ?_
        refine st_iload_n hR dX9_runWolf_193 3 rfl rfl (pc' := 194) rfl ?_
        refine st_iload hR dX9_runWolf_194 4 rfl (pc' := 196) rfl ?_
        obtain ⟨⟨b_feuds_1, b_feudsInAll_1⟩, hc_, hM⟩ := bd_e hM
        refine st_callV hR (k_X0_addFeud hc_) cf_X9_110 (rm_le (Nat.le_of_ble_eq_true rfl) (Nat.le_of_ble_eq_true rfl)) [4] rfl rfl rfl 4 0 0 6 rfl rfl rfl rfl (rest := []) rfl (Nat.le_of_ble_eq_true rfl) dX9_runWolf_196 (pc' := 199) rfl (Wn := [wX9 G q_v (q_mt 0) v_night v_g v_flock v_hunger v_lean_1 v_fed v_taken v_pacts v_levels v_facts, wX5 G q_mt mt_farms mt_fences mt_shares mt_names mt_flock mt_dogs mt_hunger mt_fenced mt_heights mt_pacts mt_partner mt_often mt_toothed (q_fe 0) (q_go 0), wX3 G q_fe fe_kinds fe_lefts fe_rights fe_values fe_steps, wX3 G q_go go_kinds go_lefts go_rights go_values go_steps, wX0 G q_b b_kept b_feuds_1 b_bites b_bones b_feudsInAll_1 b_bitten]) rfl ?_
        refine st_aload_n hR dX9_runWolf_199 0 rfl rfl (pc' := 200) rfl ?_
        refine st_get hR dX9_runWolf_200 fg_X9_18_8_5 0 0 rfl rfl rfl (pc' := 203) rfl ?_
        refine st_iload_n hR dX9_runWolf_203 2 rfl rfl (pc' := 204) rfl ?_
        refine st_iconst hR dX9_runWolf_204 (v := 0) rfl (pc' := 205) rfl ?_
        obtain ⟨hin_, hM⟩ := g_in_e hM
        refine st_iast hR dX9_runWolf_205 0 3 rfl rfl hin_ (ix := (ix l2)) rfl (pc' := 206) rfl (fun v_lean_2 => [wX9 G q_v (q_mt 0) v_night v_g v_flock v_hunger v_lean_2 v_fed v_taken v_pacts v_levels v_facts, wX5 G q_mt mt_farms mt_fences mt_shares mt_names mt_flock mt_dogs mt_hunger mt_fenced mt_heights mt_pacts mt_partner mt_often mt_toothed (q_fe 0) (q_go 0), wX3 G q_fe fe_kinds fe_lefts fe_rights fe_values fe_steps, wX3 G q_go go_kinds go_lefts go_rights go_values go_steps, wX0 G q_b b_kept b_feuds_1 b_bites b_bones b_feudsInAll_1 b_bitten]) (fun _ => rfl) (fun v_lean_2 e_ => ?_)
        have hM := lt_e e_ hM
        cases hM
        exact hret _ _ dX9_runWolf_206 ro_v
  have J145 : ∀ (v_g : Int64) (v_flock : Nat → Int32) (v_lean : Nat → Int32) (v_fed : Nat → Int32) (v_taken : Nat → Int32) (v_facts : Nat → Int32) (fe_values : Nat → Int32) (go_values : Nat → Int32) (b_kept : Nat → Int32) (b_feuds : Nat → Int32) (b_bones : Int32) (b_feudsInAll : Int32) (l2 : Int32) (l3 : Int32) (l4 : Int32) (l6 : Int32), f_X9_runWolf_B145  v_night v_hunger v_pacts v_levels mt_farms mt_dogs mt_fenced mt_heights mt_partner fe_kinds fe_lefts fe_rights fe_steps go_kinds go_lefts go_rights go_steps v_g v_flock v_lean v_fed v_taken v_facts fe_values go_values b_kept b_feuds b_bones b_feudsInAll l2 l3 l4 l6 = some (o_v_g, o_v_flock, o_v_lean, o_v_fed, o_v_taken, o_v_facts, o_fe_values, o_go_values, o_b_kept, o_b_feuds, o_b_bones, o_b_feudsInAll) → K [wX9 G q_v (q_mt 0) v_night v_g v_flock v_hunger v_lean v_fed v_taken v_pacts v_levels v_facts, wX5 G q_mt mt_farms mt_fences mt_shares mt_names mt_flock mt_dogs mt_hunger mt_fenced mt_heights mt_pacts mt_partner mt_often mt_toothed (q_fe 0) (q_go 0), wX3 G q_fe fe_kinds fe_lefts fe_rights fe_values fe_steps, wX3 G q_go go_kinds go_lefts go_rights go_values go_steps, wX0 G q_b b_kept b_feuds b_bites b_bones b_feudsInAll b_bitten] [(0, .ref (q_v 0)), (1, .ref (q_b 0)), (2, .int l2), (3, .int l3), (4, .int l4), (6, .int l6)] 145 [] := by
    intro v_g v_flock v_lean v_fed v_taken v_facts fe_values go_values b_kept b_feuds b_bones b_feudsInAll l2 l3 l4 l6 hM
    refine st_aload_n hR dX9_runWolf_145 0 rfl rfl (pc' := 146) rfl ?_
    refine st_get hR dX9_runWolf_146 fg_X9_18_8_5 0 0 rfl rfl rfl (pc' := 149) rfl ?_
    refine st_iload_n hR dX9_runWolf_149 2 rfl rfl (pc' := 150) rfl ?_
    refine st_iconst hR dX9_runWolf_150 (v := 2) rfl (pc' := 151) rfl ?_
    refine st_iload hR dX9_runWolf_151 4 rfl (pc' := 153) rfl ?_
    refine st_imul hR dX9_runWolf_153 (pc' := 154) rfl ?_
    refine st_aload_n hR dX9_runWolf_154 0 rfl rfl (pc' := 155) rfl ?_
    refine st_get hR dX9_runWolf_155 fg_X9_15_8_4 0 0 rfl rfl rfl (pc' := 158) rfl ?_
    refine st_iload_n hR dX9_runWolf_158 2 rfl rfl (pc' := 159) rfl ?_
    obtain ⟨hin_, hM⟩ := g_in_e hM
    refine st_iald hR dX9_runWolf_159 0 2 rfl rfl hin_ (v := v_hunger (ix l2)) rfl (pc' := 160) rfl ?_
    refine st_icmp_ge hR dX9_runWolf_160 (tgt := 174) (by decide) (pc' := 163) rfl (fun c_ => ?_) (fun c_ => ?_)
    · have hM := it_t c_ hM
      refine st_iconst hR dX9_runWolf_174 (v := 0) rfl (pc' := 175) rfl ?_
      exact st_lv hR [0, 1, 2, 3, 5] rfl (J175 _ _ _ _ _ _ _ _ _ _ _ _ _ _ _ _ _ hM)
    · have hM := it_f c_ hM
      refine st_aload_n hR dX9_runWolf_163 0 rfl rfl (pc' := 164) rfl ?_
      refine st_get hR dX9_runWolf_164 fg_X9_18_8_5 0 0 rfl rfl rfl (pc' := 167) rfl ?_
      refine st_iload_n hR dX9_runWolf_167 2 rfl rfl (pc' := 168) rfl ?_
      obtain ⟨hin_, hM⟩ := g_in_e hM
      refine st_iald hR dX9_runWolf_168 0 3 rfl rfl hin_ (v := v_lean (ix l2)) rfl (pc' := 169) rfl ?_
      refine st_iconst hR dX9_runWolf_169 (v := 1) rfl (pc' := 170) rfl ?_
      refine st_iadd hR dX9_runWolf_170 (pc' := 171) rfl ?_
      refine st_goto hR dX9_runWolf_171 (tgt := 175) (by decide) ?_
      exact st_lv hR [0, 1, 2, 3, 5] rfl (J175 _ _ _ _ _ _ _ _ _ _ _ _ _ _ _ _ _ hM)
  have J78 : ∀ (v_g : Int64) (v_flock : Nat → Int32) (v_lean : Nat → Int32) (v_fed : Nat → Int32) (v_taken : Nat → Int32) (v_facts : Nat → Int32) (fe_values : Nat → Int32) (go_values : Nat → Int32) (b_kept : Nat → Int32) (b_feuds : Nat → Int32) (b_bones : Int32) (b_feudsInAll : Int32) (l2 : Int32) (l3 : Int32) (l4 : Int32) (l5 : Int32) (s0 : Int32), f_X9_runWolf_B78  v_night v_hunger v_pacts v_levels mt_farms mt_dogs mt_fenced mt_heights mt_partner fe_kinds fe_lefts fe_rights fe_steps go_kinds go_lefts go_rights go_steps v_g v_flock v_lean v_fed v_taken v_facts fe_values go_values b_kept b_feuds b_bones b_feudsInAll l2 l3 l4 l5 s0 = some (o_v_g, o_v_flock, o_v_lean, o_v_fed, o_v_taken, o_v_facts, o_fe_values, o_go_values, o_b_kept, o_b_feuds, o_b_bones, o_b_feudsInAll) → K [wX9 G q_v (q_mt 0) v_night v_g v_flock v_hunger v_lean v_fed v_taken v_pacts v_levels v_facts, wX5 G q_mt mt_farms mt_fences mt_shares mt_names mt_flock mt_dogs mt_hunger mt_fenced mt_heights mt_pacts mt_partner mt_often mt_toothed (q_fe 0) (q_go 0), wX3 G q_fe fe_kinds fe_lefts fe_rights fe_values fe_steps, wX3 G q_go go_kinds go_lefts go_rights go_values go_steps, wX0 G q_b b_kept b_feuds b_bites b_bones b_feudsInAll b_bitten] [(0, .ref (q_v 0)), (1, .ref (q_b 0)), (2, .int l2), (3, .int l3), (4, .int l4), (5, .int l5)] 78 [.int s0] := by
    intro v_g v_flock v_lean v_fed v_taken v_facts fe_values go_values b_kept b_feuds b_bones b_feudsInAll l2 l3 l4 l5 s0 hM
    refine st_istore hR dX9_runWolf_78 (Nat.le_of_ble_eq_true rfl) [1, 2, 3, 4, 5, 6, 0] (lv' := [(0, .ref (q_v 0)), (1, .ref (q_b 0)), (2, .int l2), (3, .int l3), (4, .int l4), (5, .int l5), (6, .int s0)]) rfl (pc' := 80) rfl ?_
    refine st_iload hR dX9_runWolf_80 6 rfl (pc' := 82) rfl ?_
    refine st_iconst hR dX9_runWolf_82 (v := (-1)) (by decide) (pc' := 83) rfl ?_
    refine st_icmp_eq hR dX9_runWolf_83 (tgt := 145) (by decide) (pc' := 86) rfl (fun c_ => ?_) (fun c_ => ?_)
    · have hM := it_t c_ hM
      exact st_lv hR [0, 1, 2, 3, 4, 6] rfl (J145 _ _ _ _ _ _ _ _ _ _ _ _ _ _ _ _ hM)
    · have hM := it_f c_ hM
      refine st_aload_n hR dX9_runWolf_86 0 rfl rfl (pc' := 87) rfl ?_
      refine st_iload hR dX9_runWolf_87 6 rfl (pc' := 89) rfl ?_
      refine st_iload hR dX9_runWolf_89 5 rfl (pc' := 91) rfl ?_
      obtain ⟨r_1, hc_, hM⟩ := bd_e hM
      refine st_callV hR (k_X9_takenAt hc_) cf_X9_101 (rm_le (Nat.le_of_ble_eq_true rfl) (Nat.le_of_ble_eq_true rfl)) [0, 1] rfl rfl rfl 0 0 8 11 rfl rfl rfl rfl (rest := []) rfl (Nat.le_of_ble_eq_true rfl) dX9_runWolf_91 (pc' := 94) rfl (Wn := [wX9 G q_v (q_mt 0) v_night v_g v_flock v_hunger v_lean v_fed v_taken v_pacts v_levels v_facts, wX5 G q_mt mt_farms mt_fences mt_shares mt_names mt_flock mt_dogs mt_hunger mt_fenced mt_heights mt_pacts mt_partner mt_often mt_toothed (q_fe 0) (q_go 0), wX3 G q_fe fe_kinds fe_lefts fe_rights fe_values fe_steps, wX3 G q_go go_kinds go_lefts go_rights go_values go_steps, wX0 G q_b b_kept b_feuds b_bites b_bones b_feudsInAll b_bitten]) rfl ?_
      refine st_istore hR dX9_runWolf_94 (Nat.le_of_ble_eq_true rfl) [1, 2, 3, 4, 5, 6, 7, 0] (lv' := [(0, .ref (q_v 0)), (1, .ref (q_b 0)), (2, .int l2), (3, .int l3), (4, .int l4), (5, .int l5), (6, .int s0), (7, .int r_1)]) rfl (pc' := 96) rfl ?_
      refine st_aload_n hR dX9_runWolf_96 0 rfl rfl (pc' := 97) rfl ?_
      refine st_get hR dX9_runWolf_97 fg_X9_9_8_3 0 0 rfl rfl rfl (pc' := 100) rfl ?_
      refine st_iload hR dX9_runWolf_100 6 rfl (pc' := 102) rfl ?_
      refine st_dup2 hR dX9_runWolf_102 (pc' := 103) rfl rfl rfl ?_
      obtain ⟨hin_, hM⟩ := g_in_e hM
      refine st_iald hR dX9_runWolf_103 0 1 rfl rfl hin_ (v := v_flock (ix s0)) rfl (pc' := 104) rfl ?_
      refine st_iload hR dX9_runWolf_104 7 rfl (pc' := 106) rfl ?_
      refine st_isub hR dX9_runWolf_106 (pc' := 107) rfl ?_
      obtain ⟨hin_, hM⟩ := g_in_e hM
      refine st_iast hR dX9_runWolf_107 0 1 rfl rfl hin_ (ix := (ix s0)) rfl (pc' := 108) rfl (fun v_flock_1 => [wX9 G q_v (q_mt 0) v_night v_g v_flock_1 v_hunger v_lean v_fed v_taken v_pacts v_levels v_facts, wX5 G q_mt mt_farms mt_fences mt_shares mt_names mt_flock mt_dogs mt_hunger mt_fenced mt_heights mt_pacts mt_partner mt_often mt_toothed (q_fe 0) (q_go 0), wX3 G q_fe fe_kinds fe_lefts fe_rights fe_values fe_steps, wX3 G q_go go_kinds go_lefts go_rights go_values go_steps, wX0 G q_b b_kept b_feuds b_bites b_bones b_feudsInAll b_bitten]) (fun _ => rfl) (fun v_flock_1 e_ => ?_)
      have hM := lt_e e_ hM
      refine st_aload_n hR dX9_runWolf_108 0 rfl rfl (pc' := 109) rfl ?_
      refine st_get hR dX9_runWolf_109 fg_X9_24_8_7 0 0 rfl rfl rfl (pc' := 112) rfl ?_
      refine st_iload hR dX9_runWolf_112 6 rfl (pc' := 114) rfl ?_
      refine st_dup2 hR dX9_runWolf_114 (pc' := 115) rfl rfl rfl ?_
      obtain ⟨hin_, hM⟩ := g_in_e hM
      refine st_iald hR dX9_runWolf_115 0 5 rfl rfl hin_ (v := v_taken (ix s0)) rfl (pc' := 116) rfl ?_
      refine st_iload hR dX9_runWolf_116 7 rfl (pc' := 118) rfl ?_
      refine st_iadd hR dX9_runWolf_118 (pc' := 119) rfl ?_
      obtain ⟨hin_, hM⟩ := g_in_e hM
      refine st_iast hR dX9_runWolf_119 0 5 rfl rfl hin_ (ix := (ix s0)) rfl (pc' := 120) rfl (fun v_taken_1 => [wX9 G q_v (q_mt 0) v_night v_g v_flock_1 v_hunger v_lean v_fed v_taken_1 v_pacts v_levels v_facts, wX5 G q_mt mt_farms mt_fences mt_shares mt_names mt_flock mt_dogs mt_hunger mt_fenced mt_heights mt_pacts mt_partner mt_often mt_toothed (q_fe 0) (q_go 0), wX3 G q_fe fe_kinds fe_lefts fe_rights fe_values fe_steps, wX3 G q_go go_kinds go_lefts go_rights go_values go_steps, wX0 G q_b b_kept b_feuds b_bites b_bones b_feudsInAll b_bitten]) (fun _ => rfl) (fun v_taken_1 e_ => ?_)
      have hM := lt_e e_ hM
      refine st_iload hR dX9_runWolf_120 4 rfl (pc' := 122) rfl ?_
      refine st_iload hR dX9_runWolf_122 7 rfl (pc' := 124) rfl ?_
      refine st_iadd hR dX9_runWolf_124 (pc' := 125) rfl ?_
      refine st_topi (fun l4_1 e_ => ?_)
      have hM := lt_e e_ hM
      refine st_istore hR dX9_runWolf_125 (Nat.le_of_ble_eq_true rfl) [1, 2, 3, 4, 0, 5, 6, 7] (lv' := [(0, .ref (q_v 0)), (1, .ref (q_b 0)), (2, .int l2), (3, .int l3), (4, .int l4_1), (5, .int l5), (6, .int s0), (7, .int r_1)]) rfl (pc' := 127) rfl ?_
      refine st_iload hR dX9_runWolf_127 7 rfl (pc' := 129) rfl ?_
      refine st_if_le hR dX9_runWolf_129 (tgt := 145) (by decide) (pc' := 132) rfl (fun c_ => ?_) (fun c_ => ?_)
      · have hM := it_t c_ hM
        exact st_lv hR [0, 1, 2, 3, 4, 6] rfl (J145 _ _ _ _ _ _ _ _ _ _ _ _ _ _ _ _ hM)
      · have hM := it_f c_ hM
        refine st_aload_n hR dX9_runWolf_132 1 rfl rfl (pc' := 133) rfl ?_
        refine st_aload_n hR dX9_runWolf_133 0 rfl rfl (pc' := 134) rfl ?_
        refine st_get hR dX9_runWolf_134 fg_X9_40_8_1 0 0 rfl rfl rfl (pc' := 137) rfl ?_
        refine st_iload hR dX9_runWolf_137 6 rfl (pc' := 139) rfl ?_
        refine st_iload_n hR dX9_runWolf_139 2 rfl rfl (pc' := 140) rfl ?_
        refine st_iload hR dX9_runWolf_140 7 rfl (pc' := 142) rfl ?_
        obtain ⟨⟨b_kept_1, b_bones_1⟩, hc_, hM⟩ := bd_e hM
        refine st_callV hR (k_X0_addBone hc_) cf_X9_104 (rm_le (Nat.le_of_ble_eq_true rfl) (Nat.le_of_ble_eq_true rfl)) [4] rfl rfl rfl 4 0 0 6 rfl rfl rfl rfl (rest := []) rfl (Nat.le_of_ble_eq_true rfl) dX9_runWolf_142 (pc' := 145) rfl (Wn := [wX9 G q_v (q_mt 0) v_night v_g v_flock_1 v_hunger v_lean v_fed v_taken_1 v_pacts v_levels v_facts, wX5 G q_mt mt_farms mt_fences mt_shares mt_names mt_flock mt_dogs mt_hunger mt_fenced mt_heights mt_pacts mt_partner mt_often mt_toothed (q_fe 0) (q_go 0), wX3 G q_fe fe_kinds fe_lefts fe_rights fe_values fe_steps, wX3 G q_go go_kinds go_lefts go_rights go_values go_steps, wX0 G q_b b_kept_1 b_feuds b_bites b_bones_1 b_feudsInAll b_bitten]) rfl ?_
        exact st_lv hR [0, 1, 2, 3, 4, 6] rfl (J145 _ _ _ _ _ _ _ _ _ _ _ _ _ _ _ _ hM)
  refine st_aload_n hR dX9_runWolf_0 0 rfl rfl (pc' := 1) rfl ?_
  refine st_iload_n hR dX9_runWolf_1 2 rfl rfl (pc' := 2) rfl ?_
  obtain ⟨r_1, hc_, hM⟩ := bd_e hM
  refine st_callV hR (k_X9_homeOf hc_) cf_X9_87 (rm_le (Nat.le_of_ble_eq_true rfl) (Nat.le_of_ble_eq_true rfl)) [0, 1] rfl rfl rfl 0 0 8 11 rfl rfl rfl rfl (rest := []) rfl (Nat.le_of_ble_eq_true rfl) dX9_runWolf_2 (pc' := 5) rfl (Wn := [wX9 G q_v (q_mt 0) v_night v_g v_flock v_hunger v_lean v_fed v_taken v_pacts v_levels v_facts, wX5 G q_mt mt_farms mt_fences mt_shares mt_names mt_flock mt_dogs mt_hunger mt_fenced mt_heights mt_pacts mt_partner mt_often mt_toothed (q_fe 0) (q_go 0), wX3 G q_fe fe_kinds fe_lefts fe_rights fe_values fe_steps, wX3 G q_go go_kinds go_lefts go_rights go_values go_steps, wX0 G q_b b_kept b_feuds b_bites b_bones b_feudsInAll b_bitten]) rfl ?_
  refine st_istore_n hR dX9_runWolf_5 rfl (Nat.le_of_ble_eq_true rfl) [1, 2, 3, 0] (lv' := [(0, .ref (q_v 0)), (1, .ref (q_b 0)), (2, .int l2), (3, .int r_1)]) rfl (pc' := 6) rfl ?_
  refine st_aload_n hR dX9_runWolf_6 0 rfl rfl (pc' := 7) rfl ?_
  refine st_iload_n hR dX9_runWolf_7 3 rfl rfl (pc' := 8) rfl ?_
  refine st_aload_n hR dX9_runWolf_8 0 rfl rfl (pc' := 9) rfl ?_
  refine st_get hR dX9_runWolf_9 fg_X9_15_8_4 0 0 rfl rfl rfl (pc' := 12) rfl ?_
  refine st_iload_n hR dX9_runWolf_12 2 rfl rfl (pc' := 13) rfl ?_
  obtain ⟨hin_, hM⟩ := g_in_e hM
  refine st_iald hR dX9_runWolf_13 0 2 rfl rfl hin_ (v := v_hunger (ix l2)) rfl (pc' := 14) rfl ?_
  obtain ⟨⟨r_2, v_facts_1, fe_values_1⟩, hc_, hM⟩ := bd_e hM
  refine st_callV hR (k_X9_fedAt hc_) cf_X9_90 (rm_le (Nat.le_of_ble_eq_true rfl) (Nat.le_of_ble_eq_true rfl)) [0, 1, 2] rfl rfl rfl 0 0 8 11 rfl rfl rfl rfl (rest := []) rfl (Nat.le_of_ble_eq_true rfl) dX9_runWolf_14 (pc' := 17) rfl (Wn := [wX9 G q_v (q_mt 0) v_night v_g v_flock v_hunger v_lean v_fed v_taken v_pacts v_levels v_facts_1, wX5 G q_mt mt_farms mt_fences mt_shares mt_names mt_flock mt_dogs mt_hunger mt_fenced mt_heights mt_pacts mt_partner mt_often mt_toothed (q_fe 0) (q_go 0), wX3 G q_fe fe_kinds fe_lefts fe_rights fe_values_1 fe_steps, wX3 G q_go go_kinds go_lefts go_rights go_values go_steps, wX0 G q_b b_kept b_feuds b_bites b_bones b_feudsInAll b_bitten]) rfl ?_
  refine st_istore hR dX9_runWolf_17 (Nat.le_of_ble_eq_true rfl) [1, 2, 3, 4, 0] (lv' := [(0, .ref (q_v 0)), (1, .ref (q_b 0)), (2, .int l2), (3, .int r_1), (4, .int r_2)]) rfl (pc' := 19) rfl ?_
  refine st_aload_n hR dX9_runWolf_19 0 rfl rfl (pc' := 20) rfl ?_
  refine st_get hR dX9_runWolf_20 fg_X9_9_8_3 0 0 rfl rfl rfl (pc' := 23) rfl ?_
  refine st_iload_n hR dX9_runWolf_23 3 rfl rfl (pc' := 24) rfl ?_
  refine st_dup2 hR dX9_runWolf_24 (pc' := 25) rfl rfl rfl ?_
  obtain ⟨hin_, hM⟩ := g_in_e hM
  refine st_iald hR dX9_runWolf_25 0 1 rfl rfl hin_ (v := v_flock (ix r_1)) rfl (pc' := 26) rfl ?_
  refine st_iload hR dX9_runWolf_26 4 rfl (pc' := 28) rfl ?_
  refine st_isub hR dX9_runWolf_28 (pc' := 29) rfl ?_
  obtain ⟨hin_, hM⟩ := g_in_e hM
  refine st_iast hR dX9_runWolf_29 0 1 rfl rfl hin_ (ix := (ix r_1)) rfl (pc' := 30) rfl (fun v_flock_1 => [wX9 G q_v (q_mt 0) v_night v_g v_flock_1 v_hunger v_lean v_fed v_taken v_pacts v_levels v_facts_1, wX5 G q_mt mt_farms mt_fences mt_shares mt_names mt_flock mt_dogs mt_hunger mt_fenced mt_heights mt_pacts mt_partner mt_often mt_toothed (q_fe 0) (q_go 0), wX3 G q_fe fe_kinds fe_lefts fe_rights fe_values_1 fe_steps, wX3 G q_go go_kinds go_lefts go_rights go_values go_steps, wX0 G q_b b_kept b_feuds b_bites b_bones b_feudsInAll b_bitten]) (fun _ => rfl) (fun v_flock_1 e_ => ?_)
  have hM := lt_e e_ hM
  refine st_aload_n hR dX9_runWolf_30 0 rfl rfl (pc' := 31) rfl ?_
  refine st_get hR dX9_runWolf_31 fg_X9_21_8_6 0 0 rfl rfl rfl (pc' := 34) rfl ?_
  refine st_iload_n hR dX9_runWolf_34 3 rfl rfl (pc' := 35) rfl ?_
  refine st_dup2 hR dX9_runWolf_35 (pc' := 36) rfl rfl rfl ?_
  obtain ⟨hin_, hM⟩ := g_in_e hM
  refine st_iald hR dX9_runWolf_36 0 4 rfl rfl hin_ (v := v_fed (ix r_1)) rfl (pc' := 37) rfl ?_
  refine st_iload hR dX9_runWolf_37 4 rfl (pc' := 39) rfl ?_
  refine st_iadd hR dX9_runWolf_39 (pc' := 40) rfl ?_
  obtain ⟨hin_, hM⟩ := g_in_e hM
  refine st_iast hR dX9_runWolf_40 0 4 rfl rfl hin_ (ix := (ix r_1)) rfl (pc' := 41) rfl (fun v_fed_1 => [wX9 G q_v (q_mt 0) v_night v_g v_flock_1 v_hunger v_lean v_fed_1 v_taken v_pacts v_levels v_facts_1, wX5 G q_mt mt_farms mt_fences mt_shares mt_names mt_flock mt_dogs mt_hunger mt_fenced mt_heights mt_pacts mt_partner mt_often mt_toothed (q_fe 0) (q_go 0), wX3 G q_fe fe_kinds fe_lefts fe_rights fe_values_1 fe_steps, wX3 G q_go go_kinds go_lefts go_rights go_values go_steps, wX0 G q_b b_kept b_feuds b_bites b_bones b_feudsInAll b_bitten]) (fun _ => rfl) (fun v_fed_1 e_ => ?_)
  have hM := lt_e e_ hM
  refine st_aload_n hR dX9_runWolf_41 0 rfl rfl (pc' := 42) rfl ?_
  refine st_get hR dX9_runWolf_42 fg_X9_15_8_4 0 0 rfl rfl rfl (pc' := 45) rfl ?_
  refine st_iload_n hR dX9_runWolf_45 2 rfl rfl (pc' := 46) rfl ?_
  obtain ⟨hin_, hM⟩ := g_in_e hM
  refine st_iald hR dX9_runWolf_46 0 2 rfl rfl hin_ (v := v_hunger (ix l2)) rfl (pc' := 47) rfl ?_
  refine st_iload hR dX9_runWolf_47 4 rfl (pc' := 49) rfl ?_
  refine st_isub hR dX9_runWolf_49 (pc' := 50) rfl ?_
  refine st_topi (fun l5_1 e_ => ?_)
  have hM := lt_e e_ hM
  refine st_istore hR dX9_runWolf_50 (Nat.le_of_ble_eq_true rfl) [1, 2, 3, 4, 5, 0] (lv' := [(0, .ref (q_v 0)), (1, .ref (q_b 0)), (2, .int l2), (3, .int r_1), (4, .int r_2), (5, .int l5_1)]) rfl (pc' := 52) rfl ?_
  refine st_iload hR dX9_runWolf_52 5 rfl (pc' := 54) rfl ?_
  refine st_if_le hR dX9_runWolf_54 (tgt := 77) (by decide) (pc' := 57) rfl (fun c_ => ?_) (fun c_ => ?_)
  · have hM := it_t c_ hM
    refine st_iconst hR dX9_runWolf_77 (v := (-1)) (by decide) (pc' := 78) rfl ?_
    exact J78 _ _ _ _ _ _ _ _ _ _ _ _ _ _ _ _ _ hM
  · have hM := it_f c_ hM
    refine st_aload_n hR dX9_runWolf_57 0 rfl rfl (pc' := 58) rfl ?_
    refine st_aload_n hR dX9_runWolf_58 0 rfl rfl (pc' := 59) rfl ?_
    refine st_iload_n hR dX9_runWolf_59 3 rfl rfl (pc' := 60) rfl ?_
    refine st_iload hR dX9_runWolf_60 5 rfl (pc' := 62) rfl ?_
    refine st_aload_n hR dX9_runWolf_62 0 rfl rfl (pc' := 63) rfl ?_
    refine st_get hR dX9_runWolf_63 fg_X9_18_8_5 0 0 rfl rfl rfl (pc' := 66) rfl ?_
    refine st_iload_n hR dX9_runWolf_66 2 rfl rfl (pc' := 67) rfl ?_
    obtain ⟨hin_, hM⟩ := g_in_e hM
    refine st_iald hR dX9_runWolf_67 0 3 rfl rfl hin_ (v := v_lean (ix l2)) rfl (pc' := 68) rfl ?_
    obtain ⟨⟨r_3, v_facts_2, go_values_1⟩, hc_, hM⟩ := bd_e hM
    refine st_callV hR (k_X9_bestAround hc_) cf_X9_94 (rm_le (Nat.le_of_ble_eq_true rfl) (Nat.le_of_ble_eq_true rfl)) [0, 1, 3] rfl rfl rfl 0 0 8 11 rfl rfl rfl rfl (rest := [.ref (q_v 0)]) rfl (Nat.le_of_ble_eq_true rfl) dX9_runWolf_68 (pc' := 71) rfl (Wn := [wX9 G q_v (q_mt 0) v_night v_g v_flock_1 v_hunger v_lean v_fed_1 v_taken v_pacts v_levels v_facts_2, wX5 G q_mt mt_farms mt_fences mt_shares mt_names mt_flock mt_dogs mt_hunger mt_fenced mt_heights mt_pacts mt_partner mt_often mt_toothed (q_fe 0) (q_go 0), wX3 G q_fe fe_kinds fe_lefts fe_rights fe_values_1 fe_steps, wX3 G q_go go_kinds go_lefts go_rights go_values_1 go_steps, wX0 G q_b b_kept b_feuds b_bites b_bones b_feudsInAll b_bitten]) rfl ?_
    obtain ⟨⟨r_4, v_g_1⟩, hc_, hM⟩ := bd_e hM
    refine st_callV hR (k_X9_oneOf hc_) cf_X9_98 (rm_le (Nat.le_of_ble_eq_true rfl) (Nat.le_of_ble_eq_true rfl)) [0] rfl rfl rfl 0 0 8 11 rfl rfl rfl rfl (rest := []) rfl (Nat.le_of_ble_eq_true rfl) dX9_runWolf_71 (pc' := 74) rfl (Wn := [wX9 G q_v (q_mt 0) v_night v_g_1 v_flock_1 v_hunger v_lean v_fed_1 v_taken v_pacts v_levels v_facts_2, wX5 G q_mt mt_farms mt_fences mt_shares mt_names mt_flock mt_dogs mt_hunger mt_fenced mt_heights mt_pacts mt_partner mt_often mt_toothed (q_fe 0) (q_go 0), wX3 G q_fe fe_kinds fe_lefts fe_rights fe_values_1 fe_steps, wX3 G q_go go_kinds go_lefts go_rights go_values_1 go_steps, wX0 G q_b b_kept b_feuds b_bites b_bones b_feudsInAll b_bitten]) rfl ?_
    refine st_goto hR dX9_runWolf_74 (tgt := 78) (by decide) ?_
    exact J78 _ _ _ _ _ _ _ _ _ _ _ _ _ _ _ _ _ hM
set_option maxHeartbeats 16000000 in
set_option maxRecDepth 100000 in
theorem k_X9_run {l : Launch} {G : GG} {q_v q_mt q_fe q_go q_b : Nat → Nat} {v_night mt_farms mt_fences mt_shares mt_toothed fe_steps go_steps b_bones b_feudsInAll b_bitten : Int32} {v_g : Int64} {v_flock v_hunger v_lean v_fed v_taken v_pacts v_levels v_facts mt_flock mt_dogs mt_hunger mt_fenced mt_heights mt_pacts mt_partner mt_often fe_kinds fe_lefts fe_rights fe_values go_kinds go_lefts go_rights go_values b_kept b_feuds b_bites : Nat → Int32} {mt_names : Nat → Int64} {l2 : Int32} {o_v_night : Int32} {o_v_g : Int64} {o_v_flock : Nat → Int32} {o_v_lean : Nat → Int32} {o_v_fed : Nat → Int32} {o_v_taken : Nat → Int32} {o_v_facts : Nat → Int32} {o_fe_values : Nat → Int32} {o_go_values : Nat → Int32} {o_b_kept : Nat → Int32} {o_b_feuds : Nat → Int32} {o_b_bones : Int32} {o_b_feudsInAll : Int32} (hM : f_X9_run v_hunger v_pacts v_levels mt_farms mt_dogs mt_fenced mt_heights mt_partner fe_kinds fe_lefts fe_rights fe_steps go_kinds go_lefts go_rights go_steps v_night v_g v_flock v_lean v_fed v_taken v_facts fe_values go_values b_kept b_feuds b_bones b_feudsInAll l2 = some (o_v_night, o_v_g, o_v_flock, o_v_lean, o_v_fed, o_v_taken, o_v_facts, o_fe_values, o_go_values, o_b_kept, o_b_feuds, o_b_bones, o_b_feudsInAll)) : MC l G yX9_run cX9_run 5 none (RM 3) [.ref (q_v 0), .ref (q_b 0), .int l2] [wX9 G q_v (q_mt 0) v_night v_g v_flock v_hunger v_lean v_fed v_taken v_pacts v_levels v_facts, wX5 G q_mt mt_farms mt_fences mt_shares mt_names mt_flock mt_dogs mt_hunger mt_fenced mt_heights mt_pacts mt_partner mt_often mt_toothed (q_fe 0) (q_go 0), wX3 G q_fe fe_kinds fe_lefts fe_rights fe_values fe_steps, wX3 G q_go go_kinds go_lefts go_rights go_values go_steps, wX0 G q_b b_kept b_feuds b_bites b_bones b_feudsInAll b_bitten] none [wX9 G q_v (q_mt 0) o_v_night o_v_g o_v_flock v_hunger o_v_lean o_v_fed o_v_taken v_pacts v_levels o_v_facts, wX5 G q_mt mt_farms mt_fences mt_shares mt_names mt_flock mt_dogs mt_hunger mt_fenced mt_heights mt_pacts mt_partner mt_often mt_toothed (q_fe 0) (q_go 0), wX3 G q_fe fe_kinds fe_lefts fe_rights o_fe_values fe_steps, wX3 G q_go go_kinds go_lefts go_rights o_go_values go_steps, wX0 G q_b o_b_kept o_b_feuds b_bites o_b_bones o_b_feudsInAll b_bitten] := by
  refine MC.of pn_X9 (Nat.le_of_ble_eq_true rfl) (fun K hR hret => ?_)
  have hR : Rl l G RX9 cX9_run 5 (RM 3) K := hR
  show K [wX9 G q_v (q_mt 0) v_night v_g v_flock v_hunger v_lean v_fed v_taken v_pacts v_levels v_facts, wX5 G q_mt mt_farms mt_fences mt_shares mt_names mt_flock mt_dogs mt_hunger mt_fenced mt_heights mt_pacts mt_partner mt_often mt_toothed (q_fe 0) (q_go 0), wX3 G q_fe fe_kinds fe_lefts fe_rights fe_values fe_steps, wX3 G q_go go_kinds go_lefts go_rights go_values go_steps, wX0 G q_b b_kept b_feuds b_bites b_bones b_feudsInAll b_bitten] [(0, .ref (q_v 0)), (1, .ref (q_b 0)), (2, .int l2)] 0 []
  have L2 : ∀ (n2 : Nat) (v_night : Int32) (v_g : Int64) (v_flock : Nat → Int32) (v_lean : Nat → Int32) (v_fed : Nat → Int32) (v_taken : Nat → Int32) (v_facts : Nat → Int32) (fe_values : Nat → Int32) (go_values : Nat → Int32) (b_kept : Nat → Int32) (b_feuds : Nat → Int32) (b_bones : Int32) (b_feudsInAll : Int32) (l2 : Int32) (l3 : Int32), f_X9_run_L2  v_hunger v_pacts v_levels mt_farms mt_dogs mt_fenced mt_heights mt_partner fe_kinds fe_lefts fe_rights fe_steps go_kinds go_lefts go_rights go_steps n2 v_night v_g v_flock v_lean v_fed v_taken v_facts fe_values go_values b_kept b_feuds b_bones b_feudsInAll l2 l3 = some (o_v_night, o_v_g, o_v_flock, o_v_lean, o_v_fed, o_v_taken, o_v_facts, o_fe_values, o_go_values, o_b_kept, o_b_feuds, o_b_bones, o_b_feudsInAll) → K [wX9 G q_v (q_mt 0) v_night v_g v_flock v_hunger v_lean v_fed v_taken v_pacts v_levels v_facts, wX5 G q_mt mt_farms mt_fences mt_shares mt_names mt_flock mt_dogs mt_hunger mt_fenced mt_heights mt_pacts mt_partner mt_often mt_toothed (q_fe 0) (q_go 0), wX3 G q_fe fe_kinds fe_lefts fe_rights fe_values fe_steps, wX3 G q_go go_kinds go_lefts go_rights go_values go_steps, wX0 G q_b b_kept b_feuds b_bites b_bones b_feudsInAll b_bitten] [(0, .ref (q_v 0)), (1, .ref (q_b 0)), (2, .int l2), (3, .int l3)] 2 [] := by
    intro n2
    induction n2 with
    | zero => intro v_night v_g v_flock v_lean v_fed v_taken v_facts fe_values go_values b_kept b_feuds b_bones b_feudsInAll l2 l3 hM; exact no_some hM
    | succ n2 ih2 =>
      have L10 : ∀ (n10 : Nat) (v_night : Int32) (v_g : Int64) (v_flock : Nat → Int32) (v_lean : Nat → Int32) (v_fed : Nat → Int32) (v_taken : Nat → Int32) (v_facts : Nat → Int32) (fe_values : Nat → Int32) (go_values : Nat → Int32) (b_kept : Nat → Int32) (b_feuds : Nat → Int32) (b_bones : Int32) (b_feudsInAll : Int32) (l2 : Int32) (l3 : Int32) (l4 : Int32), f_X9_run_L10  (f_X9_run_L2  v_hunger v_pacts v_levels mt_farms mt_dogs mt_fenced mt_heights mt_partner fe_kinds fe_lefts fe_rights fe_steps go_kinds go_lefts go_rights go_steps n2) v_hunger v_pacts v_levels mt_farms mt_dogs mt_fenced mt_heights mt_partner fe_kinds fe_lefts fe_rights fe_steps go_kinds go_lefts go_rights go_steps n10 v_night v_g v_flock v_lean v_fed v_taken v_facts fe_values go_values b_kept b_feuds b_bones b_feudsInAll l2 l3 l4 = some (o_v_night, o_v_g, o_v_flock, o_v_lean, o_v_fed, o_v_taken, o_v_facts, o_fe_values, o_go_values, o_b_kept, o_b_feuds, o_b_bones, o_b_feudsInAll) → K [wX9 G q_v (q_mt 0) v_night v_g v_flock v_hunger v_lean v_fed v_taken v_pacts v_levels v_facts, wX5 G q_mt mt_farms mt_fences mt_shares mt_names mt_flock mt_dogs mt_hunger mt_fenced mt_heights mt_pacts mt_partner mt_often mt_toothed (q_fe 0) (q_go 0), wX3 G q_fe fe_kinds fe_lefts fe_rights fe_values fe_steps, wX3 G q_go go_kinds go_lefts go_rights go_values go_steps, wX0 G q_b b_kept b_feuds b_bites b_bones b_feudsInAll b_bitten] [(0, .ref (q_v 0)), (1, .ref (q_b 0)), (2, .int l2), (3, .int l3), (4, .int l4)] 10 [] := by
        intro n10
        induction n10 with
        | zero => intro v_night v_g v_flock v_lean v_fed v_taken v_facts fe_values go_values b_kept b_feuds b_bones b_feudsInAll l2 l3 l4 hM; exact no_some hM
        | succ n10 ih10 =>
          have J39 : ∀ (v_night : Int32) (v_g : Int64) (v_flock : Nat → Int32) (v_lean : Nat → Int32) (v_fed : Nat → Int32) (v_taken : Nat → Int32) (v_facts : Nat → Int32) (fe_values : Nat → Int32) (go_values : Nat → Int32) (b_kept : Nat → Int32) (b_feuds : Nat → Int32) (b_bones : Int32) (b_feudsInAll : Int32) (l2 : Int32) (l3 : Int32) (l4 : Int32), f_X9_run_B39  (f_X9_run_L2  v_hunger v_pacts v_levels mt_farms mt_dogs mt_fenced mt_heights mt_partner fe_kinds fe_lefts fe_rights fe_steps go_kinds go_lefts go_rights go_steps n2) (f_X9_run_L10  (f_X9_run_L2  v_hunger v_pacts v_levels mt_farms mt_dogs mt_fenced mt_heights mt_partner fe_kinds fe_lefts fe_rights fe_steps go_kinds go_lefts go_rights go_steps n2) v_hunger v_pacts v_levels mt_farms mt_dogs mt_fenced mt_heights mt_partner fe_kinds fe_lefts fe_rights fe_steps go_kinds go_lefts go_rights go_steps n10) v_hunger v_pacts v_levels mt_farms mt_dogs mt_fenced mt_heights mt_partner fe_kinds fe_lefts fe_rights fe_steps go_kinds go_lefts go_rights go_steps v_night v_g v_flock v_lean v_fed v_taken v_facts fe_values go_values b_kept b_feuds b_bones b_feudsInAll l2 l3 l4 = some (o_v_night, o_v_g, o_v_flock, o_v_lean, o_v_fed, o_v_taken, o_v_facts, o_fe_values, o_go_values, o_b_kept, o_b_feuds, o_b_bones, o_b_feudsInAll) → K [wX9 G q_v (q_mt 0) v_night v_g v_flock v_hunger v_lean v_fed v_taken v_pacts v_levels v_facts, wX5 G q_mt mt_farms mt_fences mt_shares mt_names mt_flock mt_dogs mt_hunger mt_fenced mt_heights mt_pacts mt_partner mt_often mt_toothed (q_fe 0) (q_go 0), wX3 G q_fe fe_kinds fe_lefts fe_rights fe_values fe_steps, wX3 G q_go go_kinds go_lefts go_rights go_values go_steps, wX0 G q_b b_kept b_feuds b_bites b_bones b_feudsInAll b_bitten] [(0, .ref (q_v 0)), (1, .ref (q_b 0)), (2, .int l2), (3, .int l3), (4, .int l4)] 39 [] := by
            intro v_night v_g v_flock v_lean v_fed v_taken v_facts fe_values go_values b_kept b_feuds b_bones b_feudsInAll l2 l3 l4 hM
            obtain ⟨l4_1, e_⟩ : ∃ y : Int32, y = l4 + 1 := ⟨_, rfl⟩
            refine st_iinc hR dX9_run_39 (Nat.le_of_ble_eq_true rfl) 4 [1, 2, 3, 4, 0] (v := l4_1) rfl (by rw [e_]; rfl) (lv' := [(0, .ref (q_v 0)), (1, .ref (q_b 0)), (2, .int l2), (3, .int l3), (4, .int l4_1)]) rfl (pc' := 42) rfl ?_
            have hM := lt_e e_ hM
            refine st_goto hR dX9_run_42 (tgt := 10) (by decide) ?_
            exact ih10 _ _ _ _ _ _ _ _ _ _ _ _ _ _ _ _ hM
          intro v_night v_g v_flock v_lean v_fed v_taken v_facts fe_values go_values b_kept b_feuds b_bones b_feudsInAll l2 l3 l4 hM
          have hM : f_X9_run_L10b  (f_X9_run_L2  v_hunger v_pacts v_levels mt_farms mt_dogs mt_fenced mt_heights mt_partner fe_kinds fe_lefts fe_rights fe_steps go_kinds go_lefts go_rights go_steps n2) (f_X9_run_L10  (f_X9_run_L2  v_hunger v_pacts v_levels mt_farms mt_dogs mt_fenced mt_heights mt_partner fe_kinds fe_lefts fe_rights fe_steps go_kinds go_lefts go_rights go_steps n2) v_hunger v_pacts v_levels mt_farms mt_dogs mt_fenced mt_heights mt_partner fe_kinds fe_lefts fe_rights fe_steps go_kinds go_lefts go_rights go_steps n10) v_hunger v_pacts v_levels mt_farms mt_dogs mt_fenced mt_heights mt_partner fe_kinds fe_lefts fe_rights fe_steps go_kinds go_lefts go_rights go_steps v_night v_g v_flock v_lean v_fed v_taken v_facts fe_values go_values b_kept b_feuds b_bones b_feudsInAll l2 l3 l4 = some (o_v_night, o_v_g, o_v_flock, o_v_lean, o_v_fed, o_v_taken, o_v_facts, o_fe_values, o_go_values, o_b_kept, o_b_feuds, o_b_bones, o_b_feudsInAll) := hM
          refine st_iload hR dX9_run_10 4 rfl (pc' := 12) rfl ?_
          refine st_aload_n hR dX9_run_12 0 rfl rfl (pc' := 13) rfl ?_
          refine st_get hR dX9_run_13 fg_X9_36_8_0 0 0 rfl rfl rfl (pc' := 16) rfl ?_
          refine st_get hR dX9_run_16 fg_X9_71_5_0 1 0 rfl rfl rfl (pc' := 19) rfl ?_
          refine st_icmp_ge hR dX9_run_19 (tgt := 45) (by decide) (pc' := 22) rfl (fun c_ => ?_) (fun c_ => ?_)
          · have hM := it_t c_ hM
            refine st_aload_n hR dX9_run_45 0 rfl rfl (pc' := 46) rfl ?_
            obtain ⟨⟨v_night_1, v_flock_1⟩, hc_, hM⟩ := bd_e hM
            refine st_callV hR (k_X9_endNight hc_) cf_X9_84 (rm_le (Nat.le_of_ble_eq_true rfl) (Nat.le_of_ble_eq_true rfl)) [0, 1] rfl rfl rfl 0 0 8 11 rfl rfl rfl rfl (rest := []) rfl (Nat.le_of_ble_eq_true rfl) dX9_run_46 (pc' := 49) rfl (Wn := [wX9 G q_v (q_mt 0) v_night_1 v_g v_flock_1 v_hunger v_lean v_fed v_taken v_pacts v_levels v_facts, wX5 G q_mt mt_farms mt_fences mt_shares mt_names mt_flock mt_dogs mt_hunger mt_fenced mt_heights mt_pacts mt_partner mt_often mt_toothed (q_fe 0) (q_go 0), wX3 G q_fe fe_kinds fe_lefts fe_rights fe_values fe_steps, wX3 G q_go go_kinds go_lefts go_rights go_values go_steps, wX0 G q_b b_kept b_feuds b_bites b_bones b_feudsInAll b_bitten]) rfl ?_
            obtain ⟨l3_1, e_⟩ : ∃ y : Int32, y = l3 + 1 := ⟨_, rfl⟩
            refine st_iinc hR dX9_run_49 (Nat.le_of_ble_eq_true rfl) 3 [1, 2, 3, 0, 4] (v := l3_1) rfl (by rw [e_]; rfl) (lv' := [(0, .ref (q_v 0)), (1, .ref (q_b 0)), (2, .int l2), (3, .int l3_1), (4, .int l4)]) rfl (pc' := 52) rfl ?_
            have hM := lt_e e_ hM
            refine st_goto hR dX9_run_52 (tgt := 2) (by decide) ?_
            exact st_lv hR [0, 1, 2, 3] rfl (ih2 _ _ _ _ _ _ _ _ _ _ _ _ _ _ _ hM)
          · have hM := it_f c_ hM
            refine st_aload_n hR dX9_run_22 0 rfl rfl (pc' := 23) rfl ?_
            refine st_get hR dX9_run_23 fg_X9_15_8_4 0 0 rfl rfl rfl (pc' := 26) rfl ?_
            refine st_iload hR dX9_run_26 4 rfl (pc' := 28) rfl ?_
            obtain ⟨hin_, hM⟩ := g_in_e hM
            refine st_iald hR dX9_run_28 0 2 rfl rfl hin_ (v := v_hunger (ix l4)) rfl (pc' := 29) rfl ?_
            refine st_if_le hR dX9_run_29 (tgt := 39) (by decide) (pc' := 32) rfl (fun c_ => ?_) (fun c_ => ?_)
            · have hM := it_t c_ hM
              exact J39 _ _ _ _ _ _ _ _ _ _ _ _ _ _ _ _ hM
            · have hM := it_f c_ hM
              refine st_aload_n hR dX9_run_32 0 rfl rfl (pc' := 33) rfl ?_
              refine st_aload_n hR dX9_run_33 1 rfl rfl (pc' := 34) rfl ?_
              refine st_iload hR dX9_run_34 4 rfl (pc' := 36) rfl ?_
              obtain ⟨⟨v_g_1, v_flock_2, v_lean_1, v_fed_1, v_taken_1, v_facts_1, fe_values_1, go_values_1, b_kept_1, b_feuds_1, b_bones_1, b_feudsInAll_1⟩, hc_, hM⟩ := bd_e hM
              refine st_callV hR (k_X9_runWolf hc_) cf_X9_80 (rm_le (Nat.le_of_ble_eq_true rfl) (Nat.le_of_ble_eq_true rfl)) [0, 1, 2, 3, 4] rfl rfl rfl 0 0 8 11 rfl rfl rfl rfl (rest := []) rfl (Nat.le_of_ble_eq_true rfl) dX9_run_36 (pc' := 39) rfl (Wn := [wX9 G q_v (q_mt 0) v_night v_g_1 v_flock_2 v_hunger v_lean_1 v_fed_1 v_taken_1 v_pacts v_levels v_facts_1, wX5 G q_mt mt_farms mt_fences mt_shares mt_names mt_flock mt_dogs mt_hunger mt_fenced mt_heights mt_pacts mt_partner mt_often mt_toothed (q_fe 0) (q_go 0), wX3 G q_fe fe_kinds fe_lefts fe_rights fe_values_1 fe_steps, wX3 G q_go go_kinds go_lefts go_rights go_values_1 go_steps, wX0 G q_b b_kept_1 b_feuds_1 b_bites b_bones_1 b_feudsInAll_1 b_bitten]) rfl ?_
              exact J39 _ _ _ _ _ _ _ _ _ _ _ _ _ _ _ _ hM
      intro v_night v_g v_flock v_lean v_fed v_taken v_facts fe_values go_values b_kept b_feuds b_bones b_feudsInAll l2 l3 hM
      have hM : f_X9_run_L2b  (f_X9_run_L2  v_hunger v_pacts v_levels mt_farms mt_dogs mt_fenced mt_heights mt_partner fe_kinds fe_lefts fe_rights fe_steps go_kinds go_lefts go_rights go_steps n2) v_hunger v_pacts v_levels mt_farms mt_dogs mt_fenced mt_heights mt_partner fe_kinds fe_lefts fe_rights fe_steps go_kinds go_lefts go_rights go_steps v_night v_g v_flock v_lean v_fed v_taken v_facts fe_values go_values b_kept b_feuds b_bones b_feudsInAll l2 l3 = some (o_v_night, o_v_g, o_v_flock, o_v_lean, o_v_fed, o_v_taken, o_v_facts, o_fe_values, o_go_values, o_b_kept, o_b_feuds, o_b_bones, o_b_feudsInAll) := hM
      refine st_iload_n hR dX9_run_2 3 rfl rfl (pc' := 3) rfl ?_
      refine st_iload_n hR dX9_run_3 2 rfl rfl (pc' := 4) rfl ?_
      refine st_icmp_ge hR dX9_run_4 (tgt := 55) (by decide) (pc' := 7) rfl (fun c_ => ?_) (fun c_ => ?_)
      · have hM := it_t c_ hM
        cases hM
        exact hret _ _ dX9_run_55 ro_v
      · have hM := it_f c_ hM
        refine st_iconst hR dX9_run_7 (v := 0) rfl (pc' := 8) rfl ?_
        refine st_istore hR dX9_run_8 (Nat.le_of_ble_eq_true rfl) [1, 2, 3, 4, 0] (lv' := [(0, .ref (q_v 0)), (1, .ref (q_b 0)), (2, .int l2), (3, .int l3), (4, .int 0)]) rfl (pc' := 10) rfl ?_
        exact L10 FU _ _ _ _ _ _ _ _ _ _ _ _ _ _ _ _ hM
  refine st_iconst hR dX9_run_0 (v := 0) rfl (pc' := 1) rfl ?_
  refine st_istore_n hR dX9_run_1 rfl (Nat.le_of_ble_eq_true rfl) [1, 2, 3, 0] (lv' := [(0, .ref (q_v 0)), (1, .ref (q_b 0)), (2, .int l2), (3, .int 0)]) rfl (pc' := 2) rfl ?_
  exact L2 FU _ _ _ _ _ _ _ _ _ _ _ _ _ _ _ hM
set_option maxHeartbeats 16000000 in
set_option maxRecDepth 100000 in
theorem k_X7_refuse {l : Launch} {G : GG} {q_r q_t : Nat → Nat} {r_fault t_length t_at t_place t_number t_sign t_end : Int32} {t_word : Int64} {t_signs : Nat → Int32} {r_told r_law : Nat} {l1 : Int32} {o_r_fault : Int32} (hM : f_X7_refuse t_place r_fault l1 = some o_r_fault) : MC l G yX7_refuse cX7_refuse 2 none (RM 0) [.ref (q_r 0), .int l1] [wX7 G q_r (q_t 0) r_told r_law r_fault, wX8 G q_t t_signs t_length t_at t_place t_word t_number t_sign t_end] none [wX7 G q_r (q_t 0) r_told r_law o_r_fault, wX8 G q_t t_signs t_length t_at t_place t_word t_number t_sign t_end] := by
  refine MC.of pn_X7 (Nat.le_of_ble_eq_true rfl) (fun K hR hret => ?_)
  have hR : Rl l G RX7 cX7_refuse 2 (RM 0) K := hR
  show K [wX7 G q_r (q_t 0) r_told r_law r_fault, wX8 G q_t t_signs t_length t_at t_place t_word t_number t_sign t_end] [(0, .ref (q_r 0)), (1, .int l1)] 0 []
  refine st_aload_n hR dX7_refuse_0 0 rfl rfl (pc' := 1) rfl ?_
  refine st_get hR dX7_refuse_1 fg_X7_31_6_3 0 0 rfl rfl rfl (pc' := 4) rfl ?_
  refine st_if_ne hR dX7_refuse_4 (tgt := 23) (by decide) (pc' := 7) rfl (fun c_ => ?_) (fun c_ => ?_)
  · have hM := it_f c_ hM
    cases hM
    exact hret _ _ dX7_refuse_23 ro_v
  · have hM := it_t c_ hM
    refine st_aload_n hR dX7_refuse_7 0 rfl rfl (pc' := 8) rfl ?_
    refine st_iload_n hR dX7_refuse_8 1 rfl rfl (pc' := 9) rfl ?_
    refine st_bipush hR dX7_refuse_9 (v := 16) rfl (pc' := 11) rfl ?_
    refine st_aload_n hR dX7_refuse_11 0 rfl rfl (pc' := 12) rfl ?_
    refine st_get hR dX7_refuse_12 fg_X7_9_6_0 0 0 rfl rfl rfl (pc' := 15) rfl ?_
    refine st_get hR dX7_refuse_15 fg_X7_222_7_3 1 0 rfl rfl rfl (pc' := 18) rfl ?_
    refine st_imul hR dX7_refuse_18 (pc' := 19) rfl ?_
    refine st_iadd hR dX7_refuse_19 (pc' := 20) rfl ?_
    refine st_topi (fun r_fault_1 e_ => ?_)
    have hM := lt_e e_ hM
    refine st_put hR dX7_refuse_20 fp_X7_31_6_3 0 0 rfl rfl (Nat.le_of_ble_eq_true rfl) rfl rfl (pc' := 23) rfl (W' := [wX7 G q_r (q_t 0) r_told r_law r_fault_1, wX8 G q_t t_signs t_length t_at t_place t_word t_number t_sign t_end]) rfl ?_
    cases hM
    exact hret _ _ dX7_refuse_23 ro_v
set_option maxHeartbeats 16000000 in
set_option maxRecDepth 100000 in
theorem k_X7_readSign {l : Launch} {G : GG} {q_r q_t : Nat → Nat} {r_fault t_length t_at t_place t_number t_sign t_end : Int32} {t_word : Int64} {t_signs : Nat → Int32} {r_told r_law : Nat} {l1 : Int32} {o_r_fault : Int32} {o_t_at : Int32} {o_t_place : Int32} {o_t_word : Int64} {o_t_number : Int32} {o_t_sign : Int32} {o_t_end : Int32} (hM : f_X7_readSign t_signs t_length r_fault t_at t_place t_word t_number t_sign t_end l1 = some (o_r_fault, o_t_at, o_t_place, o_t_word, o_t_number, o_t_sign, o_t_end)) : MC l G yX7_readSign cX7_readSign 2 none (RM 1) [.ref (q_r 0), .int l1] [wX7 G q_r (q_t 0) r_told r_law r_fault, wX8 G q_t t_signs t_length t_at t_place t_word t_number t_sign t_end] none [wX7 G q_r (q_t 0) r_told r_law o_r_fault, wX8 G q_t t_signs t_length o_t_at o_t_place o_t_word o_t_number o_t_sign o_t_end] := by
  refine MC.of pn_X7 (Nat.le_of_ble_eq_true rfl) (fun K hR hret => ?_)
  have hR : Rl l G RX7 cX7_readSign 2 (RM 1) K := hR
  show K [wX7 G q_r (q_t 0) r_told r_law r_fault, wX8 G q_t t_signs t_length t_at t_place t_word t_number t_sign t_end] [(0, .ref (q_r 0)), (1, .int l1)] 0 []
  have J16 : ∀ (r_fault : Int32) (t_at : Int32) (t_place : Int32) (t_word : Int64) (t_number : Int32) (t_sign : Int32) (t_end : Int32), f_X7_readSign_B16  t_signs t_length r_fault t_at t_place t_word t_number t_sign t_end = some (o_r_fault, o_t_at, o_t_place, o_t_word, o_t_number, o_t_sign, o_t_end) → K [wX7 G q_r (q_t 0) r_told r_law r_fault, wX8 G q_t t_signs t_length t_at t_place t_word t_number t_sign t_end] [(0, .ref (q_r 0))] 16 [] := by
    intro r_fault t_at t_place t_word t_number t_sign t_end hM
    refine st_aload_n hR dX7_readSign_16 0 rfl rfl (pc' := 17) rfl ?_
    refine st_get hR dX7_readSign_17 fg_X7_9_6_0 0 0 rfl rfl rfl (pc' := 20) rfl ?_
    obtain ⟨⟨t_at_1, t_place_1, t_word_1, t_number_1, t_sign_1, t_end_1⟩, hc_, hM⟩ := bd_e hM
    refine st_callV hR (k_X8_next hc_) cf_X7_106 (rm_le (Nat.le_of_ble_eq_true rfl) (Nat.le_of_ble_eq_true rfl)) [1] rfl rfl rfl 1 0 7 8 rfl rfl rfl rfl (rest := []) rfl (Nat.le_of_ble_eq_true rfl) dX7_readSign_20 (pc' := 23) rfl (Wn := [wX7 G q_r (q_t 0) r_told r_law r_fault, wX8 G q_t t_signs t_length t_at_1 t_place_1 t_word_1 t_number_1 t_sign_1 t_end_1]) rfl ?_
    cases hM
    exact hret _ _ dX7_readSign_23 ro_v
  refine st_aload_n hR dX7_readSign_0 0 rfl rfl (pc' := 1) rfl ?_
  refine st_get hR dX7_readSign_1 fg_X7_9_6_0 0 0 rfl rfl rfl (pc' := 4) rfl ?_
  refine st_get hR dX7_readSign_4 fg_X7_194_7_6 1 0 rfl rfl rfl (pc' := 7) rfl ?_
  refine st_iload_n hR dX7_readSign_7 1 rfl rfl (pc' := 8) rfl ?_
  refine st_icmp_eq hR dX7_readSign_8 (tgt := 16) (by decide) (pc' := 11) rfl (fun c_ => ?_) (fun c_ => ?_)
  · have hM := it_t c_ hM
    exact st_lv hR [0] rfl (J16 _ _ _ _ _ _ _ hM)
  · have hM := it_f c_ hM
    refine st_aload_n hR dX7_readSign_11 0 rfl rfl (pc' := 12) rfl ?_
    refine st_iconst hR dX7_readSign_12 (v := 1) rfl (pc' := 13) rfl ?_
    obtain ⟨r_fault_1, hc_, hM⟩ := bd_e hM
    refine st_callV hR (k_X7_refuse hc_) cf_X7_99 (rm_le (Nat.le_of_ble_eq_true rfl) (Nat.le_of_ble_eq_true rfl)) [0, 1] rfl rfl rfl 0 0 6 4 rfl rfl rfl rfl (rest := []) rfl (Nat.le_of_ble_eq_true rfl) dX7_readSign_13 (pc' := 16) rfl (Wn := [wX7 G q_r (q_t 0) r_told r_law r_fault_1, wX8 G q_t t_signs t_length t_at t_place t_word t_number t_sign t_end]) rfl ?_
    exact st_lv hR [0] rfl (J16 _ _ _ _ _ _ _ hM)
set_option maxHeartbeats 16000000 in
set_option maxRecDepth 100000 in
theorem k_X7_readNumber {l : Launch} {G : GG} {q_r q_t : Nat → Nat} {r_fault t_length t_at t_place t_number t_sign t_end : Int32} {t_word : Int64} {t_signs : Nat → Int32} {r_told r_law : Nat} {l1 : Int32} {o_r : Int32} {o_r_fault : Int32} {o_t_at : Int32} {o_t_place : Int32} {o_t_word : Int64} {o_t_number : Int32} {o_t_sign : Int32} {o_t_end : Int32} (hM : f_X7_readNumber t_signs t_length r_fault t_at t_place t_word t_number t_sign t_end l1 = some (o_r, o_r_fault, o_t_at, o_t_place, o_t_word, o_t_number, o_t_sign, o_t_end)) : MC l G yX7_readNumber cX7_readNumber 3 (some .int) (RM 1) [.ref (q_r 0), .int l1] [wX7 G q_r (q_t 0) r_told r_law r_fault, wX8 G q_t t_signs t_length t_at t_place t_word t_number t_sign t_end] (some (.int o_r)) [wX7 G q_r (q_t 0) r_told r_law o_r_fault, wX8 G q_t t_signs t_length o_t_at o_t_place o_t_word o_t_number o_t_sign o_t_end] := by
  refine MC.of pn_X7 (Nat.le_of_ble_eq_true rfl) (fun K hR hret => ?_)
  have hR : Rl l G RX7 cX7_readNumber 3 (RM 1) K := hR
  show K [wX7 G q_r (q_t 0) r_told r_law r_fault, wX8 G q_t t_signs t_length t_at t_place t_word t_number t_sign t_end] [(0, .ref (q_r 0)), (1, .int l1)] 0 []
  have J31 : ∀ (r_fault : Int32) (t_at : Int32) (t_place : Int32) (t_word : Int64) (t_number : Int32) (t_sign : Int32) (t_end : Int32) (l2 : Int32), f_X7_readNumber_B31  t_signs t_length r_fault t_at t_place t_word t_number t_sign t_end l2 = some (o_r, o_r_fault, o_t_at, o_t_place, o_t_word, o_t_number, o_t_sign, o_t_end) → K [wX7 G q_r (q_t 0) r_told r_law r_fault, wX8 G q_t t_signs t_length t_at t_place t_word t_number t_sign t_end] [(0, .ref (q_r 0)), (2, .int l2)] 31 [] := by
    intro r_fault t_at t_place t_word t_number t_sign t_end l2 hM
    refine st_aload_n hR dX7_readNumber_31 0 rfl rfl (pc' := 32) rfl ?_
    refine st_get hR dX7_readNumber_32 fg_X7_9_6_0 0 0 rfl rfl rfl (pc' := 35) rfl ?_
    obtain ⟨⟨t_at_1, t_place_1, t_word_1, t_number_1, t_sign_1, t_end_1⟩, hc_, hM⟩ := bd_e hM
    refine st_callV hR (k_X8_next hc_) cf_X7_106 (rm_le (Nat.le_of_ble_eq_true rfl) (Nat.le_of_ble_eq_true rfl)) [1] rfl rfl rfl 1 0 7 8 rfl rfl rfl rfl (rest := []) rfl (Nat.le_of_ble_eq_true rfl) dX7_readNumber_35 (pc' := 38) rfl (Wn := [wX7 G q_r (q_t 0) r_told r_law r_fault, wX8 G q_t t_signs t_length t_at_1 t_place_1 t_word_1 t_number_1 t_sign_1 t_end_1]) rfl ?_
    refine st_iload_n hR dX7_readNumber_38 1 rfl rfl (pc' := 39) rfl ?_
    cases hM
    exact hret _ _ dX7_readNumber_39 (ro_i _)
  refine st_aload_n hR dX7_readNumber_0 0 rfl rfl (pc' := 1) rfl ?_
  refine st_get hR dX7_readNumber_1 fg_X7_9_6_0 0 0 rfl rfl rfl (pc' := 4) rfl ?_
  refine st_get hR dX7_readNumber_4 fg_X7_168_7_5 1 0 rfl rfl rfl (pc' := 7) rfl ?_
  refine st_istore_n hR dX7_readNumber_7 rfl (Nat.le_of_ble_eq_true rfl) [1, 2, 0] (lv' := [(0, .ref (q_r 0)), (1, .int l1), (2, .int t_number)]) rfl (pc' := 8) rfl ?_
  refine st_iload_n hR dX7_readNumber_8 2 rfl rfl (pc' := 9) rfl ?_
  refine st_iconst hR dX7_readNumber_9 (v := (-1)) (by decide) (pc' := 10) rfl ?_
  refine st_icmp_ne hR dX7_readNumber_10 (tgt := 21) (by decide) (pc' := 13) rfl (fun c_ => ?_) (fun c_ => ?_)
  · have hM := it_f c_ hM
    refine st_iload_n hR dX7_readNumber_21 2 rfl rfl (pc' := 22) rfl ?_
    refine st_iload_n hR dX7_readNumber_22 1 rfl rfl (pc' := 23) rfl ?_
    refine st_icmp_le hR dX7_readNumber_23 (tgt := 31) (by decide) (pc' := 26) rfl (fun c_ => ?_) (fun c_ => ?_)
    · have hM := it_t c_ hM
      exact st_lv hR [0, 2] rfl (J31 _ _ _ _ _ _ _ _ hM)
    · have hM := it_f c_ hM
      refine st_aload_n hR dX7_readNumber_26 0 rfl rfl (pc' := 27) rfl ?_
      refine st_iconst hR dX7_readNumber_27 (v := 4) rfl (pc' := 28) rfl ?_
      obtain ⟨r_fault_1, hc_, hM⟩ := bd_e hM
      refine st_callV hR (k_X7_refuse hc_) cf_X7_99 (rm_le (Nat.le_of_ble_eq_true rfl) (Nat.le_of_ble_eq_true rfl)) [0, 1] rfl rfl rfl 0 0 6 4 rfl rfl rfl rfl (rest := []) rfl (Nat.le_of_ble_eq_true rfl) dX7_readNumber_28 (pc' := 31) rfl (Wn := [wX7 G q_r (q_t 0) r_told r_law r_fault_1, wX8 G q_t t_signs t_length t_at t_place t_word t_number t_sign t_end]) rfl ?_
      exact st_lv hR [0, 2] rfl (J31 _ _ _ _ _ _ _ _ hM)
  · have hM := it_t c_ hM
    refine st_aload_n hR dX7_readNumber_13 0 rfl rfl (pc' := 14) rfl ?_
    refine st_iconst hR dX7_readNumber_14 (v := 1) rfl (pc' := 15) rfl ?_
    obtain ⟨r_fault_2, hc_, hM⟩ := bd_e hM
    refine st_callV hR (k_X7_refuse hc_) cf_X7_99 (rm_le (Nat.le_of_ble_eq_true rfl) (Nat.le_of_ble_eq_true rfl)) [0, 1] rfl rfl rfl 0 0 6 4 rfl rfl rfl rfl (rest := []) rfl (Nat.le_of_ble_eq_true rfl) dX7_readNumber_15 (pc' := 18) rfl (Wn := [wX7 G q_r (q_t 0) r_told r_law r_fault_2, wX8 G q_t t_signs t_length t_at t_place t_word t_number t_sign t_end]) rfl ?_
    refine st_goto hR dX7_readNumber_18 (tgt := 31) (by decide) ?_
    exact st_lv hR [0, 2] rfl (J31 _ _ _ _ _ _ _ _ hM)
set_option maxHeartbeats 16000000 in
set_option maxRecDepth 100000 in
theorem k_X7_readWord {l : Launch} {G : GG} {q_r q_t : Nat → Nat} {r_fault t_length t_at t_place t_number t_sign t_end : Int32} {t_word : Int64} {t_signs : Nat → Int32} {r_told r_law : Nat} {l1 : Int64} {o_r_fault : Int32} {o_t_at : Int32} {o_t_place : Int32} {o_t_word : Int64} {o_t_number : Int32} {o_t_sign : Int32} {o_t_end : Int32} (hM : f_X7_readWord t_signs t_length r_fault t_at t_place t_word t_number t_sign t_end l1 = some (o_r_fault, o_t_at, o_t_place, o_t_word, o_t_number, o_t_sign, o_t_end)) : MC l G yX7_readWord cX7_readWord 3 none (RM 1) [.ref (q_r 0), .long l1] [wX7 G q_r (q_t 0) r_told r_law r_fault, wX8 G q_t t_signs t_length t_at t_place t_word t_number t_sign t_end] none [wX7 G q_r (q_t 0) r_told r_law o_r_fault, wX8 G q_t t_signs t_length o_t_at o_t_place o_t_word o_t_number o_t_sign o_t_end] := by
  refine MC.of pn_X7 (Nat.le_of_ble_eq_true rfl) (fun K hR hret => ?_)
  have hR : Rl l G RX7 cX7_readWord 3 (RM 1) K := hR
  show K [wX7 G q_r (q_t 0) r_told r_law r_fault, wX8 G q_t t_signs t_length t_at t_place t_word t_number t_sign t_end] [(0, .ref (q_r 0)), (1, .long l1)] 0 []
  have J17 : ∀ (r_fault : Int32) (t_at : Int32) (t_place : Int32) (t_word : Int64) (t_number : Int32) (t_sign : Int32) (t_end : Int32), f_X7_readWord_B17  t_signs t_length r_fault t_at t_place t_word t_number t_sign t_end = some (o_r_fault, o_t_at, o_t_place, o_t_word, o_t_number, o_t_sign, o_t_end) → K [wX7 G q_r (q_t 0) r_told r_law r_fault, wX8 G q_t t_signs t_length t_at t_place t_word t_number t_sign t_end] [(0, .ref (q_r 0))] 17 [] := by
    intro r_fault t_at t_place t_word t_number t_sign t_end hM
    refine st_aload_n hR dX7_readWord_17 0 rfl rfl (pc' := 18) rfl ?_
    refine st_get hR dX7_readWord_18 fg_X7_9_6_0 0 0 rfl rfl rfl (pc' := 21) rfl ?_
    obtain ⟨⟨t_at_1, t_place_1, t_word_1, t_number_1, t_sign_1, t_end_1⟩, hc_, hM⟩ := bd_e hM
    refine st_callV hR (k_X8_next hc_) cf_X7_106 (rm_le (Nat.le_of_ble_eq_true rfl) (Nat.le_of_ble_eq_true rfl)) [1] rfl rfl rfl 1 0 7 8 rfl rfl rfl rfl (rest := []) rfl (Nat.le_of_ble_eq_true rfl) dX7_readWord_21 (pc' := 24) rfl (Wn := [wX7 G q_r (q_t 0) r_told r_law r_fault, wX8 G q_t t_signs t_length t_at_1 t_place_1 t_word_1 t_number_1 t_sign_1 t_end_1]) rfl ?_
    cases hM
    exact hret _ _ dX7_readWord_24 ro_v
  refine st_aload_n hR dX7_readWord_0 0 rfl rfl (pc' := 1) rfl ?_
  refine st_get hR dX7_readWord_1 fg_X7_9_6_0 0 0 rfl rfl rfl (pc' := 4) rfl ?_
  refine st_get hR dX7_readWord_4 fg_X7_62_7_4 1 0 rfl rfl rfl (pc' := 7) rfl ?_
  refine st_lload_n hR dX7_readWord_7 1 rfl rfl (pc' := 8) rfl ?_
  refine st_lcmp hR dX7_readWord_8 (pc' := 9) rfl ?_
  refine st_if_eq hR dX7_readWord_9 (tgt := 17) (by decide) (pc' := 12) rfl (fun c_ => ?_) (fun c_ => ?_)
  · have hM := it_t c_ hM
    exact st_lv hR [0] rfl (J17 _ _ _ _ _ _ _ hM)
  · have hM := it_f c_ hM
    refine st_aload_n hR dX7_readWord_12 0 rfl rfl (pc' := 13) rfl ?_
    refine st_iconst hR dX7_readWord_13 (v := 1) rfl (pc' := 14) rfl ?_
    obtain ⟨r_fault_1, hc_, hM⟩ := bd_e hM
    refine st_callV hR (k_X7_refuse hc_) cf_X7_99 (rm_le (Nat.le_of_ble_eq_true rfl) (Nat.le_of_ble_eq_true rfl)) [0, 1] rfl rfl rfl 0 0 6 4 rfl rfl rfl rfl (rest := []) rfl (Nat.le_of_ble_eq_true rfl) dX7_readWord_14 (pc' := 17) rfl (Wn := [wX7 G q_r (q_t 0) r_told r_law r_fault_1, wX8 G q_t t_signs t_length t_at t_place t_word t_number t_sign t_end]) rfl ?_
    exact st_lv hR [0] rfl (J17 _ _ _ _ _ _ _ hM)
set_option maxHeartbeats 16000000 in
set_option maxRecDepth 100000 in
theorem k_X7_isName {l : Launch} {G : GG}  {l0 : Int64} {o_r : Int32} (hM : f_X7_isName l0 = some o_r) : MC l G yX7_isName cX7_isName 3 (some .boolean) (RM 0) [.long l0] [] (some (.int o_r)) [] := by
  refine MC.of pn_X7 (Nat.le_of_ble_eq_true rfl) (fun K hR hret => ?_)
  have hR : Rl l G RX7 cX7_isName 3 (RM 0) K := hR
  show K [] [(0, .long l0)] 0 []
  have L2 : ∀ (n2 : Nat) (l0 : Int64) (l2 : Int32), f_X7_isName_L2   n2 l0 l2 = some o_r → K [] [(0, .long l0), (2, .int l2)] 2 [] := by
    intro n2
    induction n2 with
    | zero => intro l0 l2 hM; exact no_some hM
    | succ n2 ih2 =>
      intro l0 l2 hM
      have hM : f_X7_isName_L2b  (f_X7_isName_L2   n2)  l0 l2 = some o_r := hM
      refine st_iload_n hR dX7_isName_2 1 rfl rfl (pc' := 3) rfl ?_
      refine st_names hR dX7_isName_3 sn_X7_218 (pc' := 6) rfl (fun t_ hld_ hln_ => ?_)
      refine hln_ dX7_isName_6 (pc2 := 7) rfl ?_
      refine st_icmp_ge hR dX7_isName_7 (tgt := 28) (by decide) (pc' := 10) rfl (fun c_ => ?_) (fun c_ => ?_)
      · have hM := it_t c_ hM
        refine st_lload_n hR dX7_isName_28 0 rfl rfl (pc' := 29) rfl ?_
        refine st_lconst hR dX7_isName_29 (v := 0) rfl (pc' := 30) rfl ?_
        refine st_lcmp hR dX7_isName_30 (pc' := 31) rfl ?_
        refine st_if_eq hR dX7_isName_31 (tgt := 38) (by decide) (pc' := 34) rfl (fun c_ => ?_) (fun c_ => ?_)
        · have hM := it_t c_ hM
          refine st_iconst hR dX7_isName_38 (v := 0) rfl (pc' := 39) rfl ?_
          cases hM
          exact hret _ _ dX7_isName_39 (ro_z (Or.inl rfl))
        · have hM := it_f c_ hM
          refine st_iconst hR dX7_isName_34 (v := 1) rfl (pc' := 35) rfl ?_
          refine st_goto hR dX7_isName_35 (tgt := 39) (by decide) ?_
          cases hM
          exact hret _ _ dX7_isName_39 (ro_z (Or.inr rfl))
      · have hM := it_f c_ hM
        refine st_lload_n hR dX7_isName_10 0 rfl rfl (pc' := 11) rfl ?_
        refine st_names hR dX7_isName_11 sn_X7_218 (pc' := 14) rfl (fun t_ hld_ hln_ => ?_)
        refine st_iload_n hR dX7_isName_14 1 rfl rfl (pc' := 15) rfl ?_
        obtain ⟨hin_, hM⟩ := g_in_e hM
        refine hld_ dX7_isName_15 hin_ (v := nNm (ix l2)) rfl (pc2 := 16) rfl ?_
        refine st_lcmp hR dX7_isName_16 (pc' := 17) rfl ?_
        refine st_if_ne hR dX7_isName_17 (tgt := 22) (by decide) (pc' := 20) rfl (fun c_ => ?_) (fun c_ => ?_)
        · have hM := it_f c_ hM
          obtain ⟨l2_1, e_⟩ : ∃ y : Int32, y = l2 + 1 := ⟨_, rfl⟩
          refine st_iinc hR dX7_isName_22 (Nat.le_of_ble_eq_true rfl) 1 [1, 0] (v := l2_1) rfl (by rw [e_]; rfl) (lv' := [(0, .long l0), (2, .int l2_1)]) rfl (pc' := 25) rfl ?_
          have hM := lt_e e_ hM
          refine st_goto hR dX7_isName_25 (tgt := 2) (by decide) ?_
          exact ih2 _ _ hM
        · have hM := it_t c_ hM
          refine st_iconst hR dX7_isName_20 (v := 0) rfl (pc' := 21) rfl ?_
          cases hM
          exact hret _ _ dX7_isName_21 (ro_z (Or.inl rfl))
  refine st_iconst hR dX7_isName_0 (v := 0) rfl (pc' := 1) rfl ?_
  refine st_istore_n hR dX7_isName_1 rfl (Nat.le_of_ble_eq_true rfl) [1, 0] (lv' := [(0, .long l0), (2, .int 0)]) rfl (pc' := 2) rfl ?_
  exact L2 FU _ _ hM
set_option maxHeartbeats 16000000 in
set_option maxRecDepth 100000 in
theorem k_X7_oldFarm {l : Launch} {G : GG} {q_r q_t q_mt : Nat → Nat} {r_fault t_length t_at t_place t_number t_sign t_end mt_farms mt_fences mt_shares mt_toothed : Int32} {t_word : Int64} {t_signs mt_flock mt_dogs mt_hunger mt_fenced mt_heights mt_pacts mt_partner mt_often : Nat → Int32} {mt_names : Nat → Int64} {r_law mt_feeding mt_going : Nat}  {o_r : Int32} {o_r_fault : Int32} (hM : f_X7_oldFarm t_place t_word mt_farms mt_names r_fault = some (o_r, o_r_fault)) : MC l G yX7_oldFarm cX7_oldFarm 2 (some .int) (RM 1) [.ref (q_r 0)] [wX7 G q_r (q_t 0) (q_mt 0) r_law r_fault, wX8 G q_t t_signs t_length t_at t_place t_word t_number t_sign t_end, wX5 G q_mt mt_farms mt_fences mt_shares mt_names mt_flock mt_dogs mt_hunger mt_fenced mt_heights mt_pacts mt_partner mt_often mt_toothed mt_feeding mt_going] (some (.int o_r)) [wX7 G q_r (q_t 0) (q_mt 0) r_law o_r_fault, wX8 G q_t t_signs t_length t_at t_place t_word t_number t_sign t_end, wX5 G q_mt mt_farms mt_fences mt_shares mt_names mt_flock mt_dogs mt_hunger mt_fenced mt_heights mt_pacts mt_partner mt_often mt_toothed mt_feeding mt_going] := by
  refine MC.of pn_X7 (Nat.le_of_ble_eq_true rfl) (fun K hR hret => ?_)
  have hR : Rl l G RX7 cX7_oldFarm 2 (RM 1) K := hR
  show K [wX7 G q_r (q_t 0) (q_mt 0) r_law r_fault, wX8 G q_t t_signs t_length t_at t_place t_word t_number t_sign t_end, wX5 G q_mt mt_farms mt_fences mt_shares mt_names mt_flock mt_dogs mt_hunger mt_fenced mt_heights mt_pacts mt_partner mt_often mt_toothed mt_feeding mt_going] [(0, .ref (q_r 0))] 0 []
  have J46 : ∀ (r_fault : Int32) (l1 : Int32), f_X7_oldFarm_B46  t_place t_word mt_farms mt_names r_fault l1 = some (o_r, o_r_fault) → K [wX7 G q_r (q_t 0) (q_mt 0) r_law r_fault, wX8 G q_t t_signs t_length t_at t_place t_word t_number t_sign t_end, wX5 G q_mt mt_farms mt_fences mt_shares mt_names mt_flock mt_dogs mt_hunger mt_fenced mt_heights mt_pacts mt_partner mt_often mt_toothed mt_feeding mt_going] [(1, .int l1)] 46 [] := by
    intro r_fault l1 hM
    refine st_iload_n hR dX7_oldFarm_46 0 rfl rfl (pc' := 47) rfl ?_
    refine st_iconst hR dX7_oldFarm_47 (v := (-1)) (by decide) (pc' := 48) rfl ?_
    refine st_icmp_ne hR dX7_oldFarm_48 (tgt := 55) (by decide) (pc' := 51) rfl (fun c_ => ?_) (fun c_ => ?_)
    · have hM := it_f c_ hM
      refine st_iload_n hR dX7_oldFarm_55 0 rfl rfl (pc' := 56) rfl ?_
      cases hM
      exact hret _ _ dX7_oldFarm_56 (ro_i _)
    · have hM := it_t c_ hM
      refine st_iconst hR dX7_oldFarm_51 (v := 0) rfl (pc' := 52) rfl ?_
      refine st_goto hR dX7_oldFarm_52 (tgt := 56) (by decide) ?_
      cases hM
      exact hret _ _ dX7_oldFarm_56 (ro_i _)
  refine st_aload_n hR dX7_oldFarm_0 0 rfl rfl (pc' := 1) rfl ?_
  refine st_get hR dX7_oldFarm_1 fg_X7_15_6_1 0 0 rfl rfl rfl (pc' := 4) rfl ?_
  refine st_aload_n hR dX7_oldFarm_4 0 rfl rfl (pc' := 5) rfl ?_
  refine st_get hR dX7_oldFarm_5 fg_X7_9_6_0 0 0 rfl rfl rfl (pc' := 8) rfl ?_
  refine st_get hR dX7_oldFarm_8 fg_X7_62_7_4 1 0 rfl rfl rfl (pc' := 11) rfl ?_
  obtain ⟨r_1, hc_, hM⟩ := bd_e hM
  refine st_callV hR (k_X5_named hc_) cf_X7_113 (rm_le (Nat.le_of_ble_eq_true rfl) (Nat.le_of_ble_eq_true rfl)) [2] rfl rfl rfl 2 0 5 15 rfl rfl rfl rfl (rest := []) rfl (Nat.le_of_ble_eq_true rfl) dX7_oldFarm_11 (pc' := 14) rfl (Wn := [wX7 G q_r (q_t 0) (q_mt 0) r_law r_fault, wX8 G q_t t_signs t_length t_at t_place t_word t_number t_sign t_end, wX5 G q_mt mt_farms mt_fences mt_shares mt_names mt_flock mt_dogs mt_hunger mt_fenced mt_heights mt_pacts mt_partner mt_often mt_toothed mt_feeding mt_going]) rfl ?_
  refine st_istore_n hR dX7_oldFarm_14 rfl (Nat.le_of_ble_eq_true rfl) [1, 0] (lv' := [(0, .ref (q_r 0)), (1, .int r_1)]) rfl (pc' := 15) rfl ?_
  refine st_aload_n hR dX7_oldFarm_15 0 rfl rfl (pc' := 16) rfl ?_
  refine st_get hR dX7_oldFarm_16 fg_X7_9_6_0 0 0 rfl rfl rfl (pc' := 19) rfl ?_
  refine st_get hR dX7_oldFarm_19 fg_X7_62_7_4 1 0 rfl rfl rfl (pc' := 22) rfl ?_
  obtain ⟨r_2, hc_, hM⟩ := bd_e hM
  refine st_callS hR (k_X7_isName hc_) cf_X7_109 (rm_le (Nat.le_of_ble_eq_true rfl) (Nat.le_of_ble_eq_true rfl)) [] rfl rfl rfl rfl (rest := []) rfl (Nat.le_of_ble_eq_true rfl) dX7_oldFarm_22 (pc' := 25) rfl (Wn := [wX7 G q_r (q_t 0) (q_mt 0) r_law r_fault, wX8 G q_t t_signs t_length t_at t_place t_word t_number t_sign t_end, wX5 G q_mt mt_farms mt_fences mt_shares mt_names mt_flock mt_dogs mt_hunger mt_fenced mt_heights mt_pacts mt_partner mt_often mt_toothed mt_feeding mt_going]) rfl ?_
  refine st_if_ne hR dX7_oldFarm_25 (tgt := 36) (by decide) (pc' := 28) rfl (fun c_ => ?_) (fun c_ => ?_)
  · have hM := it_f c_ hM
    refine st_iload_n hR dX7_oldFarm_36 1 rfl rfl (pc' := 37) rfl ?_
    refine st_iconst hR dX7_oldFarm_37 (v := (-1)) (by decide) (pc' := 38) rfl ?_
    refine st_icmp_ne hR dX7_oldFarm_38 (tgt := 46) (by decide) (pc' := 41) rfl (fun c_ => ?_) (fun c_ => ?_)
    · have hM := it_f c_ hM
      exact st_lv hR [1] rfl (J46 _ _ hM)
    · have hM := it_t c_ hM
      refine st_aload_n hR dX7_oldFarm_41 0 rfl rfl (pc' := 42) rfl ?_
      refine st_iconst hR dX7_oldFarm_42 (v := 2) rfl (pc' := 43) rfl ?_
      obtain ⟨r_fault_1, hc_, hM⟩ := bd_e hM
      refine st_callV hR (k_X7_refuse hc_) cf_X7_99 (rm_le (Nat.le_of_ble_eq_true rfl) (Nat.le_of_ble_eq_true rfl)) [0, 1] rfl rfl rfl 0 0 6 4 rfl rfl rfl rfl (rest := []) rfl (Nat.le_of_ble_eq_true rfl) dX7_oldFarm_43 (pc' := 46) rfl (Wn := [wX7 G q_r (q_t 0) (q_mt 0) r_law r_fault_1, wX8 G q_t t_signs t_length t_at t_place t_word t_number t_sign t_end, wX5 G q_mt mt_farms mt_fences mt_shares mt_names mt_flock mt_dogs mt_hunger mt_fenced mt_heights mt_pacts mt_partner mt_often mt_toothed mt_feeding mt_going]) rfl ?_
      exact st_lv hR [1] rfl (J46 _ _ hM)
  · have hM := it_t c_ hM
    refine st_aload_n hR dX7_oldFarm_28 0 rfl rfl (pc' := 29) rfl ?_
    refine st_iconst hR dX7_oldFarm_29 (v := 1) rfl (pc' := 30) rfl ?_
    obtain ⟨r_fault_2, hc_, hM⟩ := bd_e hM
    refine st_callV hR (k_X7_refuse hc_) cf_X7_99 (rm_le (Nat.le_of_ble_eq_true rfl) (Nat.le_of_ble_eq_true rfl)) [0, 1] rfl rfl rfl 0 0 6 4 rfl rfl rfl rfl (rest := []) rfl (Nat.le_of_ble_eq_true rfl) dX7_oldFarm_30 (pc' := 33) rfl (Wn := [wX7 G q_r (q_t 0) (q_mt 0) r_law r_fault_2, wX8 G q_t t_signs t_length t_at t_place t_word t_number t_sign t_end, wX5 G q_mt mt_farms mt_fences mt_shares mt_names mt_flock mt_dogs mt_hunger mt_fenced mt_heights mt_pacts mt_partner mt_often mt_toothed mt_feeding mt_going]) rfl ?_
    refine st_goto hR dX7_oldFarm_33 (tgt := 46) (by decide) ?_
    exact st_lv hR [1] rfl (J46 _ _ hM)
set_option maxHeartbeats 16000000 in
set_option maxRecDepth 100000 in
theorem k_X7_factOf {l : Launch} {G : GG} {q_r q_mt : Nat → Nat} {r_fault mt_farms mt_fences mt_shares mt_toothed : Int32} {mt_flock mt_dogs mt_hunger mt_fenced mt_heights mt_pacts mt_partner mt_often : Nat → Int32} {mt_names : Nat → Int64} {r_tape r_law mt_feeding mt_going : Nat} {l1 : Int64} {o_r : Int32} (hM : f_X7_factOf r_law mt_feeding l1 = some o_r) : MC l G yX7_factOf cX7_factOf 4 (some .int) (RM 0) [.ref (q_r 0), .long l1] [wX7 G q_r r_tape (q_mt 0) r_law r_fault, wX5 G q_mt mt_farms mt_fences mt_shares mt_names mt_flock mt_dogs mt_hunger mt_fenced mt_heights mt_pacts mt_partner mt_often mt_toothed mt_feeding mt_going] (some (.int o_r)) [wX7 G q_r r_tape (q_mt 0) r_law r_fault, wX5 G q_mt mt_farms mt_fences mt_shares mt_names mt_flock mt_dogs mt_hunger mt_fenced mt_heights mt_pacts mt_partner mt_often mt_toothed mt_feeding mt_going] := by
  refine MC.of pn_X7 (Nat.le_of_ble_eq_true rfl) (fun K hR hret => ?_)
  have hR : Rl l G RX7 cX7_factOf 4 (RM 0) K := hR
  show K [wX7 G q_r r_tape (q_mt 0) r_law r_fault, wX5 G q_mt mt_farms mt_fences mt_shares mt_names mt_flock mt_dogs mt_hunger mt_fenced mt_heights mt_pacts mt_partner mt_often mt_toothed mt_feeding mt_going] [(0, .ref (q_r 0)), (1, .long l1)] 0 []
  have J78 : ∀ (l1 : Int64) (l3 : Int32), f_X7_factOf_B78  r_law mt_feeding l1 l3 = some o_r → K [wX7 G q_r r_tape (q_mt 0) r_law r_fault, wX5 G q_mt mt_farms mt_fences mt_shares mt_names mt_flock mt_dogs mt_hunger mt_fenced mt_heights mt_pacts mt_partner mt_often mt_toothed mt_feeding mt_going] [(1, .long l1), (3, .int l3)] 78 [] := by
    intro l1 l3 hM
    refine st_lload_n hR dX7_factOf_78 0 rfl rfl (pc' := 79) rfl ?_
    refine st_ldc2 hR (v := 1818583406) cl_X7_216 dX7_factOf_79 (pc' := 82) rfl ?_
    refine st_lcmp hR dX7_factOf_82 (pc' := 83) rfl ?_
    refine st_if_ne hR dX7_factOf_83 (tgt := 94) (by decide) (pc' := 86) rfl (fun c_ => ?_) (fun c_ => ?_)
    · have hM := it_f c_ hM
      refine st_iconst hR dX7_factOf_94 (v := (-1)) (by decide) (pc' := 95) rfl ?_
      cases hM
      exact hret _ _ dX7_factOf_95 (ro_i _)
    · have hM := it_t c_ hM
      refine st_iload_n hR dX7_factOf_86 1 rfl rfl (pc' := 87) rfl ?_
      refine st_if_ne hR dX7_factOf_87 (tgt := 94) (by decide) (pc' := 90) rfl (fun c_ => ?_) (fun c_ => ?_)
      · have hM := it_f c_ hM
        refine st_iconst hR dX7_factOf_94 (v := (-1)) (by decide) (pc' := 95) rfl ?_
        cases hM
        exact hret _ _ dX7_factOf_95 (ro_i _)
      · have hM := it_t c_ hM
        refine st_iconst hR dX7_factOf_90 (v := 5) rfl (pc' := 91) rfl ?_
        refine st_goto hR dX7_factOf_91 (tgt := 95) (by decide) ?_
        cases hM
        exact hret _ _ dX7_factOf_95 (ro_i _)
  have J64 : ∀ (l1 : Int64) (l3 : Int32), f_X7_factOf_B64  r_law mt_feeding l1 l3 = some o_r → K [wX7 G q_r r_tape (q_mt 0) r_law r_fault, wX5 G q_mt mt_farms mt_fences mt_shares mt_names mt_flock mt_dogs mt_hunger mt_fenced mt_heights mt_pacts mt_partner mt_often mt_toothed mt_feeding mt_going] [(1, .long l1), (3, .int l3)] 64 [] := by
    intro l1 l3 hM
    refine st_lload_n hR dX7_factOf_64 0 rfl rfl (pc' := 65) rfl ?_
    refine st_ldc2 hR (v := 439788397413) cl_X7_71 dX7_factOf_65 (pc' := 68) rfl ?_
    refine st_lcmp hR dX7_factOf_68 (pc' := 69) rfl ?_
    refine st_if_ne hR dX7_factOf_69 (tgt := 78) (by decide) (pc' := 72) rfl (fun c_ => ?_) (fun c_ => ?_)
    · have hM := it_f c_ hM
      exact J78 _ _ hM
    · have hM := it_t c_ hM
      refine st_iload_n hR dX7_factOf_72 1 rfl rfl (pc' := 73) rfl ?_
      refine st_if_ne hR dX7_factOf_73 (tgt := 78) (by decide) (pc' := 76) rfl (fun c_ => ?_) (fun c_ => ?_)
      · have hM := it_f c_ hM
        exact J78 _ _ hM
      · have hM := it_t c_ hM
        refine st_iconst hR dX7_factOf_76 (v := 4) rfl (pc' := 77) rfl ?_
        cases hM
        exact hret _ _ dX7_factOf_77 (ro_i _)
  have J19 : ∀ (l1 : Int64) (s0 : Int32), f_X7_factOf_B19  r_law mt_feeding l1 s0 = some o_r → K [wX7 G q_r r_tape (q_mt 0) r_law r_fault, wX5 G q_mt mt_farms mt_fences mt_shares mt_names mt_flock mt_dogs mt_hunger mt_fenced mt_heights mt_pacts mt_partner mt_often mt_toothed mt_feeding mt_going] [(1, .long l1)] 19 [.int s0] := by
    intro l1 s0 hM
    refine st_istore_n hR dX7_factOf_19 rfl (Nat.le_of_ble_eq_true rfl) [1, 0] (lv' := [(1, .long l1), (3, .int s0)]) rfl (pc' := 20) rfl ?_
    refine st_lload_n hR dX7_factOf_20 0 rfl rfl (pc' := 21) rfl ?_
    refine st_ldc2 hR (v := 439905903467) cl_X7_117 dX7_factOf_21 (pc' := 24) rfl ?_
    refine st_lcmp hR dX7_factOf_24 (pc' := 25) rfl ?_
    refine st_if_ne hR dX7_factOf_25 (tgt := 30) (by decide) (pc' := 28) rfl (fun c_ => ?_) (fun c_ => ?_)
    · have hM := it_f c_ hM
      refine st_lload_n hR dX7_factOf_30 0 rfl rfl (pc' := 31) rfl ?_
      refine st_ldc2 hR (v := 1685022579) cl_X7_126 dX7_factOf_31 (pc' := 34) rfl ?_
      refine st_lcmp hR dX7_factOf_34 (pc' := 35) rfl ?_
      refine st_if_ne hR dX7_factOf_35 (tgt := 40) (by decide) (pc' := 38) rfl (fun c_ => ?_) (fun c_ => ?_)
      · have hM := it_f c_ hM
        refine st_lload_n hR dX7_factOf_40 0 rfl rfl (pc' := 41) rfl ?_
        refine st_ldc2 hR (v := 114853572732274) cl_X7_212 dX7_factOf_41 (pc' := 44) rfl ?_
        refine st_lcmp hR dX7_factOf_44 (pc' := 45) rfl ?_
        refine st_if_ne hR dX7_factOf_45 (tgt := 50) (by decide) (pc' := 48) rfl (fun c_ => ?_) (fun c_ => ?_)
        · have hM := it_f c_ hM
          refine st_lload_n hR dX7_factOf_50 0 rfl rfl (pc' := 51) rfl ?_
          refine st_ldc2 hR (v := 474214787188) cl_X7_214 dX7_factOf_51 (pc' := 54) rfl ?_
          refine st_lcmp hR dX7_factOf_54 (pc' := 55) rfl ?_
          refine st_if_ne hR dX7_factOf_55 (tgt := 64) (by decide) (pc' := 58) rfl (fun c_ => ?_) (fun c_ => ?_)
          · have hM := it_f c_ hM
            exact J64 _ _ hM
          · have hM := it_t c_ hM
            refine st_iload_n hR dX7_factOf_58 1 rfl rfl (pc' := 59) rfl ?_
            refine st_if_eq hR dX7_factOf_59 (tgt := 64) (by decide) (pc' := 62) rfl (fun c_ => ?_) (fun c_ => ?_)
            · have hM := it_t c_ hM
              exact J64 _ _ hM
            · have hM := it_f c_ hM
              refine st_iconst hR dX7_factOf_62 (v := 3) rfl (pc' := 63) rfl ?_
              cases hM
              exact hret _ _ dX7_factOf_63 (ro_i _)
        · have hM := it_t c_ hM
          refine st_iconst hR dX7_factOf_48 (v := 2) rfl (pc' := 49) rfl ?_
          cases hM
          exact hret _ _ dX7_factOf_49 (ro_i _)
      · have hM := it_t c_ hM
        refine st_iconst hR dX7_factOf_38 (v := 1) rfl (pc' := 39) rfl ?_
        cases hM
        exact hret _ _ dX7_factOf_39 (ro_i _)
    · have hM := it_t c_ hM
      refine st_iconst hR dX7_factOf_28 (v := 0) rfl (pc' := 29) rfl ?_
      cases hM
      exact hret _ _ dX7_factOf_29 (ro_i _)
  refine st_aload_n hR dX7_factOf_0 0 rfl rfl (pc' := 1) rfl ?_
  refine st_get hR dX7_factOf_1 fg_X7_25_6_2 0 0 rfl rfl rfl (pc' := 4) rfl ?_
  refine st_aload_n hR dX7_factOf_4 0 rfl rfl (pc' := 5) rfl ?_
  refine st_get hR dX7_factOf_5 fg_X7_15_6_1 0 0 rfl rfl rfl (pc' := 8) rfl ?_
  refine st_get hR dX7_factOf_8 fg_X7_19_5_13 1 0 rfl rfl rfl (pc' := 11) rfl ?_
  refine st_acmp_ne hR dX7_factOf_11 (tgt := 18) (by decide) (pc' := 14) rfl (fun c_ => ?_) (fun c_ => ?_)
  · have hM := it_f c_ hM
    refine st_iconst hR dX7_factOf_18 (v := 0) rfl (pc' := 19) rfl ?_
    exact st_lv hR [1] rfl (J19 _ _ hM)
  · have hM := it_t c_ hM
    refine st_iconst hR dX7_factOf_14 (v := 1) rfl (pc' := 15) rfl ?_
    refine st_goto hR dX7_factOf_15 (tgt := 19) (by decide) ?_
    exact st_lv hR [1] rfl (J19 _ _ hM)
def HR_X7_readPart (l : Launch) (G : GG) (n : Nat) : Prop := ∀ ⦃q_r q_t q_mt q_la : Nat → Nat⦄ ⦃r_fault t_length t_at t_place t_number t_sign t_end mt_farms mt_fences mt_shares mt_toothed la_steps : Int32⦄ ⦃t_word : Int64⦄ ⦃t_signs mt_flock mt_dogs mt_hunger mt_fenced mt_heights mt_pacts mt_partner mt_often la_kinds la_lefts la_rights la_values : Nat → Int32⦄ ⦃mt_names : Nat → Int64⦄ ⦃mt_feeding mt_going : Nat⦄ ⦃l1 : Int32⦄ ⦃o_r : Int32⦄ ⦃o_r_fault : Int32⦄ ⦃o_t_at : Int32⦄ ⦃o_t_place : Int32⦄ ⦃o_t_word : Int64⦄ ⦃o_t_number : Int32⦄ ⦃o_t_sign : Int32⦄ ⦃o_t_end : Int32⦄ ⦃o_la_kinds : Nat → Int32⦄ ⦃o_la_lefts : Nat → Int32⦄ ⦃o_la_rights : Nat → Int32⦄ ⦃o_la_steps : Int32⦄, f_X7_readPart n t_signs t_length mt_feeding r_fault t_at t_place t_word t_number t_sign t_end la_kinds la_lefts la_rights la_steps (q_la 0) l1 = some (o_r, o_r_fault, o_t_at, o_t_place, o_t_word, o_t_number, o_t_sign, o_t_end, o_la_kinds, o_la_lefts, o_la_rights, o_la_steps) → MC l G yX7_readPart cX7_readPart 5 (some .int) (RM (6 * n + 10)) [.ref (q_r 0), .int l1] [wX7 G q_r (q_t 0) (q_mt 0) (q_la 0) r_fault, wX8 G q_t t_signs t_length t_at t_place t_word t_number t_sign t_end, wX5 G q_mt mt_farms mt_fences mt_shares mt_names mt_flock mt_dogs mt_hunger mt_fenced mt_heights mt_pacts mt_partner mt_often mt_toothed mt_feeding mt_going, wX3 G q_la la_kinds la_lefts la_rights la_values la_steps] (some (.int o_r)) [wX7 G q_r (q_t 0) (q_mt 0) (q_la 0) o_r_fault, wX8 G q_t t_signs t_length o_t_at o_t_place o_t_word o_t_number o_t_sign o_t_end, wX5 G q_mt mt_farms mt_fences mt_shares mt_names mt_flock mt_dogs mt_hunger mt_fenced mt_heights mt_pacts mt_partner mt_often mt_toothed mt_feeding mt_going, wX3 G q_la o_la_kinds o_la_lefts o_la_rights la_values o_la_steps]
set_option maxHeartbeats 16000000 in
set_option maxRecDepth 100000 in
theorem k_X7_readProduct {l : Launch} {G : GG} {q_r q_t q_mt q_la : Nat → Nat} {r_fault t_length t_at t_place t_number t_sign t_end mt_farms mt_fences mt_shares mt_toothed la_steps : Int32} {t_word : Int64} {t_signs mt_flock mt_dogs mt_hunger mt_fenced mt_heights mt_pacts mt_partner mt_often la_kinds la_lefts la_rights la_values : Nat → Int32} {mt_names : Nat → Int64} {mt_feeding mt_going : Nat} {l1 : Int32} {o_r : Int32} {o_r_fault : Int32} {o_t_at : Int32} {o_t_place : Int32} {o_t_word : Int64} {o_t_number : Int32} {o_t_sign : Int32} {o_t_end : Int32} {o_la_kinds : Nat → Int32} {o_la_lefts : Nat → Int32} {o_la_rights : Nat → Int32} {o_la_steps : Int32} {n : Nat} (hrec : HR_X7_readPart l G n) (hM : f_X7_readProduct (f_X7_readPart n) t_signs t_length mt_feeding r_fault t_at t_place t_word t_number t_sign t_end la_kinds la_lefts la_rights la_steps (q_la 0) l1 = some (o_r, o_r_fault, o_t_at, o_t_place, o_t_word, o_t_number, o_t_sign, o_t_end, o_la_kinds, o_la_lefts, o_la_rights, o_la_steps)) : MC l G yX7_readProduct cX7_readProduct 5 (some .int) (RM (6 * n + 11)) [.ref (q_r 0), .int l1] [wX7 G q_r (q_t 0) (q_mt 0) (q_la 0) r_fault, wX8 G q_t t_signs t_length t_at t_place t_word t_number t_sign t_end, wX5 G q_mt mt_farms mt_fences mt_shares mt_names mt_flock mt_dogs mt_hunger mt_fenced mt_heights mt_pacts mt_partner mt_often mt_toothed mt_feeding mt_going, wX3 G q_la la_kinds la_lefts la_rights la_values la_steps] (some (.int o_r)) [wX7 G q_r (q_t 0) (q_mt 0) (q_la 0) o_r_fault, wX8 G q_t t_signs t_length o_t_at o_t_place o_t_word o_t_number o_t_sign o_t_end, wX5 G q_mt mt_farms mt_fences mt_shares mt_names mt_flock mt_dogs mt_hunger mt_fenced mt_heights mt_pacts mt_partner mt_often mt_toothed mt_feeding mt_going, wX3 G q_la o_la_kinds o_la_lefts o_la_rights la_values o_la_steps] := by
  refine MC.of pn_X7 (Nat.le_of_ble_eq_true rfl) (fun K hR hret => ?_)
  have hR : Rl l G RX7 cX7_readProduct 5 (RM (6 * n + 11)) K := hR
  show K [wX7 G q_r (q_t 0) (q_mt 0) (q_la 0) r_fault, wX8 G q_t t_signs t_length t_at t_place t_word t_number t_sign t_end, wX5 G q_mt mt_farms mt_fences mt_shares mt_names mt_flock mt_dogs mt_hunger mt_fenced mt_heights mt_pacts mt_partner mt_often mt_toothed mt_feeding mt_going, wX3 G q_la la_kinds la_lefts la_rights la_values la_steps] [(0, .ref (q_r 0)), (1, .int l1)] 0 []
  have L8 : ∀ (n8 : Nat) (r_fault : Int32) (t_at : Int32) (t_place : Int32) (t_word : Int64) (t_number : Int32) (t_sign : Int32) (t_end : Int32) (la_kinds : Nat → Int32) (la_lefts : Nat → Int32) (la_rights : Nat → Int32) (la_steps : Int32) (l1 : Int32) (l2 : Int32) (l3 : Int32), f_X7_readProduct_L8 (f_X7_readPart n) t_signs t_length mt_feeding (q_la 0) n8 r_fault t_at t_place t_word t_number t_sign t_end la_kinds la_lefts la_rights la_steps l1 l2 l3 = some (o_r, o_r_fault, o_t_at, o_t_place, o_t_word, o_t_number, o_t_sign, o_t_end, o_la_kinds, o_la_lefts, o_la_rights, o_la_steps) → K [wX7 G q_r (q_t 0) (q_mt 0) (q_la 0) r_fault, wX8 G q_t t_signs t_length t_at t_place t_word t_number t_sign t_end, wX5 G q_mt mt_farms mt_fences mt_shares mt_names mt_flock mt_dogs mt_hunger mt_fenced mt_heights mt_pacts mt_partner mt_often mt_toothed mt_feeding mt_going, wX3 G q_la la_kinds la_lefts la_rights la_values la_steps] [(0, .ref (q_r 0)), (1, .int l1), (2, .int l2), (3, .int l3)] 8 [] := by
    intro n8
    induction n8 with
    | zero => intro r_fault t_at t_place t_word t_number t_sign t_end la_kinds la_lefts la_rights la_steps l1 l2 l3 hM; exact no_some hM
    | succ n8 ih8 =>
      intro r_fault t_at t_place t_word t_number t_sign t_end la_kinds la_lefts la_rights la_steps l1 l2 l3 hM
      have hM : f_X7_readProduct_L8b (f_X7_readPart n) (f_X7_readProduct_L8 (f_X7_readPart n) t_signs t_length mt_feeding (q_la 0) n8) t_signs t_length mt_feeding (q_la 0) r_fault t_at t_place t_word t_number t_sign t_end la_kinds la_lefts la_rights la_steps l1 l2 l3 = some (o_r, o_r_fault, o_t_at, o_t_place, o_t_word, o_t_number, o_t_sign, o_t_end, o_la_kinds, o_la_lefts, o_la_rights, o_la_steps) := hM
      refine st_iload_n hR dX7_readProduct_8 3 rfl rfl (pc' := 9) rfl ?_
      refine st_sipush hR dX7_readProduct_9 (v := 1000) rfl (pc' := 12) rfl ?_
      refine st_icmp_ge hR dX7_readProduct_12 (tgt := 67) (by decide) (pc' := 15) rfl (fun c_ => ?_) (fun c_ => ?_)
      · have hM := it_t c_ hM
        refine st_iload_n hR dX7_readProduct_67 2 rfl rfl (pc' := 68) rfl ?_
        cases hM
        exact hret _ _ dX7_readProduct_68 (ro_i _)
      · have hM := it_f c_ hM
        refine st_aload_n hR dX7_readProduct_15 0 rfl rfl (pc' := 16) rfl ?_
        refine st_get hR dX7_readProduct_16 fg_X7_31_6_3 0 0 rfl rfl rfl (pc' := 19) rfl ?_
        refine st_if_ne hR dX7_readProduct_19 (tgt := 67) (by decide) (pc' := 22) rfl (fun c_ => ?_) (fun c_ => ?_)
        · have hM := it_f c_ hM
          refine st_iload_n hR dX7_readProduct_67 2 rfl rfl (pc' := 68) rfl ?_
          cases hM
          exact hret _ _ dX7_readProduct_68 (ro_i _)
        · have hM := it_t c_ hM
          refine st_aload_n hR dX7_readProduct_22 0 rfl rfl (pc' := 23) rfl ?_
          refine st_get hR dX7_readProduct_23 fg_X7_9_6_0 0 0 rfl rfl rfl (pc' := 26) rfl ?_
          refine st_get hR dX7_readProduct_26 fg_X7_194_7_6 1 0 rfl rfl rfl (pc' := 29) rfl ?_
          refine st_bipush hR dX7_readProduct_29 (v := 42) rfl (pc' := 31) rfl ?_
          refine st_icmp_ne hR dX7_readProduct_31 (tgt := 67) (by decide) (pc' := 34) rfl (fun c_ => ?_) (fun c_ => ?_)
          · have hM := it_f c_ hM
            refine st_iload_n hR dX7_readProduct_67 2 rfl rfl (pc' := 68) rfl ?_
            cases hM
            exact hret _ _ dX7_readProduct_68 (ro_i _)
          · have hM := it_t c_ hM
            refine st_aload_n hR dX7_readProduct_34 0 rfl rfl (pc' := 35) rfl ?_
            refine st_get hR dX7_readProduct_35 fg_X7_9_6_0 0 0 rfl rfl rfl (pc' := 38) rfl ?_
            obtain ⟨⟨t_at_1, t_place_1, t_word_1, t_number_1, t_sign_1, t_end_1⟩, hc_, hM⟩ := bd_e hM
            refine st_callV hR (k_X8_next hc_) cf_X7_106 (rm_le (by omega) (by decide)) [1] rfl rfl rfl 1 0 7 8 rfl rfl rfl rfl (rest := []) rfl (Nat.le_of_ble_eq_true rfl) dX7_readProduct_38 (pc' := 41) rfl (Wn := [wX7 G q_r (q_t 0) (q_mt 0) (q_la 0) r_fault, wX8 G q_t t_signs t_length t_at_1 t_place_1 t_word_1 t_number_1 t_sign_1 t_end_1, wX5 G q_mt mt_farms mt_fences mt_shares mt_names mt_flock mt_dogs mt_hunger mt_fenced mt_heights mt_pacts mt_partner mt_often mt_toothed mt_feeding mt_going, wX3 G q_la la_kinds la_lefts la_rights la_values la_steps]) rfl ?_
            refine st_aload_n hR dX7_readProduct_41 0 rfl rfl (pc' := 42) rfl ?_
            refine st_iload_n hR dX7_readProduct_42 1 rfl rfl (pc' := 43) rfl ?_
            obtain ⟨⟨r_1, r_fault_1, t_at_2, t_place_2, t_word_2, t_number_2, t_sign_2, t_end_2, la_kinds_1, la_lefts_1, la_rights_1, la_steps_1⟩, hc_, hM⟩ := bd_e hM
            refine st_callV hR (hrec hc_) cf_X7_201 (rm_le (by omega) (by decide)) [0, 1, 2, 3] rfl rfl rfl 0 0 6 4 rfl rfl rfl rfl (rest := []) rfl (Nat.le_of_ble_eq_true rfl) dX7_readProduct_43 (pc' := 46) rfl (Wn := [wX7 G q_r (q_t 0) (q_mt 0) (q_la 0) r_fault_1, wX8 G q_t t_signs t_length t_at_2 t_place_2 t_word_2 t_number_2 t_sign_2 t_end_2, wX5 G q_mt mt_farms mt_fences mt_shares mt_names mt_flock mt_dogs mt_hunger mt_fenced mt_heights mt_pacts mt_partner mt_often mt_toothed mt_feeding mt_going, wX3 G q_la la_kinds_1 la_lefts_1 la_rights_1 la_values la_steps_1]) rfl ?_
            refine st_istore hR dX7_readProduct_46 (Nat.le_of_ble_eq_true rfl) [1, 2, 3, 4, 0] (lv' := [(0, .ref (q_r 0)), (1, .int l1), (2, .int l2), (3, .int l3), (4, .int r_1)]) rfl (pc' := 48) rfl ?_
            refine st_aload_n hR dX7_readProduct_48 0 rfl rfl (pc' := 49) rfl ?_
            refine st_get hR dX7_readProduct_49 fg_X7_25_6_2 0 0 rfl rfl rfl (pc' := 52) rfl ?_
            refine st_bipush hR dX7_readProduct_52 (v := 9) rfl (pc' := 54) rfl ?_
            refine st_iload_n hR dX7_readProduct_54 2 rfl rfl (pc' := 55) rfl ?_
            refine st_iload hR dX7_readProduct_55 4 rfl (pc' := 57) rfl ?_
            obtain ⟨⟨r_2, la_kinds_2, la_lefts_2, la_rights_2, la_steps_2⟩, hc_, hM⟩ := bd_e hM
            refine st_callV hR (k_X3_join hc_) cf_X7_187 (rm_le (by omega) (by decide)) [3] rfl rfl rfl 3 0 3 5 rfl rfl rfl rfl (rest := []) rfl (Nat.le_of_ble_eq_true rfl) dX7_readProduct_57 (pc' := 60) rfl (Wn := [wX7 G q_r (q_t 0) (q_mt 0) (q_la 0) r_fault_1, wX8 G q_t t_signs t_length t_at_2 t_place_2 t_word_2 t_number_2 t_sign_2 t_end_2, wX5 G q_mt mt_farms mt_fences mt_shares mt_names mt_flock mt_dogs mt_hunger mt_fenced mt_heights mt_pacts mt_partner mt_often mt_toothed mt_feeding mt_going, wX3 G q_la la_kinds_2 la_lefts_2 la_rights_2 la_values la_steps_2]) rfl ?_
            refine st_istore_n hR dX7_readProduct_60 rfl (Nat.le_of_ble_eq_true rfl) [1, 2, 0, 3, 4] (lv' := [(0, .ref (q_r 0)), (1, .int l1), (2, .int r_2), (3, .int l3), (4, .int r_1)]) rfl (pc' := 61) rfl ?_
            obtain ⟨l3_1, e_⟩ : ∃ y : Int32, y = l3 + 1 := ⟨_, rfl⟩
            refine st_iinc hR dX7_readProduct_61 (Nat.le_of_ble_eq_true rfl) 3 [1, 2, 3, 0, 4] (v := l3_1) rfl (by rw [e_]; rfl) (lv' := [(0, .ref (q_r 0)), (1, .int l1), (2, .int r_2), (3, .int l3_1), (4, .int r_1)]) rfl (pc' := 64) rfl ?_
            have hM := lt_e e_ hM
            refine st_goto hR dX7_readProduct_64 (tgt := 8) (by decide) ?_
            exact st_lv hR [0, 1, 2, 3] rfl (ih8 _ _ _ _ _ _ _ _ _ _ _ _ _ _ hM)
  refine st_aload_n hR dX7_readProduct_0 0 rfl rfl (pc' := 1) rfl ?_
  refine st_iload_n hR dX7_readProduct_1 1 rfl rfl (pc' := 2) rfl ?_
  obtain ⟨⟨r_1, r_fault_1, t_at_1, t_place_1, t_word_1, t_number_1, t_sign_1, t_end_1, la_kinds_1, la_lefts_1, la_rights_1, la_steps_1⟩, hc_, hM⟩ := bd_e hM
  refine st_callV hR (hrec hc_) cf_X7_201 (rm_le (by omega) (by decide)) [0, 1, 2, 3] rfl rfl rfl 0 0 6 4 rfl rfl rfl rfl (rest := []) rfl (Nat.le_of_ble_eq_true rfl) dX7_readProduct_2 (pc' := 5) rfl (Wn := [wX7 G q_r (q_t 0) (q_mt 0) (q_la 0) r_fault_1, wX8 G q_t t_signs t_length t_at_1 t_place_1 t_word_1 t_number_1 t_sign_1 t_end_1, wX5 G q_mt mt_farms mt_fences mt_shares mt_names mt_flock mt_dogs mt_hunger mt_fenced mt_heights mt_pacts mt_partner mt_often mt_toothed mt_feeding mt_going, wX3 G q_la la_kinds_1 la_lefts_1 la_rights_1 la_values la_steps_1]) rfl ?_
  refine st_istore_n hR dX7_readProduct_5 rfl (Nat.le_of_ble_eq_true rfl) [1, 2, 0] (lv' := [(0, .ref (q_r 0)), (1, .int l1), (2, .int r_1)]) rfl (pc' := 6) rfl ?_
  refine st_iconst hR dX7_readProduct_6 (v := 0) rfl (pc' := 7) rfl ?_
  refine st_istore_n hR dX7_readProduct_7 rfl (Nat.le_of_ble_eq_true rfl) [1, 2, 3, 0] (lv' := [(0, .ref (q_r 0)), (1, .int l1), (2, .int r_1), (3, .int 0)]) rfl (pc' := 8) rfl ?_
  exact L8 FU _ _ _ _ _ _ _ _ _ _ _ _ _ _ hM
set_option maxHeartbeats 16000000 in
set_option maxRecDepth 100000 in
theorem k_X7_readSum {l : Launch} {G : GG} {q_r q_t q_mt q_la : Nat → Nat} {r_fault t_length t_at t_place t_number t_sign t_end mt_farms mt_fences mt_shares mt_toothed la_steps : Int32} {t_word : Int64} {t_signs mt_flock mt_dogs mt_hunger mt_fenced mt_heights mt_pacts mt_partner mt_often la_kinds la_lefts la_rights la_values : Nat → Int32} {mt_names : Nat → Int64} {mt_feeding mt_going : Nat} {l1 : Int32} {o_r : Int32} {o_r_fault : Int32} {o_t_at : Int32} {o_t_place : Int32} {o_t_word : Int64} {o_t_number : Int32} {o_t_sign : Int32} {o_t_end : Int32} {o_la_kinds : Nat → Int32} {o_la_lefts : Nat → Int32} {o_la_rights : Nat → Int32} {o_la_steps : Int32} {n : Nat} (hrec : HR_X7_readPart l G n) (hM : f_X7_readSum (f_X7_readPart n) t_signs t_length mt_feeding r_fault t_at t_place t_word t_number t_sign t_end la_kinds la_lefts la_rights la_steps (q_la 0) l1 = some (o_r, o_r_fault, o_t_at, o_t_place, o_t_word, o_t_number, o_t_sign, o_t_end, o_la_kinds, o_la_lefts, o_la_rights, o_la_steps)) : MC l G yX7_readSum cX7_readSum 6 (some .int) (RM (6 * n + 12)) [.ref (q_r 0), .int l1] [wX7 G q_r (q_t 0) (q_mt 0) (q_la 0) r_fault, wX8 G q_t t_signs t_length t_at t_place t_word t_number t_sign t_end, wX5 G q_mt mt_farms mt_fences mt_shares mt_names mt_flock mt_dogs mt_hunger mt_fenced mt_heights mt_pacts mt_partner mt_often mt_toothed mt_feeding mt_going, wX3 G q_la la_kinds la_lefts la_rights la_values la_steps] (some (.int o_r)) [wX7 G q_r (q_t 0) (q_mt 0) (q_la 0) o_r_fault, wX8 G q_t t_signs t_length o_t_at o_t_place o_t_word o_t_number o_t_sign o_t_end, wX5 G q_mt mt_farms mt_fences mt_shares mt_names mt_flock mt_dogs mt_hunger mt_fenced mt_heights mt_pacts mt_partner mt_often mt_toothed mt_feeding mt_going, wX3 G q_la o_la_kinds o_la_lefts o_la_rights la_values o_la_steps] := by
  refine MC.of pn_X7 (Nat.le_of_ble_eq_true rfl) (fun K hR hret => ?_)
  have hR : Rl l G RX7 cX7_readSum 6 (RM (6 * n + 12)) K := hR
  show K [wX7 G q_r (q_t 0) (q_mt 0) (q_la 0) r_fault, wX8 G q_t t_signs t_length t_at t_place t_word t_number t_sign t_end, wX5 G q_mt mt_farms mt_fences mt_shares mt_names mt_flock mt_dogs mt_hunger mt_fenced mt_heights mt_pacts mt_partner mt_often mt_toothed mt_feeding mt_going, wX3 G q_la la_kinds la_lefts la_rights la_values la_steps] [(0, .ref (q_r 0)), (1, .int l1)] 0 []
  have L8 : ∀ (n8 : Nat) (r_fault : Int32) (t_at : Int32) (t_place : Int32) (t_word : Int64) (t_number : Int32) (t_sign : Int32) (t_end : Int32) (la_kinds : Nat → Int32) (la_lefts : Nat → Int32) (la_rights : Nat → Int32) (la_steps : Int32) (l1 : Int32) (l2 : Int32) (l3 : Int32), f_X7_readSum_L8 (f_X7_readPart n) t_signs t_length mt_feeding (q_la 0) n8 r_fault t_at t_place t_word t_number t_sign t_end la_kinds la_lefts la_rights la_steps l1 l2 l3 = some (o_r, o_r_fault, o_t_at, o_t_place, o_t_word, o_t_number, o_t_sign, o_t_end, o_la_kinds, o_la_lefts, o_la_rights, o_la_steps) → K [wX7 G q_r (q_t 0) (q_mt 0) (q_la 0) r_fault, wX8 G q_t t_signs t_length t_at t_place t_word t_number t_sign t_end, wX5 G q_mt mt_farms mt_fences mt_shares mt_names mt_flock mt_dogs mt_hunger mt_fenced mt_heights mt_pacts mt_partner mt_often mt_toothed mt_feeding mt_going, wX3 G q_la la_kinds la_lefts la_rights la_values la_steps] [(0, .ref (q_r 0)), (1, .int l1), (2, .int l2), (3, .int l3)] 8 [] := by
    intro n8
    induction n8 with
    | zero => intro r_fault t_at t_place t_word t_number t_sign t_end la_kinds la_lefts la_rights la_steps l1 l2 l3 hM; exact no_some hM
    | succ n8 ih8 =>
      have J80 : ∀ (r_fault : Int32) (t_at : Int32) (t_place : Int32) (t_word : Int64) (t_number : Int32) (t_sign : Int32) (t_end : Int32) (la_kinds : Nat → Int32) (la_lefts : Nat → Int32) (la_rights : Nat → Int32) (la_steps : Int32) (l1 : Int32) (l2 : Int32) (l3 : Int32) (l5 : Int32) (s0 : Int32), f_X7_readSum_B80 (f_X7_readPart n) (f_X7_readSum_L8 (f_X7_readPart n) t_signs t_length mt_feeding (q_la 0) n8) t_signs t_length mt_feeding (q_la 0) r_fault t_at t_place t_word t_number t_sign t_end la_kinds la_lefts la_rights la_steps l1 l2 l3 l5 s0 = some (o_r, o_r_fault, o_t_at, o_t_place, o_t_word, o_t_number, o_t_sign, o_t_end, o_la_kinds, o_la_lefts, o_la_rights, o_la_steps) → K [wX7 G q_r (q_t 0) (q_mt 0) (q_la 0) r_fault, wX8 G q_t t_signs t_length t_at t_place t_word t_number t_sign t_end, wX5 G q_mt mt_farms mt_fences mt_shares mt_names mt_flock mt_dogs mt_hunger mt_fenced mt_heights mt_pacts mt_partner mt_often mt_toothed mt_feeding mt_going, wX3 G q_la la_kinds la_lefts la_rights la_values la_steps] [(0, .ref (q_r 0)), (1, .int l1), (2, .int l2), (3, .int l3), (5, .int l5)] 80 [.int s0, .ref (q_la 0)] := by
        intro r_fault t_at t_place t_word t_number t_sign t_end la_kinds la_lefts la_rights la_steps l1 l2 l3 l5 s0 hM
        refine st_iload_n hR dX7_readSum_80 2 rfl rfl (pc' := 81) rfl ?_
        refine st_iload hR dX7_readSum_81 4 rfl (pc' := 83) rfl ?_
        obtain ⟨⟨r_1, la_kinds_1, la_lefts_1, la_rights_1, la_steps_1⟩, hc_, hM⟩ := bd_e hM
        refine st_callV hR (k_X3_join hc_) cf_X7_187 (rm_le (by omega) (by decide)) [3] rfl rfl rfl 3 0 3 5 rfl rfl rfl rfl (rest := []) rfl (Nat.le_of_ble_eq_true rfl) dX7_readSum_83 (pc' := 86) rfl (Wn := [wX7 G q_r (q_t 0) (q_mt 0) (q_la 0) r_fault, wX8 G q_t t_signs t_length t_at t_place t_word t_number t_sign t_end, wX5 G q_mt mt_farms mt_fences mt_shares mt_names mt_flock mt_dogs mt_hunger mt_fenced mt_heights mt_pacts mt_partner mt_often mt_toothed mt_feeding mt_going, wX3 G q_la la_kinds_1 la_lefts_1 la_rights_1 la_values la_steps_1]) rfl ?_
        refine st_istore_n hR dX7_readSum_86 rfl (Nat.le_of_ble_eq_true rfl) [1, 2, 0, 3, 4] (lv' := [(0, .ref (q_r 0)), (1, .int l1), (2, .int r_1), (3, .int l3), (5, .int l5)]) rfl (pc' := 87) rfl ?_
        obtain ⟨l3_1, e_⟩ : ∃ y : Int32, y = l3 + 1 := ⟨_, rfl⟩
        refine st_iinc hR dX7_readSum_87 (Nat.le_of_ble_eq_true rfl) 3 [1, 2, 3, 0, 4] (v := l3_1) rfl (by rw [e_]; rfl) (lv' := [(0, .ref (q_r 0)), (1, .int l1), (2, .int r_1), (3, .int l3_1), (5, .int l5)]) rfl (pc' := 90) rfl ?_
        have hM := lt_e e_ hM
        refine st_goto hR dX7_readSum_90 (tgt := 8) (by decide) ?_
        exact st_lv hR [0, 1, 2, 3] rfl (ih8 _ _ _ _ _ _ _ _ _ _ _ _ _ _ hM)
      have J48 : ∀ (r_fault : Int32) (t_at : Int32) (t_place : Int32) (t_word : Int64) (t_number : Int32) (t_sign : Int32) (t_end : Int32) (la_kinds : Nat → Int32) (la_lefts : Nat → Int32) (la_rights : Nat → Int32) (la_steps : Int32) (l1 : Int32) (l2 : Int32) (l3 : Int32) (l4 : Int32), f_X7_readSum_B48 (f_X7_readPart n) (f_X7_readSum_L8 (f_X7_readPart n) t_signs t_length mt_feeding (q_la 0) n8) t_signs t_length mt_feeding (q_la 0) r_fault t_at t_place t_word t_number t_sign t_end la_kinds la_lefts la_rights la_steps l1 l2 l3 l4 = some (o_r, o_r_fault, o_t_at, o_t_place, o_t_word, o_t_number, o_t_sign, o_t_end, o_la_kinds, o_la_lefts, o_la_rights, o_la_steps) → K [wX7 G q_r (q_t 0) (q_mt 0) (q_la 0) r_fault, wX8 G q_t t_signs t_length t_at t_place t_word t_number t_sign t_end, wX5 G q_mt mt_farms mt_fences mt_shares mt_names mt_flock mt_dogs mt_hunger mt_fenced mt_heights mt_pacts mt_partner mt_often mt_toothed mt_feeding mt_going, wX3 G q_la la_kinds la_lefts la_rights la_values la_steps] [(0, .ref (q_r 0)), (1, .int l1), (2, .int l2), (3, .int l3), (4, .int l4)] 48 [] := by
        intro r_fault t_at t_place t_word t_number t_sign t_end la_kinds la_lefts la_rights la_steps l1 l2 l3 l4 hM
        refine st_aload_n hR dX7_readSum_48 0 rfl rfl (pc' := 49) rfl ?_
        refine st_get hR dX7_readSum_49 fg_X7_9_6_0 0 0 rfl rfl rfl (pc' := 52) rfl ?_
        obtain ⟨⟨t_at_1, t_place_1, t_word_1, t_number_1, t_sign_1, t_end_1⟩, hc_, hM⟩ := bd_e hM
        refine st_callV hR (k_X8_next hc_) cf_X7_106 (rm_le (by omega) (by decide)) [1] rfl rfl rfl 1 0 7 8 rfl rfl rfl rfl (rest := []) rfl (Nat.le_of_ble_eq_true rfl) dX7_readSum_52 (pc' := 55) rfl (Wn := [wX7 G q_r (q_t 0) (q_mt 0) (q_la 0) r_fault, wX8 G q_t t_signs t_length t_at_1 t_place_1 t_word_1 t_number_1 t_sign_1 t_end_1, wX5 G q_mt mt_farms mt_fences mt_shares mt_names mt_flock mt_dogs mt_hunger mt_fenced mt_heights mt_pacts mt_partner mt_often mt_toothed mt_feeding mt_going, wX3 G q_la la_kinds la_lefts la_rights la_values la_steps]) rfl ?_
        refine st_aload_n hR dX7_readSum_55 0 rfl rfl (pc' := 56) rfl ?_
        refine st_iload_n hR dX7_readSum_56 1 rfl rfl (pc' := 57) rfl ?_
        obtain ⟨⟨r_1, r_fault_1, t_at_2, t_place_2, t_word_2, t_number_2, t_sign_2, t_end_2, la_kinds_1, la_lefts_1, la_rights_1, la_steps_1⟩, hc_, hM⟩ := bd_e hM
        refine st_callV hR (k_X7_readProduct hrec hc_) cf_X7_198 (rm_le (by omega) (by decide)) [0, 1, 2, 3] rfl rfl rfl 0 0 6 4 rfl rfl rfl rfl (rest := []) rfl (Nat.le_of_ble_eq_true rfl) dX7_readSum_57 (pc' := 60) rfl (Wn := [wX7 G q_r (q_t 0) (q_mt 0) (q_la 0) r_fault_1, wX8 G q_t t_signs t_length t_at_2 t_place_2 t_word_2 t_number_2 t_sign_2 t_end_2, wX5 G q_mt mt_farms mt_fences mt_shares mt_names mt_flock mt_dogs mt_hunger mt_fenced mt_heights mt_pacts mt_partner mt_often mt_toothed mt_feeding mt_going, wX3 G q_la la_kinds_1 la_lefts_1 la_rights_1 la_values la_steps_1]) rfl ?_
        refine st_istore hR dX7_readSum_60 (Nat.le_of_ble_eq_true rfl) [1, 2, 3, 4, 5, 0] (lv' := [(0, .ref (q_r 0)), (1, .int l1), (2, .int l2), (3, .int l3), (4, .int l4), (5, .int r_1)]) rfl (pc' := 62) rfl ?_
        refine st_aload_n hR dX7_readSum_62 0 rfl rfl (pc' := 63) rfl ?_
        refine st_get hR dX7_readSum_63 fg_X7_25_6_2 0 0 rfl rfl rfl (pc' := 66) rfl ?_
        refine st_iload hR dX7_readSum_66 4 rfl (pc' := 68) rfl ?_
        refine st_bipush hR dX7_readSum_68 (v := 43) rfl (pc' := 70) rfl ?_
        refine st_icmp_ne hR dX7_readSum_70 (tgt := 78) (by decide) (pc' := 73) rfl (fun c_ => ?_) (fun c_ => ?_)
        · have hM := it_f c_ hM
          refine st_bipush hR dX7_readSum_78 (v := 8) rfl (pc' := 80) rfl ?_
          exact st_lv hR [0, 1, 2, 3, 5] rfl (J80 _ _ _ _ _ _ _ _ _ _ _ _ _ _ _ _ hM)
        · have hM := it_t c_ hM
          refine st_bipush hR dX7_readSum_73 (v := 7) rfl (pc' := 75) rfl ?_
          refine st_goto hR dX7_readSum_75 (tgt := 80) (by decide) ?_
          exact st_lv hR [0, 1, 2, 3, 5] rfl (J80 _ _ _ _ _ _ _ _ _ _ _ _ _ _ _ _ hM)
      intro r_fault t_at t_place t_word t_number t_sign t_end la_kinds la_lefts la_rights la_steps l1 l2 l3 hM
      have hM : f_X7_readSum_L8b (f_X7_readPart n) (f_X7_readSum_L8 (f_X7_readPart n) t_signs t_length mt_feeding (q_la 0) n8) t_signs t_length mt_feeding (q_la 0) r_fault t_at t_place t_word t_number t_sign t_end la_kinds la_lefts la_rights la_steps l1 l2 l3 = some (o_r, o_r_fault, o_t_at, o_t_place, o_t_word, o_t_number, o_t_sign, o_t_end, o_la_kinds, o_la_lefts, o_la_rights, o_la_steps) := hM
      refine st_iload_n hR dX7_readSum_8 3 rfl rfl (pc' := 9) rfl ?_
      refine st_sipush hR dX7_readSum_9 (v := 1000) rfl (pc' := 12) rfl ?_
      refine st_icmp_ge hR dX7_readSum_12 (tgt := 93) (by decide) (pc' := 15) rfl (fun c_ => ?_) (fun c_ => ?_)
      · have hM := it_t c_ hM
        refine st_iload_n hR dX7_readSum_93 2 rfl rfl (pc' := 94) rfl ?_
        cases hM
        exact hret _ _ dX7_readSum_94 (ro_i _)
      · have hM := it_f c_ hM
        refine st_aload_n hR dX7_readSum_15 0 rfl rfl (pc' := 16) rfl ?_
        refine st_get hR dX7_readSum_16 fg_X7_31_6_3 0 0 rfl rfl rfl (pc' := 19) rfl ?_
        refine st_if_ne hR dX7_readSum_19 (tgt := 93) (by decide) (pc' := 22) rfl (fun c_ => ?_) (fun c_ => ?_)
        · have hM := it_f c_ hM
          refine st_iload_n hR dX7_readSum_93 2 rfl rfl (pc' := 94) rfl ?_
          cases hM
          exact hret _ _ dX7_readSum_94 (ro_i _)
        · have hM := it_t c_ hM
          refine st_aload_n hR dX7_readSum_22 0 rfl rfl (pc' := 23) rfl ?_
          refine st_get hR dX7_readSum_23 fg_X7_9_6_0 0 0 rfl rfl rfl (pc' := 26) rfl ?_
          refine st_get hR dX7_readSum_26 fg_X7_194_7_6 1 0 rfl rfl rfl (pc' := 29) rfl ?_
          refine st_istore hR dX7_readSum_29 (Nat.le_of_ble_eq_true rfl) [1, 2, 3, 4, 0] (lv' := [(0, .ref (q_r 0)), (1, .int l1), (2, .int l2), (3, .int l3), (4, .int t_sign)]) rfl (pc' := 31) rfl ?_
          refine st_iload hR dX7_readSum_31 4 rfl (pc' := 33) rfl ?_
          refine st_bipush hR dX7_readSum_33 (v := 43) rfl (pc' := 35) rfl ?_
          refine st_icmp_eq hR dX7_readSum_35 (tgt := 48) (by decide) (pc' := 38) rfl (fun c_ => ?_) (fun c_ => ?_)
          · have hM := it_t c_ hM
            exact J48 _ _ _ _ _ _ _ _ _ _ _ _ _ _ _ hM
          · have hM := it_f c_ hM
            refine st_iload hR dX7_readSum_38 4 rfl (pc' := 40) rfl ?_
            refine st_bipush hR dX7_readSum_40 (v := 45) rfl (pc' := 42) rfl ?_
            refine st_icmp_eq hR dX7_readSum_42 (tgt := 48) (by decide) (pc' := 45) rfl (fun c_ => ?_) (fun c_ => ?_)
            · have hM := it_t c_ hM
              exact J48 _ _ _ _ _ _ _ _ _ _ _ _ _ _ _ hM
            · have hM := it_f c_ hM
              refine st_goto hR dX7_readSum_45 (tgt := 93) (by decide) ?_
              refine st_iload_n hR dX7_readSum_93 2 rfl rfl (pc' := 94) rfl ?_
              cases hM
              exact hret _ _ dX7_readSum_94 (ro_i _)
  refine st_aload_n hR dX7_readSum_0 0 rfl rfl (pc' := 1) rfl ?_
  refine st_iload_n hR dX7_readSum_1 1 rfl rfl (pc' := 2) rfl ?_
  obtain ⟨⟨r_1, r_fault_1, t_at_1, t_place_1, t_word_1, t_number_1, t_sign_1, t_end_1, la_kinds_1, la_lefts_1, la_rights_1, la_steps_1⟩, hc_, hM⟩ := bd_e hM
  refine st_callV hR (k_X7_readProduct hrec hc_) cf_X7_198 (rm_le (by omega) (by decide)) [0, 1, 2, 3] rfl rfl rfl 0 0 6 4 rfl rfl rfl rfl (rest := []) rfl (Nat.le_of_ble_eq_true rfl) dX7_readSum_2 (pc' := 5) rfl (Wn := [wX7 G q_r (q_t 0) (q_mt 0) (q_la 0) r_fault_1, wX8 G q_t t_signs t_length t_at_1 t_place_1 t_word_1 t_number_1 t_sign_1 t_end_1, wX5 G q_mt mt_farms mt_fences mt_shares mt_names mt_flock mt_dogs mt_hunger mt_fenced mt_heights mt_pacts mt_partner mt_often mt_toothed mt_feeding mt_going, wX3 G q_la la_kinds_1 la_lefts_1 la_rights_1 la_values la_steps_1]) rfl ?_
  refine st_istore_n hR dX7_readSum_5 rfl (Nat.le_of_ble_eq_true rfl) [1, 2, 0] (lv' := [(0, .ref (q_r 0)), (1, .int l1), (2, .int r_1)]) rfl (pc' := 6) rfl ?_
  refine st_iconst hR dX7_readSum_6 (v := 0) rfl (pc' := 7) rfl ?_
  refine st_istore_n hR dX7_readSum_7 rfl (Nat.le_of_ble_eq_true rfl) [1, 2, 3, 0] (lv' := [(0, .ref (q_r 0)), (1, .int l1), (2, .int r_1), (3, .int 0)]) rfl (pc' := 8) rfl ?_
  exact L8 FU _ _ _ _ _ _ _ _ _ _ _ _ _ _ hM
set_option maxHeartbeats 16000000 in
set_option maxRecDepth 100000 in
theorem k_X7_readTest {l : Launch} {G : GG} {q_r q_t q_mt q_la : Nat → Nat} {r_fault t_length t_at t_place t_number t_sign t_end mt_farms mt_fences mt_shares mt_toothed la_steps : Int32} {t_word : Int64} {t_signs mt_flock mt_dogs mt_hunger mt_fenced mt_heights mt_pacts mt_partner mt_often la_kinds la_lefts la_rights la_values : Nat → Int32} {mt_names : Nat → Int64} {mt_feeding mt_going : Nat} {l1 : Int32} {o_r : Int32} {o_r_fault : Int32} {o_t_at : Int32} {o_t_place : Int32} {o_t_word : Int64} {o_t_number : Int32} {o_t_sign : Int32} {o_t_end : Int32} {o_la_kinds : Nat → Int32} {o_la_lefts : Nat → Int32} {o_la_rights : Nat → Int32} {o_la_steps : Int32} {n : Nat} (hrec : HR_X7_readPart l G n) (hM : f_X7_readTest (f_X7_readPart n) t_signs t_length mt_feeding r_fault t_at t_place t_word t_number t_sign t_end la_kinds la_lefts la_rights la_steps (q_la 0) l1 = some (o_r, o_r_fault, o_t_at, o_t_place, o_t_word, o_t_number, o_t_sign, o_t_end, o_la_kinds, o_la_lefts, o_la_rights, o_la_steps)) : MC l G yX7_readTest cX7_readTest 5 (some .int) (RM (6 * n + 13)) [.ref (q_r 0), .int l1] [wX7 G q_r (q_t 0) (q_mt 0) (q_la 0) r_fault, wX8 G q_t t_signs t_length t_at t_place t_word t_number t_sign t_end, wX5 G q_mt mt_farms mt_fences mt_shares mt_names mt_flock mt_dogs mt_hunger mt_fenced mt_heights mt_pacts mt_partner mt_often mt_toothed mt_feeding mt_going, wX3 G q_la la_kinds la_lefts la_rights la_values la_steps] (some (.int o_r)) [wX7 G q_r (q_t 0) (q_mt 0) (q_la 0) o_r_fault, wX8 G q_t t_signs t_length o_t_at o_t_place o_t_word o_t_number o_t_sign o_t_end, wX5 G q_mt mt_farms mt_fences mt_shares mt_names mt_flock mt_dogs mt_hunger mt_fenced mt_heights mt_pacts mt_partner mt_often mt_toothed mt_feeding mt_going, wX3 G q_la o_la_kinds o_la_lefts o_la_rights la_values o_la_steps] := by
  refine MC.of pn_X7 (Nat.le_of_ble_eq_true rfl) (fun K hR hret => ?_)
  have hR : Rl l G RX7 cX7_readTest 5 (RM (6 * n + 13)) K := hR
  show K [wX7 G q_r (q_t 0) (q_mt 0) (q_la 0) r_fault, wX8 G q_t t_signs t_length t_at t_place t_word t_number t_sign t_end, wX5 G q_mt mt_farms mt_fences mt_shares mt_names mt_flock mt_dogs mt_hunger mt_fenced mt_heights mt_pacts mt_partner mt_often mt_toothed mt_feeding mt_going, wX3 G q_la la_kinds la_lefts la_rights la_values la_steps] [(0, .ref (q_r 0)), (1, .int l1)] 0 []
  have J65 : ∀ (r_fault : Int32) (t_at : Int32) (t_place : Int32) (t_word : Int64) (t_number : Int32) (t_sign : Int32) (t_end : Int32) (la_kinds : Nat → Int32) (la_lefts : Nat → Int32) (la_rights : Nat → Int32) (la_steps : Int32) (l2 : Int32) (l4 : Int32) (s0 : Int32), f_X7_readTest_B65 (f_X7_readPart n) t_signs t_length mt_feeding (q_la 0) r_fault t_at t_place t_word t_number t_sign t_end la_kinds la_lefts la_rights la_steps l2 l4 s0 = some (o_r, o_r_fault, o_t_at, o_t_place, o_t_word, o_t_number, o_t_sign, o_t_end, o_la_kinds, o_la_lefts, o_la_rights, o_la_steps) → K [wX7 G q_r (q_t 0) (q_mt 0) (q_la 0) r_fault, wX8 G q_t t_signs t_length t_at t_place t_word t_number t_sign t_end, wX5 G q_mt mt_farms mt_fences mt_shares mt_names mt_flock mt_dogs mt_hunger mt_fenced mt_heights mt_pacts mt_partner mt_often mt_toothed mt_feeding mt_going, wX3 G q_la la_kinds la_lefts la_rights la_values la_steps] [(2, .int l2), (4, .int l4)] 65 [.int s0, .ref (q_la 0)] := by
    intro r_fault t_at t_place t_word t_number t_sign t_end la_kinds la_lefts la_rights la_steps l2 l4 s0 hM
    refine st_iload_n hR dX7_readTest_65 0 rfl rfl (pc' := 66) rfl ?_
    refine st_iload hR dX7_readTest_66 1 rfl (pc' := 68) rfl ?_
    obtain ⟨⟨r_1, la_kinds_1, la_lefts_1, la_rights_1, la_steps_1⟩, hc_, hM⟩ := bd_e hM
    refine st_callV hR (k_X3_join hc_) cf_X7_187 (rm_le (by omega) (by decide)) [3] rfl rfl rfl 3 0 3 5 rfl rfl rfl rfl (rest := []) rfl (Nat.le_of_ble_eq_true rfl) dX7_readTest_68 (pc' := 71) rfl (Wn := [wX7 G q_r (q_t 0) (q_mt 0) (q_la 0) r_fault, wX8 G q_t t_signs t_length t_at t_place t_word t_number t_sign t_end, wX5 G q_mt mt_farms mt_fences mt_shares mt_names mt_flock mt_dogs mt_hunger mt_fenced mt_heights mt_pacts mt_partner mt_often mt_toothed mt_feeding mt_going, wX3 G q_la la_kinds_1 la_lefts_1 la_rights_1 la_values la_steps_1]) rfl ?_
    cases hM
    exact hret _ _ dX7_readTest_71 (ro_i _)
  have J35 : ∀ (r_fault : Int32) (t_at : Int32) (t_place : Int32) (t_word : Int64) (t_number : Int32) (t_sign : Int32) (t_end : Int32) (la_kinds : Nat → Int32) (la_lefts : Nat → Int32) (la_rights : Nat → Int32) (la_steps : Int32) (l1 : Int32) (l2 : Int32) (l3 : Int32), f_X7_readTest_B35 (f_X7_readPart n) t_signs t_length mt_feeding (q_la 0) r_fault t_at t_place t_word t_number t_sign t_end la_kinds la_lefts la_rights la_steps l1 l2 l3 = some (o_r, o_r_fault, o_t_at, o_t_place, o_t_word, o_t_number, o_t_sign, o_t_end, o_la_kinds, o_la_lefts, o_la_rights, o_la_steps) → K [wX7 G q_r (q_t 0) (q_mt 0) (q_la 0) r_fault, wX8 G q_t t_signs t_length t_at t_place t_word t_number t_sign t_end, wX5 G q_mt mt_farms mt_fences mt_shares mt_names mt_flock mt_dogs mt_hunger mt_fenced mt_heights mt_pacts mt_partner mt_often mt_toothed mt_feeding mt_going, wX3 G q_la la_kinds la_lefts la_rights la_values la_steps] [(0, .ref (q_r 0)), (1, .int l1), (2, .int l2), (3, .int l3)] 35 [] := by
    intro r_fault t_at t_place t_word t_number t_sign t_end la_kinds la_lefts la_rights la_steps l1 l2 l3 hM
    refine st_aload_n hR dX7_readTest_35 0 rfl rfl (pc' := 36) rfl ?_
    refine st_get hR dX7_readTest_36 fg_X7_9_6_0 0 0 rfl rfl rfl (pc' := 39) rfl ?_
    obtain ⟨⟨t_at_1, t_place_1, t_word_1, t_number_1, t_sign_1, t_end_1⟩, hc_, hM⟩ := bd_e hM
    refine st_callV hR (k_X8_next hc_) cf_X7_106 (rm_le (by omega) (by decide)) [1] rfl rfl rfl 1 0 7 8 rfl rfl rfl rfl (rest := []) rfl (Nat.le_of_ble_eq_true rfl) dX7_readTest_39 (pc' := 42) rfl (Wn := [wX7 G q_r (q_t 0) (q_mt 0) (q_la 0) r_fault, wX8 G q_t t_signs t_length t_at_1 t_place_1 t_word_1 t_number_1 t_sign_1 t_end_1, wX5 G q_mt mt_farms mt_fences mt_shares mt_names mt_flock mt_dogs mt_hunger mt_fenced mt_heights mt_pacts mt_partner mt_often mt_toothed mt_feeding mt_going, wX3 G q_la la_kinds la_lefts la_rights la_values la_steps]) rfl ?_
    refine st_aload_n hR dX7_readTest_42 0 rfl rfl (pc' := 43) rfl ?_
    refine st_iload_n hR dX7_readTest_43 1 rfl rfl (pc' := 44) rfl ?_
    obtain ⟨⟨r_1, r_fault_1, t_at_2, t_place_2, t_word_2, t_number_2, t_sign_2, t_end_2, la_kinds_1, la_lefts_1, la_rights_1, la_steps_1⟩, hc_, hM⟩ := bd_e hM
    refine st_callV hR (k_X7_readSum hrec hc_) cf_X7_191 (rm_le (by omega) (by decide)) [0, 1, 2, 3] rfl rfl rfl 0 0 6 4 rfl rfl rfl rfl (rest := []) rfl (Nat.le_of_ble_eq_true rfl) dX7_readTest_44 (pc' := 47) rfl (Wn := [wX7 G q_r (q_t 0) (q_mt 0) (q_la 0) r_fault_1, wX8 G q_t t_signs t_length t_at_2 t_place_2 t_word_2 t_number_2 t_sign_2 t_end_2, wX5 G q_mt mt_farms mt_fences mt_shares mt_names mt_flock mt_dogs mt_hunger mt_fenced mt_heights mt_pacts mt_partner mt_often mt_toothed mt_feeding mt_going, wX3 G q_la la_kinds_1 la_lefts_1 la_rights_1 la_values la_steps_1]) rfl ?_
    refine st_istore hR dX7_readTest_47 (Nat.le_of_ble_eq_true rfl) [1, 2, 3, 4, 0] (lv' := [(0, .ref (q_r 0)), (1, .int l1), (2, .int l2), (3, .int l3), (4, .int r_1)]) rfl (pc' := 49) rfl ?_
    refine st_aload_n hR dX7_readTest_49 0 rfl rfl (pc' := 50) rfl ?_
    refine st_get hR dX7_readTest_50 fg_X7_25_6_2 0 0 rfl rfl rfl (pc' := 53) rfl ?_
    refine st_iload_n hR dX7_readTest_53 3 rfl rfl (pc' := 54) rfl ?_
    refine st_bipush hR dX7_readTest_54 (v := 60) rfl (pc' := 56) rfl ?_
    refine st_icmp_ne hR dX7_readTest_56 (tgt := 63) (by decide) (pc' := 59) rfl (fun c_ => ?_) (fun c_ => ?_)
    · have hM := it_f c_ hM
      refine st_bipush hR dX7_readTest_63 (v := 6) rfl (pc' := 65) rfl ?_
      exact st_lv hR [2, 4] rfl (J65 _ _ _ _ _ _ _ _ _ _ _ _ _ _ hM)
    · have hM := it_t c_ hM
      refine st_iconst hR dX7_readTest_59 (v := 5) rfl (pc' := 60) rfl ?_
      refine st_goto hR dX7_readTest_60 (tgt := 65) (by decide) ?_
      exact st_lv hR [2, 4] rfl (J65 _ _ _ _ _ _ _ _ _ _ _ _ _ _ hM)
  refine st_aload_n hR dX7_readTest_0 0 rfl rfl (pc' := 1) rfl ?_
  refine st_iload_n hR dX7_readTest_1 1 rfl rfl (pc' := 2) rfl ?_
  obtain ⟨⟨r_1, r_fault_1, t_at_1, t_place_1, t_word_1, t_number_1, t_sign_1, t_end_1, la_kinds_1, la_lefts_1, la_rights_1, la_steps_1⟩, hc_, hM⟩ := bd_e hM
  refine st_callV hR (k_X7_readSum hrec hc_) cf_X7_191 (rm_le (by omega) (by decide)) [0, 1, 2, 3] rfl rfl rfl 0 0 6 4 rfl rfl rfl rfl (rest := []) rfl (Nat.le_of_ble_eq_true rfl) dX7_readTest_2 (pc' := 5) rfl (Wn := [wX7 G q_r (q_t 0) (q_mt 0) (q_la 0) r_fault_1, wX8 G q_t t_signs t_length t_at_1 t_place_1 t_word_1 t_number_1 t_sign_1 t_end_1, wX5 G q_mt mt_farms mt_fences mt_shares mt_names mt_flock mt_dogs mt_hunger mt_fenced mt_heights mt_pacts mt_partner mt_often mt_toothed mt_feeding mt_going, wX3 G q_la la_kinds_1 la_lefts_1 la_rights_1 la_values la_steps_1]) rfl ?_
  refine st_istore_n hR dX7_readTest_5 rfl (Nat.le_of_ble_eq_true rfl) [1, 2, 0] (lv' := [(0, .ref (q_r 0)), (1, .int l1), (2, .int r_1)]) rfl (pc' := 6) rfl ?_
  refine st_aload_n hR dX7_readTest_6 0 rfl rfl (pc' := 7) rfl ?_
  refine st_get hR dX7_readTest_7 fg_X7_9_6_0 0 0 rfl rfl rfl (pc' := 10) rfl ?_
  refine st_get hR dX7_readTest_10 fg_X7_194_7_6 1 0 rfl rfl rfl (pc' := 13) rfl ?_
  refine st_istore_n hR dX7_readTest_13 rfl (Nat.le_of_ble_eq_true rfl) [1, 2, 3, 0] (lv' := [(0, .ref (q_r 0)), (1, .int l1), (2, .int r_1), (3, .int t_sign_1)]) rfl (pc' := 14) rfl ?_
  refine st_aload_n hR dX7_readTest_14 0 rfl rfl (pc' := 15) rfl ?_
  refine st_get hR dX7_readTest_15 fg_X7_31_6_3 0 0 rfl rfl rfl (pc' := 18) rfl ?_
  refine st_if_ne hR dX7_readTest_18 (tgt := 33) (by decide) (pc' := 21) rfl (fun c_ => ?_) (fun c_ => ?_)
  · have hM := it_f c_ hM
    refine st_iload_n hR dX7_readTest_33 2 rfl rfl (pc' := 34) rfl ?_
    cases hM
    exact hret _ _ dX7_readTest_34 (ro_i _)
  · have hM := it_t c_ hM
    refine st_iload_n hR dX7_readTest_21 3 rfl rfl (pc' := 22) rfl ?_
    refine st_bipush hR dX7_readTest_22 (v := 60) rfl (pc' := 24) rfl ?_
    refine st_icmp_eq hR dX7_readTest_24 (tgt := 35) (by decide) (pc' := 27) rfl (fun c_ => ?_) (fun c_ => ?_)
    · have hM := it_t c_ hM
      exact J35 _ _ _ _ _ _ _ _ _ _ _ _ _ _ hM
    · have hM := it_f c_ hM
      refine st_iload_n hR dX7_readTest_27 3 rfl rfl (pc' := 28) rfl ?_
      refine st_bipush hR dX7_readTest_28 (v := 61) rfl (pc' := 30) rfl ?_
      refine st_icmp_eq hR dX7_readTest_30 (tgt := 35) (by decide) (pc' := 33) rfl (fun c_ => ?_) (fun c_ => ?_)
      · have hM := it_t c_ hM
        exact J35 _ _ _ _ _ _ _ _ _ _ _ _ _ _ hM
      · have hM := it_f c_ hM
        refine st_iload_n hR dX7_readTest_33 2 rfl rfl (pc' := 34) rfl ?_
        cases hM
        exact hret _ _ dX7_readTest_34 (ro_i _)
