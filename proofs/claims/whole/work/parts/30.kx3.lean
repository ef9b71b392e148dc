set_option maxHeartbeats 16000000 in
set_option maxRecDepth 100000 in
theorem k_X2_stays {l : Launch} {G : GG} {q_jo : Nat → Nat} {jo_mostFarms jo_foundMany jo_nights jo_farms : Int32} {jo_losses jo_known jo_found jo_groups jo_renumbered : Nat → Int32} {jo_now jo_ahead jo_scrap : Nat} {l1 : Int32} {o_r : Int32} {o_jo_groups : Nat → Int32} {o_jo_renumbered : Nat → Int32} (hM : f_X2_stays jo_losses jo_farms jo_groups jo_renumbered l1 = some (o_r, o_jo_groups, o_jo_renumbered)) : MC l G yX2_stays cX2_stays 3 (some .boolean) (RM 3) [.ref (q_jo 0), .int l1] [wX2 G q_jo jo_now jo_ahead jo_scrap jo_mostFarms jo_losses jo_known jo_found jo_foundMany jo_nights jo_farms jo_groups jo_renumbered] (some (.int o_r)) [wX2 G q_jo jo_now jo_ahead jo_scrap jo_mostFarms jo_losses jo_known jo_found jo_foundMany jo_nights jo_farms o_jo_groups o_jo_renumbered] := by
  refine MC.of pn_X2 (Nat.le_of_ble_eq_true rfl) (fun K hR hret => ?_)
  have hR : Rl l G RX2 cX2_stays 3 (RM 3) K := hR
  show K [wX2 G q_jo jo_now jo_ahead jo_scrap jo_mostFarms jo_losses jo_known jo_found jo_foundMany jo_nights jo_farms jo_groups jo_renumbered] [(0, .ref (q_jo 0)), (1, .int l1)] 0 []
  have L7 : ∀ (n7 : Nat) (jo_groups : Nat → Int32) (jo_renumbered : Nat → Int32) (l1 : Int32) (l2 : Int32), f_X2_stays_L7  jo_losses jo_farms n7 jo_groups jo_renumbered l1 l2 = some (o_r, o_jo_groups, o_jo_renumbered) → K [wX2 G q_jo jo_now jo_ahead jo_scrap jo_mostFarms jo_losses jo_known jo_found jo_foundMany jo_nights jo_farms jo_groups jo_renumbered] [(0, .ref (q_jo 0)), (1, .int l1), (2, .int l2)] 7 [] := by
    intro n7
    induction n7 with
    | zero => intro jo_groups jo_renumbered l1 l2 hM; exact no_some hM
    | succ n7 ih7 =>
      intro jo_groups jo_renumbered l1 l2 hM
      have hM : f_X2_stays_L7b  (f_X2_stays_L7  jo_losses jo_farms n7) jo_losses jo_farms jo_groups jo_renumbered l1 l2 = some (o_r, o_jo_groups, o_jo_renumbered) := hM
      refine st_iload_n hR dX2_stays_7 2 rfl rfl (pc' := 8) rfl ?_
      refine st_iconst hR dX2_stays_8 (v := 1) rfl (pc' := 9) rfl ?_
      refine st_aload_n hR dX2_stays_9 0 rfl rfl (pc' := 10) rfl ?_
      obtain ⟨r_1, hc_, hM⟩ := bd_e hM
      refine st_callU hR (k_X6_farms_j hc_) cu_X2_18_X2 (rm_le (Nat.le_of_ble_eq_true rfl) (Nat.le_of_ble_eq_true rfl)) [0] rfl rfl rfl 0 0 2 12 rfl rfl rfl rfl (rest := [.int 1, .int l2]) rfl (Nat.le_of_ble_eq_true rfl) dX2_stays_10 (pc' := 13) rfl (Wn := [wX2 G q_jo jo_now jo_ahead jo_scrap jo_mostFarms jo_losses jo_known jo_found jo_foundMany jo_nights jo_farms jo_groups jo_renumbered]) rfl ?_
      refine st_ishl hR dX2_stays_13 (pc' := 14) rfl ?_
      refine st_icmp_ge hR dX2_stays_14 (tgt := 34) (by decide) (pc' := 17) rfl (fun c_ => ?_) (fun c_ => ?_)
      · have hM := it_t c_ hM
        refine st_iconst hR dX2_stays_34 (v := 1) rfl (pc' := 35) rfl ?_
        cases hM
        exact hret _ _ dX2_stays_35 (ro_z (Or.inr rfl))
      · have hM := it_f c_ hM
        refine st_aload_n hR dX2_stays_17 0 rfl rfl (pc' := 18) rfl ?_
        refine st_iload_n hR dX2_stays_18 1 rfl rfl (pc' := 19) rfl ?_
        refine st_iload_n hR dX2_stays_19 2 rfl rfl (pc' := 20) rfl ?_
        obtain ⟨⟨r_2, jo_renumbered_1⟩, hc_, hM⟩ := bd_e hM
        refine st_callV hR (k_X2_wouldLeave hc_) cf_X2_31 (rm_le (Nat.le_of_ble_eq_true rfl) (Nat.le_of_ble_eq_true rfl)) [0] rfl rfl rfl 0 0 2 12 rfl rfl rfl rfl (rest := []) rfl (Nat.le_of_ble_eq_true rfl) dX2_stays_20 (pc' := 23) rfl (Wn := [wX2 G q_jo jo_now jo_ahead jo_scrap jo_mostFarms jo_losses jo_known jo_found jo_foundMany jo_nights jo_farms jo_groups jo_renumbered_1]) rfl ?_
        refine st_if_eq hR dX2_stays_23 (tgt := 28) (by decide) (pc' := 26) rfl (fun c_ => ?_) (fun c_ => ?_)
        · have hM := it_t c_ hM
          obtain ⟨l2_1, e_⟩ : ∃ y : Int32, y = l2 + 1 := ⟨_, rfl⟩
          refine st_iinc hR dX2_stays_28 (Nat.le_of_ble_eq_true rfl) 2 [1, 2, 0] (v := l2_1) rfl (by rw [e_]; rfl) (lv' := [(0, .ref (q_jo 0)), (1, .int l1), (2, .int l2_1)]) rfl (pc' := 31) rfl ?_
          have hM := lt_e e_ hM
          refine st_goto hR dX2_stays_31 (tgt := 7) (by decide) ?_
          exact ih7 _ _ _ _ hM
        · have hM := it_f c_ hM
          refine st_iconst hR dX2_stays_26 (v := 0) rfl (pc' := 27) rfl ?_
          cases hM
          exact hret _ _ dX2_stays_27 (ro_z (Or.inl rfl))
  refine st_aload_n hR dX2_stays_0 0 rfl rfl (pc' := 1) rfl ?_
  refine st_iload_n hR dX2_stays_1 1 rfl rfl (pc' := 2) rfl ?_
  obtain ⟨jo_groups_1, hc_, hM⟩ := bd_e hM
  refine st_callV hR (k_X2_split hc_) cf_X2_22 (rm_le (Nat.le_of_ble_eq_true rfl) (Nat.le_of_ble_eq_true rfl)) [0] rfl rfl rfl 0 0 2 12 rfl rfl rfl rfl (rest := []) rfl (Nat.le_of_ble_eq_true rfl) dX2_stays_2 (pc' := 5) rfl (Wn := [wX2 G q_jo jo_now jo_ahead jo_scrap jo_mostFarms jo_losses jo_known jo_found jo_foundMany jo_nights jo_farms jo_groups_1 jo_renumbered]) rfl ?_
  refine st_iconst hR dX2_stays_5 (v := 1) rfl (pc' := 6) rfl ?_
  refine st_istore_n hR dX2_stays_6 rfl (Nat.le_of_ble_eq_true rfl) [1, 2, 0] (lv' := [(0, .ref (q_jo 0)), (1, .int l1), (2, .int 1)]) rfl (pc' := 7) rfl ?_
  exact L7 FU _ _ _ _ hM
set_option maxHeartbeats 16000000 in
set_option maxRecDepth 100000 in
theorem k_X6_findAll_j {l : Launch} {G : GG} {q_jo q_v q_ah q_sc q_mt q_fe q_go : Nat → Nat} {jo_mostFarms jo_foundMany jo_nights jo_farms v_night ah_night sc_bones sc_feudsInAll sc_bitten mt_farms mt_fences mt_shares mt_toothed fe_steps go_steps : Int32} {v_g ah_g : Int64} {jo_losses jo_known jo_found jo_groups jo_renumbered v_flock v_hunger v_lean v_fed v_taken v_pacts v_levels v_facts ah_flock ah_hunger ah_lean ah_fed ah_taken ah_pacts ah_levels ah_facts sc_kept sc_feuds sc_bites mt_flock mt_dogs mt_hunger mt_fenced mt_heights mt_pacts mt_partner mt_often fe_kinds fe_lefts fe_rights fe_values go_kinds go_lefts go_rights go_values : Nat → Int32} {mt_names : Nat → Int64} {ah_mountain : Nat}  {o_r : Int32} {o_jo_losses : Nat → Int32} {o_jo_known : Nat → Int32} {o_jo_found : Nat → Int32} {o_jo_foundMany : Int32} {o_jo_groups : Nat → Int32} {o_jo_renumbered : Nat → Int32} {o_ah_mountain : Nat} {o_ah_night : Int32} {o_ah_g : Int64} {o_ah_flock : Nat → Int32} {o_ah_hunger : Nat → Int32} {o_ah_lean : Nat → Int32} {o_ah_fed : Nat → Int32} {o_ah_taken : Nat → Int32} {o_ah_pacts : Nat → Int32} {o_ah_levels : Nat → Int32} {o_ah_facts : Nat → Int32} {o_sc_kept : Nat → Int32} {o_sc_feuds : Nat → Int32} {o_sc_bones : Int32} {o_sc_feudsInAll : Int32} {o_fe_values : Nat → Int32} {o_go_values : Nat → Int32} (hM : f_X6_findAll_j jo_nights jo_farms v_night v_g v_flock v_hunger v_lean v_fed v_taken v_pacts v_levels mt_farms mt_dogs mt_fenced mt_heights mt_partner fe_kinds fe_lefts fe_rights fe_steps go_kinds go_lefts go_rights go_steps jo_losses jo_known jo_found jo_foundMany jo_groups jo_renumbered ah_mountain ah_night ah_g ah_flock ah_hunger ah_lean ah_fed ah_taken ah_pacts ah_levels ah_facts sc_kept sc_feuds sc_bones sc_feudsInAll fe_values go_values (q_mt 0) = some (o_r, o_jo_losses, o_jo_known, o_jo_found, o_jo_foundMany, o_jo_groups, o_jo_renumbered, o_ah_mountain, o_ah_night, o_ah_g, o_ah_flock, o_ah_hunger, o_ah_lean, o_ah_fed, o_ah_taken, o_ah_pacts, o_ah_levels, o_ah_facts, o_sc_kept, o_sc_feuds, o_sc_bones, o_sc_feudsInAll, o_fe_values, o_go_values)) : MC l G yX6_findAll cX6_findAll 3 (some .int) (RM 5) [.ref (q_jo 0)] [wX2 G q_jo (q_v 0) (q_ah 0) (q_sc 0) jo_mostFarms jo_losses jo_known jo_found jo_foundMany jo_nights jo_farms jo_groups jo_renumbered, wX9 G q_v (q_mt 0) v_night v_g v_flock v_hunger v_lean v_fed v_taken v_pacts v_levels v_facts, wX9 G q_ah ah_mountain ah_night ah_g ah_flock ah_hunger ah_lean ah_fed ah_taken ah_pacts ah_levels ah_facts, wX0 G q_sc sc_kept sc_feuds sc_bites sc_bones sc_feudsInAll sc_bitten, wX5 G q_mt mt_farms mt_fences mt_shares mt_names mt_flock mt_dogs mt_hunger mt_fenced mt_heights mt_pacts mt_partner mt_often mt_toothed (q_fe 0) (q_go 0), wX3 G q_fe fe_kinds fe_lefts fe_rights fe_values fe_steps, wX3 G q_go go_kinds go_lefts go_rights go_values go_steps] (some (.int o_r)) [wX2 G q_jo (q_v 0) (q_ah 0) (q_sc 0) jo_mostFarms o_jo_losses o_jo_known o_jo_found o_jo_foundMany jo_nights jo_farms o_jo_groups o_jo_renumbered, wX9 G q_v (q_mt 0) v_night v_g v_flock v_hunger v_lean v_fed v_taken v_pacts v_levels v_facts, wX9 G q_ah o_ah_mountain o_ah_night o_ah_g o_ah_flock o_ah_hunger o_ah_lean o_ah_fed o_ah_taken o_ah_pacts o_ah_levels o_ah_facts, wX0 G q_sc o_sc_kept o_sc_feuds sc_bites o_sc_bones o_sc_feudsInAll sc_bitten, wX5 G q_mt mt_farms mt_fences mt_shares mt_names mt_flock mt_dogs mt_hunger mt_fenced mt_heights mt_pacts mt_partner mt_often mt_toothed (q_fe 0) (q_go 0), wX3 G q_fe fe_kinds fe_lefts fe_rights o_fe_values fe_steps, wX3 G q_go go_kinds go_lefts go_rights o_go_values go_steps] := by
  refine MC.of pn_X6 (Nat.le_of_ble_eq_true rfl) (fun K hR hret => ?_)
  have hR : Rl l G RX6 cX6_findAll 3 (RM 5) K := hR
  show K [wX2 G q_jo (q_v 0) (q_ah 0) (q_sc 0) jo_mostFarms jo_losses jo_known jo_found jo_foundMany jo_nights jo_farms jo_groups jo_renumbered, wX9 G q_v (q_mt 0) v_night v_g v_flock v_hunger v_lean v_fed v_taken v_pacts v_levels v_facts, wX9 G q_ah ah_mountain ah_night ah_g ah_flock ah_hunger ah_lean ah_fed ah_taken ah_pacts ah_levels ah_facts, wX0 G q_sc sc_kept sc_feuds sc_bites sc_bones sc_feudsInAll sc_bitten, wX5 G q_mt mt_farms mt_fences mt_shares mt_names mt_flock mt_dogs mt_hunger mt_fenced mt_heights mt_pacts mt_partner mt_often mt_toothed (q_fe 0) (q_go 0), wX3 G q_fe fe_kinds fe_lefts fe_rights fe_values fe_steps, wX3 G q_go go_kinds go_lefts go_rights go_values go_steps] [(0, .ref (q_jo 0))] 0 []
  have L59 : ∀ (n59 : Nat) (jo_losses : Nat → Int32) (jo_known : Nat → Int32) (jo_found : Nat → Int32) (jo_foundMany : Int32) (jo_groups : Nat → Int32) (jo_renumbered : Nat → Int32) (ah_mountain : Nat) (ah_night : Int32) (ah_g : Int64) (ah_flock : Nat → Int32) (ah_hunger : Nat → Int32) (ah_lean : Nat → Int32) (ah_fed : Nat → Int32) (ah_taken : Nat → Int32) (ah_pacts : Nat → Int32) (ah_levels : Nat → Int32) (ah_facts : Nat → Int32) (sc_kept : Nat → Int32) (sc_feuds : Nat → Int32) (sc_bones : Int32) (sc_feudsInAll : Int32) (fe_values : Nat → Int32) (go_values : Nat → Int32) (l1 : Int32) (l2 : Int32), f_X6_findAll_j_L59  jo_nights jo_farms v_night v_g v_flock v_hunger v_lean v_fed v_taken v_pacts v_levels mt_farms mt_dogs mt_fenced mt_heights mt_partner fe_kinds fe_lefts fe_rights fe_steps go_kinds go_lefts go_rights go_steps (q_mt 0) n59 jo_losses jo_known jo_found jo_foundMany jo_groups jo_renumbered ah_mountain ah_night ah_g ah_flock ah_hunger ah_lean ah_fed ah_taken ah_pacts ah_levels ah_facts sc_kept sc_feuds sc_bones sc_feudsInAll fe_values go_values l1 l2 = some (o_r, o_jo_losses, o_jo_known, o_jo_found, o_jo_foundMany, o_jo_groups, o_jo_renumbered, o_ah_mountain, o_ah_night, o_ah_g, o_ah_flock, o_ah_hunger, o_ah_lean, o_ah_fed, o_ah_taken, o_ah_pacts, o_ah_levels, o_ah_facts, o_sc_kept, o_sc_feuds, o_sc_bones, o_sc_feudsInAll, o_fe_values, o_go_values) → K [wX2 G q_jo (q_v 0) (q_ah 0) (q_sc 0) jo_mostFarms jo_losses jo_known jo_found jo_foundMany jo_nights jo_farms jo_groups jo_renumbered, wX9 G q_v (q_mt 0) v_night v_g v_flock v_hunger v_lean v_fed v_taken v_pacts v_levels v_facts, wX9 G q_ah ah_mountain ah_night ah_g ah_flock ah_hunger ah_lean ah_fed ah_taken ah_pacts ah_levels ah_facts, wX0 G q_sc sc_kept sc_feuds sc_bites sc_bones sc_feudsInAll sc_bitten, wX5 G q_mt mt_farms mt_fences mt_shares mt_names mt_flock mt_dogs mt_hunger mt_fenced mt_heights mt_pacts mt_partner mt_often mt_toothed (q_fe 0) (q_go 0), wX3 G q_fe fe_kinds fe_lefts fe_rights fe_values fe_steps, wX3 G q_go go_kinds go_lefts go_rights go_values go_steps] [(0, .ref (q_jo 0)), (1, .int l1), (2, .int l2)] 59 [] := by
    intro n59
    induction n59 with
    | zero => intro jo_losses jo_known jo_found jo_foundMany jo_groups jo_renumbered ah_mountain ah_night ah_g ah_flock ah_hunger ah_lean ah_fed ah_taken ah_pacts ah_levels ah_facts sc_kept sc_feuds sc_bones sc_feudsInAll fe_values go_values l1 l2 hM; exact no_some hM
    | succ n59 ih59 =>
      have J100 : ∀ (jo_losses : Nat → Int32) (jo_known : Nat → Int32) (jo_found : Nat → Int32) (jo_foundMany : Int32) (jo_groups : Nat → Int32) (jo_renumbered : Nat → Int32) (ah_mountain : Nat) (ah_night : Int32) (ah_g : Int64) (ah_flock : Nat → Int32) (ah_hunger : Nat → Int32) (ah_lean : Nat → Int32) (ah_fed : Nat → Int32) (ah_taken : Nat → Int32) (ah_pacts : Nat → Int32) (ah_levels : Nat → Int32) (ah_facts : Nat → Int32) (sc_kept : Nat → Int32) (sc_feuds : Nat → Int32) (sc_bones : Int32) (sc_feudsInAll : Int32) (fe_values : Nat → Int32) (go_values : Nat → Int32) (l1 : Int32) (l2 : Int32), f_X6_findAll_j_B100  (f_X6_findAll_j_L59  jo_nights jo_farms v_night v_g v_flock v_hunger v_lean v_fed v_taken v_pacts v_levels mt_farms mt_dogs mt_fenced mt_heights mt_partner fe_kinds fe_lefts fe_rights fe_steps go_kinds go_lefts go_rights go_steps (q_mt 0) n59) jo_nights jo_farms v_night v_g v_flock v_hunger v_lean v_fed v_taken v_pacts v_levels mt_farms mt_dogs mt_fenced mt_heights mt_partner fe_kinds fe_lefts fe_rights fe_steps go_kinds go_lefts go_rights go_steps (q_mt 0) jo_losses jo_known jo_found jo_foundMany jo_groups jo_renumbered ah_mountain ah_night ah_g ah_flock ah_hunger ah_lean ah_fed ah_taken ah_pacts ah_levels ah_facts sc_kept sc_feuds sc_bones sc_feudsInAll fe_values go_values l1 l2 = some (o_r, o_jo_losses, o_jo_known, o_jo_found, o_jo_foundMany, o_jo_groups, o_jo_renumbered, o_ah_mountain, o_ah_night, o_ah_g, o_ah_flock, o_ah_hunger, o_ah_lean, o_ah_fed, o_ah_taken, o_ah_pacts, o_ah_levels, o_ah_facts, o_sc_kept, o_sc_feuds, o_sc_bones, o_sc_feudsInAll, o_fe_values, o_go_values) → K [wX2 G q_jo (q_v 0) (q_ah 0) (q_sc 0) jo_mostFarms jo_losses jo_known jo_found jo_foundMany jo_nights jo_farms jo_groups jo_renumbered, wX9 G q_v (q_mt 0) v_night v_g v_flock v_hunger v_lean v_fed v_taken v_pacts v_levels v_facts, wX9 G q_ah ah_mountain ah_night ah_g ah_flock ah_hunger ah_lean ah_fed ah_taken ah_pacts ah_levels ah_facts, wX0 G q_sc sc_kept sc_feuds sc_bites sc_bones sc_feudsInAll sc_bitten, wX5 G q_mt mt_farms mt_fences mt_shares mt_names mt_flock mt_dogs mt_hunger mt_fenced mt_heights mt_pacts mt_partner mt_often mt_toothed (q_fe 0) (q_go 0), wX3 G q_fe fe_kinds fe_lefts fe_rights fe_values fe_steps, wX3 G q_go go_kinds go_lefts go_rights go_values go_steps] [(0, .ref (q_jo 0)), (1, .int l1), (2, .int l2)] 100 [] := by
        intro jo_losses jo_known jo_found jo_foundMany jo_groups jo_renumbered ah_mountain ah_night ah_g ah_flock ah_hunger ah_lean ah_fed ah_taken ah_pacts ah_levels ah_facts sc_kept sc_feuds sc_bones sc_feudsInAll fe_values go_values l1 l2 hM
        obtain ⟨l2_1, e_⟩ : ∃ y : Int32, y = l2 + 1 := ⟨_, rfl⟩
        refine st_iinc hR dX6_findAll_100 (Nat.le_of_ble_eq_true rfl) 2 [1, 2, 0] (v := l2_1) rfl (by rw [e_]; rfl) (lv' := [(0, .ref (q_jo 0)), (1, .int l1), (2, .int l2_1)]) rfl (pc' := 103) rfl ?_
        have hM := lt_e e_ hM
        refine st_goto hR dX6_findAll_103 (tgt := 59) (by decide) ?_
        exact ih59 _ _ _ _ _ _ _ _ _ _ _ _ _ _ _ _ _ _ _ _ _ _ _ _ _ hM
      intro jo_losses jo_known jo_found jo_foundMany jo_groups jo_renumbered ah_mountain ah_night ah_g ah_flock ah_hunger ah_lean ah_fed ah_taken ah_pacts ah_levels ah_facts sc_kept sc_feuds sc_bones sc_feudsInAll fe_values go_values l1 l2 hM
      have hM : f_X6_findAll_j_L59b  (f_X6_findAll_j_L59  jo_nights jo_farms v_night v_g v_flock v_hunger v_lean v_fed v_taken v_pacts v_levels mt_farms mt_dogs mt_fenced mt_heights mt_partner fe_kinds fe_lefts fe_rights fe_steps go_kinds go_lefts go_rights go_steps (q_mt 0) n59) jo_nights jo_farms v_night v_g v_flock v_hunger v_lean v_fed v_taken v_pacts v_levels mt_farms mt_dogs mt_fenced mt_heights mt_partner fe_kinds fe_lefts fe_rights fe_steps go_kinds go_lefts go_rights go_steps (q_mt 0) jo_losses jo_known jo_found jo_foundMany jo_groups jo_renumbered ah_mountain ah_night ah_g ah_flock ah_hunger ah_lean ah_fed ah_taken ah_pacts ah_levels ah_facts sc_kept sc_feuds sc_bones sc_feudsInAll fe_values go_values l1 l2 = some (o_r, o_jo_losses, o_jo_known, o_jo_found, o_jo_foundMany, o_jo_groups, o_jo_renumbered, o_ah_mountain, o_ah_night, o_ah_g, o_ah_flock, o_ah_hunger, o_ah_lean, o_ah_fed, o_ah_taken, o_ah_pacts, o_ah_levels, o_ah_facts, o_sc_kept, o_sc_feuds, o_sc_bones, o_sc_feudsInAll, o_fe_values, o_go_values) := hM
      refine st_iload_n hR dX6_findAll_59 2 rfl rfl (pc' := 60) rfl ?_
      refine st_iload_n hR dX6_findAll_60 1 rfl rfl (pc' := 61) rfl ?_
      refine st_icmp_ge hR dX6_findAll_61 (tgt := 106) (by decide) (pc' := 64) rfl (fun c_ => ?_) (fun c_ => ?_)
      · have hM := it_t c_ hM
        refine st_aload_n hR dX6_findAll_106 0 rfl rfl (pc' := 107) rfl ?_
        refine st_get hR dX6_findAll_107 fg_X6_55_2_7 0 0 rfl rfl rfl (pc' := 110) rfl ?_
        cases hM
        exact hret _ _ dX6_findAll_110 (ro_i _)
      · have hM := it_f c_ hM
        refine st_aload_n hR dX6_findAll_64 0 rfl rfl (pc' := 65) rfl ?_
        refine st_iload_n hR dX6_findAll_65 2 rfl rfl (pc' := 66) rfl ?_
        obtain ⟨⟨r_1, jo_groups_1⟩, hc_, hM⟩ := bd_e hM
        refine st_callU hR (k_X2_isRow hc_) cu_X6_90_X2 (rm_le (Nat.le_of_ble_eq_true rfl) (Nat.le_of_ble_eq_true rfl)) [0] rfl rfl rfl 0 0 2 12 rfl rfl rfl rfl (rest := []) rfl (Nat.le_of_ble_eq_true rfl) dX6_findAll_66 (pc' := 69) rfl (Wn := [wX2 G q_jo (q_v 0) (q_ah 0) (q_sc 0) jo_mostFarms jo_losses jo_known jo_found jo_foundMany jo_nights jo_farms jo_groups_1 jo_renumbered, wX9 G q_v (q_mt 0) v_night v_g v_flock v_hunger v_lean v_fed v_taken v_pacts v_levels v_facts, wX9 G q_ah ah_mountain ah_night ah_g ah_flock ah_hunger ah_lean ah_fed ah_taken ah_pacts ah_levels ah_facts, wX0 G q_sc sc_kept sc_feuds sc_bites sc_bones sc_feudsInAll sc_bitten, wX5 G q_mt mt_farms mt_fences mt_shares mt_names mt_flock mt_dogs mt_hunger mt_fenced mt_heights mt_pacts mt_partner mt_often mt_toothed (q_fe 0) (q_go 0), wX3 G q_fe fe_kinds fe_lefts fe_rights fe_values fe_steps, wX3 G q_go go_kinds go_lefts go_rights go_values go_steps]) rfl ?_
        refine st_if_eq hR dX6_findAll_69 (tgt := 100) (by decide) (pc' := 72) rfl (fun c_ => ?_) (fun c_ => ?_)
        · have hM := it_t c_ hM
          exact J100 _ _ _ _ _ _ _ _ _ _ _ _ _ _ _ _ _ _ _ _ _ _ _ _ _ hM
        · have hM := it_f c_ hM
          refine st_aload_n hR dX6_findAll_72 0 rfl rfl (pc' := 73) rfl ?_
          refine st_iload_n hR dX6_findAll_73 2 rfl rfl (pc' := 74) rfl ?_
          obtain ⟨⟨r_2, jo_groups_2, jo_renumbered_1⟩, hc_, hM⟩ := bd_e hM
          refine st_callU hR (k_X2_stays hc_) cu_X6_97_X2 (rm_le (Nat.le_of_ble_eq_true rfl) (Nat.le_of_ble_eq_true rfl)) [0] rfl rfl rfl 0 0 2 12 rfl rfl rfl rfl (rest := []) rfl (Nat.le_of_ble_eq_true rfl) dX6_findAll_74 (pc' := 77) rfl (Wn := [wX2 G q_jo (q_v 0) (q_ah 0) (q_sc 0) jo_mostFarms jo_losses jo_known jo_found jo_foundMany jo_nights jo_farms jo_groups_2 jo_renumbered_1, wX9 G q_v (q_mt 0) v_night v_g v_flock v_hunger v_lean v_fed v_taken v_pacts v_levels v_facts, wX9 G q_ah ah_mountain ah_night ah_g ah_flock ah_hunger ah_lean ah_fed ah_taken ah_pacts ah_levels ah_facts, wX0 G q_sc sc_kept sc_feuds sc_bites sc_bones sc_feudsInAll sc_bitten, wX5 G q_mt mt_farms mt_fences mt_shares mt_names mt_flock mt_dogs mt_hunger mt_fenced mt_heights mt_pacts mt_partner mt_often mt_toothed (q_fe 0) (q_go 0), wX3 G q_fe fe_kinds fe_lefts fe_rights fe_values fe_steps, wX3 G q_go go_kinds go_lefts go_rights go_values go_steps]) rfl ?_
          refine st_if_eq hR dX6_findAll_77 (tgt := 100) (by decide) (pc' := 80) rfl (fun c_ => ?_) (fun c_ => ?_)
          · have hM := it_t c_ hM
            exact J100 _ _ _ _ _ _ _ _ _ _ _ _ _ _ _ _ _ _ _ _ _ _ _ _ _ hM
          · have hM := it_f c_ hM
            refine st_aload_n hR dX6_findAll_80 0 rfl rfl (pc' := 81) rfl ?_
            refine st_get hR dX6_findAll_81 fg_X6_33_2_6 0 0 rfl rfl rfl (pc' := 84) rfl ?_
            refine st_aload_n hR dX6_findAll_84 0 rfl rfl (pc' := 85) rfl ?_
            refine st_get hR dX6_findAll_85 fg_X6_55_2_7 0 0 rfl rfl rfl (pc' := 88) rfl ?_
            refine st_iload_n hR dX6_findAll_88 2 rfl rfl (pc' := 89) rfl ?_
            obtain ⟨hin_, hM⟩ := g_in_e hM
            refine st_iast hR dX6_findAll_89 0 3 rfl rfl hin_ (ix := (ix jo_foundMany)) rfl (pc' := 90) rfl (fun jo_found_1 => [wX2 G q_jo (q_v 0) (q_ah 0) (q_sc 0) jo_mostFarms jo_losses jo_known jo_found_1 jo_foundMany jo_nights jo_farms jo_groups_2 jo_renumbered_1, wX9 G q_v (q_mt 0) v_night v_g v_flock v_hunger v_lean v_fed v_taken v_pacts v_levels v_facts, wX9 G q_ah ah_mountain ah_night ah_g ah_flock ah_hunger ah_lean ah_fed ah_taken ah_pacts ah_levels ah_facts, wX0 G q_sc sc_kept sc_feuds sc_bites sc_bones sc_feudsInAll sc_bitten, wX5 G q_mt mt_farms mt_fences mt_shares mt_names mt_flock mt_dogs mt_hunger mt_fenced mt_heights mt_pacts mt_partner mt_often mt_toothed (q_fe 0) (q_go 0), wX3 G q_fe fe_kinds fe_lefts fe_rights fe_values fe_steps, wX3 G q_go go_kinds go_lefts go_rights go_values go_steps]) (fun _ => rfl) (fun jo_found_1 e_ => ?_)
            have hM := lt_e e_ hM
            refine st_aload_n hR dX6_findAll_90 0 rfl rfl (pc' := 91) rfl ?_
            refine st_dup hR dX6_findAll_91 (pc' := 92) rfl rfl ?_
            refine st_get hR dX6_findAll_92 fg_X6_55_2_7 0 0 rfl rfl rfl (pc' := 95) rfl ?_
            refine st_iconst hR dX6_findAll_95 (v := 1) rfl (pc' := 96) rfl ?_
            refine st_iadd hR dX6_findAll_96 (pc' := 97) rfl ?_
            refine st_topi (fun jo_foundMany_1 e_ => ?_)
            have hM := lt_e e_ hM
            refine st_put hR dX6_findAll_97 fp_X6_55_2_7 0 0 rfl rfl (Nat.le_of_ble_eq_true rfl) rfl rfl (pc' := 100) rfl (W' := [wX2 G q_jo (q_v 0) (q_ah 0) (q_sc 0) jo_mostFarms jo_losses jo_known jo_found_1 jo_foundMany_1 jo_nights jo_farms jo_groups_2 jo_renumbered_1, wX9 G q_v (q_mt 0) v_night v_g v_flock v_hunger v_lean v_fed v_taken v_pacts v_levels v_facts, wX9 G q_ah ah_mountain ah_night ah_g ah_flock ah_hunger ah_lean ah_fed ah_taken ah_pacts ah_levels ah_facts, wX0 G q_sc sc_kept sc_feuds sc_bites sc_bones sc_feudsInAll sc_bitten, wX5 G q_mt mt_farms mt_fences mt_shares mt_names mt_flock mt_dogs mt_hunger mt_fenced mt_heights mt_pacts mt_partner mt_often mt_toothed (q_fe 0) (q_go 0), wX3 G q_fe fe_kinds fe_lefts fe_rights fe_values fe_steps, wX3 G q_go go_kinds go_lefts go_rights go_values go_steps]) rfl ?_
            exact J100 _ _ _ _ _ _ _ _ _ _ _ _ _ _ _ _ _ _ _ _ _ _ _ _ _ hM
  have L28 : ∀ (n28 : Nat) (jo_losses : Nat → Int32) (jo_known : Nat → Int32) (jo_found : Nat → Int32) (jo_foundMany : Int32) (jo_groups : Nat → Int32) (jo_renumbered : Nat → Int32) (ah_mountain : Nat) (ah_night : Int32) (ah_g : Int64) (ah_flock : Nat → Int32) (ah_hunger : Nat → Int32) (ah_lean : Nat → Int32) (ah_fed : Nat → Int32) (ah_taken : Nat → Int32) (ah_pacts : Nat → Int32) (ah_levels : Nat → Int32) (ah_facts : Nat → Int32) (sc_kept : Nat → Int32) (sc_feuds : Nat → Int32) (sc_bones : Int32) (sc_feudsInAll : Int32) (fe_values : Nat → Int32) (go_values : Nat → Int32) (l1 : Int32) (l2 : Int32), f_X6_findAll_j_L28  jo_nights jo_farms v_night v_g v_flock v_hunger v_lean v_fed v_taken v_pacts v_levels mt_farms mt_dogs mt_fenced mt_heights mt_partner fe_kinds fe_lefts fe_rights fe_steps go_kinds go_lefts go_rights go_steps (q_mt 0) n28 jo_losses jo_known jo_found jo_foundMany jo_groups jo_renumbered ah_mountain ah_night ah_g ah_flock ah_hunger ah_lean ah_fed ah_taken ah_pacts ah_levels ah_facts sc_kept sc_feuds sc_bones sc_feudsInAll fe_values go_values l1 l2 = some (o_r, o_jo_losses, o_jo_known, o_jo_found, o_jo_foundMany, o_jo_groups, o_jo_renumbered, o_ah_mountain, o_ah_night, o_ah_g, o_ah_flock, o_ah_hunger, o_ah_lean, o_ah_fed, o_ah_taken, o_ah_pacts, o_ah_levels, o_ah_facts, o_sc_kept, o_sc_feuds, o_sc_bones, o_sc_feudsInAll, o_fe_values, o_go_values) → K [wX2 G q_jo (q_v 0) (q_ah 0) (q_sc 0) jo_mostFarms jo_losses jo_known jo_found jo_foundMany jo_nights jo_farms jo_groups jo_renumbered, wX9 G q_v (q_mt 0) v_night v_g v_flock v_hunger v_lean v_fed v_taken v_pacts v_levels v_facts, wX9 G q_ah ah_mountain ah_night ah_g ah_flock ah_hunger ah_lean ah_fed ah_taken ah_pacts ah_levels ah_facts, wX0 G q_sc sc_kept sc_feuds sc_bites sc_bones sc_feudsInAll sc_bitten, wX5 G q_mt mt_farms mt_fences mt_shares mt_names mt_flock mt_dogs mt_hunger mt_fenced mt_heights mt_pacts mt_partner mt_often mt_toothed (q_fe 0) (q_go 0), wX3 G q_fe fe_kinds fe_lefts fe_rights fe_values fe_steps, wX3 G q_go go_kinds go_lefts go_rights go_values go_steps] [(0, .ref (q_jo 0)), (1, .int l1), (2, .int l2)] 28 [] := by
    intro n28
    induction n28 with
    | zero => intro jo_losses jo_known jo_found jo_foundMany jo_groups jo_renumbered ah_mountain ah_night ah_g ah_flock ah_hunger ah_lean ah_fed ah_taken ah_pacts ah_levels ah_facts sc_kept sc_feuds sc_bones sc_feudsInAll fe_values go_values l1 l2 hM; exact no_some hM
    | succ n28 ih28 =>
      have J46 : ∀ (jo_losses : Nat → Int32) (jo_known : Nat → Int32) (jo_found : Nat → Int32) (jo_foundMany : Int32) (jo_groups : Nat → Int32) (jo_renumbered : Nat → Int32) (ah_mountain : Nat) (ah_night : Int32) (ah_g : Int64) (ah_flock : Nat → Int32) (ah_hunger : Nat → Int32) (ah_lean : Nat → Int32) (ah_fed : Nat → Int32) (ah_taken : Nat → Int32) (ah_pacts : Nat → Int32) (ah_levels : Nat → Int32) (ah_facts : Nat → Int32) (sc_kept : Nat → Int32) (sc_feuds : Nat → Int32) (sc_bones : Int32) (sc_feudsInAll : Int32) (fe_values : Nat → Int32) (go_values : Nat → Int32) (l1 : Int32) (l2 : Int32), f_X6_findAll_j_B46  (f_X6_findAll_j_L28  jo_nights jo_farms v_night v_g v_flock v_hunger v_lean v_fed v_taken v_pacts v_levels mt_farms mt_dogs mt_fenced mt_heights mt_partner fe_kinds fe_lefts fe_rights fe_steps go_kinds go_lefts go_rights go_steps (q_mt 0) n28) jo_nights jo_farms v_night v_g v_flock v_hunger v_lean v_fed v_taken v_pacts v_levels mt_farms mt_dogs mt_fenced mt_heights mt_partner fe_kinds fe_lefts fe_rights fe_steps go_kinds go_lefts go_rights go_steps (q_mt 0) jo_losses jo_known jo_found jo_foundMany jo_groups jo_renumbered ah_mountain ah_night ah_g ah_flock ah_hunger ah_lean ah_fed ah_taken ah_pacts ah_levels ah_facts sc_kept sc_feuds sc_bones sc_feudsInAll fe_values go_values l1 l2 = some (o_r, o_jo_losses, o_jo_known, o_jo_found, o_jo_foundMany, o_jo_groups, o_jo_renumbered, o_ah_mountain, o_ah_night, o_ah_g, o_ah_flock, o_ah_hunger, o_ah_lean, o_ah_fed, o_ah_taken, o_ah_pacts, o_ah_levels, o_ah_facts, o_sc_kept, o_sc_feuds, o_sc_bones, o_sc_feudsInAll, o_fe_values, o_go_values) → K [wX2 G q_jo (q_v 0) (q_ah 0) (q_sc 0) jo_mostFarms jo_losses jo_known jo_found jo_foundMany jo_nights jo_farms jo_groups jo_renumbered, wX9 G q_v (q_mt 0) v_night v_g v_flock v_hunger v_lean v_fed v_taken v_pacts v_levels v_facts, wX9 G q_ah ah_mountain ah_night ah_g ah_flock ah_hunger ah_lean ah_fed ah_taken ah_pacts ah_levels ah_facts, wX0 G q_sc sc_kept sc_feuds sc_bites sc_bones sc_feudsInAll sc_bitten, wX5 G q_mt mt_farms mt_fences mt_shares mt_names mt_flock mt_dogs mt_hunger mt_fenced mt_heights mt_pacts mt_partner mt_often mt_toothed (q_fe 0) (q_go 0), wX3 G q_fe fe_kinds fe_lefts fe_rights fe_values fe_steps, wX3 G q_go go_kinds go_lefts go_rights go_values go_steps] [(0, .ref (q_jo 0)), (1, .int l1), (2, .int l2)] 46 [] := by
        intro jo_losses jo_known jo_found jo_foundMany jo_groups jo_renumbered ah_mountain ah_night ah_g ah_flock ah_hunger ah_lean ah_fed ah_taken ah_pacts ah_levels ah_facts sc_kept sc_feuds sc_bones sc_feudsInAll fe_values go_values l1 l2 hM
        obtain ⟨l2_1, e_⟩ : ∃ y : Int32, y = l2 + 1 := ⟨_, rfl⟩
        refine st_iinc hR dX6_findAll_46 (Nat.le_of_ble_eq_true rfl) 2 [1, 2, 0] (v := l2_1) rfl (by rw [e_]; rfl) (lv' := [(0, .ref (q_jo 0)), (1, .int l1), (2, .int l2_1)]) rfl (pc' := 49) rfl ?_
        have hM := lt_e e_ hM
        refine st_goto hR dX6_findAll_49 (tgt := 28) (by decide) ?_
        exact ih28 _ _ _ _ _ _ _ _ _ _ _ _ _ _ _ _ _ _ _ _ _ _ _ _ _ hM
      intro jo_losses jo_known jo_found jo_foundMany jo_groups jo_renumbered ah_mountain ah_night ah_g ah_flock ah_hunger ah_lean ah_fed ah_taken ah_pacts ah_levels ah_facts sc_kept sc_feuds sc_bones sc_feudsInAll fe_values go_values l1 l2 hM
      have hM : f_X6_findAll_j_L28b  (f_X6_findAll_j_L28  jo_nights jo_farms v_night v_g v_flock v_hunger v_lean v_fed v_taken v_pacts v_levels mt_farms mt_dogs mt_fenced mt_heights mt_partner fe_kinds fe_lefts fe_rights fe_steps go_kinds go_lefts go_rights go_steps (q_mt 0) n28) jo_nights jo_farms v_night v_g v_flock v_hunger v_lean v_fed v_taken v_pacts v_levels mt_farms mt_dogs mt_fenced mt_heights mt_partner fe_kinds fe_lefts fe_rights fe_steps go_kinds go_lefts go_rights go_steps (q_mt 0) jo_losses jo_known jo_found jo_foundMany jo_groups jo_renumbered ah_mountain ah_night ah_g ah_flock ah_hunger ah_lean ah_fed ah_taken ah_pacts ah_levels ah_facts sc_kept sc_feuds sc_bones sc_feudsInAll fe_values go_values l1 l2 = some (o_r, o_jo_losses, o_jo_known, o_jo_found, o_jo_foundMany, o_jo_groups, o_jo_renumbered, o_ah_mountain, o_ah_night, o_ah_g, o_ah_flock, o_ah_hunger, o_ah_lean, o_ah_fed, o_ah_taken, o_ah_pacts, o_ah_levels, o_ah_facts, o_sc_kept, o_sc_feuds, o_sc_bones, o_sc_feudsInAll, o_fe_values, o_go_values) := hM
      refine st_iload_n hR dX6_findAll_28 2 rfl rfl (pc' := 29) rfl ?_
      refine st_iload_n hR dX6_findAll_29 1 rfl rfl (pc' := 30) rfl ?_
      refine st_icmp_ge hR dX6_findAll_30 (tgt := 52) (by decide) (pc' := 33) rfl (fun c_ => ?_) (fun c_ => ?_)
      · have hM := it_t c_ hM
        refine st_aload_n hR dX6_findAll_52 0 rfl rfl (pc' := 53) rfl ?_
        refine st_iconst hR dX6_findAll_53 (v := 0) rfl (pc' := 54) rfl ?_
        refine st_put hR dX6_findAll_54 fp_X6_55_2_7 0 0 rfl rfl (Nat.le_of_ble_eq_true rfl) rfl rfl (pc' := 57) rfl (W' := [wX2 G q_jo (q_v 0) (q_ah 0) (q_sc 0) jo_mostFarms jo_losses jo_known jo_found 0 jo_nights jo_farms jo_groups jo_renumbered, wX9 G q_v (q_mt 0) v_night v_g v_flock v_hunger v_lean v_fed v_taken v_pacts v_levels v_facts, wX9 G q_ah ah_mountain ah_night ah_g ah_flock ah_hunger ah_lean ah_fed ah_taken ah_pacts ah_levels ah_facts, wX0 G q_sc sc_kept sc_feuds sc_bites sc_bones sc_feudsInAll sc_bitten, wX5 G q_mt mt_farms mt_fences mt_shares mt_names mt_flock mt_dogs mt_hunger mt_fenced mt_heights mt_pacts mt_partner mt_often mt_toothed (q_fe 0) (q_go 0), wX3 G q_fe fe_kinds fe_lefts fe_rights fe_values fe_steps, wX3 G q_go go_kinds go_lefts go_rights go_values go_steps]) rfl ?_
        refine st_iconst hR dX6_findAll_57 (v := 0) rfl (pc' := 58) rfl ?_
        refine st_istore_n hR dX6_findAll_58 rfl (Nat.le_of_ble_eq_true rfl) [1, 2, 0] (lv' := [(0, .ref (q_jo 0)), (1, .int l1), (2, .int 0)]) rfl (pc' := 59) rfl ?_
        exact L59 FU _ _ _ _ _ _ _ _ _ _ _ _ _ _ _ _ _ _ _ _ _ _ _ _ _ hM
      · have hM := it_f c_ hM
        refine st_aload_n hR dX6_findAll_33 0 rfl rfl (pc' := 34) rfl ?_
        refine st_iload_n hR dX6_findAll_34 2 rfl rfl (pc' := 35) rfl ?_
        obtain ⟨⟨r_1, jo_groups_1⟩, hc_, hM⟩ := bd_e hM
        refine st_callU hR (k_X2_isRow hc_) cu_X6_90_X2 (rm_le (Nat.le_of_ble_eq_true rfl) (Nat.le_of_ble_eq_true rfl)) [0] rfl rfl rfl 0 0 2 12 rfl rfl rfl rfl (rest := []) rfl (Nat.le_of_ble_eq_true rfl) dX6_findAll_35 (pc' := 38) rfl (Wn := [wX2 G q_jo (q_v 0) (q_ah 0) (q_sc 0) jo_mostFarms jo_losses jo_known jo_found jo_foundMany jo_nights jo_farms jo_groups_1 jo_renumbered, wX9 G q_v (q_mt 0) v_night v_g v_flock v_hunger v_lean v_fed v_taken v_pacts v_levels v_facts, wX9 G q_ah ah_mountain ah_night ah_g ah_flock ah_hunger ah_lean ah_fed ah_taken ah_pacts ah_levels ah_facts, wX0 G q_sc sc_kept sc_feuds sc_bites sc_bones sc_feudsInAll sc_bitten, wX5 G q_mt mt_farms mt_fences mt_shares mt_names mt_flock mt_dogs mt_hunger mt_fenced mt_heights mt_pacts mt_partner mt_often mt_toothed (q_fe 0) (q_go 0), wX3 G q_fe fe_kinds fe_lefts fe_rights fe_values fe_steps, wX3 G q_go go_kinds go_lefts go_rights go_values go_steps]) rfl ?_
        refine st_if_eq hR dX6_findAll_38 (tgt := 46) (by decide) (pc' := 41) rfl (fun c_ => ?_) (fun c_ => ?_)
        · have hM := it_t c_ hM
          exact J46 _ _ _ _ _ _ _ _ _ _ _ _ _ _ _ _ _ _ _ _ _ _ _ _ _ hM
        · have hM := it_f c_ hM
          refine st_aload_n hR dX6_findAll_41 0 rfl rfl (pc' := 42) rfl ?_
          refine st_iload_n hR dX6_findAll_42 2 rfl rfl (pc' := 43) rfl ?_
          obtain ⟨⟨jo_losses_1, jo_known_1, jo_groups_2, ah_mountain_1, ah_night_1, ah_g_1, ah_flock_1, ah_hunger_1, ah_lean_1, ah_fed_1, ah_taken_1, ah_pacts_1, ah_levels_1, ah_facts_1, sc_kept_1, sc_feuds_1, sc_bones_1, sc_feudsInAll_1, fe_values_1, go_values_1⟩, hc_, hM⟩ := bd_e hM
          refine st_callU hR (k_X6_lookAt_j hc_) cu_X6_93_X2 (rm_le (Nat.le_of_ble_eq_true rfl) (Nat.le_of_ble_eq_true rfl)) [0, 1, 2, 3, 4, 5, 6] rfl rfl rfl 0 0 2 12 rfl rfl rfl rfl (rest := []) rfl (Nat.le_of_ble_eq_true rfl) dX6_findAll_43 (pc' := 46) rfl (Wn := [wX2 G q_jo (q_v 0) (q_ah 0) (q_sc 0) jo_mostFarms jo_losses_1 jo_known_1 jo_found jo_foundMany jo_nights jo_farms jo_groups_2 jo_renumbered, wX9 G q_v (q_mt 0) v_night v_g v_flock v_hunger v_lean v_fed v_taken v_pacts v_levels v_facts, wX9 G q_ah ah_mountain_1 ah_night_1 ah_g_1 ah_flock_1 ah_hunger_1 ah_lean_1 ah_fed_1 ah_taken_1 ah_pacts_1 ah_levels_1 ah_facts_1, wX0 G q_sc sc_kept_1 sc_feuds_1 sc_bites sc_bones_1 sc_feudsInAll_1 sc_bitten, wX5 G q_mt mt_farms mt_fences mt_shares mt_names mt_flock mt_dogs mt_hunger mt_fenced mt_heights mt_pacts mt_partner mt_often mt_toothed (q_fe 0) (q_go 0), wX3 G q_fe fe_kinds fe_lefts fe_rights fe_values_1 fe_steps, wX3 G q_go go_kinds go_lefts go_rights go_values_1 go_steps]) rfl ?_
          exact J46 _ _ _ _ _ _ _ _ _ _ _ _ _ _ _ _ _ _ _ _ _ _ _ _ _ hM
  refine st_aload_n hR dX6_findAll_0 0 rfl rfl (pc' := 1) rfl ?_
  refine st_get hR dX6_findAll_1 fg_X6_55_2_7 0 0 rfl rfl rfl (pc' := 4) rfl ?_
  refine st_iconst hR dX6_findAll_4 (v := (-1)) (by decide) (pc' := 5) rfl ?_
  refine st_icmp_eq hR dX6_findAll_5 (tgt := 13) (by decide) (pc' := 8) rfl (fun c_ => ?_) (fun c_ => ?_)
  · have hM := it_t c_ hM
    refine st_aload_n hR dX6_findAll_13 0 rfl rfl (pc' := 14) rfl ?_
    obtain ⟨r_1, hc_, hM⟩ := bd_e hM
    refine st_callU hR (k_X2_rows hc_) cu_X6_80_X2 (rm_le (Nat.le_of_ble_eq_true rfl) (Nat.le_of_ble_eq_true rfl)) [0] rfl rfl rfl 0 0 2 12 rfl rfl rfl rfl (rest := []) rfl (Nat.le_of_ble_eq_true rfl) dX6_findAll_14 (pc' := 17) rfl (Wn := [wX2 G q_jo (q_v 0) (q_ah 0) (q_sc 0) jo_mostFarms jo_losses jo_known jo_found jo_foundMany jo_nights jo_farms jo_groups jo_renumbered, wX9 G q_v (q_mt 0) v_night v_g v_flock v_hunger v_lean v_fed v_taken v_pacts v_levels v_facts, wX9 G q_ah ah_mountain ah_night ah_g ah_flock ah_hunger ah_lean ah_fed ah_taken ah_pacts ah_levels ah_facts, wX0 G q_sc sc_kept sc_feuds sc_bites sc_bones sc_feudsInAll sc_bitten, wX5 G q_mt mt_farms mt_fences mt_shares mt_names mt_flock mt_dogs mt_hunger mt_fenced mt_heights mt_pacts mt_partner mt_often mt_toothed (q_fe 0) (q_go 0), wX3 G q_fe fe_kinds fe_lefts fe_rights fe_values fe_steps, wX3 G q_go go_kinds go_lefts go_rights go_values go_steps]) rfl ?_
    refine st_aload_n hR dX6_findAll_17 0 rfl rfl (pc' := 18) rfl ?_
    refine st_get hR dX6_findAll_18 fg_X6_30_2_5 0 0 rfl rfl rfl (pc' := 21) rfl ?_
    refine st_alen hR dX6_findAll_21 0 2 0 rfl rfl rfl (v := 120) rfl (pc' := 22) rfl ?_
    refine st_mmin hR dX6_findAll_22 mm_X6_84 (Nat.le_of_ble_eq_true rfl) (rest := []) (Nat.le_of_ble_eq_true rfl) (pc' := 25) rfl ?_
    refine st_topi (fun l1_1 e_ => ?_)
    have hM := lt_e e_ hM
    refine st_istore_n hR dX6_findAll_25 rfl (Nat.le_of_ble_eq_true rfl) [1, 0] (lv' := [(0, .ref (q_jo 0)), (1, .int l1_1)]) rfl (pc' := 26) rfl ?_
    refine st_iconst hR dX6_findAll_26 (v := 0) rfl (pc' := 27) rfl ?_
    refine st_istore_n hR dX6_findAll_27 rfl (Nat.le_of_ble_eq_true rfl) [1, 2, 0] (lv' := [(0, .ref (q_jo 0)), (1, .int l1_1), (2, .int 0)]) rfl (pc' := 28) rfl ?_
    exact L28 FU _ _ _ _ _ _ _ _ _ _ _ _ _ _ _ _ _ _ _ _ _ _ _ _ _ hM
  · have hM := it_f c_ hM
    refine st_aload_n hR dX6_findAll_8 0 rfl rfl (pc' := 9) rfl ?_
    refine st_get hR dX6_findAll_9 fg_X6_55_2_7 0 0 rfl rfl rfl (pc' := 12) rfl ?_
    cases hM
    exact hret _ _ dX6_findAll_12 (ro_i _)
set_option maxHeartbeats 16000000 in
set_option maxRecDepth 100000 in
theorem k_X1_playFrom {l : Launch} {G : GG} {q_ga q_v q_ah q_sc q_mt q_fe q_go : Nat → Nat} {ga_mostFarms ga_foundMany ga_nights ga_farms ga_restingRow v_night ah_night sc_bones sc_feudsInAll sc_bitten mt_farms mt_fences mt_shares mt_toothed fe_steps go_steps : Int32} {v_g ah_g : Int64} {ga_losses ga_known ga_found ga_been v_flock v_hunger v_lean v_fed v_taken v_pacts v_levels v_facts ah_flock ah_hunger ah_lean ah_fed ah_taken ah_pacts ah_levels ah_facts sc_kept sc_feuds sc_bites mt_flock mt_dogs mt_hunger mt_fenced mt_heights mt_pacts mt_partner mt_often fe_kinds fe_lefts fe_rights fe_values go_kinds go_lefts go_rights go_values : Nat → Int32} {mt_names : Nat → Int64} {ah_mountain : Nat} {l1 : Int32} {o_r : Int32} {o_ga_losses : Nat → Int32} {o_ga_known : Nat → Int32} {o_ga_been : Nat → Int32} {o_ga_restingRow : Int32} {o_ah_mountain : Nat} {o_ah_night : Int32} {o_ah_g : Int64} {o_ah_flock : Nat → Int32} {o_ah_hunger : Nat → Int32} {o_ah_lean : Nat → Int32} {o_ah_fed : Nat → Int32} {o_ah_taken : Nat → Int32} {o_ah_pacts : Nat → Int32} {o_ah_levels : Nat → Int32} {o_ah_facts : Nat → Int32} {o_sc_kept : Nat → Int32} {o_sc_feuds : Nat → Int32} {o_sc_bones : Int32} {o_sc_feudsInAll : Int32} {o_fe_values : Nat → Int32} {o_go_values : Nat → Int32} (hM : f_X1_playFrom ga_nights ga_farms v_night v_g v_flock v_hunger v_lean v_fed v_taken v_pacts v_levels mt_farms mt_dogs mt_fenced mt_heights mt_partner fe_kinds fe_lefts fe_rights fe_steps go_kinds go_lefts go_rights go_steps ga_losses ga_known ga_been ga_restingRow ah_mountain ah_night ah_g ah_flock ah_hunger ah_lean ah_fed ah_taken ah_pacts ah_levels ah_facts sc_kept sc_feuds sc_bones sc_feudsInAll fe_values go_values (q_mt 0) l1 = some (o_r, o_ga_losses, o_ga_known, o_ga_been, o_ga_restingRow, o_ah_mountain, o_ah_night, o_ah_g, o_ah_flock, o_ah_hunger, o_ah_lean, o_ah_fed, o_ah_taken, o_ah_pacts, o_ah_levels, o_ah_facts, o_sc_kept, o_sc_feuds, o_sc_bones, o_sc_feudsInAll, o_fe_values, o_go_values)) : MC l G yX1_playFrom cX1_playFrom 7 (some .int) (RM 5) [.ref (q_ga 0), .int l1] [wX1 G q_ga (q_v 0) (q_ah 0) (q_sc 0) ga_mostFarms ga_losses ga_known ga_found ga_foundMany ga_nights ga_farms ga_been ga_restingRow, wX9 G q_v (q_mt 0) v_night v_g v_flock v_hunger v_lean v_fed v_taken v_pacts v_levels v_facts, wX9 G q_ah ah_mountain ah_night ah_g ah_flock ah_hunger ah_lean ah_fed ah_taken ah_pacts ah_levels ah_facts, wX0 G q_sc sc_kept sc_feuds sc_bites sc_bones sc_feudsInAll sc_bitten, wX5 G q_mt mt_farms mt_fences mt_shares mt_names mt_flock mt_dogs mt_hunger mt_fenced mt_heights mt_pacts mt_partner mt_often mt_toothed (q_fe 0) (q_go 0), wX3 G q_fe fe_kinds fe_lefts fe_rights fe_values fe_steps, wX3 G q_go go_kinds go_lefts go_rights go_values go_steps] (some (.int o_r)) [wX1 G q_ga (q_v 0) (q_ah 0) (q_sc 0) ga_mostFarms o_ga_losses o_ga_known ga_found ga_foundMany ga_nights ga_farms o_ga_been o_ga_restingRow, wX9 G q_v (q_mt 0) v_night v_g v_flock v_hunger v_lean v_fed v_taken v_pacts v_levels v_facts, wX9 G q_ah o_ah_mountain o_ah_night o_ah_g o_ah_flock o_ah_hunger o_ah_lean o_ah_fed o_ah_taken o_ah_pacts o_ah_levels o_ah_facts, wX0 G q_sc o_sc_kept o_sc_feuds sc_bites o_sc_bones o_sc_feudsInAll sc_bitten, wX5 G q_mt mt_farms mt_fences mt_shares mt_names mt_flock mt_dogs mt_hunger mt_fenced mt_heights mt_pacts mt_partner mt_often mt_toothed (q_fe 0) (q_go 0), wX3 G q_fe fe_kinds fe_lefts fe_rights o_fe_values fe_steps, wX3 G q_go go_kinds go_lefts go_rights o_go_values go_steps] := by
  refine MC.of pn_X1 (Nat.le_of_ble_eq_true rfl) (fun K hR hret => ?_)
  have hR : Rl l G RX1 cX1_playFrom 7 (RM 5) K := hR
  show K [wX1 G q_ga (q_v 0) (q_ah 0) (q_sc 0) ga_mostFarms ga_losses ga_known ga_found ga_foundMany ga_nights ga_farms ga_been ga_restingRow, wX9 G q_v (q_mt 0) v_night v_g v_flock v_hunger v_lean v_fed v_taken v_pacts v_levels v_facts, wX9 G q_ah ah_mountain ah_night ah_g ah_flock ah_hunger ah_lean ah_fed ah_taken ah_pacts ah_levels ah_facts, wX0 G q_sc sc_kept sc_feuds sc_bites sc_bones sc_feudsInAll sc_bitten, wX5 G q_mt mt_farms mt_fences mt_shares mt_names mt_flock mt_dogs mt_hunger mt_fenced mt_heights mt_pacts mt_partner mt_often mt_toothed (q_fe 0) (q_go 0), wX3 G q_fe fe_kinds fe_lefts fe_rights fe_values fe_steps, wX3 G q_go go_kinds go_lefts go_rights go_values go_steps] [(0, .ref (q_ga 0)), (1, .int l1)] 0 []
  have L17 : ∀ (n17 : Nat) (ga_losses : Nat → Int32) (ga_known : Nat → Int32) (ga_been : Nat → Int32) (ga_restingRow : Int32) (ah_mountain : Nat) (ah_night : Int32) (ah_g : Int64) (ah_flock : Nat → Int32) (ah_hunger : Nat → Int32) (ah_lean : Nat → Int32) (ah_fed : Nat → Int32) (ah_taken : Nat → Int32) (ah_pacts : Nat → Int32) (ah_levels : Nat → Int32) (ah_facts : Nat → Int32) (sc_kept : Nat → Int32) (sc_feuds : Nat → Int32) (sc_bones : Int32) (sc_feudsInAll : Int32) (fe_values : Nat → Int32) (go_values : Nat → Int32) (l2 : Int32) (l3 : Int32), f_X1_playFrom_L17  ga_nights ga_farms v_night v_g v_flock v_hunger v_lean v_fed v_taken v_pacts v_levels mt_farms mt_dogs mt_fenced mt_heights mt_partner fe_kinds fe_lefts fe_rights fe_steps go_kinds go_lefts go_rights go_steps (q_mt 0) n17 ga_losses ga_known ga_been ga_restingRow ah_mountain ah_night ah_g ah_flock ah_hunger ah_lean ah_fed ah_taken ah_pacts ah_levels ah_facts sc_kept sc_feuds sc_bones sc_feudsInAll fe_values go_values l2 l3 = some (o_r, o_ga_losses, o_ga_known, o_ga_been, o_ga_restingRow, o_ah_mountain, o_ah_night, o_ah_g, o_ah_flock, o_ah_hunger, o_ah_lean, o_ah_fed, o_ah_taken, o_ah_pacts, o_ah_levels, o_ah_facts, o_sc_kept, o_sc_feuds, o_sc_bones, o_sc_feudsInAll, o_fe_values, o_go_values) → K [wX1 G q_ga (q_v 0) (q_ah 0) (q_sc 0) ga_mostFarms ga_losses ga_known ga_found ga_foundMany ga_nights ga_farms ga_been ga_restingRow, wX9 G q_v (q_mt 0) v_night v_g v_flock v_hunger v_lean v_fed v_taken v_pacts v_levels v_facts, wX9 G q_ah ah_mountain ah_night ah_g ah_flock ah_hunger ah_lean ah_fed ah_taken ah_pacts ah_levels ah_facts, wX0 G q_sc sc_kept sc_feuds sc_bites sc_bones sc_feudsInAll sc_bitten, wX5 G q_mt mt_farms mt_fences mt_shares mt_names mt_flock mt_dogs mt_hunger mt_fenced mt_heights mt_pacts mt_partner mt_often mt_toothed (q_fe 0) (q_go 0), wX3 G q_fe fe_kinds fe_lefts fe_rights fe_values fe_steps, wX3 G q_go go_kinds go_lefts go_rights go_values go_steps] [(0, .ref (q_ga 0)), (2, .int l2), (3, .int l3)] 17 [] := by
    intro n17
    induction n17 with
    | zero => intro ga_losses ga_known ga_been ga_restingRow ah_mountain ah_night ah_g ah_flock ah_hunger ah_lean ah_fed ah_taken ah_pacts ah_levels ah_facts sc_kept sc_feuds sc_bones sc_feudsInAll fe_values go_values l2 l3 hM; exact no_some hM
    | succ n17 ih17 =>
      have L37 : ∀ (n37 : Nat) (ga_losses : Nat → Int32) (ga_known : Nat → Int32) (ga_been : Nat → Int32) (ga_restingRow : Int32) (ah_mountain : Nat) (ah_night : Int32) (ah_g : Int64) (ah_flock : Nat → Int32) (ah_hunger : Nat → Int32) (ah_lean : Nat → Int32) (ah_fed : Nat → Int32) (ah_taken : Nat → Int32) (ah_pacts : Nat → Int32) (ah_levels : Nat → Int32) (ah_facts : Nat → Int32) (sc_kept : Nat → Int32) (sc_feuds : Nat → Int32) (sc_bones : Int32) (sc_feudsInAll : Int32) (fe_values : Nat → Int32) (go_values : Nat → Int32) (l2 : Int32) (l3 : Int32) (l4 : Int32) (l5 : Int32), f_X1_playFrom_L37  (f_X1_playFrom_L17  ga_nights ga_farms v_night v_g v_flock v_hunger v_lean v_fed v_taken v_pacts v_levels mt_farms mt_dogs mt_fenced mt_heights mt_partner fe_kinds fe_lefts fe_rights fe_steps go_kinds go_lefts go_rights go_steps (q_mt 0) n17) ga_nights ga_farms v_night v_g v_flock v_hunger v_lean v_fed v_taken v_pacts v_levels mt_farms mt_dogs mt_fenced mt_heights mt_partner fe_kinds fe_lefts fe_rights fe_steps go_kinds go_lefts go_rights go_steps (q_mt 0) n37 ga_losses ga_known ga_been ga_restingRow ah_mountain ah_night ah_g ah_flock ah_hunger ah_lean ah_fed ah_taken ah_pacts ah_levels ah_facts sc_kept sc_feuds sc_bones sc_feudsInAll fe_values go_values l2 l3 l4 l5 = some (o_r, o_ga_losses, o_ga_known, o_ga_been, o_ga_restingRow, o_ah_mountain, o_ah_night, o_ah_g, o_ah_flock, o_ah_hunger, o_ah_lean, o_ah_fed, o_ah_taken, o_ah_pacts, o_ah_levels, o_ah_facts, o_sc_kept, o_sc_feuds, o_sc_bones, o_sc_feudsInAll, o_fe_values, o_go_values) → K [wX1 G q_ga (q_v 0) (q_ah 0) (q_sc 0) ga_mostFarms ga_losses ga_known ga_found ga_foundMany ga_nights ga_farms ga_been ga_restingRow, wX9 G q_v (q_mt 0) v_night v_g v_flock v_hunger v_lean v_fed v_taken v_pacts v_levels v_facts, wX9 G q_ah ah_mountain ah_night ah_g ah_flock ah_hunger ah_lean ah_fed ah_taken ah_pacts ah_levels ah_facts, wX0 G q_sc sc_kept sc_feuds sc_bites sc_bones sc_feudsInAll sc_bitten, wX5 G q_mt mt_farms mt_fences mt_shares mt_names mt_flock mt_dogs mt_hunger mt_fenced mt_heights mt_pacts mt_partner mt_often mt_toothed (q_fe 0) (q_go 0), wX3 G q_fe fe_kinds fe_lefts fe_rights fe_values fe_steps, wX3 G q_go go_kinds go_lefts go_rights go_values go_steps] [(0, .ref (q_ga 0)), (2, .int l2), (3, .int l3), (4, .int l4), (5, .int l5)] 37 [] := by
        intro n37
        induction n37 with
        | zero => intro ga_losses ga_known ga_been ga_restingRow ah_mountain ah_night ah_g ah_flock ah_hunger ah_lean ah_fed ah_taken ah_pacts ah_levels ah_facts sc_kept sc_feuds sc_bones sc_feudsInAll fe_values go_values l2 l3 l4 l5 hM; exact no_some hM
        | succ n37 ih37 =>
          have L49 : ∀ (n49 : Nat) (ga_losses : Nat → Int32) (ga_known : Nat → Int32) (ga_been : Nat → Int32) (ga_restingRow : Int32) (ah_mountain : Nat) (ah_night : Int32) (ah_g : Int64) (ah_flock : Nat → Int32) (ah_hunger : Nat → Int32) (ah_lean : Nat → Int32) (ah_fed : Nat → Int32) (ah_taken : Nat → Int32) (ah_pacts : Nat → Int32) (ah_levels : Nat → Int32) (ah_facts : Nat → Int32) (sc_kept : Nat → Int32) (sc_feuds : Nat → Int32) (sc_bones : Int32) (sc_feudsInAll : Int32) (fe_values : Nat → Int32) (go_values : Nat → Int32) (l2 : Int32) (l3 : Int32) (l4 : Int32) (l5 : Int32) (l6 : Int32), f_X1_playFrom_L49  (f_X1_playFrom_L17  ga_nights ga_farms v_night v_g v_flock v_hunger v_lean v_fed v_taken v_pacts v_levels mt_farms mt_dogs mt_fenced mt_heights mt_partner fe_kinds fe_lefts fe_rights fe_steps go_kinds go_lefts go_rights go_steps (q_mt 0) n17) (f_X1_playFrom_L37  (f_X1_playFrom_L17  ga_nights ga_farms v_night v_g v_flock v_hunger v_lean v_fed v_taken v_pacts v_levels mt_farms mt_dogs mt_fenced mt_heights mt_partner fe_kinds fe_lefts fe_rights fe_steps go_kinds go_lefts go_rights go_steps (q_mt 0) n17) ga_nights ga_farms v_night v_g v_flock v_hunger v_lean v_fed v_taken v_pacts v_levels mt_farms mt_dogs mt_fenced mt_heights mt_partner fe_kinds fe_lefts fe_rights fe_steps go_kinds go_lefts go_rights go_steps (q_mt 0) n37) ga_nights ga_farms v_night v_g v_flock v_hunger v_lean v_fed v_taken v_pacts v_levels mt_farms mt_dogs mt_fenced mt_heights mt_partner fe_kinds fe_lefts fe_rights fe_steps go_kinds go_lefts go_rights go_steps (q_mt 0) n49 ga_losses ga_known ga_been ga_restingRow ah_mountain ah_night ah_g ah_flock ah_hunger ah_lean ah_fed ah_taken ah_pacts ah_levels ah_facts sc_kept sc_feuds sc_bones sc_feudsInAll fe_values go_values l2 l3 l4 l5 l6 = some (o_r, o_ga_losses, o_ga_known, o_ga_been, o_ga_restingRow, o_ah_mountain, o_ah_night, o_ah_g, o_ah_flock, o_ah_hunger, o_ah_lean, o_ah_fed, o_ah_taken, o_ah_pacts, o_ah_levels, o_ah_facts, o_sc_kept, o_sc_feuds, o_sc_bones, o_sc_feudsInAll, o_fe_values, o_go_values) → K [wX1 G q_ga (q_v 0) (q_ah 0) (q_sc 0) ga_mostFarms ga_losses ga_known ga_found ga_foundMany ga_nights ga_farms ga_been ga_restingRow, wX9 G q_v (q_mt 0) v_night v_g v_flock v_hunger v_lean v_fed v_taken v_pacts v_levels v_facts, wX9 G q_ah ah_mountain ah_night ah_g ah_flock ah_hunger ah_lean ah_fed ah_taken ah_pacts ah_levels ah_facts, wX0 G q_sc sc_kept sc_feuds sc_bites sc_bones sc_feudsInAll sc_bitten, wX5 G q_mt mt_farms mt_fences mt_shares mt_names mt_flock mt_dogs mt_hunger mt_fenced mt_heights mt_pacts mt_partner mt_often mt_toothed (q_fe 0) (q_go 0), wX3 G q_fe fe_kinds fe_lefts fe_rights fe_values fe_steps, wX3 G q_go go_kinds go_lefts go_rights go_values go_steps] [(0, .ref (q_ga 0)), (2, .int l2), (3, .int l3), (4, .int l4), (5, .int l5), (6, .int l6)] 49 [] := by
            intro n49
            induction n49 with
            | zero => intro ga_losses ga_known ga_been ga_restingRow ah_mountain ah_night ah_g ah_flock ah_hunger ah_lean ah_fed ah_taken ah_pacts ah_levels ah_facts sc_kept sc_feuds sc_bones sc_feudsInAll fe_values go_values l2 l3 l4 l5 l6 hM; exact no_some hM
            | succ n49 ih49 =>
              intro ga_losses ga_known ga_been ga_restingRow ah_mountain ah_night ah_g ah_flock ah_hunger ah_lean ah_fed ah_taken ah_pacts ah_levels ah_facts sc_kept sc_feuds sc_bones sc_feudsInAll fe_values go_values l2 l3 l4 l5 l6 hM
              have hM : f_X1_playFrom_L49b  (f_X1_playFrom_L17  ga_nights ga_farms v_night v_g v_flock v_hunger v_lean v_fed v_taken v_pacts v_levels mt_farms mt_dogs mt_fenced mt_heights mt_partner fe_kinds fe_lefts fe_rights fe_steps go_kinds go_lefts go_rights go_steps (q_mt 0) n17) (f_X1_playFrom_L37  (f_X1_playFrom_L17  ga_nights ga_farms v_night v_g v_flock v_hunger v_lean v_fed v_taken v_pacts v_levels mt_farms mt_dogs mt_fenced mt_heights mt_partner fe_kinds fe_lefts fe_rights fe_steps go_kinds go_lefts go_rights go_steps (q_mt 0) n17) ga_nights ga_farms v_night v_g v_flock v_hunger v_lean v_fed v_taken v_pacts v_levels mt_farms mt_dogs mt_fenced mt_heights mt_partner fe_kinds fe_lefts fe_rights fe_steps go_kinds go_lefts go_rights go_steps (q_mt 0) n37) (f_X1_playFrom_L49  (f_X1_playFrom_L17  ga_nights ga_farms v_night v_g v_flock v_hunger v_lean v_fed v_taken v_pacts v_levels mt_farms mt_dogs mt_fenced mt_heights mt_partner fe_kinds fe_lefts fe_rights fe_steps go_kinds go_lefts go_rights go_steps (q_mt 0) n17) (f_X1_playFrom_L37  (f_X1_playFrom_L17  ga_nights ga_farms v_night v_g v_flock v_hunger v_lean v_fed v_taken v_pacts v_levels mt_farms mt_dogs mt_fenced mt_heights mt_partner fe_kinds fe_lefts fe_rights fe_steps go_kinds go_lefts go_rights go_steps (q_mt 0) n17) ga_nights ga_farms v_night v_g v_flock v_hunger v_lean v_fed v_taken v_pacts v_levels mt_farms mt_dogs mt_fenced mt_heights mt_partner fe_kinds fe_lefts fe_rights fe_steps go_kinds go_lefts go_rights go_steps (q_mt 0) n37) ga_nights ga_farms v_night v_g v_flock v_hunger v_lean v_fed v_taken v_pacts v_levels mt_farms mt_dogs mt_fenced mt_heights mt_partner fe_kinds fe_lefts fe_rights fe_steps go_kinds go_lefts go_rights go_steps (q_mt 0) n49) ga_nights ga_farms v_night v_g v_flock v_hunger v_lean v_fed v_taken v_pacts v_levels mt_farms mt_dogs mt_fenced mt_heights mt_partner fe_kinds fe_lefts fe_rights fe_steps go_kinds go_lefts go_rights go_steps (q_mt 0) ga_losses ga_known ga_been ga_restingRow ah_mountain ah_night ah_g ah_flock ah_hunger ah_lean ah_fed ah_taken ah_pacts ah_levels ah_facts sc_kept sc_feuds sc_bones sc_feudsInAll fe_values go_values l2 l3 l4 l5 l6 = some (o_r, o_ga_losses, o_ga_known, o_ga_been, o_ga_restingRow, o_ah_mountain, o_ah_night, o_ah_g, o_ah_flock, o_ah_hunger, o_ah_lean, o_ah_fed, o_ah_taken, o_ah_pacts, o_ah_levels, o_ah_facts, o_sc_kept, o_sc_feuds, o_sc_bones, o_sc_feudsInAll, o_fe_values, o_go_values) := hM
              refine st_iload hR dX1_playFrom_49 5 rfl (pc' := 51) rfl ?_
              refine st_iconst hR dX1_playFrom_51 (v := 4) rfl (pc' := 52) rfl ?_
              refine st_icmp_ge hR dX1_playFrom_52 (tgt := 73) (by decide) (pc' := 55) rfl (fun c_ => ?_) (fun c_ => ?_)
              · have hM := it_t c_ hM
                refine st_aload_n hR dX1_playFrom_73 0 rfl rfl (pc' := 74) rfl ?_
                refine st_iload_n hR dX1_playFrom_74 1 rfl rfl (pc' := 75) rfl ?_
                refine st_iload hR dX1_playFrom_75 4 rfl (pc' := 77) rfl ?_
                obtain ⟨r_1, hc_, hM⟩ := bd_e hM
                refine st_callV hR (k_X1_answer hc_) cf_X1_27 (rm_le (Nat.le_of_ble_eq_true rfl) (Nat.le_of_ble_eq_true rfl)) [0] rfl rfl rfl 0 0 1 12 rfl rfl rfl rfl (rest := []) rfl (Nat.le_of_ble_eq_true rfl) dX1_playFrom_77 (pc' := 80) rfl (Wn := [wX1 G q_ga (q_v 0) (q_ah 0) (q_sc 0) ga_mostFarms ga_losses ga_known ga_found ga_foundMany ga_nights ga_farms ga_been ga_restingRow, wX9 G q_v (q_mt 0) v_night v_g v_flock v_hunger v_lean v_fed v_taken v_pacts v_levels v_facts, wX9 G q_ah ah_mountain ah_night ah_g ah_flock ah_hunger ah_lean ah_fed ah_taken ah_pacts ah_levels ah_facts, wX0 G q_sc sc_kept sc_feuds sc_bites sc_bones sc_feudsInAll sc_bitten, wX5 G q_mt mt_farms mt_fences mt_shares mt_names mt_flock mt_dogs mt_hunger mt_fenced mt_heights mt_pacts mt_partner mt_often mt_toothed (q_fe 0) (q_go 0), wX3 G q_fe fe_kinds fe_lefts fe_rights fe_values fe_steps, wX3 G q_go go_kinds go_lefts go_rights go_values go_steps]) rfl ?_
                refine st_istore_n hR dX1_playFrom_80 rfl (Nat.le_of_ble_eq_true rfl) [1, 0, 2, 3, 4, 5] (lv' := [(0, .ref (q_ga 0)), (2, .int r_1), (3, .int l3), (4, .int l4), (5, .int l5), (6, .int l6)]) rfl (pc' := 81) rfl ?_
                obtain ⟨l5_1, e_⟩ : ∃ y : Int32, y = l5 + 1 := ⟨_, rfl⟩
                refine st_iinc hR dX1_playFrom_81 (Nat.le_of_ble_eq_true rfl) 4 [1, 2, 3, 4, 0, 5] (v := l5_1) rfl (by rw [e_]; rfl) (lv' := [(0, .ref (q_ga 0)), (2, .int r_1), (3, .int l3), (4, .int l4), (5, .int l5_1), (6, .int l6)]) rfl (pc' := 84) rfl ?_
                have hM := lt_e e_ hM
                refine st_goto hR dX1_playFrom_84 (tgt := 37) (by decide) ?_
                exact st_lv hR [0, 1, 2, 3, 4] rfl (ih37 _ _ _ _ _ _ _ _ _ _ _ _ _ _ _ _ _ _ _ _ _ _ _ _ _ hM)
              · have hM := it_f c_ hM
                refine st_aload_n hR dX1_playFrom_55 0 rfl rfl (pc' := 56) rfl ?_
                refine st_iload_n hR dX1_playFrom_56 1 rfl rfl (pc' := 57) rfl ?_
                refine st_iload hR dX1_playFrom_57 4 rfl (pc' := 59) rfl ?_
                refine st_iload hR dX1_playFrom_59 5 rfl (pc' := 61) rfl ?_
                obtain ⟨r_2, hc_, hM⟩ := bd_e hM
                refine st_callS hR (k_X1_withLevel hc_) cf_X1_41 (rm_le (Nat.le_of_ble_eq_true rfl) (Nat.le_of_ble_eq_true rfl)) [] rfl rfl rfl rfl (rest := [.ref (q_ga 0)]) rfl (Nat.le_of_ble_eq_true rfl) dX1_playFrom_61 (pc' := 64) rfl (Wn := [wX1 G q_ga (q_v 0) (q_ah 0) (q_sc 0) ga_mostFarms ga_losses ga_known ga_found ga_foundMany ga_nights ga_farms ga_been ga_restingRow, wX9 G q_v (q_mt 0) v_night v_g v_flock v_hunger v_lean v_fed v_taken v_pacts v_levels v_facts, wX9 G q_ah ah_mountain ah_night ah_g ah_flock ah_hunger ah_lean ah_fed ah_taken ah_pacts ah_levels ah_facts, wX0 G q_sc sc_kept sc_feuds sc_bites sc_bones sc_feudsInAll sc_bitten, wX5 G q_mt mt_farms mt_fences mt_shares mt_names mt_flock mt_dogs mt_hunger mt_fenced mt_heights mt_pacts mt_partner mt_often mt_toothed (q_fe 0) (q_go 0), wX3 G q_fe fe_kinds fe_lefts fe_rights fe_values fe_steps, wX3 G q_go go_kinds go_lefts go_rights go_values go_steps]) rfl ?_
                obtain ⟨⟨ga_losses_1, ga_known_1, ah_mountain_1, ah_night_1, ah_g_1, ah_flock_1, ah_hunger_1, ah_lean_1, ah_fed_1, ah_taken_1, ah_pacts_1, ah_levels_1, ah_facts_1, sc_kept_1, sc_feuds_1, sc_bones_1, sc_feudsInAll_1, fe_values_1, go_values_1⟩, hc_, hM⟩ := bd_e hM
                refine st_callU hR (k_X6_lookAt_g hc_) cu_X1_45_X1 (rm_le (Nat.le_of_ble_eq_true rfl) (Nat.le_of_ble_eq_true rfl)) [0, 1, 2, 3, 4, 5, 6] rfl rfl rfl 0 0 1 12 rfl rfl rfl rfl (rest := []) rfl (Nat.le_of_ble_eq_true rfl) dX1_playFrom_64 (pc' := 67) rfl (Wn := [wX1 G q_ga (q_v 0) (q_ah 0) (q_sc 0) ga_mostFarms ga_losses_1 ga_known_1 ga_found ga_foundMany ga_nights ga_farms ga_been ga_restingRow, wX9 G q_v (q_mt 0) v_night v_g v_flock v_hunger v_lean v_fed v_taken v_pacts v_levels v_facts, wX9 G q_ah ah_mountain_1 ah_night_1 ah_g_1 ah_flock_1 ah_hunger_1 ah_lean_1 ah_fed_1 ah_taken_1 ah_pacts_1 ah_levels_1 ah_facts_1, wX0 G q_sc sc_kept_1 sc_feuds_1 sc_bites sc_bones_1 sc_feudsInAll_1 sc_bitten, wX5 G q_mt mt_farms mt_fences mt_shares mt_names mt_flock mt_dogs mt_hunger mt_fenced mt_heights mt_pacts mt_partner mt_often mt_toothed (q_fe 0) (q_go 0), wX3 G q_fe fe_kinds fe_lefts fe_rights fe_values_1 fe_steps, wX3 G q_go go_kinds go_lefts go_rights go_values_1 go_steps]) rfl ?_
                obtain ⟨l6_1, e_⟩ : ∃ y : Int32, y = l6 + 1 := ⟨_, rfl⟩
                refine st_iinc hR dX1_playFrom_67 (Nat.le_of_ble_eq_true rfl) 5 [1, 2, 3, 4, 5, 0] (v := l6_1) rfl (by rw [e_]; rfl) (lv' := [(0, .ref (q_ga 0)), (2, .int l2), (3, .int l3), (4, .int l4), (5, .int l5), (6, .int l6_1)]) rfl (pc' := 70) rfl ?_
                have hM := lt_e e_ hM
                refine st_goto hR dX1_playFrom_70 (tgt := 49) (by decide) ?_
                exact ih49 _ _ _ _ _ _ _ _ _ _ _ _ _ _ _ _ _ _ _ _ _ _ _ _ _ _ hM
          intro ga_losses ga_known ga_been ga_restingRow ah_mountain ah_night ah_g ah_flock ah_hunger ah_lean ah_fed ah_taken ah_pacts ah_levels ah_facts sc_kept sc_feuds sc_bones sc_feudsInAll fe_values go_values l2 l3 l4 l5 hM
          have hM : f_X1_playFrom_L37b  (f_X1_playFrom_L17  ga_nights ga_farms v_night v_g v_flock v_hunger v_lean v_fed v_taken v_pacts v_levels mt_farms mt_dogs mt_fenced mt_heights mt_partner fe_kinds fe_lefts fe_rights fe_steps go_kinds go_lefts go_rights go_steps (q_mt 0) n17) (f_X1_playFrom_L37  (f_X1_playFrom_L17  ga_nights ga_farms v_night v_g v_flock v_hunger v_lean v_fed v_taken v_pacts v_levels mt_farms mt_dogs mt_fenced mt_heights mt_partner fe_kinds fe_lefts fe_rights fe_steps go_kinds go_lefts go_rights go_steps (q_mt 0) n17) ga_nights ga_farms v_night v_g v_flock v_hunger v_lean v_fed v_taken v_pacts v_levels mt_farms mt_dogs mt_fenced mt_heights mt_partner fe_kinds fe_lefts fe_rights fe_steps go_kinds go_lefts go_rights go_steps (q_mt 0) n37) ga_nights ga_farms v_night v_g v_flock v_hunger v_lean v_fed v_taken v_pacts v_levels mt_farms mt_dogs mt_fenced mt_heights mt_partner fe_kinds fe_lefts fe_rights fe_steps go_kinds go_lefts go_rights go_steps (q_mt 0) ga_losses ga_known ga_been ga_restingRow ah_mountain ah_night ah_g ah_flock ah_hunger ah_lean ah_fed ah_taken ah_pacts ah_levels ah_facts sc_kept sc_feuds sc_bones sc_feudsInAll fe_values go_values l2 l3 l4 l5 = some (o_r, o_ga_losses, o_ga_known, o_ga_been, o_ga_restingRow, o_ah_mountain, o_ah_night, o_ah_g, o_ah_flock, o_ah_hunger, o_ah_lean, o_ah_fed, o_ah_taken, o_ah_pacts, o_ah_levels, o_ah_facts, o_sc_kept, o_sc_feuds, o_sc_bones, o_sc_feudsInAll, o_fe_values, o_go_values) := hM
          refine st_iload hR dX1_playFrom_37 4 rfl (pc' := 39) rfl ?_
          refine st_aload_n hR dX1_playFrom_39 0 rfl rfl (pc' := 40) rfl ?_
          obtain ⟨r_1, hc_, hM⟩ := bd_e hM
          refine st_callU hR (k_X6_farms_g hc_) cu_X1_15_X1 (rm_le (Nat.le_of_ble_eq_true rfl) (Nat.le_of_ble_eq_true rfl)) [0] rfl rfl rfl 0 0 1 12 rfl rfl rfl rfl (rest := [.int l5]) rfl (Nat.le_of_ble_eq_true rfl) dX1_playFrom_40 (pc' := 43) rfl (Wn := [wX1 G q_ga (q_v 0) (q_ah 0) (q_sc 0) ga_mostFarms ga_losses ga_known ga_found ga_foundMany ga_nights ga_farms ga_been ga_restingRow, wX9 G q_v (q_mt 0) v_night v_g v_flock v_hunger v_lean v_fed v_taken v_pacts v_levels v_facts, wX9 G q_ah ah_mountain ah_night ah_g ah_flock ah_hunger ah_lean ah_fed ah_taken ah_pacts ah_levels ah_facts, wX0 G q_sc sc_kept sc_feuds sc_bites sc_bones sc_feudsInAll sc_bitten, wX5 G q_mt mt_farms mt_fences mt_shares mt_names mt_flock mt_dogs mt_hunger mt_fenced mt_heights mt_pacts mt_partner mt_often mt_toothed (q_fe 0) (q_go 0), wX3 G q_fe fe_kinds fe_lefts fe_rights fe_values fe_steps, wX3 G q_go go_kinds go_lefts go_rights go_values go_steps]) rfl ?_
          refine st_icmp_ge hR dX1_playFrom_43 (tgt := 87) (by decide) (pc' := 46) rfl (fun c_ => ?_) (fun c_ => ?_)
          · have hM := it_t c_ hM
            refine st_iload_n hR dX1_playFrom_87 1 rfl rfl (pc' := 88) rfl ?_
            refine st_iload hR dX1_playFrom_88 3 rfl (pc' := 90) rfl ?_
            refine st_icmp_ne hR dX1_playFrom_90 (tgt := 100) (by decide) (pc' := 93) rfl (fun c_ => ?_) (fun c_ => ?_)
            · have hM := it_f c_ hM
              refine st_aload_n hR dX1_playFrom_100 0 rfl rfl (pc' := 101) rfl ?_
              refine st_get hR dX1_playFrom_101 fg_X1_11_1_10 0 0 rfl rfl rfl (pc' := 104) rfl ?_
              refine st_iload_n hR dX1_playFrom_104 1 rfl rfl (pc' := 105) rfl ?_
              obtain ⟨hin_, hM⟩ := g_in_e hM
              refine st_iald hR dX1_playFrom_105 0 4 rfl rfl hin_ (v := ga_been (ix l2)) rfl (pc' := 106) rfl ?_
              refine st_if_eq hR dX1_playFrom_106 (tgt := 111) (by decide) (pc' := 109) rfl (fun c_ => ?_) (fun c_ => ?_)
              · have hM := it_t c_ hM
                obtain ⟨l3_1, e_⟩ : ∃ y : Int32, y = l3 + 1 := ⟨_, rfl⟩
                refine st_iinc hR dX1_playFrom_111 (Nat.le_of_ble_eq_true rfl) 2 [1, 2, 0, 3, 4] (v := l3_1) rfl (by rw [e_]; rfl) (lv' := [(0, .ref (q_ga 0)), (2, .int l2), (3, .int l3_1), (4, .int l4), (5, .int l5)]) rfl (pc' := 114) rfl ?_
                have hM := lt_e e_ hM
                refine st_goto hR dX1_playFrom_114 (tgt := 17) (by decide) ?_
                exact st_lv hR [0, 1, 2] rfl (ih17 _ _ _ _ _ _ _ _ _ _ _ _ _ _ _ _ _ _ _ _ _ _ _ hM)
              · have hM := it_f c_ hM
                refine st_iload_n hR dX1_playFrom_109 2 rfl rfl (pc' := 110) rfl ?_
                cases hM
                exact hret _ _ dX1_playFrom_110 (ro_i _)
            · have hM := it_t c_ hM
              refine st_aload_n hR dX1_playFrom_93 0 rfl rfl (pc' := 94) rfl ?_
              refine st_iload_n hR dX1_playFrom_94 1 rfl rfl (pc' := 95) rfl ?_
              refine st_put hR dX1_playFrom_95 fp_X1_37_1_11 0 0 rfl rfl (Nat.le_of_ble_eq_true rfl) rfl rfl (pc' := 98) rfl (W' := [wX1 G q_ga (q_v 0) (q_ah 0) (q_sc 0) ga_mostFarms ga_losses ga_known ga_found ga_foundMany ga_nights ga_farms ga_been l2, wX9 G q_v (q_mt 0) v_night v_g v_flock v_hunger v_lean v_fed v_taken v_pacts v_levels v_facts, wX9 G q_ah ah_mountain ah_night ah_g ah_flock ah_hunger ah_lean ah_fed ah_taken ah_pacts ah_levels ah_facts, wX0 G q_sc sc_kept sc_feuds sc_bites sc_bones sc_feudsInAll sc_bitten, wX5 G q_mt mt_farms mt_fences mt_shares mt_names mt_flock mt_dogs mt_hunger mt_fenced mt_heights mt_pacts mt_partner mt_often mt_toothed (q_fe 0) (q_go 0), wX3 G q_fe fe_kinds fe_lefts fe_rights fe_values fe_steps, wX3 G q_go go_kinds go_lefts go_rights go_values go_steps]) rfl ?_
              refine st_iload_n hR dX1_playFrom_98 2 rfl rfl (pc' := 99) rfl ?_
              cases hM
              exact hret _ _ dX1_playFrom_99 (ro_i _)
          · have hM := it_f c_ hM
            refine st_iconst hR dX1_playFrom_46 (v := 0) rfl (pc' := 47) rfl ?_
            refine st_istore hR dX1_playFrom_47 (Nat.le_of_ble_eq_true rfl) [1, 2, 3, 4, 5, 0] (lv' := [(0, .ref (q_ga 0)), (2, .int l2), (3, .int l3), (4, .int l4), (5, .int l5), (6, .int 0)]) rfl (pc' := 49) rfl ?_
            exact L49 FU _ _ _ _ _ _ _ _ _ _ _ _ _ _ _ _ _ _ _ _ _ _ _ _ _ _ hM
      intro ga_losses ga_known ga_been ga_restingRow ah_mountain ah_night ah_g ah_flock ah_hunger ah_lean ah_fed ah_taken ah_pacts ah_levels ah_facts sc_kept sc_feuds sc_bones sc_feudsInAll fe_values go_values l2 l3 hM
      have hM : f_X1_playFrom_L17b  (f_X1_playFrom_L17  ga_nights ga_farms v_night v_g v_flock v_hunger v_lean v_fed v_taken v_pacts v_levels mt_farms mt_dogs mt_fenced mt_heights mt_partner fe_kinds fe_lefts fe_rights fe_steps go_kinds go_lefts go_rights go_steps (q_mt 0) n17) ga_nights ga_farms v_night v_g v_flock v_hunger v_lean v_fed v_taken v_pacts v_levels mt_farms mt_dogs mt_fenced mt_heights mt_partner fe_kinds fe_lefts fe_rights fe_steps go_kinds go_lefts go_rights go_steps (q_mt 0) ga_losses ga_known ga_been ga_restingRow ah_mountain ah_night ah_g ah_flock ah_hunger ah_lean ah_fed ah_taken ah_pacts ah_levels ah_facts sc_kept sc_feuds sc_bones sc_feudsInAll fe_values go_values l2 l3 = some (o_r, o_ga_losses, o_ga_known, o_ga_been, o_ga_restingRow, o_ah_mountain, o_ah_night, o_ah_g, o_ah_flock, o_ah_hunger, o_ah_lean, o_ah_fed, o_ah_taken, o_ah_pacts, o_ah_levels, o_ah_facts, o_sc_kept, o_sc_feuds, o_sc_bones, o_sc_feudsInAll, o_fe_values, o_go_values) := hM
      refine st_iload_n hR dX1_playFrom_17 2 rfl rfl (pc' := 18) rfl ?_
      refine st_sipush hR dX1_playFrom_18 (v := 257) rfl (pc' := 21) rfl ?_
      refine st_icmp_gt hR dX1_playFrom_21 (tgt := 117) (by decide) (pc' := 24) rfl (fun c_ => ?_) (fun c_ => ?_)
      · have hM := it_t c_ hM
        refine st_iconst hR dX1_playFrom_117 (v := (-1)) (by decide) (pc' := 118) rfl ?_
        cases hM
        exact hret _ _ dX1_playFrom_118 (ro_i _)
      · have hM := it_f c_ hM
        refine st_aload_n hR dX1_playFrom_24 0 rfl rfl (pc' := 25) rfl ?_
        refine st_get hR dX1_playFrom_25 fg_X1_11_1_10 0 0 rfl rfl rfl (pc' := 28) rfl ?_
        refine st_iload_n hR dX1_playFrom_28 1 rfl rfl (pc' := 29) rfl ?_
        refine st_iconst hR dX1_playFrom_29 (v := 1) rfl (pc' := 30) rfl ?_
        obtain ⟨hin_, hM⟩ := g_in_e hM
        refine st_iast hR dX1_playFrom_30 0 4 rfl rfl hin_ (ix := (ix l2)) rfl (pc' := 31) rfl (fun ga_been_1 => [wX1 G q_ga (q_v 0) (q_ah 0) (q_sc 0) ga_mostFarms ga_losses ga_known ga_found ga_foundMany ga_nights ga_farms ga_been_1 ga_restingRow, wX9 G q_v (q_mt 0) v_night v_g v_flock v_hunger v_lean v_fed v_taken v_pacts v_levels v_facts, wX9 G q_ah ah_mountain ah_night ah_g ah_flock ah_hunger ah_lean ah_fed ah_taken ah_pacts ah_levels ah_facts, wX0 G q_sc sc_kept sc_feuds sc_bites sc_bones sc_feudsInAll sc_bitten, wX5 G q_mt mt_farms mt_fences mt_shares mt_names mt_flock mt_dogs mt_hunger mt_fenced mt_heights mt_pacts mt_partner mt_often mt_toothed (q_fe 0) (q_go 0), wX3 G q_fe fe_kinds fe_lefts fe_rights fe_values fe_steps, wX3 G q_go go_kinds go_lefts go_rights go_values go_steps]) (fun _ => rfl) (fun ga_been_1 e_ => ?_)
        have hM := lt_e e_ hM
        refine st_iload_n hR dX1_playFrom_31 1 rfl rfl (pc' := 32) rfl ?_
        refine st_istore hR dX1_playFrom_32 (Nat.le_of_ble_eq_true rfl) [1, 2, 3, 0] (lv' := [(0, .ref (q_ga 0)), (2, .int l2), (3, .int l3), (4, .int l2)]) rfl (pc' := 34) rfl ?_
        refine st_iconst hR dX1_playFrom_34 (v := 0) rfl (pc' := 35) rfl ?_
        refine st_istore hR dX1_playFrom_35 (Nat.le_of_ble_eq_true rfl) [1, 2, 3, 4, 0] (lv' := [(0, .ref (q_ga 0)), (2, .int l2), (3, .int l3), (4, .int l2), (5, .int 0)]) rfl (pc' := 37) rfl ?_
        exact L37 FU _ _ _ _ _ _ _ _ _ _ _ _ _ _ _ _ _ _ _ _ _ _ _ _ _ hM
  refine st_aload_n hR dX1_playFrom_0 0 rfl rfl (pc' := 1) rfl ?_
  refine st_get hR dX1_playFrom_1 fg_X1_11_1_10 0 0 rfl rfl rfl (pc' := 4) rfl ?_
  refine st_iconst hR dX1_playFrom_4 (v := 0) rfl (pc' := 5) rfl ?_
  refine st_fill hR dX1_playFrom_5 ff_X1_31 (Nat.le_of_ble_eq_true rfl) (Nat.le_of_ble_eq_true rfl) 0 4 rfl rfl (Nat.le_of_ble_eq_true rfl) (rest := []) (Nat.le_of_ble_eq_true rfl) (pc' := 8) rfl (fun ga_been_1 => [wX1 G q_ga (q_v 0) (q_ah 0) (q_sc 0) ga_mostFarms ga_losses ga_known ga_found ga_foundMany ga_nights ga_farms ga_been_1 ga_restingRow, wX9 G q_v (q_mt 0) v_night v_g v_flock v_hunger v_lean v_fed v_taken v_pacts v_levels v_facts, wX9 G q_ah ah_mountain ah_night ah_g ah_flock ah_hunger ah_lean ah_fed ah_taken ah_pacts ah_levels ah_facts, wX0 G q_sc sc_kept sc_feuds sc_bites sc_bones sc_feudsInAll sc_bitten, wX5 G q_mt mt_farms mt_fences mt_shares mt_names mt_flock mt_dogs mt_hunger mt_fenced mt_heights mt_pacts mt_partner mt_often mt_toothed (q_fe 0) (q_go 0), wX3 G q_fe fe_kinds fe_lefts fe_rights fe_values fe_steps, wX3 G q_go go_kinds go_lefts go_rights go_values go_steps]) (fun _ => rfl) (fun ga_been_1 e_ => ?_)
  have hM := lt_e e_ hM
  refine st_iload_n hR dX1_playFrom_8 1 rfl rfl (pc' := 9) rfl ?_
  refine st_istore_n hR dX1_playFrom_9 rfl (Nat.le_of_ble_eq_true rfl) [1, 2, 0] (lv' := [(0, .ref (q_ga 0)), (1, .int l1), (2, .int l1)]) rfl (pc' := 10) rfl ?_
  refine st_aload_n hR dX1_playFrom_10 0 rfl rfl (pc' := 11) rfl ?_
  refine st_iconst hR dX1_playFrom_11 (v := (-1)) (by decide) (pc' := 12) rfl ?_
  refine st_put hR dX1_playFrom_12 fp_X1_37_1_11 0 0 rfl rfl (Nat.le_of_ble_eq_true rfl) rfl rfl (pc' := 15) rfl (W' := [wX1 G q_ga (q_v 0) (q_ah 0) (q_sc 0) ga_mostFarms ga_losses ga_known ga_found ga_foundMany ga_nights ga_farms ga_been_1 (-1), wX9 G q_v (q_mt 0) v_night v_g v_flock v_hunger v_lean v_fed v_taken v_pacts v_levels v_facts, wX9 G q_ah ah_mountain ah_night ah_g ah_flock ah_hunger ah_lean ah_fed ah_taken ah_pacts ah_levels ah_facts, wX0 G q_sc sc_kept sc_feuds sc_bites sc_bones sc_feudsInAll sc_bitten, wX5 G q_mt mt_farms mt_fences mt_shares mt_names mt_flock mt_dogs mt_hunger mt_fenced mt_heights mt_pacts mt_partner mt_often mt_toothed (q_fe 0) (q_go 0), wX3 G q_fe fe_kinds fe_lefts fe_rights fe_values fe_steps, wX3 G q_go go_kinds go_lefts go_rights go_values go_steps]) rfl ?_
  refine st_iconst hR dX1_playFrom_15 (v := 1) rfl (pc' := 16) rfl ?_
  refine st_istore_n hR dX1_playFrom_16 rfl (Nat.le_of_ble_eq_true rfl) [1, 2, 3, 0] (lv' := [(0, .ref (q_ga 0)), (1, .int l1), (2, .int l1), (3, .int 1)]) rfl (pc' := 17) rfl ?_
  exact st_lv hR [0, 2, 3] rfl (L17 FU _ _ _ _ _ _ _ _ _ _ _ _ _ _ _ _ _ _ _ _ _ _ _ hM)
set_option maxHeartbeats 16000000 in
set_option maxRecDepth 100000 in
theorem k_X2_groupIn {l : Launch} {G : GG} {q_jo : Nat → Nat} {jo_mostFarms jo_foundMany jo_nights jo_farms : Int32} {jo_losses jo_known jo_found jo_groups jo_renumbered : Nat → Int32} {jo_now jo_ahead jo_scrap : Nat} {l1 l2 : Int32} {o_r : Int32} {o_jo_groups : Nat → Int32} (hM : f_X2_groupIn jo_farms jo_groups l1 l2 = some (o_r, o_jo_groups)) : MC l G yX2_groupIn cX2_groupIn 3 (some .int) (RM 2) [.ref (q_jo 0), .int l1, .int l2] [wX2 G q_jo jo_now jo_ahead jo_scrap jo_mostFarms jo_losses jo_known jo_found jo_foundMany jo_nights jo_farms jo_groups jo_renumbered] (some (.int o_r)) [wX2 G q_jo jo_now jo_ahead jo_scrap jo_mostFarms jo_losses jo_known jo_found jo_foundMany jo_nights jo_farms o_jo_groups jo_renumbered] := by
  refine MC.of pn_X2 (Nat.le_of_ble_eq_true rfl) (fun K hR hret => ?_)
  have hR : Rl l G RX2 cX2_groupIn 3 (RM 2) K := hR
  show K [wX2 G q_jo jo_now jo_ahead jo_scrap jo_mostFarms jo_losses jo_known jo_found jo_foundMany jo_nights jo_farms jo_groups jo_renumbered] [(0, .ref (q_jo 0)), (1, .int l1), (2, .int l2)] 0 []
  refine st_aload_n hR dX2_groupIn_0 0 rfl rfl (pc' := 1) rfl ?_
  refine st_iload_n hR dX2_groupIn_1 1 rfl rfl (pc' := 2) rfl ?_
  obtain ⟨jo_groups_1, hc_, hM⟩ := bd_e hM
  refine st_callV hR (k_X2_split hc_) cf_X2_22 (rm_le (Nat.le_of_ble_eq_true rfl) (Nat.le_of_ble_eq_true rfl)) [0] rfl rfl rfl 0 0 2 12 rfl rfl rfl rfl (rest := []) rfl (Nat.le_of_ble_eq_true rfl) dX2_groupIn_2 (pc' := 5) rfl (Wn := [wX2 G q_jo jo_now jo_ahead jo_scrap jo_mostFarms jo_losses jo_known jo_found jo_foundMany jo_nights jo_farms jo_groups_1 jo_renumbered]) rfl ?_
  refine st_iload_n hR dX2_groupIn_5 2 rfl rfl (pc' := 6) rfl ?_
  refine st_if_lt hR dX2_groupIn_6 (tgt := 23) (by decide) (pc' := 9) rfl (fun c_ => ?_) (fun c_ => ?_)
  · have hM := it_t c_ hM
    refine st_iconst hR dX2_groupIn_23 (v := (-1)) (by decide) (pc' := 24) rfl ?_
    cases hM
    exact hret _ _ dX2_groupIn_24 (ro_i _)
  · have hM := it_f c_ hM
    refine st_iload_n hR dX2_groupIn_9 2 rfl rfl (pc' := 10) rfl ?_
    refine st_iconst hR dX2_groupIn_10 (v := 5) rfl (pc' := 11) rfl ?_
    refine st_icmp_ge hR dX2_groupIn_11 (tgt := 23) (by decide) (pc' := 14) rfl (fun c_ => ?_) (fun c_ => ?_)
    · have hM := it_t c_ hM
      refine st_iconst hR dX2_groupIn_23 (v := (-1)) (by decide) (pc' := 24) rfl ?_
      cases hM
      exact hret _ _ dX2_groupIn_24 (ro_i _)
    · have hM := it_f c_ hM
      refine st_aload_n hR dX2_groupIn_14 0 rfl rfl (pc' := 15) rfl ?_
      refine st_get hR dX2_groupIn_15 fg_X2_11_2_10 0 0 rfl rfl rfl (pc' := 18) rfl ?_
      refine st_iload_n hR dX2_groupIn_18 2 rfl rfl (pc' := 19) rfl ?_
      obtain ⟨hin_, hM⟩ := g_in_e hM
      refine st_iald hR dX2_groupIn_19 0 4 rfl rfl hin_ (v := jo_groups_1 (ix l2)) rfl (pc' := 20) rfl ?_
      refine st_goto hR dX2_groupIn_20 (tgt := 24) (by decide) ?_
      cases hM
      exact hret _ _ dX2_groupIn_24 (ro_i _)
set_option maxHeartbeats 16000000 in
set_option maxRecDepth 100000 in
theorem k_X10_feed {l : Launch} {G : GG} {q_w q_t : Nat → Nat} {t_length t_at t_place t_number t_sign t_end : Int32} {t_word : Int64} {t_signs : Nat → Int32} {w_reader w_now w_book w_ahead w_scrap w_game w_joined w_draft : Nat} {w_marks : Nat → Option Nat} {l1 l3 l5 : Int64} {o_r : Int32} {o_t_signs : Nat → Int32} {o_t_length : Int32} (hM : f_X10_feed t_signs t_length l1 l3 l5 = some (o_r, o_t_signs, o_t_length)) : MC l G yX10_feed cX10_feed 7 (some .int) (RM 1) [.ref (q_w 0), .long l1, .long l3, .long l5] [wX10 G q_w (q_t 0) w_reader w_now w_book w_ahead w_scrap w_game w_joined w_marks w_draft, wX8 G q_t t_signs t_length t_at t_place t_word t_number t_sign t_end] (some (.int o_r)) [wX10 G q_w (q_t 0) w_reader w_now w_book w_ahead w_scrap w_game w_joined w_marks w_draft, wX8 G q_t o_t_signs o_t_length t_at t_place t_word t_number t_sign t_end] := by
  refine MC.of pn_X10 (Nat.le_of_ble_eq_true rfl) (fun K hR hret => ?_)
  have hR : Rl l G RX10 cX10_feed 7 (RM 1) K := hR
  show K [wX10 G q_w (q_t 0) w_reader w_now w_book w_ahead w_scrap w_game w_joined w_marks w_draft, wX8 G q_t t_signs t_length t_at t_place t_word t_number t_sign t_end] [(0, .ref (q_w 0)), (1, .long l1), (3, .long l3), (5, .long l5)] 0 []
  refine st_aload_n hR dX10_feed_0 0 rfl rfl (pc' := 1) rfl ?_
  refine st_get hR dX10_feed_1 fg_X10_13_9_0 0 0 rfl rfl rfl (pc' := 4) rfl ?_
  refine st_lload_n hR dX10_feed_4 1 rfl rfl (pc' := 5) rfl ?_
  obtain ⟨⟨t_signs_1, t_length_1⟩, hc_, hM⟩ := bd_e hM
  refine st_callV hR (k_X8_put hc_) cf_X10_77 (rm_le (Nat.le_of_ble_eq_true rfl) (Nat.le_of_ble_eq_true rfl)) [1] rfl rfl rfl 1 0 7 8 rfl rfl rfl rfl (rest := []) rfl (Nat.le_of_ble_eq_true rfl) dX10_feed_5 (pc' := 8) rfl (Wn := [wX10 G q_w (q_t 0) w_reader w_now w_book w_ahead w_scrap w_game w_joined w_marks w_draft, wX8 G q_t t_signs_1 t_length_1 t_at t_place t_word t_number t_sign t_end]) rfl ?_
  refine st_aload_n hR dX10_feed_8 0 rfl rfl (pc' := 9) rfl ?_
  refine st_get hR dX10_feed_9 fg_X10_13_9_0 0 0 rfl rfl rfl (pc' := 12) rfl ?_
  refine st_lload_n hR dX10_feed_12 2 rfl rfl (pc' := 13) rfl ?_
  obtain ⟨⟨t_signs_2, t_length_2⟩, hc_, hM⟩ := bd_e hM
  refine st_callV hR (k_X8_put hc_) cf_X10_77 (rm_le (Nat.le_of_ble_eq_true rfl) (Nat.le_of_ble_eq_true rfl)) [1] rfl rfl rfl 1 0 7 8 rfl rfl rfl rfl (rest := []) rfl (Nat.le_of_ble_eq_true rfl) dX10_feed_13 (pc' := 16) rfl (Wn := [wX10 G q_w (q_t 0) w_reader w_now w_book w_ahead w_scrap w_game w_joined w_marks w_draft, wX8 G q_t t_signs_2 t_length_2 t_at t_place t_word t_number t_sign t_end]) rfl ?_
  refine st_aload_n hR dX10_feed_16 0 rfl rfl (pc' := 17) rfl ?_
  refine st_get hR dX10_feed_17 fg_X10_13_9_0 0 0 rfl rfl rfl (pc' := 20) rfl ?_
  refine st_lload hR dX10_feed_20 3 rfl (pc' := 22) rfl ?_
  obtain ⟨⟨t_signs_3, t_length_3⟩, hc_, hM⟩ := bd_e hM
  refine st_callV hR (k_X8_put hc_) cf_X10_77 (rm_le (Nat.le_of_ble_eq_true rfl) (Nat.le_of_ble_eq_true rfl)) [1] rfl rfl rfl 1 0 7 8 rfl rfl rfl rfl (rest := []) rfl (Nat.le_of_ble_eq_true rfl) dX10_feed_22 (pc' := 25) rfl (Wn := [wX10 G q_w (q_t 0) w_reader w_now w_book w_ahead w_scrap w_game w_joined w_marks w_draft, wX8 G q_t t_signs_3 t_length_3 t_at t_place t_word t_number t_sign t_end]) rfl ?_
  refine st_aload_n hR dX10_feed_25 0 rfl rfl (pc' := 26) rfl ?_
  refine st_get hR dX10_feed_26 fg_X10_13_9_0 0 0 rfl rfl rfl (pc' := 29) rfl ?_
  refine st_get hR dX10_feed_29 fg_X10_81_7_1 1 0 rfl rfl rfl (pc' := 32) rfl ?_
  cases hM
  exact hret _ _ dX10_feed_32 (ro_i _)
set_option maxHeartbeats 16000000 in
set_option maxRecDepth 100000 in
theorem k_X10_isFarm {l : Launch} {G : GG} {q_w q_v q_mt : Nat → Nat} {v_night mt_farms mt_fences mt_shares mt_toothed : Int32} {v_g : Int64} {v_flock v_hunger v_lean v_fed v_taken v_pacts v_levels v_facts mt_flock mt_dogs mt_hunger mt_fenced mt_heights mt_pacts mt_partner mt_often : Nat → Int32} {mt_names : Nat → Int64} {w_tape w_reader w_book w_ahead w_scrap w_game w_joined w_draft mt_feeding mt_going : Nat} {w_marks : Nat → Option Nat} {l1 : Int32} {o_r : Int32} (hM : f_X10_isFarm mt_farms l1 = some o_r) : MC l G yX10_isFarm cX10_isFarm 2 (some .boolean) (RM 0) [.ref (q_w 0), .int l1] [wX10 G q_w w_tape w_reader (q_v 0) w_book w_ahead w_scrap w_game w_joined w_marks w_draft, wX9 G q_v (q_mt 0) v_night v_g v_flock v_hunger v_lean v_fed v_taken v_pacts v_levels v_facts, wX5 G q_mt mt_farms mt_fences mt_shares mt_names mt_flock mt_dogs mt_hunger mt_fenced mt_heights mt_pacts mt_partner mt_often mt_toothed mt_feeding mt_going] (some (.int o_r)) [wX10 G q_w w_tape w_reader (q_v 0) w_book w_ahead w_scrap w_game w_joined w_marks w_draft, wX9 G q_v (q_mt 0) v_night v_g v_flock v_hunger v_lean v_fed v_taken v_pacts v_levels v_facts, wX5 G q_mt mt_farms mt_fences mt_shares mt_names mt_flock mt_dogs mt_hunger mt_fenced mt_heights mt_pacts mt_partner mt_often mt_toothed mt_feeding mt_going] := by
  refine MC.of pn_X10 (Nat.le_of_ble_eq_true rfl) (fun K hR hret => ?_)
  have hR : Rl l G RX10 cX10_isFarm 2 (RM 0) K := hR
  show K [wX10 G q_w w_tape w_reader (q_v 0) w_book w_ahead w_scrap w_game w_joined w_marks w_draft, wX9 G q_v (q_mt 0) v_night v_g v_flock v_hunger v_lean v_fed v_taken v_pacts v_levels v_facts, wX5 G q_mt mt_farms mt_fences mt_shares mt_names mt_flock mt_dogs mt_hunger mt_fenced mt_heights mt_pacts mt_partner mt_often mt_toothed mt_feeding mt_going] [(0, .ref (q_w 0)), (1, .int l1)] 0 []
  refine st_iload_n hR dX10_isFarm_0 1 rfl rfl (pc' := 1) rfl ?_
  refine st_if_lt hR dX10_isFarm_1 (tgt := 22) (by decide) (pc' := 4) rfl (fun c_ => ?_) (fun c_ => ?_)
  · have hM := it_t c_ hM
    refine st_iconst hR dX10_isFarm_22 (v := 0) rfl (pc' := 23) rfl ?_
    cases hM
    exact hret _ _ dX10_isFarm_23 (ro_z (Or.inl rfl))
  · have hM := it_f c_ hM
    refine st_iload_n hR dX10_isFarm_4 1 rfl rfl (pc' := 5) rfl ?_
    refine st_aload_n hR dX10_isFarm_5 0 rfl rfl (pc' := 6) rfl ?_
    refine st_get hR dX10_isFarm_6 fg_X10_37_9_2 0 0 rfl rfl rfl (pc' := 9) rfl ?_
    refine st_get hR dX10_isFarm_9 fg_X10_103_8_0 1 0 rfl rfl rfl (pc' := 12) rfl ?_
    refine st_get hR dX10_isFarm_12 fg_X10_226_5_0 2 0 rfl rfl rfl (pc' := 15) rfl ?_
    refine st_icmp_ge hR dX10_isFarm_15 (tgt := 22) (by decide) (pc' := 18) rfl (fun c_ => ?_) (fun c_ => ?_)
    · have hM := it_t c_ hM
      refine st_iconst hR dX10_isFarm_22 (v := 0) rfl (pc' := 23) rfl ?_
      cases hM
      exact hret _ _ dX10_isFarm_23 (ro_z (Or.inl rfl))
    · have hM := it_f c_ hM
      refine st_iconst hR dX10_isFarm_18 (v := 1) rfl (pc' := 19) rfl ?_
      refine st_goto hR dX10_isFarm_19 (tgt := 23) (by decide) ?_
      cases hM
      exact hret _ _ dX10_isFarm_23 (ro_z (Or.inr rfl))
set_option maxHeartbeats 16000000 in
set_option maxRecDepth 100000 in
theorem k_X10_isPair {l : Launch} {G : GG} {q_w q_v q_mt : Nat → Nat} {v_night mt_farms mt_fences mt_shares mt_toothed : Int32} {v_g : Int64} {v_flock v_hunger v_lean v_fed v_taken v_pacts v_levels v_facts mt_flock mt_dogs mt_hunger mt_fenced mt_heights mt_pacts mt_partner mt_often : Nat → Int32} {mt_names : Nat → Int64} {w_tape w_reader w_book w_ahead w_scrap w_game w_joined w_draft mt_feeding mt_going : Nat} {w_marks : Nat → Option Nat} {l1 l2 : Int32} {o_r : Int32} (hM : f_X10_isPair mt_farms l1 l2 = some o_r) : MC l G yX10_isPair cX10_isPair 3 (some .boolean) (RM 1) [.ref (q_w 0), .int l1, .int l2] [wX10 G q_w w_tape w_reader (q_v 0) w_book w_ahead w_scrap w_game w_joined w_marks w_draft, wX9 G q_v (q_mt 0) v_night v_g v_flock v_hunger v_lean v_fed v_taken v_pacts v_levels v_facts, wX5 G q_mt mt_farms mt_fences mt_shares mt_names mt_flock mt_dogs mt_hunger mt_fenced mt_heights mt_pacts mt_partner mt_often mt_toothed mt_feeding mt_going] (some (.int o_r)) [wX10 G q_w w_tape w_reader (q_v 0) w_book w_ahead w_scrap w_game w_joined w_marks w_draft, wX9 G q_v (q_mt 0) v_night v_g v_flock v_hunger v_lean v_fed v_taken v_pacts v_levels v_facts, wX5 G q_mt mt_farms mt_fences mt_shares mt_names mt_flock mt_dogs mt_hunger mt_fenced mt_heights mt_pacts mt_partner mt_often mt_toothed mt_feeding mt_going] := by
  refine MC.of pn_X10 (Nat.le_of_ble_eq_true rfl) (fun K hR hret => ?_)
  have hR : Rl l G RX10 cX10_isPair 3 (RM 1) K := hR
  show K [wX10 G q_w w_tape w_reader (q_v 0) w_book w_ahead w_scrap w_game w_joined w_marks w_draft, wX9 G q_v (q_mt 0) v_night v_g v_flock v_hunger v_lean v_fed v_taken v_pacts v_levels v_facts, wX5 G q_mt mt_farms mt_fences mt_shares mt_names mt_flock mt_dogs mt_hunger mt_fenced mt_heights mt_pacts mt_partner mt_often mt_toothed mt_feeding mt_going] [(0, .ref (q_w 0)), (1, .int l1), (2, .int l2)] 0 []
  refine st_aload_n hR dX10_isPair_0 0 rfl rfl (pc' := 1) rfl ?_
  refine st_iload_n hR dX10_isPair_1 1 rfl rfl (pc' := 2) rfl ?_
  obtain ⟨r_1, hc_, hM⟩ := bd_e hM
  refine st_callV hR (k_X10_isFarm hc_) cf_X10_95 (rm_le (Nat.le_of_ble_eq_true rfl) (Nat.le_of_ble_eq_true rfl)) [0, 1, 2] rfl rfl rfl 0 0 9 10 rfl rfl rfl rfl (rest := []) rfl (Nat.le_of_ble_eq_true rfl) dX10_isPair_2 (pc' := 5) rfl (Wn := [wX10 G q_w w_tape w_reader (q_v 0) w_book w_ahead w_scrap w_game w_joined w_marks w_draft, wX9 G q_v (q_mt 0) v_night v_g v_flock v_hunger v_lean v_fed v_taken v_pacts v_levels v_facts, wX5 G q_mt mt_farms mt_fences mt_shares mt_names mt_flock mt_dogs mt_hunger mt_fenced mt_heights mt_pacts mt_partner mt_often mt_toothed mt_feeding mt_going]) rfl ?_
  refine st_if_eq hR dX10_isPair_5 (tgt := 25) (by decide) (pc' := 8) rfl (fun c_ => ?_) (fun c_ => ?_)
  · have hM := it_t c_ hM
    refine st_iconst hR dX10_isPair_25 (v := 0) rfl (pc' := 26) rfl ?_
    cases hM
    exact hret _ _ dX10_isPair_26 (ro_z (Or.inl rfl))
  · have hM := it_f c_ hM
    refine st_aload_n hR dX10_isPair_8 0 rfl rfl (pc' := 9) rfl ?_
    refine st_iload_n hR dX10_isPair_9 2 rfl rfl (pc' := 10) rfl ?_
    obtain ⟨r_2, hc_, hM⟩ := bd_e hM
    refine st_callV hR (k_X10_isFarm hc_) cf_X10_95 (rm_le (Nat.le_of_ble_eq_true rfl) (Nat.le_of_ble_eq_true rfl)) [0, 1, 2] rfl rfl rfl 0 0 9 10 rfl rfl rfl rfl (rest := []) rfl (Nat.le_of_ble_eq_true rfl) dX10_isPair_10 (pc' := 13) rfl (Wn := [wX10 G q_w w_tape w_reader (q_v 0) w_book w_ahead w_scrap w_game w_joined w_marks w_draft, wX9 G q_v (q_mt 0) v_night v_g v_flock v_hunger v_lean v_fed v_taken v_pacts v_levels v_facts, wX5 G q_mt mt_farms mt_fences mt_shares mt_names mt_flock mt_dogs mt_hunger mt_fenced mt_heights mt_pacts mt_partner mt_often mt_toothed mt_feeding mt_going]) rfl ?_
    refine st_if_eq hR dX10_isPair_13 (tgt := 25) (by decide) (pc' := 16) rfl (fun c_ => ?_) (fun c_ => ?_)
    · have hM := it_t c_ hM
      refine st_iconst hR dX10_isPair_25 (v := 0) rfl (pc' := 26) rfl ?_
      cases hM
      exact hret _ _ dX10_isPair_26 (ro_z (Or.inl rfl))
    · have hM := it_f c_ hM
      refine st_iload_n hR dX10_isPair_16 1 rfl rfl (pc' := 17) rfl ?_
      refine st_iload_n hR dX10_isPair_17 2 rfl rfl (pc' := 18) rfl ?_
      refine st_icmp_eq hR dX10_isPair_18 (tgt := 25) (by decide) (pc' := 21) rfl (fun c_ => ?_) (fun c_ => ?_)
      · have hM := it_t c_ hM
        refine st_iconst hR dX10_isPair_25 (v := 0) rfl (pc' := 26) rfl ?_
        cases hM
        exact hret _ _ dX10_isPair_26 (ro_z (Or.inl rfl))
      · have hM := it_f c_ hM
        refine st_iconst hR dX10_isPair_21 (v := 1) rfl (pc' := 22) rfl ?_
        refine st_goto hR dX10_isPair_22 (tgt := 26) (by decide) ?_
        cases hM
        exact hret _ _ dX10_isPair_26 (ro_z (Or.inr rfl))
set_option maxHeartbeats 16000000 in
set_option maxRecDepth 100000 in
theorem k_X10_farm {l : Launch} {G : GG} {q_w q_v q_mt : Nat → Nat} {v_night mt_farms mt_fences mt_shares mt_toothed : Int32} {v_g : Int64} {v_flock v_hunger v_lean v_fed v_taken v_pacts v_levels v_facts mt_flock mt_dogs mt_hunger mt_fenced mt_heights mt_pacts mt_partner mt_often : Nat → Int32} {mt_names : Nat → Int64} {w_tape w_reader w_book w_ahead w_scrap w_game w_joined w_draft mt_feeding mt_going : Nat} {w_marks : Nat → Option Nat} {l1 l2 : Int32} {o_r : Int32} (hM : f_X10_farm v_night v_flock v_hunger v_lean v_pacts mt_farms mt_dogs mt_fenced mt_partner l1 l2 = some o_r) : MC l G yX10_farm cX10_farm 3 (some .int) (RM 1) [.ref (q_w 0), .int l1, .int l2] [wX10 G q_w w_tape w_reader (q_v 0) w_book w_ahead w_scrap w_game w_joined w_marks w_draft, wX9 G q_v (q_mt 0) v_night v_g v_flock v_hunger v_lean v_fed v_taken v_pacts v_levels v_facts, wX5 G q_mt mt_farms mt_fences mt_shares mt_names mt_flock mt_dogs mt_hunger mt_fenced mt_heights mt_pacts mt_partner mt_often mt_toothed mt_feeding mt_going] (some (.int o_r)) [wX10 G q_w w_tape w_reader (q_v 0) w_book w_ahead w_scrap w_game w_joined w_marks w_draft, wX9 G q_v (q_mt 0) v_night v_g v_flock v_hunger v_lean v_fed v_taken v_pacts v_levels v_facts, wX5 G q_mt mt_farms mt_fences mt_shares mt_names mt_flock mt_dogs mt_hunger mt_fenced mt_heights mt_pacts mt_partner mt_often mt_toothed mt_feeding mt_going] := by
  refine MC.of pn_X10 (Nat.le_of_ble_eq_true rfl) (fun K hR hret => ?_)
  have hR : Rl l G RX10 cX10_farm 3 (RM 1) K := hR
  show K [wX10 G q_w w_tape w_reader (q_v 0) w_book w_ahead w_scrap w_game w_joined w_marks w_draft, wX9 G q_v (q_mt 0) v_night v_g v_flock v_hunger v_lean v_fed v_taken v_pacts v_levels v_facts, wX5 G q_mt mt_farms mt_fences mt_shares mt_names mt_flock mt_dogs mt_hunger mt_fenced mt_heights mt_pacts mt_partner mt_often mt_toothed mt_feeding mt_going] [(0, .ref (q_w 0)), (1, .int l1), (2, .int l2)] 0 []
  refine st_aload_n hR dX10_farm_0 0 rfl rfl (pc' := 1) rfl ?_
  refine st_iload_n hR dX10_farm_1 1 rfl rfl (pc' := 2) rfl ?_
  obtain ⟨r_1, hc_, hM⟩ := bd_e hM
  refine st_callV hR (k_X10_isFarm hc_) cf_X10_95 (rm_le (Nat.le_of_ble_eq_true rfl) (Nat.le_of_ble_eq_true rfl)) [0, 1, 2] rfl rfl rfl 0 0 9 10 rfl rfl rfl rfl (rest := []) rfl (Nat.le_of_ble_eq_true rfl) dX10_farm_2 (pc' := 5) rfl (Wn := [wX10 G q_w w_tape w_reader (q_v 0) w_book w_ahead w_scrap w_game w_joined w_marks w_draft, wX9 G q_v (q_mt 0) v_night v_g v_flock v_hunger v_lean v_fed v_taken v_pacts v_levels v_facts, wX5 G q_mt mt_farms mt_fences mt_shares mt_names mt_flock mt_dogs mt_hunger mt_fenced mt_heights mt_pacts mt_partner mt_often mt_toothed mt_feeding mt_going]) rfl ?_
  refine st_if_ne hR dX10_farm_5 (tgt := 10) (by decide) (pc' := 8) rfl (fun c_ => ?_) (fun c_ => ?_)
  · have hM := it_f c_ hM
    refine st_iload_n hR dX10_farm_10 2 rfl rfl (pc' := 11) rfl ?_
    refine st_sw_case hR dX10_farm_11 0 (x0 := 0) (by decide) (by decide) rfl (tgt := 52) (by decide) (fun c0_ => ?_) (fun c0_ => ?_)
    · have hM := it_t c0_ hM
      refine st_aload_n hR dX10_farm_52 0 rfl rfl (pc' := 53) rfl ?_
      refine st_get hR dX10_farm_53 fg_X10_37_9_2 0 0 rfl rfl rfl (pc' := 56) rfl ?_
      refine st_get hR dX10_farm_56 fg_X10_99_8_3 1 0 rfl rfl rfl (pc' := 59) rfl ?_
      refine st_iload_n hR dX10_farm_59 1 rfl rfl (pc' := 60) rfl ?_
      obtain ⟨hin_, hM⟩ := g_in_e hM
      refine st_iald hR dX10_farm_60 1 1 rfl rfl hin_ (v := v_flock (ix l1)) rfl (pc' := 61) rfl ?_
      cases hM
      exact hret _ _ dX10_farm_61 (ro_i _)
    · have hM := it_f c0_ hM
      refine st_sw_case hR dX10_farm_11 1 (x0 := 1) (by decide) (by decide) rfl (tgt := 62) (by decide) (fun c1_ => ?_) (fun c1_ => ?_)
      · have hM := it_t c1_ hM
        refine st_aload_n hR dX10_farm_62 0 rfl rfl (pc' := 63) rfl ?_
        refine st_get hR dX10_farm_63 fg_X10_37_9_2 0 0 rfl rfl rfl (pc' := 66) rfl ?_
        refine st_get hR dX10_farm_66 fg_X10_103_8_0 1 0 rfl rfl rfl (pc' := 69) rfl ?_
        refine st_get hR dX10_farm_69 fg_X10_106_5_5 2 0 rfl rfl rfl (pc' := 72) rfl ?_
        refine st_iload_n hR dX10_farm_72 1 rfl rfl (pc' := 73) rfl ?_
        obtain ⟨hin_, hM⟩ := g_in_e hM
        refine st_iald hR dX10_farm_73 2 3 rfl rfl hin_ (v := mt_dogs (ix l1)) rfl (pc' := 74) rfl ?_
        cases hM
        exact hret _ _ dX10_farm_74 (ro_i _)
      · have hM := it_f c1_ hM
        refine st_sw_case hR dX10_farm_11 2 (x0 := 2) (by decide) (by decide) rfl (tgt := 75) (by decide) (fun c2_ => ?_) (fun c2_ => ?_)
        · have hM := it_t c2_ hM
          refine st_aload_n hR dX10_farm_75 0 rfl rfl (pc' := 76) rfl ?_
          refine st_get hR dX10_farm_76 fg_X10_37_9_2 0 0 rfl rfl rfl (pc' := 79) rfl ?_
          refine st_get hR dX10_farm_79 fg_X10_109_8_4 1 0 rfl rfl rfl (pc' := 82) rfl ?_
          refine st_iload_n hR dX10_farm_82 1 rfl rfl (pc' := 83) rfl ?_
          obtain ⟨hin_, hM⟩ := g_in_e hM
          refine st_iald hR dX10_farm_83 1 2 rfl rfl hin_ (v := v_hunger (ix l1)) rfl (pc' := 84) rfl ?_
          cases hM
          exact hret _ _ dX10_farm_84 (ro_i _)
        · have hM := it_f c2_ hM
          refine st_sw_case hR dX10_farm_11 3 (x0 := 3) (by decide) (by decide) rfl (tgt := 85) (by decide) (fun c3_ => ?_) (fun c3_ => ?_)
          · have hM := it_t c3_ hM
            refine st_aload_n hR dX10_farm_85 0 rfl rfl (pc' := 86) rfl ?_
            refine st_get hR dX10_farm_86 fg_X10_37_9_2 0 0 rfl rfl rfl (pc' := 89) rfl ?_
            refine st_get hR dX10_farm_89 fg_X10_112_8_5 1 0 rfl rfl rfl (pc' := 92) rfl ?_
            refine st_iload_n hR dX10_farm_92 1 rfl rfl (pc' := 93) rfl ?_
            obtain ⟨hin_, hM⟩ := g_in_e hM
            refine st_iald hR dX10_farm_93 1 3 rfl rfl hin_ (v := v_lean (ix l1)) rfl (pc' := 94) rfl ?_
            cases hM
            exact hret _ _ dX10_farm_94 (ro_i _)
          · have hM := it_f c3_ hM
            refine st_sw_case hR dX10_farm_11 4 (x0 := 4) (by decide) (by decide) rfl (tgt := 95) (by decide) (fun c4_ => ?_) (fun c4_ => ?_)
            · have hM := it_t c4_ hM
              refine st_aload_n hR dX10_farm_95 0 rfl rfl (pc' := 96) rfl ?_
              refine st_get hR dX10_farm_96 fg_X10_37_9_2 0 0 rfl rfl rfl (pc' := 99) rfl ?_
              refine st_iload_n hR dX10_farm_99 1 rfl rfl (pc' := 100) rfl ?_
              obtain ⟨r_2, hc_, hM⟩ := bd_e hM
              refine st_callV hR (k_X9_homeOf hc_) cf_X10_115 (rm_le (Nat.le_of_ble_eq_true rfl) (Nat.le_of_ble_eq_true rfl)) [1, 2] rfl rfl rfl 1 0 8 11 rfl rfl rfl rfl (rest := []) rfl (Nat.le_of_ble_eq_true rfl) dX10_farm_100 (pc' := 103) rfl (Wn := [wX10 G q_w w_tape w_reader (q_v 0) w_book w_ahead w_scrap w_game w_joined w_marks w_draft, wX9 G q_v (q_mt 0) v_night v_g v_flock v_hunger v_lean v_fed v_taken v_pacts v_levels v_facts, wX5 G q_mt mt_farms mt_fences mt_shares mt_names mt_flock mt_dogs mt_hunger mt_fenced mt_heights mt_pacts mt_partner mt_often mt_toothed mt_feeding mt_going]) rfl ?_
              cases hM
              exact hret _ _ dX10_farm_103 (ro_i _)
            · have hM := it_f c4_ hM
              refine st_sw_case hR dX10_farm_11 5 (x0 := 5) (by decide) (by decide) rfl (tgt := 104) (by decide) (fun c5_ => ?_) (fun c5_ => ?_)
              · have hM := it_t c5_ hM
                refine st_aload_n hR dX10_farm_104 0 rfl rfl (pc' := 105) rfl ?_
                refine st_get hR dX10_farm_105 fg_X10_37_9_2 0 0 rfl rfl rfl (pc' := 108) rfl ?_
                refine st_iload_n hR dX10_farm_108 1 rfl rfl (pc' := 109) rfl ?_
                obtain ⟨r_3, hc_, hM⟩ := bd_e hM
                refine st_callV hR (k_X9_neighboursOf hc_) cf_X10_119 (rm_le (Nat.le_of_ble_eq_true rfl) (Nat.le_of_ble_eq_true rfl)) [1, 2] rfl rfl rfl 1 0 8 11 rfl rfl rfl rfl (rest := []) rfl (Nat.le_of_ble_eq_true rfl) dX10_farm_109 (pc' := 112) rfl (Wn := [wX10 G q_w w_tape w_reader (q_v 0) w_book w_ahead w_scrap w_game w_joined w_marks w_draft, wX9 G q_v (q_mt 0) v_night v_g v_flock v_hunger v_lean v_fed v_taken v_pacts v_levels v_facts, wX5 G q_mt mt_farms mt_fences mt_shares mt_names mt_flock mt_dogs mt_hunger mt_fenced mt_heights mt_pacts mt_partner mt_often mt_toothed mt_feeding mt_going]) rfl ?_
                cases hM
                exact hret _ _ dX10_farm_112 (ro_i _)
              · have hM := it_f c5_ hM
                refine st_sw_case hR dX10_farm_11 6 (x0 := 6) (by decide) (by decide) rfl (tgt := 113) (by decide) (fun c6_ => ?_) (fun c6_ => ?_)
                · have hM := it_t c6_ hM
                  refine st_aload_n hR dX10_farm_113 0 rfl rfl (pc' := 114) rfl ?_
                  refine st_get hR dX10_farm_114 fg_X10_37_9_2 0 0 rfl rfl rfl (pc' := 117) rfl ?_
                  refine st_get hR dX10_farm_117 fg_X10_122_8_8 1 0 rfl rfl rfl (pc' := 120) rfl ?_
                  refine st_iload_n hR dX10_farm_120 1 rfl rfl (pc' := 121) rfl ?_
                  obtain ⟨hin_, hM⟩ := g_in_e hM
                  refine st_iald hR dX10_farm_121 1 6 rfl rfl hin_ (v := v_pacts (ix l1)) rfl (pc' := 122) rfl ?_
                  cases hM
                  exact hret _ _ dX10_farm_122 (ro_i _)
                · have hM := it_f c6_ hM
                  have z0_ := sw_ne c0_ (k := 0) (by decide)
                  have z1_ := sw_ne c1_ (k := 1) (by decide)
                  have z2_ := sw_ne c2_ (k := 2) (by decide)
                  have z3_ := sw_ne c3_ (k := 3) (by decide)
                  have z4_ := sw_ne c4_ (k := 4) (by decide)
                  have z5_ := sw_ne c5_ (k := 5) (by decide)
                  have z6_ := sw_ne c6_ (k := 6) (by decide)
                  refine st_sw_def hR dX10_farm_11 (tgt := 123) (by decide) (by omega) ?_
                  refine st_iconst hR dX10_farm_123 (v := (-1)) (by decide) (pc' := 124) rfl ?_
                  cases hM
                  exact hret _ _ dX10_farm_124 (ro_i _)
  · have hM := it_t c_ hM
    refine st_iconst hR dX10_farm_8 (v := (-1)) (by decide) (pc' := 9) rfl ?_
    cases hM
    exact hret _ _ dX10_farm_9 (ro_i _)
set_option maxHeartbeats 16000000 in
set_option maxRecDepth 100000 in
theorem k_X10_tooth {l : Launch} {G : GG} {q_w q_v q_mt : Nat → Nat} {v_night mt_farms mt_fences mt_shares mt_toothed : Int32} {v_g : Int64} {v_flock v_hunger v_lean v_fed v_taken v_pacts v_levels v_facts mt_flock mt_dogs mt_hunger mt_fenced mt_heights mt_pacts mt_partner mt_often : Nat → Int32} {mt_names : Nat → Int64} {w_tape w_reader w_book w_ahead w_scrap w_game w_joined w_draft mt_feeding mt_going : Nat} {w_marks : Nat → Option Nat} {l1 l2 : Int32} {o_r : Int32} (hM : f_X10_tooth mt_farms mt_often l1 l2 = some o_r) : MC l G yX10_tooth cX10_tooth 3 (some .int) (RM 1) [.ref (q_w 0), .int l1, .int l2] [wX10 G q_w w_tape w_reader (q_v 0) w_book w_ahead w_scrap w_game w_joined w_marks w_draft, wX9 G q_v (q_mt 0) v_night v_g v_flock v_hunger v_lean v_fed v_taken v_pacts v_levels v_facts, wX5 G q_mt mt_farms mt_fences mt_shares mt_names mt_flock mt_dogs mt_hunger mt_fenced mt_heights mt_pacts mt_partner mt_often mt_toothed mt_feeding mt_going] (some (.int o_r)) [wX10 G q_w w_tape w_reader (q_v 0) w_book w_ahead w_scrap w_game w_joined w_marks w_draft, wX9 G q_v (q_mt 0) v_night v_g v_flock v_hunger v_lean v_fed v_taken v_pacts v_levels v_facts, wX5 G q_mt mt_farms mt_fences mt_shares mt_names mt_flock mt_dogs mt_hunger mt_fenced mt_heights mt_pacts mt_partner mt_often mt_toothed mt_feeding mt_going] := by
  refine MC.of pn_X10 (Nat.le_of_ble_eq_true rfl) (fun K hR hret => ?_)
  have hR : Rl l G RX10 cX10_tooth 3 (RM 1) K := hR
  show K [wX10 G q_w w_tape w_reader (q_v 0) w_book w_ahead w_scrap w_game w_joined w_marks w_draft, wX9 G q_v (q_mt 0) v_night v_g v_flock v_hunger v_lean v_fed v_taken v_pacts v_levels v_facts, wX5 G q_mt mt_farms mt_fences mt_shares mt_names mt_flock mt_dogs mt_hunger mt_fenced mt_heights mt_pacts mt_partner mt_often mt_toothed mt_feeding mt_going] [(0, .ref (q_w 0)), (1, .int l1), (2, .int l2)] 0 []
  refine st_aload_n hR dX10_tooth_0 0 rfl rfl (pc' := 1) rfl ?_
  refine st_iload_n hR dX10_tooth_1 1 rfl rfl (pc' := 2) rfl ?_
  obtain ⟨r_1, hc_, hM⟩ := bd_e hM
  refine st_callV hR (k_X10_isFarm hc_) cf_X10_95 (rm_le (Nat.le_of_ble_eq_true rfl) (Nat.le_of_ble_eq_true rfl)) [0, 1, 2] rfl rfl rfl 0 0 9 10 rfl rfl rfl rfl (rest := []) rfl (Nat.le_of_ble_eq_true rfl) dX10_tooth_2 (pc' := 5) rfl (Wn := [wX10 G q_w w_tape w_reader (q_v 0) w_book w_ahead w_scrap w_game w_joined w_marks w_draft, wX9 G q_v (q_mt 0) v_night v_g v_flock v_hunger v_lean v_fed v_taken v_pacts v_levels v_facts, wX5 G q_mt mt_farms mt_fences mt_shares mt_names mt_flock mt_dogs mt_hunger mt_fenced mt_heights mt_pacts mt_partner mt_often mt_toothed mt_feeding mt_going]) rfl ?_
  refine st_if_eq hR dX10_tooth_5 (tgt := 18) (by decide) (pc' := 8) rfl (fun c_ => ?_) (fun c_ => ?_)
  · have hM := it_t c_ hM
    refine st_iconst hR dX10_tooth_18 (v := (-1)) (by decide) (pc' := 19) rfl ?_
    cases hM
    exact hret _ _ dX10_tooth_19 (ro_i _)
  · have hM := it_f c_ hM
    refine st_iload_n hR dX10_tooth_8 2 rfl rfl (pc' := 9) rfl ?_
    refine st_iconst hR dX10_tooth_9 (v := 1) rfl (pc' := 10) rfl ?_
    refine st_icmp_lt hR dX10_tooth_10 (tgt := 18) (by decide) (pc' := 13) rfl (fun c_ => ?_) (fun c_ => ?_)
    · have hM := it_t c_ hM
      refine st_iconst hR dX10_tooth_18 (v := (-1)) (by decide) (pc' := 19) rfl ?_
      cases hM
      exact hret _ _ dX10_tooth_19 (ro_i _)
    · have hM := it_f c_ hM
      refine st_iload_n hR dX10_tooth_13 2 rfl rfl (pc' := 14) rfl ?_
      refine st_iconst hR dX10_tooth_14 (v := 4) rfl (pc' := 15) rfl ?_
      refine st_icmp_le hR dX10_tooth_15 (tgt := 20) (by decide) (pc' := 18) rfl (fun c_ => ?_) (fun c_ => ?_)
      · have hM := it_t c_ hM
        refine st_aload_n hR dX10_tooth_20 0 rfl rfl (pc' := 21) rfl ?_
        refine st_get hR dX10_tooth_21 fg_X10_37_9_2 0 0 rfl rfl rfl (pc' := 24) rfl ?_
        refine st_get hR dX10_tooth_24 fg_X10_103_8_0 1 0 rfl rfl rfl (pc' := 27) rfl ?_
        refine st_iload_n hR dX10_tooth_27 1 rfl rfl (pc' := 28) rfl ?_
        refine st_iload_n hR dX10_tooth_28 2 rfl rfl (pc' := 29) rfl ?_
        obtain ⟨r_2, hc_, hM⟩ := bd_e hM
        refine st_callV hR (k_X5_oftenBites hc_) cf_X10_125 (rm_le (Nat.le_of_ble_eq_true rfl) (Nat.le_of_ble_eq_true rfl)) [2] rfl rfl rfl 2 0 5 15 rfl rfl rfl rfl (rest := []) rfl (Nat.le_of_ble_eq_true rfl) dX10_tooth_29 (pc' := 32) rfl (Wn := [wX10 G q_w w_tape w_reader (q_v 0) w_book w_ahead w_scrap w_game w_joined w_marks w_draft, wX9 G q_v (q_mt 0) v_night v_g v_flock v_hunger v_lean v_fed v_taken v_pacts v_levels v_facts, wX5 G q_mt mt_farms mt_fences mt_shares mt_names mt_flock mt_dogs mt_hunger mt_fenced mt_heights mt_pacts mt_partner mt_often mt_toothed mt_feeding mt_going]) rfl ?_
        cases hM
        exact hret _ _ dX10_tooth_32 (ro_i _)
      · have hM := it_f c_ hM
        refine st_iconst hR dX10_tooth_18 (v := (-1)) (by decide) (pc' := 19) rfl ?_
        cases hM
        exact hret _ _ dX10_tooth_19 (ro_i _)
set_option maxHeartbeats 16000000 in
set_option maxRecDepth 100000 in
theorem k_X10_gone {l : Launch} {G : GG} {q_w q_v q_mt : Nat → Nat} {v_night mt_farms mt_fences mt_shares mt_toothed : Int32} {v_g : Int64} {v_flock v_hunger v_lean v_fed v_taken v_pacts v_levels v_facts mt_flock mt_dogs mt_hunger mt_fenced mt_heights mt_pacts mt_partner mt_often : Nat → Int32} {mt_names : Nat → Int64} {w_tape w_reader w_book w_ahead w_scrap w_game w_joined w_draft mt_feeding mt_going : Nat} {w_marks : Nat → Option Nat} {l1 l2 : Int32} {o_r : Int32} (hM : f_X10_gone v_fed v_taken mt_farms l1 l2 = some o_r) : MC l G yX10_gone cX10_gone 3 (some .int) (RM 1) [.ref (q_w 0), .int l1, .int l2] [wX10 G q_w w_tape w_reader (q_v 0) w_book w_ahead w_scrap w_game w_joined w_marks w_draft, wX9 G q_v (q_mt 0) v_night v_g v_flock v_hunger v_lean v_fed v_taken v_pacts v_levels v_facts, wX5 G q_mt mt_farms mt_fences mt_shares mt_names mt_flock mt_dogs mt_hunger mt_fenced mt_heights mt_pacts mt_partner mt_often mt_toothed mt_feeding mt_going] (some (.int o_r)) [wX10 G q_w w_tape w_reader (q_v 0) w_book w_ahead w_scrap w_game w_joined w_marks w_draft, wX9 G q_v (q_mt 0) v_night v_g v_flock v_hunger v_lean v_fed v_taken v_pacts v_levels v_facts, wX5 G q_mt mt_farms mt_fences mt_shares mt_names mt_flock mt_dogs mt_hunger mt_fenced mt_heights mt_pacts mt_partner mt_often mt_toothed mt_feeding mt_going] := by
  refine MC.of pn_X10 (Nat.le_of_ble_eq_true rfl) (fun K hR hret => ?_)
  have hR : Rl l G RX10 cX10_gone 3 (RM 1) K := hR
  show K [wX10 G q_w w_tape w_reader (q_v 0) w_book w_ahead w_scrap w_game w_joined w_marks w_draft, wX9 G q_v (q_mt 0) v_night v_g v_flock v_hunger v_lean v_fed v_taken v_pacts v_levels v_facts, wX5 G q_mt mt_farms mt_fences mt_shares mt_names mt_flock mt_dogs mt_hunger mt_fenced mt_heights mt_pacts mt_partner mt_often mt_toothed mt_feeding mt_going] [(0, .ref (q_w 0)), (1, .int l1), (2, .int l2)] 0 []
  refine st_aload_n hR dX10_gone_0 0 rfl rfl (pc' := 1) rfl ?_
  refine st_iload_n hR dX10_gone_1 1 rfl rfl (pc' := 2) rfl ?_
  obtain ⟨r_1, hc_, hM⟩ := bd_e hM
  refine st_callV hR (k_X10_isFarm hc_) cf_X10_95 (rm_le (Nat.le_of_ble_eq_true rfl) (Nat.le_of_ble_eq_true rfl)) [0, 1, 2] rfl rfl rfl 0 0 9 10 rfl rfl rfl rfl (rest := []) rfl (Nat.le_of_ble_eq_true rfl) dX10_gone_2 (pc' := 5) rfl (Wn := [wX10 G q_w w_tape w_reader (q_v 0) w_book w_ahead w_scrap w_game w_joined w_marks w_draft, wX9 G q_v (q_mt 0) v_night v_g v_flock v_hunger v_lean v_fed v_taken v_pacts v_levels v_facts, wX5 G q_mt mt_farms mt_fences mt_shares mt_names mt_flock mt_dogs mt_hunger mt_fenced mt_heights mt_pacts mt_partner mt_often mt_toothed mt_feeding mt_going]) rfl ?_
  refine st_if_ne hR dX10_gone_5 (tgt := 10) (by decide) (pc' := 8) rfl (fun c_ => ?_) (fun c_ => ?_)
  · have hM := it_f c_ hM
    refine st_iload_n hR dX10_gone_10 2 rfl rfl (pc' := 11) rfl ?_
    refine st_if_eq hR dX10_gone_11 (tgt := 26) (by decide) (pc' := 14) rfl (fun c_ => ?_) (fun c_ => ?_)
    · have hM := it_t c_ hM
      refine st_aload_n hR dX10_gone_26 0 rfl rfl (pc' := 27) rfl ?_
      refine st_get hR dX10_gone_27 fg_X10_37_9_2 0 0 rfl rfl rfl (pc' := 30) rfl ?_
      refine st_get hR dX10_gone_30 fg_X10_176_8_6 1 0 rfl rfl rfl (pc' := 33) rfl ?_
      refine st_iload_n hR dX10_gone_33 1 rfl rfl (pc' := 34) rfl ?_
      obtain ⟨hin_, hM⟩ := g_in_e hM
      refine st_iald hR dX10_gone_34 1 4 rfl rfl hin_ (v := v_fed (ix l1)) rfl (pc' := 35) rfl ?_
      cases hM
      exact hret _ _ dX10_gone_35 (ro_i _)
    · have hM := it_f c_ hM
      refine st_aload_n hR dX10_gone_14 0 rfl rfl (pc' := 15) rfl ?_
      refine st_get hR dX10_gone_15 fg_X10_37_9_2 0 0 rfl rfl rfl (pc' := 18) rfl ?_
      refine st_get hR dX10_gone_18 fg_X10_173_8_7 1 0 rfl rfl rfl (pc' := 21) rfl ?_
      refine st_iload_n hR dX10_gone_21 1 rfl rfl (pc' := 22) rfl ?_
      obtain ⟨hin_, hM⟩ := g_in_e hM
      refine st_iald hR dX10_gone_22 1 5 rfl rfl hin_ (v := v_taken (ix l1)) rfl (pc' := 23) rfl ?_
      refine st_goto hR dX10_gone_23 (tgt := 35) (by decide) ?_
      cases hM
      exact hret _ _ dX10_gone_35 (ro_i _)
  · have hM := it_t c_ hM
    refine st_iconst hR dX10_gone_8 (v := (-1)) (by decide) (pc' := 9) rfl ?_
    cases hM
    exact hret _ _ dX10_gone_9 (ro_i _)
set_option maxHeartbeats 16000000 in
set_option maxRecDepth 100000 in
theorem k_X10_greatestDivisor {l : Launch} {G : GG}  {l0 l1 : Int32} {o_r : Int32} (hM : f_X10_greatestDivisor l0 l1 = some o_r) : MC l G yX10_greatestDivisor cX10_greatestDivisor 6 (some .int) (RM 0) [.int l0, .int l1] [] (some (.int o_r)) [] := by
  refine MC.of pn_X10 (Nat.le_of_ble_eq_true rfl) (fun K hR hret => ?_)
  have hR : Rl l G RX10 cX10_greatestDivisor 6 (RM 0) K := hR
  show K [] [(0, .int l0), (1, .int l1)] 0 []
  have L7 : ∀ (n7 : Nat) (l2 : Int32) (l3 : Int32) (l4 : Int32), f_X10_greatestDivisor_L7   n7 l2 l3 l4 = some o_r → K [] [(2, .int l2), (3, .int l3), (4, .int l4)] 7 [] := by
    intro n7
    induction n7 with
    | zero => intro l2 l3 l4 hM; exact no_some hM
    | succ n7 ih7 =>
      intro l2 l3 l4 hM
      have hM : f_X10_greatestDivisor_L7b  (f_X10_greatestDivisor_L7   n7)  l2 l3 l4 = some o_r := hM
      refine st_iload hR dX10_greatestDivisor_7 2 rfl (pc' := 9) rfl ?_
      refine st_bipush hR dX10_greatestDivisor_9 (v := 64) rfl (pc' := 11) rfl ?_
      refine st_icmp_ge hR dX10_greatestDivisor_11 (tgt := 34) (by decide) (pc' := 14) rfl (fun c_ => ?_) (fun c_ => ?_)
      · have hM := it_t c_ hM
        refine st_iload_n hR dX10_greatestDivisor_34 0 rfl rfl (pc' := 35) rfl ?_
        cases hM
        exact hret _ _ dX10_greatestDivisor_35 (ro_i _)
      · have hM := it_f c_ hM
        refine st_iload_n hR dX10_greatestDivisor_14 1 rfl rfl (pc' := 15) rfl ?_
        refine st_if_eq hR dX10_greatestDivisor_15 (tgt := 34) (by decide) (pc' := 18) rfl (fun c_ => ?_) (fun c_ => ?_)
        · have hM := it_t c_ hM
          refine st_iload_n hR dX10_greatestDivisor_34 0 rfl rfl (pc' := 35) rfl ?_
          cases hM
          exact hret _ _ dX10_greatestDivisor_35 (ro_i _)
        · have hM := it_f c_ hM
          refine st_iload_n hR dX10_greatestDivisor_18 0 rfl rfl (pc' := 19) rfl ?_
          refine st_iload_n hR dX10_greatestDivisor_19 1 rfl rfl (pc' := 20) rfl ?_
          obtain ⟨hnz_, hM⟩ := g_nz_e hM
          refine st_irem hR dX10_greatestDivisor_20 (pc' := 21) rfl hnz_ ?_
          refine st_topi (fun l5_1 e_ => ?_)
          have hM := lt_e e_ hM
          refine st_istore hR dX10_greatestDivisor_21 (Nat.le_of_ble_eq_true rfl) [1, 2, 3, 0] (lv' := [(2, .int l2), (3, .int l3), (4, .int l4), (5, .int l5_1)]) rfl (pc' := 23) rfl ?_
          refine st_iload_n hR dX10_greatestDivisor_23 1 rfl rfl (pc' := 24) rfl ?_
          refine st_istore_n hR dX10_greatestDivisor_24 rfl (Nat.le_of_ble_eq_true rfl) [0, 1, 2, 3] (lv' := [(2, .int l3), (3, .int l3), (4, .int l4), (5, .int l5_1)]) rfl (pc' := 25) rfl ?_
          refine st_iload hR dX10_greatestDivisor_25 3 rfl (pc' := 27) rfl ?_
          refine st_istore_n hR dX10_greatestDivisor_27 rfl (Nat.le_of_ble_eq_true rfl) [1, 0, 2, 3] (lv' := [(2, .int l3), (3, .int l5_1), (4, .int l4), (5, .int l5_1)]) rfl (pc' := 28) rfl ?_
          obtain ⟨l4_1, e_⟩ : ∃ y : Int32, y = l4 + 1 := ⟨_, rfl⟩
          refine st_iinc hR dX10_greatestDivisor_28 (Nat.le_of_ble_eq_true rfl) 2 [1, 2, 0, 3] (v := l4_1) rfl (by rw [e_]; rfl) (lv' := [(2, .int l3), (3, .int l5_1), (4, .int l4_1), (5, .int l5_1)]) rfl (pc' := 31) rfl ?_
          have hM := lt_e e_ hM
          refine st_goto hR dX10_greatestDivisor_31 (tgt := 7) (by decide) ?_
          exact st_lv hR [0, 1, 2] rfl (ih7 _ _ _ hM)
  refine st_iload_n hR dX10_greatestDivisor_0 0 rfl rfl (pc' := 1) rfl ?_
  refine st_istore_n hR dX10_greatestDivisor_1 rfl (Nat.le_of_ble_eq_true rfl) [1, 2, 0] (lv' := [(0, .int l0), (1, .int l1), (2, .int l0)]) rfl (pc' := 2) rfl ?_
  refine st_iload_n hR dX10_greatestDivisor_2 1 rfl rfl (pc' := 3) rfl ?_
  refine st_istore_n hR dX10_greatestDivisor_3 rfl (Nat.le_of_ble_eq_true rfl) [1, 2, 3, 0] (lv' := [(0, .int l0), (1, .int l1), (2, .int l0), (3, .int l1)]) rfl (pc' := 4) rfl ?_
  refine st_iconst hR dX10_greatestDivisor_4 (v := 0) rfl (pc' := 5) rfl ?_
  refine st_istore hR dX10_greatestDivisor_5 (Nat.le_of_ble_eq_true rfl) [1, 2, 3, 4, 0] (lv' := [(0, .int l0), (1, .int l1), (2, .int l0), (3, .int l1), (4, .int 0)]) rfl (pc' := 7) rfl ?_
  exact st_lv hR [2, 3, 4] rfl (L7 FU _ _ _ hM)
set_option maxHeartbeats 16000000 in
set_option maxRecDepth 100000 in
theorem k_X10_inLowestTerms {l : Launch} {G : GG}  {l0 l1 l2 : Int32} {o_r : Int32} (hM : f_X10_inLowestTerms l0 l1 l2 = some o_r) : MC l G yX10_inLowestTerms cX10_inLowestTerms 5 (some .int) (RM 1) [.int l0, .int l1, .int l2] [] (some (.int o_r)) [] := by
  refine MC.of pn_X10 (Nat.le_of_ble_eq_true rfl) (fun K hR hret => ?_)
  have hR : Rl l G RX10 cX10_inLowestTerms 5 (RM 1) K := hR
  show K [] [(0, .int l0), (1, .int l1), (2, .int l2)] 0 []
  have J15 : ∀ (l3 : Int32) (s0 : Int32), f_X10_inLowestTerms_B15   l3 s0 = some o_r → K [] [(3, .int l3)] 15 [.int s0] := by
    intro l3 s0 hM
    refine st_istore hR dX10_inLowestTerms_15 (Nat.le_of_ble_eq_true rfl) [1, 0] (lv' := [(3, .int l3), (4, .int s0)]) rfl (pc' := 17) rfl ?_
    refine st_iload_n hR dX10_inLowestTerms_17 0 rfl rfl (pc' := 18) rfl ?_
    refine st_if_ne hR dX10_inLowestTerms_18 (tgt := 26) (by decide) (pc' := 21) rfl (fun c_ => ?_) (fun c_ => ?_)
    · have hM := it_f c_ hM
      refine st_iload hR dX10_inLowestTerms_26 1 rfl (pc' := 28) rfl ?_
      refine st_iload_n hR dX10_inLowestTerms_28 0 rfl rfl (pc' := 29) rfl ?_
      obtain ⟨hnz_, hM⟩ := g_nz_e hM
      refine st_idiv hR dX10_inLowestTerms_29 (pc' := 30) rfl hnz_ ?_
      cases hM
      exact hret _ _ dX10_inLowestTerms_30 (ro_i _)
    · have hM := it_t c_ hM
      refine st_iload hR dX10_inLowestTerms_21 1 rfl (pc' := 23) rfl ?_
      refine st_goto hR dX10_inLowestTerms_23 (tgt := 30) (by decide) ?_
      cases hM
      exact hret _ _ dX10_inLowestTerms_30 (ro_i _)
  refine st_iload_n hR dX10_inLowestTerms_0 0 rfl rfl (pc' := 1) rfl ?_
  refine st_iload_n hR dX10_inLowestTerms_1 1 rfl rfl (pc' := 2) rfl ?_
  obtain ⟨r_1, hc_, hM⟩ := bd_e hM
  refine st_callS hR (k_X10_greatestDivisor hc_) cf_X10_278 (rm_le (Nat.le_of_ble_eq_true rfl) (Nat.le_of_ble_eq_true rfl)) [] rfl rfl rfl rfl (rest := []) rfl (Nat.le_of_ble_eq_true rfl) dX10_inLowestTerms_2 (pc' := 5) rfl (Wn := []) rfl ?_
  refine st_istore_n hR dX10_inLowestTerms_5 rfl (Nat.le_of_ble_eq_true rfl) [1, 2, 3, 0] (lv' := [(0, .int l0), (1, .int l1), (2, .int l2), (3, .int r_1)]) rfl (pc' := 6) rfl ?_
  refine st_iload_n hR dX10_inLowestTerms_6 2 rfl rfl (pc' := 7) rfl ?_
  refine st_if_ne hR dX10_inLowestTerms_7 (tgt := 14) (by decide) (pc' := 10) rfl (fun c_ => ?_) (fun c_ => ?_)
  · have hM := it_f c_ hM
    refine st_iload_n hR dX10_inLowestTerms_14 1 rfl rfl (pc' := 15) rfl ?_
    exact st_lv hR [3] rfl (J15 _ _ hM)
  · have hM := it_t c_ hM
    refine st_iload_n hR dX10_inLowestTerms_10 0 rfl rfl (pc' := 11) rfl ?_
    refine st_goto hR dX10_inLowestTerms_11 (tgt := 15) (by decide) ?_
    exact st_lv hR [3] rfl (J15 _ _ hM)
set_option maxHeartbeats 16000000 in
set_option maxRecDepth 100000 in
theorem k_X10_chance {l : Launch} {G : GG} {q_w q_v q_mt : Nat → Nat} {v_night mt_farms mt_fences mt_shares mt_toothed : Int32} {v_g : Int64} {v_flock v_hunger v_lean v_fed v_taken v_pacts v_levels v_facts mt_flock mt_dogs mt_hunger mt_fenced mt_heights mt_pacts mt_partner mt_often : Nat → Int32} {mt_names : Nat → Int64} {w_tape w_reader w_book w_ahead w_scrap w_game w_joined w_draft mt_feeding mt_going : Nat} {w_marks : Nat → Option Nat} {l1 : Int32} {o_r : Int32} (hM : f_X10_chance v_night v_hunger v_pacts mt_farms mt_fenced mt_partner l1 = some o_r) : MC l G yX10_chance cX10_chance 7 (some .int) (RM 2) [.ref (q_w 0), .int l1] [wX10 G q_w w_tape w_reader (q_v 0) w_book w_ahead w_scrap w_game w_joined w_marks w_draft, wX9 G q_v (q_mt 0) v_night v_g v_flock v_hunger v_lean v_fed v_taken v_pacts v_levels v_facts, wX5 G q_mt mt_farms mt_fences mt_shares mt_names mt_flock mt_dogs mt_hunger mt_fenced mt_heights mt_pacts mt_partner mt_often mt_toothed mt_feeding mt_going] (some (.int o_r)) [wX10 G q_w w_tape w_reader (q_v 0) w_book w_ahead w_scrap w_game w_joined w_marks w_draft, wX9 G q_v (q_mt 0) v_night v_g v_flock v_hunger v_lean v_fed v_taken v_pacts v_levels v_facts, wX5 G q_mt mt_farms mt_fences mt_shares mt_names mt_flock mt_dogs mt_hunger mt_fenced mt_heights mt_pacts mt_partner mt_often mt_toothed mt_feeding mt_going] := by
  refine MC.of pn_X10 (Nat.le_of_ble_eq_true rfl) (fun K hR hret => ?_)
  have hR : Rl l G RX10 cX10_chance 7 (RM 2) K := hR
  show K [wX10 G q_w w_tape w_reader (q_v 0) w_book w_ahead w_scrap w_game w_joined w_marks w_draft, wX9 G q_v (q_mt 0) v_night v_g v_flock v_hunger v_lean v_fed v_taken v_pacts v_levels v_facts, wX5 G q_mt mt_farms mt_fences mt_shares mt_names mt_flock mt_dogs mt_hunger mt_fenced mt_heights mt_pacts mt_partner mt_often mt_toothed mt_feeding mt_going] [(0, .ref (q_w 0)), (1, .int l1)] 0 []
  have J120 : ∀ (l1 : Int32) (l2 : Int32) (s0 : Int32), f_X10_chance_B120  v_night v_hunger v_pacts mt_farms mt_fenced mt_partner l1 l2 s0 = some o_r → K [wX10 G q_w w_tape w_reader (q_v 0) w_book w_ahead w_scrap w_game w_joined w_marks w_draft, wX9 G q_v (q_mt 0) v_night v_g v_flock v_hunger v_lean v_fed v_taken v_pacts v_levels v_facts, wX5 G q_mt mt_farms mt_fences mt_shares mt_names mt_flock mt_dogs mt_hunger mt_fenced mt_heights mt_pacts mt_partner mt_often mt_toothed mt_feeding mt_going] [(1, .int l1), (2, .int l2)] 120 [.int s0] := by
    intro l1 l2 s0 hM
    refine st_iload_n hR dX10_chance_120 1 rfl rfl (pc' := 121) rfl ?_
    refine st_iload_n hR dX10_chance_121 0 rfl rfl (pc' := 122) rfl ?_
    obtain ⟨r_1, hc_, hM⟩ := bd_e hM
    refine st_callS hR (k_X10_inLowestTerms hc_) cf_X10_232 (rm_le (Nat.le_of_ble_eq_true rfl) (Nat.le_of_ble_eq_true rfl)) [] rfl rfl rfl rfl (rest := []) rfl (Nat.le_of_ble_eq_true rfl) dX10_chance_122 (pc' := 125) rfl (Wn := [wX10 G q_w w_tape w_reader (q_v 0) w_book w_ahead w_scrap w_game w_joined w_marks w_draft, wX9 G q_v (q_mt 0) v_night v_g v_flock v_hunger v_lean v_fed v_taken v_pacts v_levels v_facts, wX5 G q_mt mt_farms mt_fences mt_shares mt_names mt_flock mt_dogs mt_hunger mt_fenced mt_heights mt_pacts mt_partner mt_often mt_toothed mt_feeding mt_going]) rfl ?_
    cases hM
    exact hret _ _ dX10_chance_125 (ro_i _)
  have L34 : ∀ (n34 : Nat) (l1 : Int32) (l2 : Int32) (l3 : Int32) (l4 : Int32) (l5 : Int32), f_X10_chance_L34  v_night v_hunger v_pacts mt_farms mt_fenced mt_partner n34 l1 l2 l3 l4 l5 = some o_r → K [wX10 G q_w w_tape w_reader (q_v 0) w_book w_ahead w_scrap w_game w_joined w_marks w_draft, wX9 G q_v (q_mt 0) v_night v_g v_flock v_hunger v_lean v_fed v_taken v_pacts v_levels v_facts, wX5 G q_mt mt_farms mt_fences mt_shares mt_names mt_flock mt_dogs mt_hunger mt_fenced mt_heights mt_pacts mt_partner mt_often mt_toothed mt_feeding mt_going] [(0, .ref (q_w 0)), (1, .int l1), (2, .int l2), (3, .int l3), (4, .int l4), (5, .int l5)] 34 [] := by
    intro n34
    induction n34 with
    | zero => intro l1 l2 l3 l4 l5 hM; exact no_some hM
    | succ n34 ih34 =>
      have J101 : ∀ (l1 : Int32) (l2 : Int32) (l3 : Int32) (l4 : Int32) (l5 : Int32), f_X10_chance_B101  (f_X10_chance_L34  v_night v_hunger v_pacts mt_farms mt_fenced mt_partner n34) v_night v_hunger v_pacts mt_farms mt_fenced mt_partner l1 l2 l3 l4 l5 = some o_r → K [wX10 G q_w w_tape w_reader (q_v 0) w_book w_ahead w_scrap w_game w_joined w_marks w_draft, wX9 G q_v (q_mt 0) v_night v_g v_flock v_hunger v_lean v_fed v_taken v_pacts v_levels v_facts, wX5 G q_mt mt_farms mt_fences mt_shares mt_names mt_flock mt_dogs mt_hunger mt_fenced mt_heights mt_pacts mt_partner mt_often mt_toothed mt_feeding mt_going] [(0, .ref (q_w 0)), (1, .int l1), (2, .int l2), (3, .int l3), (4, .int l4), (5, .int l5)] 101 [] := by
        intro l1 l2 l3 l4 l5 hM
        obtain ⟨l5_1, e_⟩ : ∃ y : Int32, y = l5 + 1 := ⟨_, rfl⟩
        refine st_iinc hR dX10_chance_101 (Nat.le_of_ble_eq_true rfl) 5 [1, 2, 3, 4, 5, 0] (v := l5_1) rfl (by rw [e_]; rfl) (lv' := [(0, .ref (q_w 0)), (1, .int l1), (2, .int l2), (3, .int l3), (4, .int l4), (5, .int l5_1)]) rfl (pc' := 104) rfl ?_
        have hM := lt_e e_ hM
        refine st_goto hR dX10_chance_104 (tgt := 34) (by decide) ?_
        exact ih34 _ _ _ _ _ hM
      intro l1 l2 l3 l4 l5 hM
      have hM : f_X10_chance_L34b  (f_X10_chance_L34  v_night v_hunger v_pacts mt_farms mt_fenced mt_partner n34) v_night v_hunger v_pacts mt_farms mt_fenced mt_partner l1 l2 l3 l4 l5 = some o_r := hM
      refine st_iload hR dX10_chance_34 5 rfl (pc' := 36) rfl ?_
      refine st_aload_n hR dX10_chance_36 0 rfl rfl (pc' := 37) rfl ?_
      refine st_get hR dX10_chance_37 fg_X10_37_9_2 0 0 rfl rfl rfl (pc' := 40) rfl ?_
      refine st_get hR dX10_chance_40 fg_X10_103_8_0 1 0 rfl rfl rfl (pc' := 43) rfl ?_
      refine st_get hR dX10_chance_43 fg_X10_226_5_0 2 0 rfl rfl rfl (pc' := 46) rfl ?_
      refine st_icmp_ge hR dX10_chance_46 (tgt := 107) (by decide) (pc' := 49) rfl (fun c_ => ?_) (fun c_ => ?_)
      · have hM := it_t c_ hM
        refine st_iload hR dX10_chance_107 4 rfl (pc' := 109) rfl ?_
        refine st_if_eq hR dX10_chance_109 (tgt := 119) (by decide) (pc' := 112) rfl (fun c_ => ?_) (fun c_ => ?_)
        · have hM := it_t c_ hM
          refine st_iconst hR dX10_chance_119 (v := 1) rfl (pc' := 120) rfl ?_
          exact st_lv hR [1, 2] rfl (J120 _ _ _ hM)
        · have hM := it_f c_ hM
          refine st_iload_n hR dX10_chance_112 3 rfl rfl (pc' := 113) rfl ?_
          obtain ⟨r_1, hc_, hM⟩ := bd_e hM
          refine st_callS hR (k_J6_bitCount_0f7a4 hc_) cf_X10_235 (rm_le (Nat.le_of_ble_eq_true rfl) (Nat.le_of_ble_eq_true rfl)) [] rfl rfl rfl rfl (rest := []) rfl (Nat.le_of_ble_eq_true rfl) dX10_chance_113 (pc' := 116) rfl (Wn := [wX10 G q_w w_tape w_reader (q_v 0) w_book w_ahead w_scrap w_game w_joined w_marks w_draft, wX9 G q_v (q_mt 0) v_night v_g v_flock v_hunger v_lean v_fed v_taken v_pacts v_levels v_facts, wX5 G q_mt mt_farms mt_fences mt_shares mt_names mt_flock mt_dogs mt_hunger mt_fenced mt_heights mt_pacts mt_partner mt_often mt_toothed mt_feeding mt_going]) rfl ?_
          refine st_goto hR dX10_chance_116 (tgt := 120) (by decide) ?_
          exact st_lv hR [1, 2] rfl (J120 _ _ _ hM)
      · have hM := it_f c_ hM
        refine st_aload_n hR dX10_chance_49 0 rfl rfl (pc' := 50) rfl ?_
        refine st_get hR dX10_chance_50 fg_X10_37_9_2 0 0 rfl rfl rfl (pc' := 53) rfl ?_
        refine st_aload_n hR dX10_chance_53 0 rfl rfl (pc' := 54) rfl ?_
        refine st_get hR dX10_chance_54 fg_X10_37_9_2 0 0 rfl rfl rfl (pc' := 57) rfl ?_
        refine st_iload hR dX10_chance_57 5 rfl (pc' := 59) rfl ?_
        obtain ⟨r_2, hc_, hM⟩ := bd_e hM
        refine st_callV hR (k_X9_homeOf hc_) cf_X10_115 (rm_le (Nat.le_of_ble_eq_true rfl) (Nat.le_of_ble_eq_true rfl)) [1, 2] rfl rfl rfl 1 0 8 11 rfl rfl rfl rfl (rest := [.ref (q_v 0)]) rfl (Nat.le_of_ble_eq_true rfl) dX10_chance_59 (pc' := 62) rfl (Wn := [wX10 G q_w w_tape w_reader (q_v 0) w_book w_ahead w_scrap w_game w_joined w_marks w_draft, wX9 G q_v (q_mt 0) v_night v_g v_flock v_hunger v_lean v_fed v_taken v_pacts v_levels v_facts, wX5 G q_mt mt_farms mt_fences mt_shares mt_names mt_flock mt_dogs mt_hunger mt_fenced mt_heights mt_pacts mt_partner mt_often mt_toothed mt_feeding mt_going]) rfl ?_
        obtain ⟨r_3, hc_, hM⟩ := bd_e hM
        refine st_callV hR (k_X9_neighboursOf hc_) cf_X10_119 (rm_le (Nat.le_of_ble_eq_true rfl) (Nat.le_of_ble_eq_true rfl)) [1, 2] rfl rfl rfl 1 0 8 11 rfl rfl rfl rfl (rest := []) rfl (Nat.le_of_ble_eq_true rfl) dX10_chance_62 (pc' := 65) rfl (Wn := [wX10 G q_w w_tape w_reader (q_v 0) w_book w_ahead w_scrap w_game w_joined w_marks w_draft, wX9 G q_v (q_mt 0) v_night v_g v_flock v_hunger v_lean v_fed v_taken v_pacts v_levels v_facts, wX5 G q_mt mt_farms mt_fences mt_shares mt_names mt_flock mt_dogs mt_hunger mt_fenced mt_heights mt_pacts mt_partner mt_often mt_toothed mt_feeding mt_going]) rfl ?_
        refine st_istore hR dX10_chance_65 (Nat.le_of_ble_eq_true rfl) [1, 2, 3, 4, 5, 6, 0] (lv' := [(0, .ref (q_w 0)), (1, .int l1), (2, .int l2), (3, .int l3), (4, .int l4), (5, .int l5), (6, .int r_3)]) rfl (pc' := 67) rfl ?_
        refine st_aload_n hR dX10_chance_67 0 rfl rfl (pc' := 68) rfl ?_
        refine st_get hR dX10_chance_68 fg_X10_37_9_2 0 0 rfl rfl rfl (pc' := 71) rfl ?_
        refine st_get hR dX10_chance_71 fg_X10_109_8_4 1 0 rfl rfl rfl (pc' := 74) rfl ?_
        refine st_iload hR dX10_chance_74 5 rfl (pc' := 76) rfl ?_
        obtain ⟨hin_, hM⟩ := g_in_e hM
        refine st_iald hR dX10_chance_76 1 2 rfl rfl hin_ (v := v_hunger (ix l5)) rfl (pc' := 77) rfl ?_
        refine st_if_le hR dX10_chance_77 (tgt := 101) (by decide) (pc' := 80) rfl (fun c_ => ?_) (fun c_ => ?_)
        · have hM := it_t c_ hM
          exact st_lv hR [0, 1, 2, 3, 4, 5] rfl (J101 _ _ _ _ _ hM)
        · have hM := it_f c_ hM
          refine st_iload hR dX10_chance_80 6 rfl (pc' := 82) rfl ?_
          refine st_if_eq hR dX10_chance_82 (tgt := 101) (by decide) (pc' := 85) rfl (fun c_ => ?_) (fun c_ => ?_)
          · have hM := it_t c_ hM
            exact st_lv hR [0, 1, 2, 3, 4, 5] rfl (J101 _ _ _ _ _ hM)
          · have hM := it_f c_ hM
            refine st_iconst hR dX10_chance_85 (v := 1) rfl (pc' := 86) rfl ?_
            refine st_istore hR dX10_chance_86 (Nat.le_of_ble_eq_true rfl) [1, 2, 3, 4, 0, 5, 6] (lv' := [(0, .ref (q_w 0)), (1, .int l1), (2, .int l2), (3, .int l3), (4, .int 1), (5, .int l5), (6, .int r_3)]) rfl (pc' := 88) rfl ?_
            refine st_iload_n hR dX10_chance_88 3 rfl rfl (pc' := 89) rfl ?_
            refine st_iload hR dX10_chance_89 6 rfl (pc' := 91) rfl ?_
            refine st_iand hR dX10_chance_91 (pc' := 92) rfl ?_
            refine st_topi (fun l3_1 e_ => ?_)
            have hM := lt_e e_ hM
            refine st_istore_n hR dX10_chance_92 rfl (Nat.le_of_ble_eq_true rfl) [1, 2, 3, 0, 4, 5, 6] (lv' := [(0, .ref (q_w 0)), (1, .int l1), (2, .int l2), (3, .int l3_1), (4, .int 1), (5, .int l5), (6, .int r_3)]) rfl (pc' := 93) rfl ?_
            refine st_iload_n hR dX10_chance_93 2 rfl rfl (pc' := 94) rfl ?_
            refine st_iload hR dX10_chance_94 6 rfl (pc' := 96) rfl ?_
            obtain ⟨r_4, hc_, hM⟩ := bd_e hM
            refine st_callS hR (k_J6_bitCount_0f7a4 hc_) cf_X10_235 (rm_le (Nat.le_of_ble_eq_true rfl) (Nat.le_of_ble_eq_true rfl)) [] rfl rfl rfl rfl (rest := [.int l2]) rfl (Nat.le_of_ble_eq_true rfl) dX10_chance_96 (pc' := 99) rfl (Wn := [wX10 G q_w w_tape w_reader (q_v 0) w_book w_ahead w_scrap w_game w_joined w_marks w_draft, wX9 G q_v (q_mt 0) v_night v_g v_flock v_hunger v_lean v_fed v_taken v_pacts v_levels v_facts, wX5 G q_mt mt_farms mt_fences mt_shares mt_names mt_flock mt_dogs mt_hunger mt_fenced mt_heights mt_pacts mt_partner mt_often mt_toothed mt_feeding mt_going]) rfl ?_
            refine st_imul hR dX10_chance_99 (pc' := 100) rfl ?_
            refine st_topi (fun l2_1 e_ => ?_)
            have hM := lt_e e_ hM
            refine st_istore_n hR dX10_chance_100 rfl (Nat.le_of_ble_eq_true rfl) [1, 2, 0, 3, 4, 5, 6] (lv' := [(0, .ref (q_w 0)), (1, .int l1), (2, .int l2_1), (3, .int l3_1), (4, .int 1), (5, .int l5), (6, .int r_3)]) rfl (pc' := 101) rfl ?_
            exact st_lv hR [0, 1, 2, 3, 4, 5] rfl (J101 _ _ _ _ _ hM)
  refine st_iload_n hR dX10_chance_0 1 rfl rfl (pc' := 1) rfl ?_
  refine st_if_lt hR dX10_chance_1 (tgt := 9) (by decide) (pc' := 4) rfl (fun c_ => ?_) (fun c_ => ?_)
  · have hM := it_t c_ hM
    refine st_iconst hR dX10_chance_9 (v := (-1)) (by decide) (pc' := 10) rfl ?_
    cases hM
    exact hret _ _ dX10_chance_10 (ro_i _)
  · have hM := it_f c_ hM
    refine st_iload_n hR dX10_chance_4 1 rfl rfl (pc' := 5) rfl ?_
    refine st_iconst hR dX10_chance_5 (v := 1) rfl (pc' := 6) rfl ?_
    refine st_icmp_le hR dX10_chance_6 (tgt := 11) (by decide) (pc' := 9) rfl (fun c_ => ?_) (fun c_ => ?_)
    · have hM := it_t c_ hM
      refine st_iconst hR dX10_chance_11 (v := 1) rfl (pc' := 12) rfl ?_
      refine st_istore_n hR dX10_chance_12 rfl (Nat.le_of_ble_eq_true rfl) [1, 2, 0] (lv' := [(0, .ref (q_w 0)), (1, .int l1), (2, .int 1)]) rfl (pc' := 13) rfl ?_
      refine st_iconst hR dX10_chance_13 (v := 1) rfl (pc' := 14) rfl ?_
      refine st_aload_n hR dX10_chance_14 0 rfl rfl (pc' := 15) rfl ?_
      refine st_get hR dX10_chance_15 fg_X10_37_9_2 0 0 rfl rfl rfl (pc' := 18) rfl ?_
      refine st_get hR dX10_chance_18 fg_X10_103_8_0 1 0 rfl rfl rfl (pc' := 21) rfl ?_
      refine st_get hR dX10_chance_21 fg_X10_226_5_0 2 0 rfl rfl rfl (pc' := 24) rfl ?_
      refine st_ishl hR dX10_chance_24 (pc' := 25) rfl ?_
      refine st_iconst hR dX10_chance_25 (v := 1) rfl (pc' := 26) rfl ?_
      refine st_isub hR dX10_chance_26 (pc' := 27) rfl ?_
      refine st_topi (fun l3_1 e_ => ?_)
      have hM := lt_e e_ hM
      refine st_istore_n hR dX10_chance_27 rfl (Nat.le_of_ble_eq_true rfl) [1, 2, 3, 0] (lv' := [(0, .ref (q_w 0)), (1, .int l1), (2, .int 1), (3, .int l3_1)]) rfl (pc' := 28) rfl ?_
      refine st_iconst hR dX10_chance_28 (v := 0) rfl (pc' := 29) rfl ?_
      refine st_istore hR dX10_chance_29 (Nat.le_of_ble_eq_true rfl) [1, 2, 3, 4, 0] (lv' := [(0, .ref (q_w 0)), (1, .int l1), (2, .int 1), (3, .int l3_1), (4, .int 0)]) rfl (pc' := 31) rfl ?_
      refine st_iconst hR dX10_chance_31 (v := 0) rfl (pc' := 32) rfl ?_
      refine st_istore hR dX10_chance_32 (Nat.le_of_ble_eq_true rfl) [1, 2, 3, 4, 5, 0] (lv' := [(0, .ref (q_w 0)), (1, .int l1), (2, .int 1), (3, .int l3_1), (4, .int 0), (5, .int 0)]) rfl (pc' := 34) rfl ?_
      exact L34 FU _ _ _ _ _ hM
    · have hM := it_f c_ hM
      refine st_iconst hR dX10_chance_9 (v := (-1)) (by decide) (pc' := 10) rfl ?_
      cases hM
      exact hret _ _ dX10_chance_10 (ro_i _)
set_option maxHeartbeats 16000000 in
set_option maxRecDepth 100000 in
theorem k_X10_forgetAhead {l : Launch} {G : GG} {q_w q_ga q_jo : Nat → Nat} {ga_mostFarms ga_foundMany ga_nights ga_farms ga_restingRow jo_mostFarms jo_foundMany jo_nights jo_farms : Int32} {ga_losses ga_known ga_found ga_been jo_losses jo_known jo_found jo_groups jo_renumbered : Nat → Int32} {w_tape w_reader w_now w_book w_ahead w_scrap w_draft ga_now ga_ahead ga_scrap jo_now jo_ahead jo_scrap : Nat} {w_marks : Nat → Option Nat}  {o_ga_nights : Int32} {o_jo_nights : Int32} (hM : f_X10_forgetAhead ga_nights jo_nights = some (o_ga_nights, o_jo_nights)) : MC l G yX10_forgetAhead cX10_forgetAhead 1 none (RM 1) [.ref (q_w 0)] [wX10 G q_w w_tape w_reader w_now w_book w_ahead w_scrap (q_ga 0) (q_jo 0) w_marks w_draft, wX1 G q_ga ga_now ga_ahead ga_scrap ga_mostFarms ga_losses ga_known ga_found ga_foundMany ga_nights ga_farms ga_been ga_restingRow, wX2 G q_jo jo_now jo_ahead jo_scrap jo_mostFarms jo_losses jo_known jo_found jo_foundMany jo_nights jo_farms jo_groups jo_renumbered] none [wX10 G q_w w_tape w_reader w_now w_book w_ahead w_scrap (q_ga 0) (q_jo 0) w_marks w_draft, wX1 G q_ga ga_now ga_ahead ga_scrap ga_mostFarms ga_losses ga_known ga_found ga_foundMany o_ga_nights ga_farms ga_been ga_restingRow, wX2 G q_jo jo_now jo_ahead jo_scrap jo_mostFarms jo_losses jo_known jo_found jo_foundMany o_jo_nights jo_farms jo_groups jo_renumbered] := by
  refine MC.of pn_X10 (Nat.le_of_ble_eq_true rfl) (fun K hR hret => ?_)
  have hR : Rl l G RX10 cX10_forgetAhead 1 (RM 1) K := hR
  show K [wX10 G q_w w_tape w_reader w_now w_book w_ahead w_scrap (q_ga 0) (q_jo 0) w_marks w_draft, wX1 G q_ga ga_now ga_ahead ga_scrap ga_mostFarms ga_losses ga_known ga_found ga_foundMany ga_nights ga_farms ga_been ga_restingRow, wX2 G q_jo jo_now jo_ahead jo_scrap jo_mostFarms jo_losses jo_known jo_found jo_foundMany jo_nights jo_farms jo_groups jo_renumbered] [(0, .ref (q_w 0))] 0 []
  refine st_aload_n hR dX10_forgetAhead_0 0 rfl rfl (pc' := 1) rfl ?_
  refine st_get hR dX10_forgetAhead_1 fg_X10_59_9_6 0 0 rfl rfl rfl (pc' := 4) rfl ?_
  obtain ⟨ga_nights_1, hc_, hM⟩ := bd_e hM
  refine st_callU hR (k_X6_forget_g hc_) cu_X10_271_X1 (rm_le (Nat.le_of_ble_eq_true rfl) (Nat.le_of_ble_eq_true rfl)) [1] rfl rfl rfl 1 0 1 12 rfl rfl rfl rfl (rest := []) rfl (Nat.le_of_ble_eq_true rfl) dX10_forgetAhead_4 (pc' := 7) rfl (Wn := [wX10 G q_w w_tape w_reader w_now w_book w_ahead w_scrap (q_ga 0) (q_jo 0) w_marks w_draft, wX1 G q_ga ga_now ga_ahead ga_scrap ga_mostFarms ga_losses ga_known ga_found ga_foundMany ga_nights_1 ga_farms ga_been ga_restingRow, wX2 G q_jo jo_now jo_ahead jo_scrap jo_mostFarms jo_losses jo_known jo_found jo_foundMany jo_nights jo_farms jo_groups jo_renumbered]) rfl ?_
  refine st_aload_n hR dX10_forgetAhead_7 0 rfl rfl (pc' := 8) rfl ?_
  refine st_get hR dX10_forgetAhead_8 fg_X10_66_9_7 0 0 rfl rfl rfl (pc' := 11) rfl ?_
  obtain ⟨jo_nights_1, hc_, hM⟩ := bd_e hM
  refine st_callU hR (k_X6_forget_j hc_) cu_X10_274_X2 (rm_le (Nat.le_of_ble_eq_true rfl) (Nat.le_of_ble_eq_true rfl)) [2] rfl rfl rfl 2 0 2 12 rfl rfl rfl rfl (rest := []) rfl (Nat.le_of_ble_eq_true rfl) dX10_forgetAhead_11 (pc' := 14) rfl (Wn := [wX10 G q_w w_tape w_reader w_now w_book w_ahead w_scrap (q_ga 0) (q_jo 0) w_marks w_draft, wX1 G q_ga ga_now ga_ahead ga_scrap ga_mostFarms ga_losses ga_known ga_found ga_foundMany ga_nights_1 ga_farms ga_been ga_restingRow, wX2 G q_jo jo_now jo_ahead jo_scrap jo_mostFarms jo_losses jo_known jo_found jo_foundMany jo_nights_1 jo_farms jo_groups jo_renumbered]) rfl ?_
  cases hM
  exact hret _ _ dX10_forgetAhead_14 ro_v
set_option maxHeartbeats 16000000 in
set_option maxRecDepth 100000 in
theorem k_X10_seed {l : Launch} {G : GG} {q_w q_v q_ga q_jo : Nat → Nat} {v_night ga_mostFarms ga_foundMany ga_nights ga_farms ga_restingRow jo_mostFarms jo_foundMany jo_nights jo_farms : Int32} {v_g : Int64} {v_flock v_hunger v_lean v_fed v_taken v_pacts v_levels v_facts ga_losses ga_known ga_found ga_been jo_losses jo_known jo_found jo_groups jo_renumbered : Nat → Int32} {w_tape w_reader w_book w_ahead w_scrap w_draft v_mountain ga_now ga_ahead ga_scrap jo_now jo_ahead jo_scrap : Nat} {w_marks : Nat → Option Nat} {l1 : Int32} {o_r : Int32} {o_v_g : Int64} {o_ga_nights : Int32} {o_jo_nights : Int32} (hM : f_X10_seed v_g ga_nights jo_nights l1 = some (o_r, o_v_g, o_ga_nights, o_jo_nights)) : MC l G yX10_seed cX10_seed 2 (some .boolean) (RM 2) [.ref (q_w 0), .int l1] [wX10 G q_w w_tape w_reader (q_v 0) w_book w_ahead w_scrap (q_ga 0) (q_jo 0) w_marks w_draft, wX9 G q_v v_mountain v_night v_g v_flock v_hunger v_lean v_fed v_taken v_pacts v_levels v_facts, wX1 G q_ga ga_now ga_ahead ga_scrap ga_mostFarms ga_losses ga_known ga_found ga_foundMany ga_nights ga_farms ga_been ga_restingRow, wX2 G q_jo jo_now jo_ahead jo_scrap jo_mostFarms jo_losses jo_known jo_found jo_foundMany jo_nights jo_farms jo_groups jo_renumbered] (some (.int o_r)) [wX10 G q_w w_tape w_reader (q_v 0) w_book w_ahead w_scrap (q_ga 0) (q_jo 0) w_marks w_draft, wX9 G q_v v_mountain v_night o_v_g v_flock v_hunger v_lean v_fed v_taken v_pacts v_levels v_facts, wX1 G q_ga ga_now ga_ahead ga_scrap ga_mostFarms ga_losses ga_known ga_found ga_foundMany o_ga_nights ga_farms ga_been ga_restingRow, wX2 G q_jo jo_now jo_ahead jo_scrap jo_mostFarms jo_losses jo_known jo_found jo_foundMany o_jo_nights jo_farms jo_groups jo_renumbered] := by
  refine MC.of pn_X10 (Nat.le_of_ble_eq_true rfl) (fun K hR hret => ?_)
  have hR : Rl l G RX10 cX10_seed 2 (RM 2) K := hR
  show K [wX10 G q_w w_tape w_reader (q_v 0) w_book w_ahead w_scrap (q_ga 0) (q_jo 0) w_marks w_draft, wX9 G q_v v_mountain v_night v_g v_flock v_hunger v_lean v_fed v_taken v_pacts v_levels v_facts, wX1 G q_ga ga_now ga_ahead ga_scrap ga_mostFarms ga_losses ga_known ga_found ga_foundMany ga_nights ga_farms ga_been ga_restingRow, wX2 G q_jo jo_now jo_ahead jo_scrap jo_mostFarms jo_losses jo_known jo_found jo_foundMany jo_nights jo_farms jo_groups jo_renumbered] [(0, .ref (q_w 0)), (1, .int l1)] 0 []
  refine st_iload_n hR dX10_seed_0 1 rfl rfl (pc' := 1) rfl ?_
  refine st_if_lt hR dX10_seed_1 (tgt := 11) (by decide) (pc' := 4) rfl (fun c_ => ?_) (fun c_ => ?_)
  · have hM := it_t c_ hM
    refine st_iconst hR dX10_seed_11 (v := 0) rfl (pc' := 12) rfl ?_
    cases hM
    exact hret _ _ dX10_seed_12 (ro_z (Or.inl rfl))
  · have hM := it_f c_ hM
    refine st_iload_n hR dX10_seed_4 1 rfl rfl (pc' := 5) rfl ?_
    refine st_sipush hR dX10_seed_5 (v := 9999) rfl (pc' := 8) rfl ?_
    refine st_icmp_le hR dX10_seed_8 (tgt := 13) (by decide) (pc' := 11) rfl (fun c_ => ?_) (fun c_ => ?_)
    · have hM := it_t c_ hM
      refine st_aload_n hR dX10_seed_13 0 rfl rfl (pc' := 14) rfl ?_
      refine st_get hR dX10_seed_14 fg_X10_37_9_2 0 0 rfl rfl rfl (pc' := 17) rfl ?_
      refine st_iload_n hR dX10_seed_17 1 rfl rfl (pc' := 18) rfl ?_
      refine st_i2l hR dX10_seed_18 (pc' := 19) rfl ?_
      refine st_topl (fun v_g_1 e_ => ?_)
      have hM := lt_e e_ hM
      refine st_put hR dX10_seed_19 fp_X10_129_8_2 1 0 rfl rfl (Nat.le_of_ble_eq_true rfl) rfl rfl (pc' := 22) rfl (W' := [wX10 G q_w w_tape w_reader (q_v 0) w_book w_ahead w_scrap (q_ga 0) (q_jo 0) w_marks w_draft, wX9 G q_v v_mountain v_night v_g_1 v_flock v_hunger v_lean v_fed v_taken v_pacts v_levels v_facts, wX1 G q_ga ga_now ga_ahead ga_scrap ga_mostFarms ga_losses ga_known ga_found ga_foundMany ga_nights ga_farms ga_been ga_restingRow, wX2 G q_jo jo_now jo_ahead jo_scrap jo_mostFarms jo_losses jo_known jo_found jo_foundMany jo_nights jo_farms jo_groups jo_renumbered]) rfl ?_
      refine st_aload_n hR dX10_seed_22 0 rfl rfl (pc' := 23) rfl ?_
      obtain ⟨⟨ga_nights_1, jo_nights_1⟩, hc_, hM⟩ := bd_e hM
      refine st_callV hR (k_X10_forgetAhead hc_) cf_X10_133 (rm_le (Nat.le_of_ble_eq_true rfl) (Nat.le_of_ble_eq_true rfl)) [0, 2, 3] rfl rfl rfl 0 0 9 10 rfl rfl rfl rfl (rest := []) rfl (Nat.le_of_ble_eq_true rfl) dX10_seed_23 (pc' := 26) rfl (Wn := [wX10 G q_w w_tape w_reader (q_v 0) w_book w_ahead w_scrap (q_ga 0) (q_jo 0) w_marks w_draft, wX9 G q_v v_mountain v_night v_g_1 v_flock v_hunger v_lean v_fed v_taken v_pacts v_levels v_facts, wX1 G q_ga ga_now ga_ahead ga_scrap ga_mostFarms ga_losses ga_known ga_found ga_foundMany ga_nights_1 ga_farms ga_been ga_restingRow, wX2 G q_jo jo_now jo_ahead jo_scrap jo_mostFarms jo_losses jo_known jo_found jo_foundMany jo_nights_1 jo_farms jo_groups jo_renumbered]) rfl ?_
      refine st_iconst hR dX10_seed_26 (v := 1) rfl (pc' := 27) rfl ?_
      cases hM
      exact hret _ _ dX10_seed_27 (ro_z (Or.inr rfl))
    · have hM := it_f c_ hM
      refine st_iconst hR dX10_seed_11 (v := 0) rfl (pc' := 12) rfl ?_
      cases hM
      exact hret _ _ dX10_seed_12 (ro_z (Or.inl rfl))
set_option maxHeartbeats 16000000 in
set_option maxRecDepth 100000 in
theorem k_X10_nights {l : Launch} {G : GG} {q_w q_v q_mt q_fe q_go q_b q_ga q_jo : Nat → Nat} {v_night mt_farms mt_fences mt_shares mt_toothed fe_steps go_steps b_bones b_feudsInAll b_bitten ga_mostFarms ga_foundMany ga_nights ga_farms ga_restingRow jo_mostFarms jo_foundMany jo_nights jo_farms : Int32} {v_g : Int64} {v_flock v_hunger v_lean v_fed v_taken v_pacts v_levels v_facts mt_flock mt_dogs mt_hunger mt_fenced mt_heights mt_pacts mt_partner mt_often fe_kinds fe_lefts fe_rights fe_values go_kinds go_lefts go_rights go_values b_kept b_feuds b_bites ga_losses ga_known ga_found ga_been jo_losses jo_known jo_found jo_groups jo_renumbered : Nat → Int32} {mt_names : Nat → Int64} {w_tape w_reader w_ahead w_scrap w_draft ga_now ga_ahead ga_scrap jo_now jo_ahead jo_scrap : Nat} {w_marks : Nat → Option Nat} {l1 : Int32} {o_r : Int32} {o_v_night : Int32} {o_v_g : Int64} {o_v_flock : Nat → Int32} {o_v_lean : Nat → Int32} {o_v_fed : Nat → Int32} {o_v_taken : Nat → Int32} {o_v_facts : Nat → Int32} {o_fe_values : Nat → Int32} {o_go_values : Nat → Int32} {o_b_kept : Nat → Int32} {o_b_feuds : Nat → Int32} {o_b_bones : Int32} {o_b_feudsInAll : Int32} {o_ga_nights : Int32} {o_jo_nights : Int32} (hM : f_X10_nights v_hunger v_pacts v_levels mt_farms mt_dogs mt_fenced mt_heights mt_partner fe_kinds fe_lefts fe_rights fe_steps go_kinds go_lefts go_rights go_steps v_night v_g v_flock v_lean v_fed v_taken v_facts fe_values go_values b_kept b_feuds b_bones b_feudsInAll ga_nights jo_nights l1 = some (o_r, o_v_night, o_v_g, o_v_flock, o_v_lean, o_v_fed, o_v_taken, o_v_facts, o_fe_values, o_go_values, o_b_kept, o_b_feuds, o_b_bones, o_b_feudsInAll, o_ga_nights, o_jo_nights)) : MC l G yX10_nights cX10_nights 2 (some .int) (RM 4) [.ref (q_w 0), .int l1] [wX10 G q_w w_tape w_reader (q_v 0) (q_b 0) w_ahead w_scrap (q_ga 0) (q_jo 0) w_marks w_draft, wX9 G q_v (q_mt 0) v_night v_g v_flock v_hunger v_lean v_fed v_taken v_pacts v_levels v_facts, wX5 G q_mt mt_farms mt_fences mt_shares mt_names mt_flock mt_dogs mt_hunger mt_fenced mt_heights mt_pacts mt_partner mt_often mt_toothed (q_fe 0) (q_go 0), wX3 G q_fe fe_kinds fe_lefts fe_rights fe_values fe_steps, wX3 G q_go go_kinds go_lefts go_rights go_values go_steps, wX0 G q_b b_kept b_feuds b_bites b_bones b_feudsInAll b_bitten, wX1 G q_ga ga_now ga_ahead ga_scrap ga_mostFarms ga_losses ga_known ga_found ga_foundMany ga_nights ga_farms ga_been ga_restingRow, wX2 G q_jo jo_now jo_ahead jo_scrap jo_mostFarms jo_losses jo_known jo_found jo_foundMany jo_nights jo_farms jo_groups jo_renumbered] (some (.int o_r)) [wX10 G q_w w_tape w_reader (q_v 0) (q_b 0) w_ahead w_scrap (q_ga 0) (q_jo 0) w_marks w_draft, wX9 G q_v (q_mt 0) o_v_night o_v_g o_v_flock v_hunger o_v_lean o_v_fed o_v_taken v_pacts v_levels o_v_facts, wX5 G q_mt mt_farms mt_fences mt_shares mt_names mt_flock mt_dogs mt_hunger mt_fenced mt_heights mt_pacts mt_partner mt_often mt_toothed (q_fe 0) (q_go 0), wX3 G q_fe fe_kinds fe_lefts fe_rights o_fe_values fe_steps, wX3 G q_go go_kinds go_lefts go_rights o_go_values go_steps, wX0 G q_b o_b_kept o_b_feuds b_bites o_b_bones o_b_feudsInAll b_bitten, wX1 G q_ga ga_now ga_ahead ga_scrap ga_mostFarms ga_losses ga_known ga_found ga_foundMany o_ga_nights ga_farms ga_been ga_restingRow, wX2 G q_jo jo_now jo_ahead jo_scrap jo_mostFarms jo_losses jo_known jo_found jo_foundMany o_jo_nights jo_farms jo_groups jo_renumbered] := by
  refine MC.of pn_X10 (Nat.le_of_ble_eq_true rfl) (fun K hR hret => ?_)
  have hR : Rl l G RX10 cX10_nights 2 (RM 4) K := hR
  show K [wX10 G q_w w_tape w_reader (q_v 0) (q_b 0) w_ahead w_scrap (q_ga 0) (q_jo 0) w_marks w_draft, wX9 G q_v (q_mt 0) v_night v_g v_flock v_hunger v_lean v_fed v_taken v_pacts v_levels v_facts, wX5 G q_mt mt_farms mt_fences mt_shares mt_names mt_flock mt_dogs mt_hunger mt_fenced mt_heights mt_pacts mt_partner mt_often mt_toothed (q_fe 0) (q_go 0), wX3 G q_fe fe_kinds fe_lefts fe_rights fe_values fe_steps, wX3 G q_go go_kinds go_lefts go_rights go_values go_steps, wX0 G q_b b_kept b_feuds b_bites b_bones b_feudsInAll b_bitten, wX1 G q_ga ga_now ga_ahead ga_scrap ga_mostFarms ga_losses ga_known ga_found ga_foundMany ga_nights ga_farms ga_been ga_restingRow, wX2 G q_jo jo_now jo_ahead jo_scrap jo_mostFarms jo_losses jo_known jo_found jo_foundMany jo_nights jo_farms jo_groups jo_renumbered] [(0, .ref (q_w 0)), (1, .int l1)] 0 []
  refine st_iload_n hR dX10_nights_0 1 rfl rfl (pc' := 1) rfl ?_
  refine st_iconst hR dX10_nights_1 (v := 1) rfl (pc' := 2) rfl ?_
  refine st_icmp_lt hR dX10_nights_2 (tgt := 12) (by decide) (pc' := 5) rfl (fun c_ => ?_) (fun c_ => ?_)
  · have hM := it_t c_ hM
    refine st_iconst hR dX10_nights_12 (v := (-1)) (by decide) (pc' := 13) rfl ?_
    cases hM
    exact hret _ _ dX10_nights_13 (ro_i _)
  · have hM := it_f c_ hM
    refine st_iload_n hR dX10_nights_5 1 rfl rfl (pc' := 6) rfl ?_
    refine st_sipush hR dX10_nights_6 (v := 1000) rfl (pc' := 9) rfl ?_
    refine st_icmp_le hR dX10_nights_9 (tgt := 14) (by decide) (pc' := 12) rfl (fun c_ => ?_) (fun c_ => ?_)
    · have hM := it_t c_ hM
      refine st_aload_n hR dX10_nights_14 0 rfl rfl (pc' := 15) rfl ?_
      refine st_get hR dX10_nights_15 fg_X10_37_9_2 0 0 rfl rfl rfl (pc' := 18) rfl ?_
      refine st_aload_n hR dX10_nights_18 0 rfl rfl (pc' := 19) rfl ?_
      refine st_get hR dX10_nights_19 fg_X10_44_9_3 0 0 rfl rfl rfl (pc' := 22) rfl ?_
      refine st_iload_n hR dX10_nights_22 1 rfl rfl (pc' := 23) rfl ?_
      obtain ⟨⟨v_night_1, v_g_1, v_flock_1, v_lean_1, v_fed_1, v_taken_1, v_facts_1, fe_values_1, go_values_1, b_kept_1, b_feuds_1, b_bones_1, b_feudsInAll_1⟩, hc_, hM⟩ := bd_e hM
      refine st_callV hR (k_X9_run hc_) cf_X10_136 (rm_le (Nat.le_of_ble_eq_true rfl) (Nat.le_of_ble_eq_true rfl)) [1, 2, 3, 4, 5] rfl rfl rfl 1 0 8 11 rfl rfl rfl rfl (rest := []) rfl (Nat.le_of_ble_eq_true rfl) dX10_nights_23 (pc' := 26) rfl (Wn := [wX10 G q_w w_tape w_reader (q_v 0) (q_b 0) w_ahead w_scrap (q_ga 0) (q_jo 0) w_marks w_draft, wX9 G q_v (q_mt 0) v_night_1 v_g_1 v_flock_1 v_hunger v_lean_1 v_fed_1 v_taken_1 v_pacts v_levels v_facts_1, wX5 G q_mt mt_farms mt_fences mt_shares mt_names mt_flock mt_dogs mt_hunger mt_fenced mt_heights mt_pacts mt_partner mt_often mt_toothed (q_fe 0) (q_go 0), wX3 G q_fe fe_kinds fe_lefts fe_rights fe_values_1 fe_steps, wX3 G q_go go_kinds go_lefts go_rights go_values_1 go_steps, wX0 G q_b b_kept_1 b_feuds_1 b_bites b_bones_1 b_feudsInAll_1 b_bitten, wX1 G q_ga ga_now ga_ahead ga_scrap ga_mostFarms ga_losses ga_known ga_found ga_foundMany ga_nights ga_farms ga_been ga_restingRow, wX2 G q_jo jo_now jo_ahead jo_scrap jo_mostFarms jo_losses jo_known jo_found jo_foundMany jo_nights jo_farms jo_groups jo_renumbered]) rfl ?_
      refine st_aload_n hR dX10_nights_26 0 rfl rfl (pc' := 27) rfl ?_
      obtain ⟨⟨ga_nights_1, jo_nights_1⟩, hc_, hM⟩ := bd_e hM
      refine st_callV hR (k_X10_forgetAhead hc_) cf_X10_133 (rm_le (Nat.le_of_ble_eq_true rfl) (Nat.le_of_ble_eq_true rfl)) [0, 6, 7] rfl rfl rfl 0 0 9 10 rfl rfl rfl rfl (rest := []) rfl (Nat.le_of_ble_eq_true rfl) dX10_nights_27 (pc' := 30) rfl (Wn := [wX10 G q_w w_tape w_reader (q_v 0) (q_b 0) w_ahead w_scrap (q_ga 0) (q_jo 0) w_marks w_draft, wX9 G q_v (q_mt 0) v_night_1 v_g_1 v_flock_1 v_hunger v_lean_1 v_fed_1 v_taken_1 v_pacts v_levels v_facts_1, wX5 G q_mt mt_farms mt_fences mt_shares mt_names mt_flock mt_dogs mt_hunger mt_fenced mt_heights mt_pacts mt_partner mt_often mt_toothed (q_fe 0) (q_go 0), wX3 G q_fe fe_kinds fe_lefts fe_rights fe_values_1 fe_steps, wX3 G q_go go_kinds go_lefts go_rights go_values_1 go_steps, wX0 G q_b b_kept_1 b_feuds_1 b_bites b_bones_1 b_feudsInAll_1 b_bitten, wX1 G q_ga ga_now ga_ahead ga_scrap ga_mostFarms ga_losses ga_known ga_found ga_foundMany ga_nights_1 ga_farms ga_been ga_restingRow, wX2 G q_jo jo_now jo_ahead jo_scrap jo_mostFarms jo_losses jo_known jo_found jo_foundMany jo_nights_1 jo_farms jo_groups jo_renumbered]) rfl ?_
      refine st_aload_n hR dX10_nights_30 0 rfl rfl (pc' := 31) rfl ?_
      refine st_get hR dX10_nights_31 fg_X10_37_9_2 0 0 rfl rfl rfl (pc' := 34) rfl ?_
      refine st_get hR dX10_nights_34 fg_X10_140_8_1 1 0 rfl rfl rfl (pc' := 37) rfl ?_
      cases hM
      exact hret _ _ dX10_nights_37 (ro_i _)
    · have hM := it_f c_ hM
      refine st_iconst hR dX10_nights_12 (v := (-1)) (by decide) (pc' := 13) rfl ?_
      cases hM
      exact hret _ _ dX10_nights_13 (ro_i _)
set_option maxHeartbeats 16000000 in
set_option maxRecDepth 100000 in
theorem k_X10_pact {l : Launch} {G : GG} {q_w q_v q_mt q_ga q_jo : Nat → Nat} {v_night mt_farms mt_fences mt_shares mt_toothed ga_mostFarms ga_foundMany ga_nights ga_farms ga_restingRow jo_mostFarms jo_foundMany jo_nights jo_farms : Int32} {v_g : Int64} {v_flock v_hunger v_lean v_fed v_taken v_pacts v_levels v_facts mt_flock mt_dogs mt_hunger mt_fenced mt_heights mt_pacts mt_partner mt_often ga_losses ga_known ga_found ga_been jo_losses jo_known jo_found jo_groups jo_renumbered : Nat → Int32} {mt_names : Nat → Int64} {w_tape w_reader w_book w_ahead w_scrap w_draft mt_feeding mt_going ga_now ga_ahead ga_scrap jo_now jo_ahead jo_scrap : Nat} {w_marks : Nat → Option Nat} {l1 l2 l3 : Int32} {o_r : Int32} {o_v_pacts : Nat → Int32} {o_ga_nights : Int32} {o_jo_nights : Int32} (hM : f_X10_pact mt_farms v_pacts ga_nights jo_nights l1 l2 l3 = some (o_r, o_v_pacts, o_ga_nights, o_jo_nights)) : MC l G yX10_pact cX10_pact 4 (some .boolean) (RM 2) [.ref (q_w 0), .int l1, .int l2, .int l3] [wX10 G q_w w_tape w_reader (q_v 0) w_book w_ahead w_scrap (q_ga 0) (q_jo 0) w_marks w_draft, wX9 G q_v (q_mt 0) v_night v_g v_flock v_hunger v_lean v_fed v_taken v_pacts v_levels v_facts, wX5 G q_mt mt_farms mt_fences mt_shares mt_names mt_flock mt_dogs mt_hunger mt_fenced mt_heights mt_pacts mt_partner mt_often mt_toothed mt_feeding mt_going, wX1 G q_ga ga_now ga_ahead ga_scrap ga_mostFarms ga_losses ga_known ga_found ga_foundMany ga_nights ga_farms ga_been ga_restingRow, wX2 G q_jo jo_now jo_ahead jo_scrap jo_mostFarms jo_losses jo_known jo_found jo_foundMany jo_nights jo_farms jo_groups jo_renumbered] (some (.int o_r)) [wX10 G q_w w_tape w_reader (q_v 0) w_book w_ahead w_scrap (q_ga 0) (q_jo 0) w_marks w_draft, wX9 G q_v (q_mt 0) v_night v_g v_flock v_hunger v_lean v_fed v_taken o_v_pacts v_levels v_facts, wX5 G q_mt mt_farms mt_fences mt_shares mt_names mt_flock mt_dogs mt_hunger mt_fenced mt_heights mt_pacts mt_partner mt_often mt_toothed mt_feeding mt_going, wX1 G q_ga ga_now ga_ahead ga_scrap ga_mostFarms ga_losses ga_known ga_found ga_foundMany o_ga_nights ga_farms ga_been ga_restingRow, wX2 G q_jo jo_now jo_ahead jo_scrap jo_mostFarms jo_losses jo_known jo_found jo_foundMany o_jo_nights jo_farms jo_groups jo_renumbered] := by
  refine MC.of pn_X10 (Nat.le_of_ble_eq_true rfl) (fun K hR hret => ?_)
  have hR : Rl l G RX10 cX10_pact 4 (RM 2) K := hR
  show K [wX10 G q_w w_tape w_reader (q_v 0) w_book w_ahead w_scrap (q_ga 0) (q_jo 0) w_marks w_draft, wX9 G q_v (q_mt 0) v_night v_g v_flock v_hunger v_lean v_fed v_taken v_pacts v_levels v_facts, wX5 G q_mt mt_farms mt_fences mt_shares mt_names mt_flock mt_dogs mt_hunger mt_fenced mt_heights mt_pacts mt_partner mt_often mt_toothed mt_feeding mt_going, wX1 G q_ga ga_now ga_ahead ga_scrap ga_mostFarms ga_losses ga_known ga_found ga_foundMany ga_nights ga_farms ga_been ga_restingRow, wX2 G q_jo jo_now jo_ahead jo_scrap jo_mostFarms jo_losses jo_known jo_found jo_foundMany jo_nights jo_farms jo_groups jo_renumbered] [(0, .ref (q_w 0)), (1, .int l1), (2, .int l2), (3, .int l3)] 0 []
  refine st_aload_n hR dX10_pact_0 0 rfl rfl (pc' := 1) rfl ?_
  refine st_iload_n hR dX10_pact_1 1 rfl rfl (pc' := 2) rfl ?_
  refine st_iload_n hR dX10_pact_2 2 rfl rfl (pc' := 3) rfl ?_
  obtain ⟨r_1, hc_, hM⟩ := bd_e hM
  refine st_callV hR (k_X10_isPair hc_) cf_X10_143 (rm_le (Nat.le_of_ble_eq_true rfl) (Nat.le_of_ble_eq_true rfl)) [0, 1, 2] rfl rfl rfl 0 0 9 10 rfl rfl rfl rfl (rest := []) rfl (Nat.le_of_ble_eq_true rfl) dX10_pact_3 (pc' := 6) rfl (Wn := [wX10 G q_w w_tape w_reader (q_v 0) w_book w_ahead w_scrap (q_ga 0) (q_jo 0) w_marks w_draft, wX9 G q_v (q_mt 0) v_night v_g v_flock v_hunger v_lean v_fed v_taken v_pacts v_levels v_facts, wX5 G q_mt mt_farms mt_fences mt_shares mt_names mt_flock mt_dogs mt_hunger mt_fenced mt_heights mt_pacts mt_partner mt_often mt_toothed mt_feeding mt_going, wX1 G q_ga ga_now ga_ahead ga_scrap ga_mostFarms ga_losses ga_known ga_found ga_foundMany ga_nights ga_farms ga_been ga_restingRow, wX2 G q_jo jo_now jo_ahead jo_scrap jo_mostFarms jo_losses jo_known jo_found jo_foundMany jo_nights jo_farms jo_groups jo_renumbered]) rfl ?_
  refine st_if_eq hR dX10_pact_6 (tgt := 22) (by decide) (pc' := 9) rfl (fun c_ => ?_) (fun c_ => ?_)
  · have hM := it_t c_ hM
    refine st_iconst hR dX10_pact_22 (v := 0) rfl (pc' := 23) rfl ?_
    cases hM
    exact hret _ _ dX10_pact_23 (ro_z (Or.inl rfl))
  · have hM := it_f c_ hM
    refine st_aload_n hR dX10_pact_9 0 rfl rfl (pc' := 10) rfl ?_
    refine st_get hR dX10_pact_10 fg_X10_37_9_2 0 0 rfl rfl rfl (pc' := 13) rfl ?_
    refine st_iload_n hR dX10_pact_13 1 rfl rfl (pc' := 14) rfl ?_
    refine st_iload_n hR dX10_pact_14 2 rfl rfl (pc' := 15) rfl ?_
    obtain ⟨r_2, hc_, hM⟩ := bd_e hM
    refine st_callV hR (k_X9_havePact hc_) cf_X10_147 (rm_le (Nat.le_of_ble_eq_true rfl) (Nat.le_of_ble_eq_true rfl)) [1] rfl rfl rfl 1 0 8 11 rfl rfl rfl rfl (rest := []) rfl (Nat.le_of_ble_eq_true rfl) dX10_pact_15 (pc' := 18) rfl (Wn := [wX10 G q_w w_tape w_reader (q_v 0) w_book w_ahead w_scrap (q_ga 0) (q_jo 0) w_marks w_draft, wX9 G q_v (q_mt 0) v_night v_g v_flock v_hunger v_lean v_fed v_taken v_pacts v_levels v_facts, wX5 G q_mt mt_farms mt_fences mt_shares mt_names mt_flock mt_dogs mt_hunger mt_fenced mt_heights mt_pacts mt_partner mt_often mt_toothed mt_feeding mt_going, wX1 G q_ga ga_now ga_ahead ga_scrap ga_mostFarms ga_losses ga_known ga_found ga_foundMany ga_nights ga_farms ga_been ga_restingRow, wX2 G q_jo jo_now jo_ahead jo_scrap jo_mostFarms jo_losses jo_known jo_found jo_foundMany jo_nights jo_farms jo_groups jo_renumbered]) rfl ?_
    refine st_iload_n hR dX10_pact_18 3 rfl rfl (pc' := 19) rfl ?_
    refine st_icmp_ne hR dX10_pact_19 (tgt := 24) (by decide) (pc' := 22) rfl (fun c_ => ?_) (fun c_ => ?_)
    · have hM := it_f c_ hM
      refine st_aload_n hR dX10_pact_24 0 rfl rfl (pc' := 25) rfl ?_
      refine st_get hR dX10_pact_25 fg_X10_37_9_2 0 0 rfl rfl rfl (pc' := 28) rfl ?_
      refine st_iload_n hR dX10_pact_28 1 rfl rfl (pc' := 29) rfl ?_
      refine st_iload_n hR dX10_pact_29 2 rfl rfl (pc' := 30) rfl ?_
      obtain ⟨v_pacts_1, hc_, hM⟩ := bd_e hM
      refine st_callV hR (k_X9_turnPact hc_) cf_X10_150 (rm_le (Nat.le_of_ble_eq_true rfl) (Nat.le_of_ble_eq_true rfl)) [1] rfl rfl rfl 1 0 8 11 rfl rfl rfl rfl (rest := []) rfl (Nat.le_of_ble_eq_true rfl) dX10_pact_30 (pc' := 33) rfl (Wn := [wX10 G q_w w_tape w_reader (q_v 0) w_book w_ahead w_scrap (q_ga 0) (q_jo 0) w_marks w_draft, wX9 G q_v (q_mt 0) v_night v_g v_flock v_hunger v_lean v_fed v_taken v_pacts_1 v_levels v_facts, wX5 G q_mt mt_farms mt_fences mt_shares mt_names mt_flock mt_dogs mt_hunger mt_fenced mt_heights mt_pacts mt_partner mt_often mt_toothed mt_feeding mt_going, wX1 G q_ga ga_now ga_ahead ga_scrap ga_mostFarms ga_losses ga_known ga_found ga_foundMany ga_nights ga_farms ga_been ga_restingRow, wX2 G q_jo jo_now jo_ahead jo_scrap jo_mostFarms jo_losses jo_known jo_found jo_foundMany jo_nights jo_farms jo_groups jo_renumbered]) rfl ?_
      refine st_aload_n hR dX10_pact_33 0 rfl rfl (pc' := 34) rfl ?_
      obtain ⟨⟨ga_nights_1, jo_nights_1⟩, hc_, hM⟩ := bd_e hM
      refine st_callV hR (k_X10_forgetAhead hc_) cf_X10_133 (rm_le (Nat.le_of_ble_eq_true rfl) (Nat.le_of_ble_eq_true rfl)) [0, 3, 4] rfl rfl rfl 0 0 9 10 rfl rfl rfl rfl (rest := []) rfl (Nat.le_of_ble_eq_true rfl) dX10_pact_34 (pc' := 37) rfl (Wn := [wX10 G q_w w_tape w_reader (q_v 0) w_book w_ahead w_scrap (q_ga 0) (q_jo 0) w_marks w_draft, wX9 G q_v (q_mt 0) v_night v_g v_flock v_hunger v_lean v_fed v_taken v_pacts_1 v_levels v_facts, wX5 G q_mt mt_farms mt_fences mt_shares mt_names mt_flock mt_dogs mt_hunger mt_fenced mt_heights mt_pacts mt_partner mt_often mt_toothed mt_feeding mt_going, wX1 G q_ga ga_now ga_ahead ga_scrap ga_mostFarms ga_losses ga_known ga_found ga_foundMany ga_nights_1 ga_farms ga_been ga_restingRow, wX2 G q_jo jo_now jo_ahead jo_scrap jo_mostFarms jo_losses jo_known jo_found jo_foundMany jo_nights_1 jo_farms jo_groups jo_renumbered]) rfl ?_
      refine st_iconst hR dX10_pact_37 (v := 1) rfl (pc' := 38) rfl ?_
      cases hM
      exact hret _ _ dX10_pact_38 (ro_z (Or.inr rfl))
    · have hM := it_t c_ hM
      refine st_iconst hR dX10_pact_22 (v := 0) rfl (pc' := 23) rfl ?_
      cases hM
      exact hret _ _ dX10_pact_23 (ro_z (Or.inl rfl))
set_option maxHeartbeats 16000000 in
set_option maxRecDepth 100000 in
theorem k_X10_bones {l : Launch} {G : GG} {q_w q_b : Nat → Nat} {b_bones b_feudsInAll b_bitten : Int32} {b_kept b_feuds b_bites : Nat → Int32} {w_tape w_reader w_now w_ahead w_scrap w_game w_joined w_draft : Nat} {w_marks : Nat → Option Nat}  {o_r : Int32} (hM : f_X10_bones b_bones = some o_r) : MC l G yX10_bones cX10_bones 1 (some .int) (RM 0) [.ref (q_w 0)] [wX10 G q_w w_tape w_reader w_now (q_b 0) w_ahead w_scrap w_game w_joined w_marks w_draft, wX0 G q_b b_kept b_feuds b_bites b_bones b_feudsInAll b_bitten] (some (.int o_r)) [wX10 G q_w w_tape w_reader w_now (q_b 0) w_ahead w_scrap w_game w_joined w_marks w_draft, wX0 G q_b b_kept b_feuds b_bites b_bones b_feudsInAll b_bitten] := by
  refine MC.of pn_X10 (Nat.le_of_ble_eq_true rfl) (fun K hR hret => ?_)
  have hR : Rl l G RX10 cX10_bones 1 (RM 0) K := hR
  show K [wX10 G q_w w_tape w_reader w_now (q_b 0) w_ahead w_scrap w_game w_joined w_marks w_draft, wX0 G q_b b_kept b_feuds b_bites b_bones b_feudsInAll b_bitten] [(0, .ref (q_w 0))] 0 []
  refine st_aload_n hR dX10_bones_0 0 rfl rfl (pc' := 1) rfl ?_
  refine st_get hR dX10_bones_1 fg_X10_44_9_3 0 0 rfl rfl rfl (pc' := 4) rfl ?_
  refine st_get hR dX10_bones_4 fg_X10_154_0_3 1 0 rfl rfl rfl (pc' := 7) rfl ?_
  cases hM
  exact hret _ _ dX10_bones_7 (ro_i _)
set_option maxHeartbeats 16000000 in
set_option maxRecDepth 100000 in
theorem k_X10_feuds {l : Launch} {G : GG} {q_w q_v q_mt q_b : Nat → Nat} {v_night mt_farms mt_fences mt_shares mt_toothed b_bones b_feudsInAll b_bitten : Int32} {v_g : Int64} {v_flock v_hunger v_lean v_fed v_taken v_pacts v_levels v_facts mt_flock mt_dogs mt_hunger mt_fenced mt_heights mt_pacts mt_partner mt_often b_kept b_feuds b_bites : Nat → Int32} {mt_names : Nat → Int64} {w_tape w_reader w_ahead w_scrap w_game w_joined w_draft mt_feeding mt_going : Nat} {w_marks : Nat → Option Nat} {l1 l2 : Int32} {o_r : Int32} (hM : f_X10_feuds mt_farms b_feuds l1 l2 = some o_r) : MC l G yX10_feuds cX10_feuds 3 (some .int) (RM 2) [.ref (q_w 0), .int l1, .int l2] [wX10 G q_w w_tape w_reader (q_v 0) (q_b 0) w_ahead w_scrap w_game w_joined w_marks w_draft, wX9 G q_v (q_mt 0) v_night v_g v_flock v_hunger v_lean v_fed v_taken v_pacts v_levels v_facts, wX5 G q_mt mt_farms mt_fences mt_shares mt_names mt_flock mt_dogs mt_hunger mt_fenced mt_heights mt_pacts mt_partner mt_often mt_toothed mt_feeding mt_going, wX0 G q_b b_kept b_feuds b_bites b_bones b_feudsInAll b_bitten] (some (.int o_r)) [wX10 G q_w w_tape w_reader (q_v 0) (q_b 0) w_ahead w_scrap w_game w_joined w_marks w_draft, wX9 G q_v (q_mt 0) v_night v_g v_flock v_hunger v_lean v_fed v_taken v_pacts v_levels v_facts, wX5 G q_mt mt_farms mt_fences mt_shares mt_names mt_flock mt_dogs mt_hunger mt_fenced mt_heights mt_pacts mt_partner mt_often mt_toothed mt_feeding mt_going, wX0 G q_b b_kept b_feuds b_bites b_bones b_feudsInAll b_bitten] := by
  refine MC.of pn_X10 (Nat.le_of_ble_eq_true rfl) (fun K hR hret => ?_)
  have hR : Rl l G RX10 cX10_feuds 3 (RM 2) K := hR
  show K [wX10 G q_w w_tape w_reader (q_v 0) (q_b 0) w_ahead w_scrap w_game w_joined w_marks w_draft, wX9 G q_v (q_mt 0) v_night v_g v_flock v_hunger v_lean v_fed v_taken v_pacts v_levels v_facts, wX5 G q_mt mt_farms mt_fences mt_shares mt_names mt_flock mt_dogs mt_hunger mt_fenced mt_heights mt_pacts mt_partner mt_often mt_toothed mt_feeding mt_going, wX0 G q_b b_kept b_feuds b_bites b_bones b_feudsInAll b_bitten] [(0, .ref (q_w 0)), (1, .int l1), (2, .int l2)] 0 []
  refine st_aload_n hR dX10_feuds_0 0 rfl rfl (pc' := 1) rfl ?_
  refine st_iload_n hR dX10_feuds_1 1 rfl rfl (pc' := 2) rfl ?_
  refine st_iload_n hR dX10_feuds_2 2 rfl rfl (pc' := 3) rfl ?_
  obtain ⟨r_1, hc_, hM⟩ := bd_e hM
  refine st_callV hR (k_X10_isPair hc_) cf_X10_143 (rm_le (Nat.le_of_ble_eq_true rfl) (Nat.le_of_ble_eq_true rfl)) [0, 1, 2] rfl rfl rfl 0 0 9 10 rfl rfl rfl rfl (rest := []) rfl (Nat.le_of_ble_eq_true rfl) dX10_feuds_3 (pc' := 6) rfl (Wn := [wX10 G q_w w_tape w_reader (q_v 0) (q_b 0) w_ahead w_scrap w_game w_joined w_marks w_draft, wX9 G q_v (q_mt 0) v_night v_g v_flock v_hunger v_lean v_fed v_taken v_pacts v_levels v_facts, wX5 G q_mt mt_farms mt_fences mt_shares mt_names mt_flock mt_dogs mt_hunger mt_fenced mt_heights mt_pacts mt_partner mt_often mt_toothed mt_feeding mt_going, wX0 G q_b b_kept b_feuds b_bites b_bones b_feudsInAll b_bitten]) rfl ?_
  refine st_if_eq hR dX10_feuds_6 (tgt := 26) (by decide) (pc' := 9) rfl (fun c_ => ?_) (fun c_ => ?_)
  · have hM := it_t c_ hM
    refine st_iconst hR dX10_feuds_26 (v := (-1)) (by decide) (pc' := 27) rfl ?_
    cases hM
    exact hret _ _ dX10_feuds_27 (ro_i _)
  · have hM := it_f c_ hM
    refine st_aload_n hR dX10_feuds_9 0 rfl rfl (pc' := 10) rfl ?_
    refine st_get hR dX10_feuds_10 fg_X10_44_9_3 0 0 rfl rfl rfl (pc' := 13) rfl ?_
    refine st_get hR dX10_feuds_13 fg_X10_170_0_1 3 0 rfl rfl rfl (pc' := 16) rfl ?_
    refine st_iload_n hR dX10_feuds_16 1 rfl rfl (pc' := 17) rfl ?_
    refine st_bipush hR dX10_feuds_17 (v := 6) rfl (pc' := 19) rfl ?_
    refine st_imul hR dX10_feuds_19 (pc' := 20) rfl ?_
    refine st_iload_n hR dX10_feuds_20 2 rfl rfl (pc' := 21) rfl ?_
    refine st_iadd hR dX10_feuds_21 (pc' := 22) rfl ?_
    obtain ⟨hin_, hM⟩ := g_in_e hM
    refine st_iald hR dX10_feuds_22 3 2 rfl rfl hin_ (v := b_feuds (ix ((l1 * 6) + l2))) rfl (pc' := 23) rfl ?_
    refine st_goto hR dX10_feuds_23 (tgt := 27) (by decide) ?_
    cases hM
    exact hret _ _ dX10_feuds_27 (ro_i _)
set_option maxHeartbeats 16000000 in
set_option maxRecDepth 100000 in
theorem k_X10_bite {l : Launch} {G : GG} {q_w q_b : Nat → Nat} {b_bones b_feudsInAll b_bitten : Int32} {b_kept b_feuds b_bites : Nat → Int32} {w_tape w_reader w_now w_ahead w_scrap w_game w_joined w_draft : Nat} {w_marks : Nat → Option Nat} {l1 : Int32} {o_r : Int32} {o_b_bites : Nat → Int32} {o_b_bitten : Int32} (hM : f_X10_bite b_bites b_bitten l1 = some (o_r, o_b_bites, o_b_bitten)) : MC l G yX10_bite cX10_bite 2 (some .int) (RM 0) [.ref (q_w 0), .int l1] [wX10 G q_w w_tape w_reader w_now (q_b 0) w_ahead w_scrap w_game w_joined w_marks w_draft, wX0 G q_b b_kept b_feuds b_bites b_bones b_feudsInAll b_bitten] (some (.int o_r)) [wX10 G q_w w_tape w_reader w_now (q_b 0) w_ahead w_scrap w_game w_joined w_marks w_draft, wX0 G q_b b_kept b_feuds o_b_bites b_bones b_feudsInAll o_b_bitten] := by
  refine MC.of pn_X10 (Nat.le_of_ble_eq_true rfl) (fun K hR hret => ?_)
  have hR : Rl l G RX10 cX10_bite 2 (RM 0) K := hR
  show K [wX10 G q_w w_tape w_reader w_now (q_b 0) w_ahead w_scrap w_game w_joined w_marks w_draft, wX0 G q_b b_kept b_feuds b_bites b_bones b_feudsInAll b_bitten] [(0, .ref (q_w 0)), (1, .int l1)] 0 []
  refine st_iload_n hR dX10_bite_0 1 rfl rfl (pc' := 1) rfl ?_
  refine st_if_ne hR dX10_bite_1 (tgt := 14) (by decide) (pc' := 4) rfl (fun c_ => ?_) (fun c_ => ?_)
  · have hM := it_f c_ hM
    refine st_iload_n hR dX10_bite_14 1 rfl rfl (pc' := 15) rfl ?_
    refine st_if_lt hR dX10_bite_15 (tgt := 35) (by decide) (pc' := 18) rfl (fun c_ => ?_) (fun c_ => ?_)
    · have hM := it_t c_ hM
      refine st_iconst hR dX10_bite_35 (v := (-1)) (by decide) (pc' := 36) rfl ?_
      cases hM
      exact hret _ _ dX10_bite_36 (ro_i _)
    · have hM := it_f c_ hM
      refine st_iload_n hR dX10_bite_18 1 rfl rfl (pc' := 19) rfl ?_
      refine st_iconst hR dX10_bite_19 (v := 4) rfl (pc' := 20) rfl ?_
      refine st_icmp_gt hR dX10_bite_20 (tgt := 35) (by decide) (pc' := 23) rfl (fun c_ => ?_) (fun c_ => ?_)
      · have hM := it_t c_ hM
        refine st_iconst hR dX10_bite_35 (v := (-1)) (by decide) (pc' := 36) rfl ?_
        cases hM
        exact hret _ _ dX10_bite_36 (ro_i _)
      · have hM := it_f c_ hM
        refine st_aload_n hR dX10_bite_23 0 rfl rfl (pc' := 24) rfl ?_
        refine st_get hR dX10_bite_24 fg_X10_44_9_3 0 0 rfl rfl rfl (pc' := 27) rfl ?_
        refine st_get hR dX10_bite_27 fg_X10_220_0_5 1 0 rfl rfl rfl (pc' := 30) rfl ?_
        refine st_bipush hR dX10_bite_30 (v := 8) rfl (pc' := 32) rfl ?_
        refine st_icmp_lt hR dX10_bite_32 (tgt := 37) (by decide) (pc' := 35) rfl (fun c_ => ?_) (fun c_ => ?_)
        · have hM := it_t c_ hM
          refine st_aload_n hR dX10_bite_37 0 rfl rfl (pc' := 38) rfl ?_
          refine st_get hR dX10_bite_38 fg_X10_44_9_3 0 0 rfl rfl rfl (pc' := 41) rfl ?_
          refine st_get hR dX10_bite_41 fg_X10_223_0_2 1 0 rfl rfl rfl (pc' := 44) rfl ?_
          refine st_aload_n hR dX10_bite_44 0 rfl rfl (pc' := 45) rfl ?_
          refine st_get hR dX10_bite_45 fg_X10_44_9_3 0 0 rfl rfl rfl (pc' := 48) rfl ?_
          refine st_get hR dX10_bite_48 fg_X10_220_0_5 1 0 rfl rfl rfl (pc' := 51) rfl ?_
          refine st_iload_n hR dX10_bite_51 1 rfl rfl (pc' := 52) rfl ?_
          obtain ⟨hin_, hM⟩ := g_in_e hM
          refine st_iast hR dX10_bite_52 1 3 rfl rfl hin_ (ix := (ix b_bitten)) rfl (pc' := 53) rfl (fun b_bites_1 => [wX10 G q_w w_tape w_reader w_now (q_b 0) w_ahead w_scrap w_game w_joined w_marks w_draft, wX0 G q_b b_kept b_feuds b_bites_1 b_bones b_feudsInAll b_bitten]) (fun _ => rfl) (fun b_bites_1 e_ => ?_)
          have hM := lt_e e_ hM
          refine st_aload_n hR dX10_bite_53 0 rfl rfl (pc' := 54) rfl ?_
          refine st_get hR dX10_bite_54 fg_X10_44_9_3 0 0 rfl rfl rfl (pc' := 57) rfl ?_
          refine st_dup hR dX10_bite_57 (pc' := 58) rfl rfl ?_
          refine st_get hR dX10_bite_58 fg_X10_220_0_5 1 0 rfl rfl rfl (pc' := 61) rfl ?_
          refine st_iconst hR dX10_bite_61 (v := 1) rfl (pc' := 62) rfl ?_
          refine st_iadd hR dX10_bite_62 (pc' := 63) rfl ?_
          refine st_topi (fun b_bitten_1 e_ => ?_)
          have hM := lt_e e_ hM
          refine st_put hR dX10_bite_63 fp_X10_220_0_5 1 0 rfl rfl (Nat.le_of_ble_eq_true rfl) rfl rfl (pc' := 66) rfl (W' := [wX10 G q_w w_tape w_reader w_now (q_b 0) w_ahead w_scrap w_game w_joined w_marks w_draft, wX0 G q_b b_kept b_feuds b_bites_1 b_bones b_feudsInAll b_bitten_1]) rfl ?_
          refine st_aload_n hR dX10_bite_66 0 rfl rfl (pc' := 67) rfl ?_
          refine st_get hR dX10_bite_67 fg_X10_44_9_3 0 0 rfl rfl rfl (pc' := 70) rfl ?_
          refine st_get hR dX10_bite_70 fg_X10_220_0_5 1 0 rfl rfl rfl (pc' := 73) rfl ?_
          cases hM
          exact hret _ _ dX10_bite_73 (ro_i _)
        · have hM := it_f c_ hM
          refine st_iconst hR dX10_bite_35 (v := (-1)) (by decide) (pc' := 36) rfl ?_
          cases hM
          exact hret _ _ dX10_bite_36 (ro_i _)
  · have hM := it_t c_ hM
    refine st_aload_n hR dX10_bite_4 0 rfl rfl (pc' := 5) rfl ?_
    refine st_get hR dX10_bite_5 fg_X10_44_9_3 0 0 rfl rfl rfl (pc' := 8) rfl ?_
    refine st_iconst hR dX10_bite_8 (v := 0) rfl (pc' := 9) rfl ?_
    refine st_put hR dX10_bite_9 fp_X10_220_0_5 1 0 rfl rfl (Nat.le_of_ble_eq_true rfl) rfl rfl (pc' := 12) rfl (W' := [wX10 G q_w w_tape w_reader w_now (q_b 0) w_ahead w_scrap w_game w_joined w_marks w_draft, wX0 G q_b b_kept b_feuds b_bites b_bones b_feudsInAll 0]) rfl ?_
    refine st_iconst hR dX10_bite_12 (v := 0) rfl (pc' := 13) rfl ?_
    cases hM
    exact hret _ _ dX10_bite_13 (ro_i _)
set_option maxHeartbeats 16000000 in
set_option maxRecDepth 100000 in
theorem k_X10_oddsOf {l : Launch} {G : GG} {q_w q_v q_mt q_b : Nat → Nat} {v_night mt_farms mt_fences mt_shares mt_toothed b_bones b_feudsInAll b_bitten : Int32} {v_g : Int64} {v_flock v_hunger v_lean v_fed v_taken v_pacts v_levels v_facts mt_flock mt_dogs mt_hunger mt_fenced mt_heights mt_pacts mt_partner mt_often b_kept b_feuds b_bites : Nat → Int32} {mt_names : Nat → Int64} {w_tape w_reader w_ahead w_scrap w_game w_joined w_draft mt_feeding mt_going : Nat} {w_marks : Nat → Option Nat} {l1 : Int32} {o_r : Int32} (hM : f_X10_oddsOf mt_often b_bites b_bitten l1 = some o_r) : MC l G yX10_oddsOf cX10_oddsOf 4 (some .int) (RM 1) [.ref (q_w 0), .int l1] [wX10 G q_w w_tape w_reader (q_v 0) (q_b 0) w_ahead w_scrap w_game w_joined w_marks w_draft, wX9 G q_v (q_mt 0) v_night v_g v_flock v_hunger v_lean v_fed v_taken v_pacts v_levels v_facts, wX5 G q_mt mt_farms mt_fences mt_shares mt_names mt_flock mt_dogs mt_hunger mt_fenced mt_heights mt_pacts mt_partner mt_often mt_toothed mt_feeding mt_going, wX0 G q_b b_kept b_feuds b_bites b_bones b_feudsInAll b_bitten] (some (.int o_r)) [wX10 G q_w w_tape w_reader (q_v 0) (q_b 0) w_ahead w_scrap w_game w_joined w_marks w_draft, wX9 G q_v (q_mt 0) v_night v_g v_flock v_hunger v_lean v_fed v_taken v_pacts v_levels v_facts, wX5 G q_mt mt_farms mt_fences mt_shares mt_names mt_flock mt_dogs mt_hunger mt_fenced mt_heights mt_pacts mt_partner mt_often mt_toothed mt_feeding mt_going, wX0 G q_b b_kept b_feuds b_bites b_bones b_feudsInAll b_bitten] := by
  refine MC.of pn_X10 (Nat.le_of_ble_eq_true rfl) (fun K hR hret => ?_)
  have hR : Rl l G RX10 cX10_oddsOf 4 (RM 1) K := hR
  show K [wX10 G q_w w_tape w_reader (q_v 0) (q_b 0) w_ahead w_scrap w_game w_joined w_marks w_draft, wX9 G q_v (q_mt 0) v_night v_g v_flock v_hunger v_lean v_fed v_taken v_pacts v_levels v_facts, wX5 G q_mt mt_farms mt_fences mt_shares mt_names mt_flock mt_dogs mt_hunger mt_fenced mt_heights mt_pacts mt_partner mt_often mt_toothed mt_feeding mt_going, wX0 G q_b b_kept b_feuds b_bites b_bones b_feudsInAll b_bitten] [(0, .ref (q_w 0)), (1, .int l1)] 0 []
  have L4 : ∀ (n4 : Nat) (l1 : Int32) (l2 : Int32) (l3 : Int32), f_X10_oddsOf_L4  mt_often b_bites b_bitten n4 l1 l2 l3 = some o_r → K [wX10 G q_w w_tape w_reader (q_v 0) (q_b 0) w_ahead w_scrap w_game w_joined w_marks w_draft, wX9 G q_v (q_mt 0) v_night v_g v_flock v_hunger v_lean v_fed v_taken v_pacts v_levels v_facts, wX5 G q_mt mt_farms mt_fences mt_shares mt_names mt_flock mt_dogs mt_hunger mt_fenced mt_heights mt_pacts mt_partner mt_often mt_toothed mt_feeding mt_going, wX0 G q_b b_kept b_feuds b_bites b_bones b_feudsInAll b_bitten] [(0, .ref (q_w 0)), (1, .int l1), (2, .int l2), (3, .int l3)] 4 [] := by
    intro n4
    induction n4 with
    | zero => intro l1 l2 l3 hM; exact no_some hM
    | succ n4 ih4 =>
      intro l1 l2 l3 hM
      have hM : f_X10_oddsOf_L4b  (f_X10_oddsOf_L4  mt_often b_bites b_bitten n4) mt_often b_bites b_bitten l1 l2 l3 = some o_r := hM
      refine st_iload_n hR dX10_oddsOf_4 3 rfl rfl (pc' := 5) rfl ?_
      refine st_aload_n hR dX10_oddsOf_5 0 rfl rfl (pc' := 6) rfl ?_
      refine st_get hR dX10_oddsOf_6 fg_X10_44_9_3 0 0 rfl rfl rfl (pc' := 9) rfl ?_
      refine st_get hR dX10_oddsOf_9 fg_X10_220_0_5 3 0 rfl rfl rfl (pc' := 12) rfl ?_
      refine st_icmp_ge hR dX10_oddsOf_12 (tgt := 44) (by decide) (pc' := 15) rfl (fun c_ => ?_) (fun c_ => ?_)
      · have hM := it_t c_ hM
        refine st_iload_n hR dX10_oddsOf_44 2 rfl rfl (pc' := 45) rfl ?_
        cases hM
        exact hret _ _ dX10_oddsOf_45 (ro_i _)
      · have hM := it_f c_ hM
        refine st_iload_n hR dX10_oddsOf_15 2 rfl rfl (pc' := 16) rfl ?_
        refine st_aload_n hR dX10_oddsOf_16 0 rfl rfl (pc' := 17) rfl ?_
        refine st_get hR dX10_oddsOf_17 fg_X10_37_9_2 0 0 rfl rfl rfl (pc' := 20) rfl ?_
        refine st_get hR dX10_oddsOf_20 fg_X10_103_8_0 1 0 rfl rfl rfl (pc' := 23) rfl ?_
        refine st_iload_n hR dX10_oddsOf_23 1 rfl rfl (pc' := 24) rfl ?_
        refine st_aload_n hR dX10_oddsOf_24 0 rfl rfl (pc' := 25) rfl ?_
        refine st_get hR dX10_oddsOf_25 fg_X10_44_9_3 0 0 rfl rfl rfl (pc' := 28) rfl ?_
        refine st_get hR dX10_oddsOf_28 fg_X10_223_0_2 3 0 rfl rfl rfl (pc' := 31) rfl ?_
        refine st_iload_n hR dX10_oddsOf_31 3 rfl rfl (pc' := 32) rfl ?_
        obtain ⟨hin_, hM⟩ := g_in_e hM
        refine st_iald hR dX10_oddsOf_32 3 3 rfl rfl hin_ (v := b_bites (ix l3)) rfl (pc' := 33) rfl ?_
        obtain ⟨r_1, hc_, hM⟩ := bd_e hM
        refine st_callV hR (k_X5_oftenBites hc_) cf_X10_125 (rm_le (Nat.le_of_ble_eq_true rfl) (Nat.le_of_ble_eq_true rfl)) [2] rfl rfl rfl 2 0 5 15 rfl rfl rfl rfl (rest := [.int l2]) rfl (Nat.le_of_ble_eq_true rfl) dX10_oddsOf_33 (pc' := 36) rfl (Wn := [wX10 G q_w w_tape w_reader (q_v 0) (q_b 0) w_ahead w_scrap w_game w_joined w_marks w_draft, wX9 G q_v (q_mt 0) v_night v_g v_flock v_hunger v_lean v_fed v_taken v_pacts v_levels v_facts, wX5 G q_mt mt_farms mt_fences mt_shares mt_names mt_flock mt_dogs mt_hunger mt_fenced mt_heights mt_pacts mt_partner mt_often mt_toothed mt_feeding mt_going, wX0 G q_b b_kept b_feuds b_bites b_bones b_feudsInAll b_bitten]) rfl ?_
        refine st_imul hR dX10_oddsOf_36 (pc' := 37) rfl ?_
        refine st_topi (fun l2_1 e_ => ?_)
        have hM := lt_e e_ hM
        refine st_istore_n hR dX10_oddsOf_37 rfl (Nat.le_of_ble_eq_true rfl) [1, 2, 0, 3] (lv' := [(0, .ref (q_w 0)), (1, .int l1), (2, .int l2_1), (3, .int l3)]) rfl (pc' := 38) rfl ?_
        obtain ⟨l3_1, e_⟩ : ∃ y : Int32, y = l3 + 1 := ⟨_, rfl⟩
        refine st_iinc hR dX10_oddsOf_38 (Nat.le_of_ble_eq_true rfl) 3 [1, 2, 3, 0] (v := l3_1) rfl (by rw [e_]; rfl) (lv' := [(0, .ref (q_w 0)), (1, .int l1), (2, .int l2_1), (3, .int l3_1)]) rfl (pc' := 41) rfl ?_
        have hM := lt_e e_ hM
        refine st_goto hR dX10_oddsOf_41 (tgt := 4) (by decide) ?_
        exact ih4 _ _ _ hM
  refine st_iconst hR dX10_oddsOf_0 (v := 1) rfl (pc' := 1) rfl ?_
  refine st_istore_n hR dX10_oddsOf_1 rfl (Nat.le_of_ble_eq_true rfl) [1, 2, 0] (lv' := [(0, .ref (q_w 0)), (1, .int l1), (2, .int 1)]) rfl (pc' := 2) rfl ?_
  refine st_iconst hR dX10_oddsOf_2 (v := 0) rfl (pc' := 3) rfl ?_
  refine st_istore_n hR dX10_oddsOf_3 rfl (Nat.le_of_ble_eq_true rfl) [1, 2, 3, 0] (lv' := [(0, .ref (q_w 0)), (1, .int l1), (2, .int 1), (3, .int 0)]) rfl (pc' := 4) rfl ?_
  exact L4 FU _ _ _ hM
set_option maxHeartbeats 16000000 in
set_option maxRecDepth 100000 in
theorem k_X10_whose {l : Launch} {G : GG} {q_w q_v q_mt q_b : Nat → Nat} {v_night mt_farms mt_fences mt_shares mt_toothed b_bones b_feudsInAll b_bitten : Int32} {v_g : Int64} {v_flock v_hunger v_lean v_fed v_taken v_pacts v_levels v_facts mt_flock mt_dogs mt_hunger mt_fenced mt_heights mt_pacts mt_partner mt_often b_kept b_feuds b_bites : Nat → Int32} {mt_names : Nat → Int64} {w_tape w_reader w_ahead w_scrap w_game w_joined w_draft mt_feeding mt_going : Nat} {w_marks : Nat → Option Nat} {l1 l2 : Int32} {o_r : Int32} (hM : f_X10_whose v_hunger mt_farms mt_often b_bites b_bitten l1 l2 = some o_r) : MC l G yX10_whose cX10_whose 5 (some .int) (RM 2) [.ref (q_w 0), .int l1, .int l2] [wX10 G q_w w_tape w_reader (q_v 0) (q_b 0) w_ahead w_scrap w_game w_joined w_marks w_draft, wX9 G q_v (q_mt 0) v_night v_g v_flock v_hunger v_lean v_fed v_taken v_pacts v_levels v_facts, wX5 G q_mt mt_farms mt_fences mt_shares mt_names mt_flock mt_dogs mt_hunger mt_fenced mt_heights mt_pacts mt_partner mt_often mt_toothed mt_feeding mt_going, wX0 G q_b b_kept b_feuds b_bites b_bones b_feudsInAll b_bitten] (some (.int o_r)) [wX10 G q_w w_tape w_reader (q_v 0) (q_b 0) w_ahead w_scrap w_game w_joined w_marks w_draft, wX9 G q_v (q_mt 0) v_night v_g v_flock v_hunger v_lean v_fed v_taken v_pacts v_levels v_facts, wX5 G q_mt mt_farms mt_fences mt_shares mt_names mt_flock mt_dogs mt_hunger mt_fenced mt_heights mt_pacts mt_partner mt_often mt_toothed mt_feeding mt_going, wX0 G q_b b_kept b_feuds b_bites b_bones b_feudsInAll b_bitten] := by
  refine MC.of pn_X10 (Nat.le_of_ble_eq_true rfl) (fun K hR hret => ?_)
  have hR : Rl l G RX10 cX10_whose 5 (RM 2) K := hR
  show K [wX10 G q_w w_tape w_reader (q_v 0) (q_b 0) w_ahead w_scrap w_game w_joined w_marks w_draft, wX9 G q_v (q_mt 0) v_night v_g v_flock v_hunger v_lean v_fed v_taken v_pacts v_levels v_facts, wX5 G q_mt mt_farms mt_fences mt_shares mt_names mt_flock mt_dogs mt_hunger mt_fenced mt_heights mt_pacts mt_partner mt_often mt_toothed mt_feeding mt_going, wX0 G q_b b_kept b_feuds b_bites b_bones b_feudsInAll b_bitten] [(0, .ref (q_w 0)), (1, .int l1), (2, .int l2)] 0 []
  have L36 : ∀ (n36 : Nat) (l1 : Int32) (l2 : Int32) (l3 : Int32) (l4 : Int32), f_X10_whose_L36  v_hunger mt_farms mt_often b_bites b_bitten n36 l1 l2 l3 l4 = some o_r → K [wX10 G q_w w_tape w_reader (q_v 0) (q_b 0) w_ahead w_scrap w_game w_joined w_marks w_draft, wX9 G q_v (q_mt 0) v_night v_g v_flock v_hunger v_lean v_fed v_taken v_pacts v_levels v_facts, wX5 G q_mt mt_farms mt_fences mt_shares mt_names mt_flock mt_dogs mt_hunger mt_fenced mt_heights mt_pacts mt_partner mt_often mt_toothed mt_feeding mt_going, wX0 G q_b b_kept b_feuds b_bites b_bones b_feudsInAll b_bitten] [(0, .ref (q_w 0)), (1, .int l1), (2, .int l2), (3, .int l3), (4, .int l4)] 36 [] := by
    intro n36
    induction n36 with
    | zero => intro l1 l2 l3 l4 hM; exact no_some hM
    | succ n36 ih36 =>
      have J73 : ∀ (l1 : Int32) (l2 : Int32) (l3 : Int32) (l4 : Int32), f_X10_whose_B73  (f_X10_whose_L36  v_hunger mt_farms mt_often b_bites b_bitten n36) v_hunger mt_farms mt_often b_bites b_bitten l1 l2 l3 l4 = some o_r → K [wX10 G q_w w_tape w_reader (q_v 0) (q_b 0) w_ahead w_scrap w_game w_joined w_marks w_draft, wX9 G q_v (q_mt 0) v_night v_g v_flock v_hunger v_lean v_fed v_taken v_pacts v_levels v_facts, wX5 G q_mt mt_farms mt_fences mt_shares mt_names mt_flock mt_dogs mt_hunger mt_fenced mt_heights mt_pacts mt_partner mt_often mt_toothed mt_feeding mt_going, wX0 G q_b b_kept b_feuds b_bites b_bones b_feudsInAll b_bitten] [(0, .ref (q_w 0)), (1, .int l1), (2, .int l2), (3, .int l3), (4, .int l4)] 73 [] := by
        intro l1 l2 l3 l4 hM
        obtain ⟨l4_1, e_⟩ : ∃ y : Int32, y = l4 + 1 := ⟨_, rfl⟩
        refine st_iinc hR dX10_whose_73 (Nat.le_of_ble_eq_true rfl) 4 [1, 2, 3, 4, 0] (v := l4_1) rfl (by rw [e_]; rfl) (lv' := [(0, .ref (q_w 0)), (1, .int l1), (2, .int l2), (3, .int l3), (4, .int l4_1)]) rfl (pc' := 76) rfl ?_
        have hM := lt_e e_ hM
        refine st_goto hR dX10_whose_76 (tgt := 36) (by decide) ?_
        exact ih36 _ _ _ _ hM
      intro l1 l2 l3 l4 hM
      have hM : f_X10_whose_L36b  (f_X10_whose_L36  v_hunger mt_farms mt_often b_bites b_bitten n36) v_hunger mt_farms mt_often b_bites b_bitten l1 l2 l3 l4 = some o_r := hM
      refine st_iload hR dX10_whose_36 4 rfl (pc' := 38) rfl ?_
      refine st_aload_n hR dX10_whose_38 0 rfl rfl (pc' := 39) rfl ?_
      refine st_get hR dX10_whose_39 fg_X10_37_9_2 0 0 rfl rfl rfl (pc' := 42) rfl ?_
      refine st_get hR dX10_whose_42 fg_X10_103_8_0 1 0 rfl rfl rfl (pc' := 45) rfl ?_
      refine st_get hR dX10_whose_45 fg_X10_226_5_0 2 0 rfl rfl rfl (pc' := 48) rfl ?_
      refine st_icmp_ge hR dX10_whose_48 (tgt := 79) (by decide) (pc' := 51) rfl (fun c_ => ?_) (fun c_ => ?_)
      · have hM := it_t c_ hM
        refine st_iload_n hR dX10_whose_79 3 rfl rfl (pc' := 80) rfl ?_
        refine st_if_ne hR dX10_whose_80 (tgt := 87) (by decide) (pc' := 83) rfl (fun c_ => ?_) (fun c_ => ?_)
        · have hM := it_f c_ hM
          refine st_aload_n hR dX10_whose_87 0 rfl rfl (pc' := 88) rfl ?_
          refine st_iload_n hR dX10_whose_88 1 rfl rfl (pc' := 89) rfl ?_
          obtain ⟨r_1, hc_, hM⟩ := bd_e hM
          refine st_callV hR (k_X10_oddsOf hc_) cf_X10_229 (rm_le (Nat.le_of_ble_eq_true rfl) (Nat.le_of_ble_eq_true rfl)) [0, 1, 2, 3] rfl rfl rfl 0 0 9 10 rfl rfl rfl rfl (rest := []) rfl (Nat.le_of_ble_eq_true rfl) dX10_whose_89 (pc' := 92) rfl (Wn := [wX10 G q_w w_tape w_reader (q_v 0) (q_b 0) w_ahead w_scrap w_game w_joined w_marks w_draft, wX9 G q_v (q_mt 0) v_night v_g v_flock v_hunger v_lean v_fed v_taken v_pacts v_levels v_facts, wX5 G q_mt mt_farms mt_fences mt_shares mt_names mt_flock mt_dogs mt_hunger mt_fenced mt_heights mt_pacts mt_partner mt_often mt_toothed mt_feeding mt_going, wX0 G q_b b_kept b_feuds b_bites b_bones b_feudsInAll b_bitten]) rfl ?_
          refine st_iload_n hR dX10_whose_92 3 rfl rfl (pc' := 93) rfl ?_
          refine st_iload_n hR dX10_whose_93 2 rfl rfl (pc' := 94) rfl ?_
          obtain ⟨r_2, hc_, hM⟩ := bd_e hM
          refine st_callS hR (k_X10_inLowestTerms hc_) cf_X10_232 (rm_le (Nat.le_of_ble_eq_true rfl) (Nat.le_of_ble_eq_true rfl)) [] rfl rfl rfl rfl (rest := []) rfl (Nat.le_of_ble_eq_true rfl) dX10_whose_94 (pc' := 97) rfl (Wn := [wX10 G q_w w_tape w_reader (q_v 0) (q_b 0) w_ahead w_scrap w_game w_joined w_marks w_draft, wX9 G q_v (q_mt 0) v_night v_g v_flock v_hunger v_lean v_fed v_taken v_pacts v_levels v_facts, wX5 G q_mt mt_farms mt_fences mt_shares mt_names mt_flock mt_dogs mt_hunger mt_fenced mt_heights mt_pacts mt_partner mt_often mt_toothed mt_feeding mt_going, wX0 G q_b b_kept b_feuds b_bites b_bones b_feudsInAll b_bitten]) rfl ?_
          cases hM
          exact hret _ _ dX10_whose_97 (ro_i _)
        · have hM := it_t c_ hM
          refine st_iconst hR dX10_whose_83 (v := (-1)) (by decide) (pc' := 84) rfl ?_
          refine st_goto hR dX10_whose_84 (tgt := 97) (by decide) ?_
          cases hM
          exact hret _ _ dX10_whose_97 (ro_i _)
      · have hM := it_f c_ hM
        refine st_aload_n hR dX10_whose_51 0 rfl rfl (pc' := 52) rfl ?_
        refine st_get hR dX10_whose_52 fg_X10_37_9_2 0 0 rfl rfl rfl (pc' := 55) rfl ?_
        refine st_get hR dX10_whose_55 fg_X10_109_8_4 1 0 rfl rfl rfl (pc' := 58) rfl ?_
        refine st_iload hR dX10_whose_58 4 rfl (pc' := 60) rfl ?_
        obtain ⟨hin_, hM⟩ := g_in_e hM
        refine st_iald hR dX10_whose_60 1 2 rfl rfl hin_ (v := v_hunger (ix l4)) rfl (pc' := 61) rfl ?_
        refine st_if_le hR dX10_whose_61 (tgt := 73) (by decide) (pc' := 64) rfl (fun c_ => ?_) (fun c_ => ?_)
        · have hM := it_t c_ hM
          exact J73 _ _ _ _ hM
        · have hM := it_f c_ hM
          refine st_iload_n hR dX10_whose_64 3 rfl rfl (pc' := 65) rfl ?_
          refine st_aload_n hR dX10_whose_65 0 rfl rfl (pc' := 66) rfl ?_
          refine st_iload hR dX10_whose_66 4 rfl (pc' := 68) rfl ?_
          obtain ⟨r_3, hc_, hM⟩ := bd_e hM
          refine st_callV hR (k_X10_oddsOf hc_) cf_X10_229 (rm_le (Nat.le_of_ble_eq_true rfl) (Nat.le_of_ble_eq_true rfl)) [0, 1, 2, 3] rfl rfl rfl 0 0 9 10 rfl rfl rfl rfl (rest := [.int l3]) rfl (Nat.le_of_ble_eq_true rfl) dX10_whose_68 (pc' := 71) rfl (Wn := [wX10 G q_w w_tape w_reader (q_v 0) (q_b 0) w_ahead w_scrap w_game w_joined w_marks w_draft, wX9 G q_v (q_mt 0) v_night v_g v_flock v_hunger v_lean v_fed v_taken v_pacts v_levels v_facts, wX5 G q_mt mt_farms mt_fences mt_shares mt_names mt_flock mt_dogs mt_hunger mt_fenced mt_heights mt_pacts mt_partner mt_often mt_toothed mt_feeding mt_going, wX0 G q_b b_kept b_feuds b_bites b_bones b_feudsInAll b_bitten]) rfl ?_
          refine st_iadd hR dX10_whose_71 (pc' := 72) rfl ?_
          refine st_topi (fun l3_1 e_ => ?_)
          have hM := lt_e e_ hM
          refine st_istore_n hR dX10_whose_72 rfl (Nat.le_of_ble_eq_true rfl) [1, 2, 3, 0, 4] (lv' := [(0, .ref (q_w 0)), (1, .int l1), (2, .int l2), (3, .int l3_1), (4, .int l4)]) rfl (pc' := 73) rfl ?_
          exact J73 _ _ _ _ hM
  refine st_aload_n hR dX10_whose_0 0 rfl rfl (pc' := 1) rfl ?_
  refine st_iload_n hR dX10_whose_1 1 rfl rfl (pc' := 2) rfl ?_
  obtain ⟨r_1, hc_, hM⟩ := bd_e hM
  refine st_callV hR (k_X10_isFarm hc_) cf_X10_95 (rm_le (Nat.le_of_ble_eq_true rfl) (Nat.le_of_ble_eq_true rfl)) [0, 1, 2] rfl rfl rfl 0 0 9 10 rfl rfl rfl rfl (rest := []) rfl (Nat.le_of_ble_eq_true rfl) dX10_whose_2 (pc' := 5) rfl (Wn := [wX10 G q_w w_tape w_reader (q_v 0) (q_b 0) w_ahead w_scrap w_game w_joined w_marks w_draft, wX9 G q_v (q_mt 0) v_night v_g v_flock v_hunger v_lean v_fed v_taken v_pacts v_levels v_facts, wX5 G q_mt mt_farms mt_fences mt_shares mt_names mt_flock mt_dogs mt_hunger mt_fenced mt_heights mt_pacts mt_partner mt_often mt_toothed mt_feeding mt_going, wX0 G q_b b_kept b_feuds b_bites b_bones b_feudsInAll b_bitten]) rfl ?_
  refine st_if_eq hR dX10_whose_5 (tgt := 29) (by decide) (pc' := 8) rfl (fun c_ => ?_) (fun c_ => ?_)
  · have hM := it_t c_ hM
    refine st_iconst hR dX10_whose_29 (v := (-1)) (by decide) (pc' := 30) rfl ?_
    cases hM
    exact hret _ _ dX10_whose_30 (ro_i _)
  · have hM := it_f c_ hM
    refine st_iload_n hR dX10_whose_8 2 rfl rfl (pc' := 9) rfl ?_
    refine st_if_lt hR dX10_whose_9 (tgt := 29) (by decide) (pc' := 12) rfl (fun c_ => ?_) (fun c_ => ?_)
    · have hM := it_t c_ hM
      refine st_iconst hR dX10_whose_29 (v := (-1)) (by decide) (pc' := 30) rfl ?_
      cases hM
      exact hret _ _ dX10_whose_30 (ro_i _)
    · have hM := it_f c_ hM
      refine st_iload_n hR dX10_whose_12 2 rfl rfl (pc' := 13) rfl ?_
      refine st_iconst hR dX10_whose_13 (v := 1) rfl (pc' := 14) rfl ?_
      refine st_icmp_gt hR dX10_whose_14 (tgt := 29) (by decide) (pc' := 17) rfl (fun c_ => ?_) (fun c_ => ?_)
      · have hM := it_t c_ hM
        refine st_iconst hR dX10_whose_29 (v := (-1)) (by decide) (pc' := 30) rfl ?_
        cases hM
        exact hret _ _ dX10_whose_30 (ro_i _)
      · have hM := it_f c_ hM
        refine st_aload_n hR dX10_whose_17 0 rfl rfl (pc' := 18) rfl ?_
        refine st_get hR dX10_whose_18 fg_X10_37_9_2 0 0 rfl rfl rfl (pc' := 21) rfl ?_
        refine st_get hR dX10_whose_21 fg_X10_109_8_4 1 0 rfl rfl rfl (pc' := 24) rfl ?_
        refine st_iload_n hR dX10_whose_24 1 rfl rfl (pc' := 25) rfl ?_
        obtain ⟨hin_, hM⟩ := g_in_e hM
        refine st_iald hR dX10_whose_25 1 2 rfl rfl hin_ (v := v_hunger (ix l1)) rfl (pc' := 26) rfl ?_
        refine st_if_ne hR dX10_whose_26 (tgt := 31) (by decide) (pc' := 29) rfl (fun c_ => ?_) (fun c_ => ?_)
        · have hM := it_f c_ hM
          refine st_iconst hR dX10_whose_31 (v := 0) rfl (pc' := 32) rfl ?_
          refine st_istore_n hR dX10_whose_32 rfl (Nat.le_of_ble_eq_true rfl) [1, 2, 3, 0] (lv' := [(0, .ref (q_w 0)), (1, .int l1), (2, .int l2), (3, .int 0)]) rfl (pc' := 33) rfl ?_
          refine st_iconst hR dX10_whose_33 (v := 0) rfl (pc' := 34) rfl ?_
          refine st_istore hR dX10_whose_34 (Nat.le_of_ble_eq_true rfl) [1, 2, 3, 4, 0] (lv' := [(0, .ref (q_w 0)), (1, .int l1), (2, .int l2), (3, .int 0), (4, .int 0)]) rfl (pc' := 36) rfl ?_
          exact L36 FU _ _ _ _ hM
        · have hM := it_t c_ hM
          refine st_iconst hR dX10_whose_29 (v := (-1)) (by decide) (pc' := 30) rfl ?_
          cases hM
          exact hret _ _ dX10_whose_30 (ro_i _)
set_option maxHeartbeats 16000000 in
set_option maxRecDepth 100000 in
theorem k_X10_lossIf {l : Launch} {G : GG} {q_w q_v q_ah q_sc q_mt q_fe q_go : Nat → Nat} {v_night ah_night sc_bones sc_feudsInAll sc_bitten mt_farms mt_fences mt_shares mt_toothed fe_steps go_steps : Int32} {v_g ah_g : Int64} {v_flock v_hunger v_lean v_fed v_taken v_pacts v_levels v_facts ah_flock ah_hunger ah_lean ah_fed ah_taken ah_pacts ah_levels ah_facts sc_kept sc_feuds sc_bites mt_flock mt_dogs mt_hunger mt_fenced mt_heights mt_pacts mt_partner mt_often fe_kinds fe_lefts fe_rights fe_values go_kinds go_lefts go_rights go_values : Nat → Int32} {mt_names : Nat → Int64} {w_tape w_reader w_book w_game w_joined w_draft ah_mountain : Nat} {w_marks : Nat → Option Nat} {l1 l2 l3 : Int32} {o_r : Int32} {o_ah_night : Int32} {o_ah_g : Int64} {o_ah_flock : Nat → Int32} {o_ah_hunger : Nat → Int32} {o_ah_lean : Nat → Int32} {o_ah_fed : Nat → Int32} {o_ah_taken : Nat → Int32} {o_ah_pacts : Nat → Int32} {o_ah_levels : Nat → Int32} {o_ah_facts : Nat → Int32} {o_sc_kept : Nat → Int32} {o_sc_feuds : Nat → Int32} {o_sc_bones : Int32} {o_sc_feudsInAll : Int32} {o_fe_values : Nat → Int32} {o_go_values : Nat → Int32} (hM : f_X10_lossIf v_night v_g v_flock v_hunger v_lean v_fed v_taken v_pacts v_levels mt_farms mt_dogs mt_fenced mt_heights mt_partner fe_kinds fe_lefts fe_rights fe_steps go_kinds go_lefts go_rights go_steps ah_night ah_g ah_flock ah_hunger ah_lean ah_fed ah_taken ah_pacts ah_levels ah_facts sc_kept sc_feuds sc_bones sc_feudsInAll fe_values go_values l1 l2 l3 = some (o_r, o_ah_night, o_ah_g, o_ah_flock, o_ah_hunger, o_ah_lean, o_ah_fed, o_ah_taken, o_ah_pacts, o_ah_levels, o_ah_facts, o_sc_kept, o_sc_feuds, o_sc_bones, o_sc_feudsInAll, o_fe_values, o_go_values)) : MC l G yX10_lossIf cX10_lossIf 4 (some .int) (RM 4) [.ref (q_w 0), .int l1, .int l2, .int l3] [wX10 G q_w w_tape w_reader (q_v 0) w_book (q_ah 0) (q_sc 0) w_game w_joined w_marks w_draft, wX9 G q_v (q_mt 0) v_night v_g v_flock v_hunger v_lean v_fed v_taken v_pacts v_levels v_facts, wX9 G q_ah ah_mountain ah_night ah_g ah_flock ah_hunger ah_lean ah_fed ah_taken ah_pacts ah_levels ah_facts, wX0 G q_sc sc_kept sc_feuds sc_bites sc_bones sc_feudsInAll sc_bitten, wX5 G q_mt mt_farms mt_fences mt_shares mt_names mt_flock mt_dogs mt_hunger mt_fenced mt_heights mt_pacts mt_partner mt_often mt_toothed (q_fe 0) (q_go 0), wX3 G q_fe fe_kinds fe_lefts fe_rights fe_values fe_steps, wX3 G q_go go_kinds go_lefts go_rights go_values go_steps] (some (.int o_r)) [wX10 G q_w w_tape w_reader (q_v 0) w_book (q_ah 0) (q_sc 0) w_game w_joined w_marks w_draft, wX9 G q_v (q_mt 0) v_night v_g v_flock v_hunger v_lean v_fed v_taken v_pacts v_levels v_facts, wX9 G q_ah (q_mt 0) o_ah_night o_ah_g o_ah_flock o_ah_hunger o_ah_lean o_ah_fed o_ah_taken o_ah_pacts o_ah_levels o_ah_facts, wX0 G q_sc o_sc_kept o_sc_feuds sc_bites o_sc_bones o_sc_feudsInAll sc_bitten, wX5 G q_mt mt_farms mt_fences mt_shares mt_names mt_flock mt_dogs mt_hunger mt_fenced mt_heights mt_pacts mt_partner mt_often mt_toothed (q_fe 0) (q_go 0), wX3 G q_fe fe_kinds fe_lefts fe_rights o_fe_values fe_steps, wX3 G q_go go_kinds go_lefts go_rights o_go_values go_steps] := by
  refine MC.of pn_X10 (Nat.le_of_ble_eq_true rfl) (fun K hR hret => ?_)
  have hR : Rl l G RX10 cX10_lossIf 4 (RM 4) K := hR
  show K [wX10 G q_w w_tape w_reader (q_v 0) w_book (q_ah 0) (q_sc 0) w_game w_joined w_marks w_draft, wX9 G q_v (q_mt 0) v_night v_g v_flock v_hunger v_lean v_fed v_taken v_pacts v_levels v_facts, wX9 G q_ah ah_mountain ah_night ah_g ah_flock ah_hunger ah_lean ah_fed ah_taken ah_pacts ah_levels ah_facts, wX0 G q_sc sc_kept sc_feuds sc_bites sc_bones sc_feudsInAll sc_bitten, wX5 G q_mt mt_farms mt_fences mt_shares mt_names mt_flock mt_dogs mt_hunger mt_fenced mt_heights mt_pacts mt_partner mt_often mt_toothed (q_fe 0) (q_go 0), wX3 G q_fe fe_kinds fe_lefts fe_rights fe_values fe_steps, wX3 G q_go go_kinds go_lefts go_rights go_values go_steps] [(0, .ref (q_w 0)), (1, .int l1), (2, .int l2), (3, .int l3)] 0 []
  refine st_aload_n hR dX10_lossIf_0 0 rfl rfl (pc' := 1) rfl ?_
  refine st_get hR dX10_lossIf_1 fg_X10_48_9_4 0 0 rfl rfl rfl (pc' := 4) rfl ?_
  refine st_aload_n hR dX10_lossIf_4 0 rfl rfl (pc' := 5) rfl ?_
  refine st_get hR dX10_lossIf_5 fg_X10_37_9_2 0 0 rfl rfl rfl (pc' := 8) rfl ?_
  obtain ⟨⟨ah_night_1, ah_g_1, ah_flock_1, ah_hunger_1, ah_lean_1, ah_fed_1, ah_taken_1, ah_pacts_1, ah_levels_1⟩, hc_, hM⟩ := bd_e hM
  refine st_callV hR (k_X9_copyFrom hc_) cf_X10_247 (rm_le (Nat.le_of_ble_eq_true rfl) (Nat.le_of_ble_eq_true rfl)) [2, 1] rfl rfl rfl 2 0 8 11 rfl rfl rfl rfl (rest := []) rfl (Nat.le_of_ble_eq_true rfl) dX10_lossIf_8 (pc' := 11) rfl (Wn := [wX10 G q_w w_tape w_reader (q_v 0) w_book (q_ah 0) (q_sc 0) w_game w_joined w_marks w_draft, wX9 G q_v (q_mt 0) v_night v_g v_flock v_hunger v_lean v_fed v_taken v_pacts v_levels v_facts, wX9 G q_ah (q_mt 0) ah_night_1 ah_g_1 ah_flock_1 ah_hunger_1 ah_lean_1 ah_fed_1 ah_taken_1 ah_pacts_1 ah_levels_1 ah_facts, wX0 G q_sc sc_kept sc_feuds sc_bites sc_bones sc_feudsInAll sc_bitten, wX5 G q_mt mt_farms mt_fences mt_shares mt_names mt_flock mt_dogs mt_hunger mt_fenced mt_heights mt_pacts mt_partner mt_often mt_toothed (q_fe 0) (q_go 0), wX3 G q_fe fe_kinds fe_lefts fe_rights fe_values fe_steps, wX3 G q_go go_kinds go_lefts go_rights go_values go_steps]) rfl ?_
  refine st_aload_n hR dX10_lossIf_11 0 rfl rfl (pc' := 12) rfl ?_
  refine st_get hR dX10_lossIf_12 fg_X10_48_9_4 0 0 rfl rfl rfl (pc' := 15) rfl ?_
  refine st_get hR dX10_lossIf_15 fg_X10_109_8_4 2 0 rfl rfl rfl (pc' := 18) rfl ?_
  refine st_iload_n hR dX10_lossIf_18 1 rfl rfl (pc' := 19) rfl ?_
  refine st_dup2 hR dX10_lossIf_19 (pc' := 20) rfl rfl rfl ?_
  obtain ⟨hin_, hM⟩ := g_in_e hM
  refine st_iald hR dX10_lossIf_20 2 2 rfl rfl hin_ (v := ah_hunger_1 (ix l1)) rfl (pc' := 21) rfl ?_
  refine st_iload_n hR dX10_lossIf_21 3 rfl rfl (pc' := 22) rfl ?_
  refine st_iadd hR dX10_lossIf_22 (pc' := 23) rfl ?_
  obtain ⟨hin_, hM⟩ := g_in_e hM
  refine st_iast hR dX10_lossIf_23 2 2 rfl rfl hin_ (ix := (ix l1)) rfl (pc' := 24) rfl (fun ah_hunger_2 => [wX10 G q_w w_tape w_reader (q_v 0) w_book (q_ah 0) (q_sc 0) w_game w_joined w_marks w_draft, wX9 G q_v (q_mt 0) v_night v_g v_flock v_hunger v_lean v_fed v_taken v_pacts v_levels v_facts, wX9 G q_ah (q_mt 0) ah_night_1 ah_g_1 ah_flock_1 ah_hunger_2 ah_lean_1 ah_fed_1 ah_taken_1 ah_pacts_1 ah_levels_1 ah_facts, wX0 G q_sc sc_kept sc_feuds sc_bites sc_bones sc_feudsInAll sc_bitten, wX5 G q_mt mt_farms mt_fences mt_shares mt_names mt_flock mt_dogs mt_hunger mt_fenced mt_heights mt_pacts mt_partner mt_often mt_toothed (q_fe 0) (q_go 0), wX3 G q_fe fe_kinds fe_lefts fe_rights fe_values fe_steps, wX3 G q_go go_kinds go_lefts go_rights go_values go_steps]) (fun _ => rfl) (fun ah_hunger_2 e_ => ?_)
  have hM := lt_e e_ hM
  refine st_aload_n hR dX10_lossIf_24 0 rfl rfl (pc' := 25) rfl ?_
  refine st_get hR dX10_lossIf_25 fg_X10_48_9_4 0 0 rfl rfl rfl (pc' := 28) rfl ?_
  refine st_aload_n hR dX10_lossIf_28 0 rfl rfl (pc' := 29) rfl ?_
  refine st_get hR dX10_lossIf_29 fg_X10_51_9_5 0 0 rfl rfl rfl (pc' := 32) rfl ?_
  refine st_iload_n hR dX10_lossIf_32 2 rfl rfl (pc' := 33) rfl ?_
  obtain ⟨⟨ah_night_2, ah_g_2, ah_flock_2, ah_lean_2, ah_fed_2, ah_taken_2, ah_facts_1, fe_values_1, go_values_1, sc_kept_1, sc_feuds_1, sc_bones_1, sc_feudsInAll_1⟩, hc_, hM⟩ := bd_e hM
  refine st_callV hR (k_X9_run hc_) cf_X10_136 (rm_le (Nat.le_of_ble_eq_true rfl) (Nat.le_of_ble_eq_true rfl)) [2, 4, 5, 6, 3] rfl rfl rfl 2 0 8 11 rfl rfl rfl rfl (rest := []) rfl (Nat.le_of_ble_eq_true rfl) dX10_lossIf_33 (pc' := 36) rfl (Wn := [wX10 G q_w w_tape w_reader (q_v 0) w_book (q_ah 0) (q_sc 0) w_game w_joined w_marks w_draft, wX9 G q_v (q_mt 0) v_night v_g v_flock v_hunger v_lean v_fed v_taken v_pacts v_levels v_facts, wX9 G q_ah (q_mt 0) ah_night_2 ah_g_2 ah_flock_2 ah_hunger_2 ah_lean_2 ah_fed_2 ah_taken_2 ah_pacts_1 ah_levels_1 ah_facts_1, wX0 G q_sc sc_kept_1 sc_feuds_1 sc_bites sc_bones_1 sc_feudsInAll_1 sc_bitten, wX5 G q_mt mt_farms mt_fences mt_shares mt_names mt_flock mt_dogs mt_hunger mt_fenced mt_heights mt_pacts mt_partner mt_often mt_toothed (q_fe 0) (q_go 0), wX3 G q_fe fe_kinds fe_lefts fe_rights fe_values_1 fe_steps, wX3 G q_go go_kinds go_lefts go_rights go_values_1 go_steps]) rfl ?_
  refine st_aload_n hR dX10_lossIf_36 0 rfl rfl (pc' := 37) rfl ?_
  refine st_get hR dX10_lossIf_37 fg_X10_48_9_4 0 0 rfl rfl rfl (pc' := 40) rfl ?_
  refine st_iload_n hR dX10_lossIf_40 1 rfl rfl (pc' := 41) rfl ?_
  obtain ⟨r_1, hc_, hM⟩ := bd_e hM
  refine st_callV hR (k_X9_goneFrom hc_) cf_X10_275 (rm_le (Nat.le_of_ble_eq_true rfl) (Nat.le_of_ble_eq_true rfl)) [2] rfl rfl rfl 2 0 8 11 rfl rfl rfl rfl (rest := []) rfl (Nat.le_of_ble_eq_true rfl) dX10_lossIf_41 (pc' := 44) rfl (Wn := [wX10 G q_w w_tape w_reader (q_v 0) w_book (q_ah 0) (q_sc 0) w_game w_joined w_marks w_draft, wX9 G q_v (q_mt 0) v_night v_g v_flock v_hunger v_lean v_fed v_taken v_pacts v_levels v_facts, wX9 G q_ah (q_mt 0) ah_night_2 ah_g_2 ah_flock_2 ah_hunger_2 ah_lean_2 ah_fed_2 ah_taken_2 ah_pacts_1 ah_levels_1 ah_facts_1, wX0 G q_sc sc_kept_1 sc_feuds_1 sc_bites sc_bones_1 sc_feudsInAll_1 sc_bitten, wX5 G q_mt mt_farms mt_fences mt_shares mt_names mt_flock mt_dogs mt_hunger mt_fenced mt_heights mt_pacts mt_partner mt_often mt_toothed (q_fe 0) (q_go 0), wX3 G q_fe fe_kinds fe_lefts fe_rights fe_values_1 fe_steps, wX3 G q_go go_kinds go_lefts go_rights go_values_1 go_steps]) rfl ?_
  refine st_aload_n hR dX10_lossIf_44 0 rfl rfl (pc' := 45) rfl ?_
  refine st_get hR dX10_lossIf_45 fg_X10_37_9_2 0 0 rfl rfl rfl (pc' := 48) rfl ?_
  refine st_iload_n hR dX10_lossIf_48 1 rfl rfl (pc' := 49) rfl ?_
  obtain ⟨r_2, hc_, hM⟩ := bd_e hM
  refine st_callV hR (k_X9_goneFrom hc_) cf_X10_275 (rm_le (Nat.le_of_ble_eq_true rfl) (Nat.le_of_ble_eq_true rfl)) [1] rfl rfl rfl 1 0 8 11 rfl rfl rfl rfl (rest := [.int r_1]) rfl (Nat.le_of_ble_eq_true rfl) dX10_lossIf_49 (pc' := 52) rfl (Wn := [wX10 G q_w w_tape w_reader (q_v 0) w_book (q_ah 0) (q_sc 0) w_game w_joined w_marks w_draft, wX9 G q_v (q_mt 0) v_night v_g v_flock v_hunger v_lean v_fed v_taken v_pacts v_levels v_facts, wX9 G q_ah (q_mt 0) ah_night_2 ah_g_2 ah_flock_2 ah_hunger_2 ah_lean_2 ah_fed_2 ah_taken_2 ah_pacts_1 ah_levels_1 ah_facts_1, wX0 G q_sc sc_kept_1 sc_feuds_1 sc_bites sc_bones_1 sc_feudsInAll_1 sc_bitten, wX5 G q_mt mt_farms mt_fences mt_shares mt_names mt_flock mt_dogs mt_hunger mt_fenced mt_heights mt_pacts mt_partner mt_often mt_toothed (q_fe 0) (q_go 0), wX3 G q_fe fe_kinds fe_lefts fe_rights fe_values_1 fe_steps, wX3 G q_go go_kinds go_lefts go_rights go_values_1 go_steps]) rfl ?_
  refine st_isub hR dX10_lossIf_52 (pc' := 53) rfl ?_
  cases hM
  exact hret _ _ dX10_lossIf_53 (ro_i _)
set_option maxHeartbeats 16000000 in
set_option maxRecDepth 100000 in
theorem k_X10_loss {l : Launch} {G : GG} {q_w q_v q_ah q_sc q_mt q_fe q_go : Nat → Nat} {v_night ah_night sc_bones sc_feudsInAll sc_bitten mt_farms mt_fences mt_shares mt_toothed fe_steps go_steps : Int32} {v_g ah_g : Int64} {v_flock v_hunger v_lean v_fed v_taken v_pacts v_levels v_facts ah_flock ah_hunger ah_lean ah_fed ah_taken ah_pacts ah_levels ah_facts sc_kept sc_feuds sc_bites mt_flock mt_dogs mt_hunger mt_fenced mt_heights mt_pacts mt_partner mt_often fe_kinds fe_lefts fe_rights fe_values go_kinds go_lefts go_rights go_values : Nat → Int32} {mt_names : Nat → Int64} {w_tape w_reader w_book w_game w_joined w_draft ah_mountain : Nat} {w_marks : Nat → Option Nat} {l1 l2 : Int32} {o_r : Int32} {o_ah_mountain : Nat} {o_ah_night : Int32} {o_ah_g : Int64} {o_ah_flock : Nat → Int32} {o_ah_hunger : Nat → Int32} {o_ah_lean : Nat → Int32} {o_ah_fed : Nat → Int32} {o_ah_taken : Nat → Int32} {o_ah_pacts : Nat → Int32} {o_ah_levels : Nat → Int32} {o_ah_facts : Nat → Int32} {o_sc_kept : Nat → Int32} {o_sc_feuds : Nat → Int32} {o_sc_bones : Int32} {o_sc_feudsInAll : Int32} {o_fe_values : Nat → Int32} {o_go_values : Nat → Int32} (hM : f_X10_loss v_night v_g v_flock v_hunger v_lean v_fed v_taken v_pacts v_levels mt_farms mt_dogs mt_fenced mt_heights mt_partner fe_kinds fe_lefts fe_rights fe_steps go_kinds go_lefts go_rights go_steps ah_mountain ah_night ah_g ah_flock ah_hunger ah_lean ah_fed ah_taken ah_pacts ah_levels ah_facts sc_kept sc_feuds sc_bones sc_feudsInAll fe_values go_values (q_mt 0) l1 l2 = some (o_r, o_ah_mountain, o_ah_night, o_ah_g, o_ah_flock, o_ah_hunger, o_ah_lean, o_ah_fed, o_ah_taken, o_ah_pacts, o_ah_levels, o_ah_facts, o_sc_kept, o_sc_feuds, o_sc_bones, o_sc_feudsInAll, o_fe_values, o_go_values)) : MC l G yX10_loss cX10_loss 3 (some .int) (RM 5) [.ref (q_w 0), .int l1, .int l2] [wX10 G q_w w_tape w_reader (q_v 0) w_book (q_ah 0) (q_sc 0) w_game w_joined w_marks w_draft, wX9 G q_v (q_mt 0) v_night v_g v_flock v_hunger v_lean v_fed v_taken v_pacts v_levels v_facts, wX9 G q_ah ah_mountain ah_night ah_g ah_flock ah_hunger ah_lean ah_fed ah_taken ah_pacts ah_levels ah_facts, wX0 G q_sc sc_kept sc_feuds sc_bites sc_bones sc_feudsInAll sc_bitten, wX5 G q_mt mt_farms mt_fences mt_shares mt_names mt_flock mt_dogs mt_hunger mt_fenced mt_heights mt_pacts mt_partner mt_often mt_toothed (q_fe 0) (q_go 0), wX3 G q_fe fe_kinds fe_lefts fe_rights fe_values fe_steps, wX3 G q_go go_kinds go_lefts go_rights go_values go_steps] (some (.int o_r)) [wX10 G q_w w_tape w_reader (q_v 0) w_book (q_ah 0) (q_sc 0) w_game w_joined w_marks w_draft, wX9 G q_v (q_mt 0) v_night v_g v_flock v_hunger v_lean v_fed v_taken v_pacts v_levels v_facts, wX9 G q_ah o_ah_mountain o_ah_night o_ah_g o_ah_flock o_ah_hunger o_ah_lean o_ah_fed o_ah_taken o_ah_pacts o_ah_levels o_ah_facts, wX0 G q_sc o_sc_kept o_sc_feuds sc_bites o_sc_bones o_sc_feudsInAll sc_bitten, wX5 G q_mt mt_farms mt_fences mt_shares mt_names mt_flock mt_dogs mt_hunger mt_fenced mt_heights mt_pacts mt_partner mt_often mt_toothed (q_fe 0) (q_go 0), wX3 G q_fe fe_kinds fe_lefts fe_rights o_fe_values fe_steps, wX3 G q_go go_kinds go_lefts go_rights o_go_values go_steps] := by
  refine MC.of pn_X10 (Nat.le_of_ble_eq_true rfl) (fun K hR hret => ?_)
  have hR : Rl l G RX10 cX10_loss 3 (RM 5) K := hR
  show K [wX10 G q_w w_tape w_reader (q_v 0) w_book (q_ah 0) (q_sc 0) w_game w_joined w_marks w_draft, wX9 G q_v (q_mt 0) v_night v_g v_flock v_hunger v_lean v_fed v_taken v_pacts v_levels v_facts, wX9 G q_ah ah_mountain ah_night ah_g ah_flock ah_hunger ah_lean ah_fed ah_taken ah_pacts ah_levels ah_facts, wX0 G q_sc sc_kept sc_feuds sc_bites sc_bones sc_feudsInAll sc_bitten, wX5 G q_mt mt_farms mt_fences mt_shares mt_names mt_flock mt_dogs mt_hunger mt_fenced mt_heights mt_pacts mt_partner mt_often mt_toothed (q_fe 0) (q_go 0), wX3 G q_fe fe_kinds fe_lefts fe_rights fe_values fe_steps, wX3 G q_go go_kinds go_lefts go_rights go_values go_steps] [(0, .ref (q_w 0)), (1, .int l1), (2, .int l2)] 0 []
  refine st_aload_n hR dX10_loss_0 0 rfl rfl (pc' := 1) rfl ?_
  refine st_iload_n hR dX10_loss_1 1 rfl rfl (pc' := 2) rfl ?_
  obtain ⟨r_1, hc_, hM⟩ := bd_e hM
  refine st_callV hR (k_X10_isFarm hc_) cf_X10_95 (rm_le (Nat.le_of_ble_eq_true rfl) (Nat.le_of_ble_eq_true rfl)) [0, 1, 4] rfl rfl rfl 0 0 9 10 rfl rfl rfl rfl (rest := []) rfl (Nat.le_of_ble_eq_true rfl) dX10_loss_2 (pc' := 5) rfl (Wn := [wX10 G q_w w_tape w_reader (q_v 0) w_book (q_ah 0) (q_sc 0) w_game w_joined w_marks w_draft, wX9 G q_v (q_mt 0) v_night v_g v_flock v_hunger v_lean v_fed v_taken v_pacts v_levels v_facts, wX9 G q_ah ah_mountain ah_night ah_g ah_flock ah_hunger ah_lean ah_fed ah_taken ah_pacts ah_levels ah_facts, wX0 G q_sc sc_kept sc_feuds sc_bites sc_bones sc_feudsInAll sc_bitten, wX5 G q_mt mt_farms mt_fences mt_shares mt_names mt_flock mt_dogs mt_hunger mt_fenced mt_heights mt_pacts mt_partner mt_often mt_toothed (q_fe 0) (q_go 0), wX3 G q_fe fe_kinds fe_lefts fe_rights fe_values fe_steps, wX3 G q_go go_kinds go_lefts go_rights go_values go_steps]) rfl ?_
  refine st_if_eq hR dX10_loss_5 (tgt := 25) (by decide) (pc' := 8) rfl (fun c_ => ?_) (fun c_ => ?_)
  · have hM := it_t c_ hM
    refine st_iconst hR dX10_loss_25 (v := (-1)) (by decide) (pc' := 26) rfl ?_
    cases hM
    exact hret _ _ dX10_loss_26 (ro_i _)
  · have hM := it_f c_ hM
    refine st_iload_n hR dX10_loss_8 2 rfl rfl (pc' := 9) rfl ?_
    obtain ⟨r_2, hc_, hM⟩ := bd_e hM
    refine st_callS hR (k_X10_isAhead hc_) cf_X10_179 (rm_le (Nat.le_of_ble_eq_true rfl) (Nat.le_of_ble_eq_true rfl)) [] rfl rfl rfl rfl (rest := []) rfl (Nat.le_of_ble_eq_true rfl) dX10_loss_9 (pc' := 12) rfl (Wn := [wX10 G q_w w_tape w_reader (q_v 0) w_book (q_ah 0) (q_sc 0) w_game w_joined w_marks w_draft, wX9 G q_v (q_mt 0) v_night v_g v_flock v_hunger v_lean v_fed v_taken v_pacts v_levels v_facts, wX9 G q_ah ah_mountain ah_night ah_g ah_flock ah_hunger ah_lean ah_fed ah_taken ah_pacts ah_levels ah_facts, wX0 G q_sc sc_kept sc_feuds sc_bites sc_bones sc_feudsInAll sc_bitten, wX5 G q_mt mt_farms mt_fences mt_shares mt_names mt_flock mt_dogs mt_hunger mt_fenced mt_heights mt_pacts mt_partner mt_often mt_toothed (q_fe 0) (q_go 0), wX3 G q_fe fe_kinds fe_lefts fe_rights fe_values fe_steps, wX3 G q_go go_kinds go_lefts go_rights go_values go_steps]) rfl ?_
    refine st_if_eq hR dX10_loss_12 (tgt := 25) (by decide) (pc' := 15) rfl (fun c_ => ?_) (fun c_ => ?_)
    · have hM := it_t c_ hM
      refine st_iconst hR dX10_loss_25 (v := (-1)) (by decide) (pc' := 26) rfl ?_
      cases hM
      exact hret _ _ dX10_loss_26 (ro_i _)
    · have hM := it_f c_ hM
      refine st_aload_n hR dX10_loss_15 0 rfl rfl (pc' := 16) rfl ?_
      refine st_iload_n hR dX10_loss_16 1 rfl rfl (pc' := 17) rfl ?_
      refine st_iload_n hR dX10_loss_17 2 rfl rfl (pc' := 18) rfl ?_
      refine st_iconst hR dX10_loss_18 (v := 0) rfl (pc' := 19) rfl ?_
      obtain ⟨⟨r_3, ah_night_1, ah_g_1, ah_flock_1, ah_hunger_1, ah_lean_1, ah_fed_1, ah_taken_1, ah_pacts_1, ah_levels_1, ah_facts_1, sc_kept_1, sc_feuds_1, sc_bones_1, sc_feudsInAll_1, fe_values_1, go_values_1⟩, hc_, hM⟩ := bd_e hM
      refine st_callV hR (k_X10_lossIf hc_) cf_X10_182 (rm_le (Nat.le_of_ble_eq_true rfl) (Nat.le_of_ble_eq_true rfl)) [0, 1, 2, 3, 4, 5, 6] rfl rfl rfl 0 0 9 10 rfl rfl rfl rfl (rest := []) rfl (Nat.le_of_ble_eq_true rfl) dX10_loss_19 (pc' := 22) rfl (Wn := [wX10 G q_w w_tape w_reader (q_v 0) w_book (q_ah 0) (q_sc 0) w_game w_joined w_marks w_draft, wX9 G q_v (q_mt 0) v_night v_g v_flock v_hunger v_lean v_fed v_taken v_pacts v_levels v_facts, wX9 G q_ah (q_mt 0) ah_night_1 ah_g_1 ah_flock_1 ah_hunger_1 ah_lean_1 ah_fed_1 ah_taken_1 ah_pacts_1 ah_levels_1 ah_facts_1, wX0 G q_sc sc_kept_1 sc_feuds_1 sc_bites sc_bones_1 sc_feudsInAll_1 sc_bitten, wX5 G q_mt mt_farms mt_fences mt_shares mt_names mt_flock mt_dogs mt_hunger mt_fenced mt_heights mt_pacts mt_partner mt_often mt_toothed (q_fe 0) (q_go 0), wX3 G q_fe fe_kinds fe_lefts fe_rights fe_values_1 fe_steps, wX3 G q_go go_kinds go_lefts go_rights go_values_1 go_steps]) rfl ?_
      refine st_goto hR dX10_loss_22 (tgt := 26) (by decide) ?_
      cases hM
      exact hret _ _ dX10_loss_26 (ro_i _)
set_option maxHeartbeats 16000000 in
set_option maxRecDepth 100000 in
theorem k_X10_level {l : Launch} {G : GG} {q_w q_ga q_v q_ah q_sc q_mt q_fe q_go : Nat → Nat} {ga_mostFarms ga_foundMany ga_nights ga_farms ga_restingRow v_night ah_night sc_bones sc_feudsInAll sc_bitten mt_farms mt_fences mt_shares mt_toothed fe_steps go_steps : Int32} {v_g ah_g : Int64} {ga_losses ga_known ga_found ga_been v_flock v_hunger v_lean v_fed v_taken v_pacts v_levels v_facts ah_flock ah_hunger ah_lean ah_fed ah_taken ah_pacts ah_levels ah_facts sc_kept sc_feuds sc_bites mt_flock mt_dogs mt_hunger mt_fenced mt_heights mt_pacts mt_partner mt_often fe_kinds fe_lefts fe_rights fe_values go_kinds go_lefts go_rights go_values : Nat → Int32} {mt_names : Nat → Int64} {w_tape w_reader w_book w_ahead w_scrap w_joined w_draft ah_mountain : Nat} {w_marks : Nat → Option Nat} {l1 l2 l3 : Int32} {o_r : Int32} {o_ga_losses : Nat → Int32} {o_ga_known : Nat → Int32} {o_ga_foundMany : Int32} {o_ga_nights : Int32} {o_ga_farms : Int32} {o_ah_mountain : Nat} {o_ah_night : Int32} {o_ah_g : Int64} {o_ah_flock : Nat → Int32} {o_ah_hunger : Nat → Int32} {o_ah_lean : Nat → Int32} {o_ah_fed : Nat → Int32} {o_ah_taken : Nat → Int32} {o_ah_pacts : Nat → Int32} {o_ah_levels : Nat → Int32} {o_ah_facts : Nat → Int32} {o_sc_kept : Nat → Int32} {o_sc_feuds : Nat → Int32} {o_sc_bones : Int32} {o_sc_feudsInAll : Int32} {o_fe_values : Nat → Int32} {o_go_values : Nat → Int32} (hM : f_X10_level ga_mostFarms v_night v_g v_flock v_hunger v_lean v_fed v_taken v_pacts v_levels mt_farms mt_dogs mt_fenced mt_heights mt_partner fe_kinds fe_lefts fe_rights fe_steps go_kinds go_lefts go_rights go_steps ga_losses ga_known ga_foundMany ga_nights ga_farms ah_mountain ah_night ah_g ah_flock ah_hunger ah_lean ah_fed ah_taken ah_pacts ah_levels ah_facts sc_kept sc_feuds sc_bones sc_feudsInAll fe_values go_values (q_mt 0) l1 l2 l3 = some (o_r, o_ga_losses, o_ga_known, o_ga_foundMany, o_ga_nights, o_ga_farms, o_ah_mountain, o_ah_night, o_ah_g, o_ah_flock, o_ah_hunger, o_ah_lean, o_ah_fed, o_ah_taken, o_ah_pacts, o_ah_levels, o_ah_facts, o_sc_kept, o_sc_feuds, o_sc_bones, o_sc_feudsInAll, o_fe_values, o_go_values)) : MC l G yX10_level cX10_level 4 (some .int) (RM 5) [.ref (q_w 0), .int l1, .int l2, .int l3] [wX10 G q_w w_tape w_reader (q_v 0) w_book w_ahead w_scrap (q_ga 0) w_joined w_marks w_draft, wX1 G q_ga (q_v 0) (q_ah 0) (q_sc 0) ga_mostFarms ga_losses ga_known ga_found ga_foundMany ga_nights ga_farms ga_been ga_restingRow, wX9 G q_v (q_mt 0) v_night v_g v_flock v_hunger v_lean v_fed v_taken v_pacts v_levels v_facts, wX9 G q_ah ah_mountain ah_night ah_g ah_flock ah_hunger ah_lean ah_fed ah_taken ah_pacts ah_levels ah_facts, wX0 G q_sc sc_kept sc_feuds sc_bites sc_bones sc_feudsInAll sc_bitten, wX5 G q_mt mt_farms mt_fences mt_shares mt_names mt_flock mt_dogs mt_hunger mt_fenced mt_heights mt_pacts mt_partner mt_often mt_toothed (q_fe 0) (q_go 0), wX3 G q_fe fe_kinds fe_lefts fe_rights fe_values fe_steps, wX3 G q_go go_kinds go_lefts go_rights go_values go_steps] (some (.int o_r)) [wX10 G q_w w_tape w_reader (q_v 0) w_book w_ahead w_scrap (q_ga 0) w_joined w_marks w_draft, wX1 G q_ga (q_v 0) (q_ah 0) (q_sc 0) ga_mostFarms o_ga_losses o_ga_known ga_found o_ga_foundMany o_ga_nights o_ga_farms ga_been ga_restingRow, wX9 G q_v (q_mt 0) v_night v_g v_flock v_hunger v_lean v_fed v_taken v_pacts v_levels v_facts, wX9 G q_ah o_ah_mountain o_ah_night o_ah_g o_ah_flock o_ah_hunger o_ah_lean o_ah_fed o_ah_taken o_ah_pacts o_ah_levels o_ah_facts, wX0 G q_sc o_sc_kept o_sc_feuds sc_bites o_sc_bones o_sc_feudsInAll sc_bitten, wX5 G q_mt mt_farms mt_fences mt_shares mt_names mt_flock mt_dogs mt_hunger mt_fenced mt_heights mt_pacts mt_partner mt_often mt_toothed (q_fe 0) (q_go 0), wX3 G q_fe fe_kinds fe_lefts fe_rights o_fe_values fe_steps, wX3 G q_go go_kinds go_lefts go_rights o_go_values go_steps] := by
  refine MC.of pn_X10 (Nat.le_of_ble_eq_true rfl) (fun K hR hret => ?_)
  have hR : Rl l G RX10 cX10_level 4 (RM 5) K := hR
  show K [wX10 G q_w w_tape w_reader (q_v 0) w_book w_ahead w_scrap (q_ga 0) w_joined w_marks w_draft, wX1 G q_ga (q_v 0) (q_ah 0) (q_sc 0) ga_mostFarms ga_losses ga_known ga_found ga_foundMany ga_nights ga_farms ga_been ga_restingRow, wX9 G q_v (q_mt 0) v_night v_g v_flock v_hunger v_lean v_fed v_taken v_pacts v_levels v_facts, wX9 G q_ah ah_mountain ah_night ah_g ah_flock ah_hunger ah_lean ah_fed ah_taken ah_pacts ah_levels ah_facts, wX0 G q_sc sc_kept sc_feuds sc_bites sc_bones sc_feudsInAll sc_bitten, wX5 G q_mt mt_farms mt_fences mt_shares mt_names mt_flock mt_dogs mt_hunger mt_fenced mt_heights mt_pacts mt_partner mt_often mt_toothed (q_fe 0) (q_go 0), wX3 G q_fe fe_kinds fe_lefts fe_rights fe_values fe_steps, wX3 G q_go go_kinds go_lefts go_rights go_values go_steps] [(0, .ref (q_w 0)), (1, .int l1), (2, .int l2), (3, .int l3)] 0 []
  refine st_aload_n hR dX10_level_0 0 rfl rfl (pc' := 1) rfl ?_
  refine st_iload_n hR dX10_level_1 2 rfl rfl (pc' := 2) rfl ?_
  obtain ⟨r_1, hc_, hM⟩ := bd_e hM
  refine st_callV hR (k_X10_isFarm hc_) cf_X10_95 (rm_le (Nat.le_of_ble_eq_true rfl) (Nat.le_of_ble_eq_true rfl)) [0, 2, 5] rfl rfl rfl 0 0 9 10 rfl rfl rfl rfl (rest := []) rfl (Nat.le_of_ble_eq_true rfl) dX10_level_2 (pc' := 5) rfl (Wn := [wX10 G q_w w_tape w_reader (q_v 0) w_book w_ahead w_scrap (q_ga 0) w_joined w_marks w_draft, wX1 G q_ga (q_v 0) (q_ah 0) (q_sc 0) ga_mostFarms ga_losses ga_known ga_found ga_foundMany ga_nights ga_farms ga_been ga_restingRow, wX9 G q_v (q_mt 0) v_night v_g v_flock v_hunger v_lean v_fed v_taken v_pacts v_levels v_facts, wX9 G q_ah ah_mountain ah_night ah_g ah_flock ah_hunger ah_lean ah_fed ah_taken ah_pacts ah_levels ah_facts, wX0 G q_sc sc_kept sc_feuds sc_bites sc_bones sc_feudsInAll sc_bitten, wX5 G q_mt mt_farms mt_fences mt_shares mt_names mt_flock mt_dogs mt_hunger mt_fenced mt_heights mt_pacts mt_partner mt_often mt_toothed (q_fe 0) (q_go 0), wX3 G q_fe fe_kinds fe_lefts fe_rights fe_values fe_steps, wX3 G q_go go_kinds go_lefts go_rights go_values go_steps]) rfl ?_
  refine st_if_eq hR dX10_level_5 (tgt := 30) (by decide) (pc' := 8) rfl (fun c_ => ?_) (fun c_ => ?_)
  · have hM := it_t c_ hM
    refine st_iconst hR dX10_level_30 (v := (-1)) (by decide) (pc' := 31) rfl ?_
    cases hM
    exact hret _ _ dX10_level_31 (ro_i _)
  · have hM := it_f c_ hM
    refine st_aload_n hR dX10_level_8 0 rfl rfl (pc' := 9) rfl ?_
    refine st_get hR dX10_level_9 fg_X10_59_9_6 0 0 rfl rfl rfl (pc' := 12) rfl ?_
    refine st_iload_n hR dX10_level_12 3 rfl rfl (pc' := 13) rfl ?_
    obtain ⟨⟨r_2, ga_known_1, ga_foundMany_1, ga_nights_1, ga_farms_1⟩, hc_, hM⟩ := bd_e hM
    refine st_callU hR (k_X6_isReady_g hc_) cu_X10_186_X1 (rm_le (Nat.le_of_ble_eq_true rfl) (Nat.le_of_ble_eq_true rfl)) [1, 2, 5] rfl rfl rfl 1 0 1 12 rfl rfl rfl rfl (rest := []) rfl (Nat.le_of_ble_eq_true rfl) dX10_level_13 (pc' := 16) rfl (Wn := [wX10 G q_w w_tape w_reader (q_v 0) w_book w_ahead w_scrap (q_ga 0) w_joined w_marks w_draft, wX1 G q_ga (q_v 0) (q_ah 0) (q_sc 0) ga_mostFarms ga_losses ga_known_1 ga_found ga_foundMany_1 ga_nights_1 ga_farms_1 ga_been ga_restingRow, wX9 G q_v (q_mt 0) v_night v_g v_flock v_hunger v_lean v_fed v_taken v_pacts v_levels v_facts, wX9 G q_ah ah_mountain ah_night ah_g ah_flock ah_hunger ah_lean ah_fed ah_taken ah_pacts ah_levels ah_facts, wX0 G q_sc sc_kept sc_feuds sc_bites sc_bones sc_feudsInAll sc_bitten, wX5 G q_mt mt_farms mt_fences mt_shares mt_names mt_flock mt_dogs mt_hunger mt_fenced mt_heights mt_pacts mt_partner mt_often mt_toothed (q_fe 0) (q_go 0), wX3 G q_fe fe_kinds fe_lefts fe_rights fe_values fe_steps, wX3 G q_go go_kinds go_lefts go_rights go_values go_steps]) rfl ?_
    refine st_if_eq hR dX10_level_16 (tgt := 30) (by decide) (pc' := 19) rfl (fun c_ => ?_) (fun c_ => ?_)
    · have hM := it_t c_ hM
      refine st_iconst hR dX10_level_30 (v := (-1)) (by decide) (pc' := 31) rfl ?_
      cases hM
      exact hret _ _ dX10_level_31 (ro_i _)
    · have hM := it_f c_ hM
      refine st_aload_n hR dX10_level_19 0 rfl rfl (pc' := 20) rfl ?_
      refine st_get hR dX10_level_20 fg_X10_59_9_6 0 0 rfl rfl rfl (pc' := 23) rfl ?_
      refine st_iload_n hR dX10_level_23 1 rfl rfl (pc' := 24) rfl ?_
      obtain ⟨r_3, hc_, hM⟩ := bd_e hM
      refine st_callV hR (k_X1_isRow hc_) cf_X10_189 (rm_le (Nat.le_of_ble_eq_true rfl) (Nat.le_of_ble_eq_true rfl)) [1] rfl rfl rfl 1 0 1 12 rfl rfl rfl rfl (rest := []) rfl (Nat.le_of_ble_eq_true rfl) dX10_level_24 (pc' := 27) rfl (Wn := [wX10 G q_w w_tape w_reader (q_v 0) w_book w_ahead w_scrap (q_ga 0) w_joined w_marks w_draft, wX1 G q_ga (q_v 0) (q_ah 0) (q_sc 0) ga_mostFarms ga_losses ga_known_1 ga_found ga_foundMany_1 ga_nights_1 ga_farms_1 ga_been ga_restingRow, wX9 G q_v (q_mt 0) v_night v_g v_flock v_hunger v_lean v_fed v_taken v_pacts v_levels v_facts, wX9 G q_ah ah_mountain ah_night ah_g ah_flock ah_hunger ah_lean ah_fed ah_taken ah_pacts ah_levels ah_facts, wX0 G q_sc sc_kept sc_feuds sc_bites sc_bones sc_feudsInAll sc_bitten, wX5 G q_mt mt_farms mt_fences mt_shares mt_names mt_flock mt_dogs mt_hunger mt_fenced mt_heights mt_pacts mt_partner mt_often mt_toothed (q_fe 0) (q_go 0), wX3 G q_fe fe_kinds fe_lefts fe_rights fe_values fe_steps, wX3 G q_go go_kinds go_lefts go_rights go_values go_steps]) rfl ?_
      refine st_if_ne hR dX10_level_27 (tgt := 32) (by decide) (pc' := 30) rfl (fun c_ => ?_) (fun c_ => ?_)
      · have hM := it_f c_ hM
        refine st_aload_n hR dX10_level_32 0 rfl rfl (pc' := 33) rfl ?_
        refine st_get hR dX10_level_33 fg_X10_59_9_6 0 0 rfl rfl rfl (pc' := 36) rfl ?_
        refine st_iload_n hR dX10_level_36 1 rfl rfl (pc' := 37) rfl ?_
        obtain ⟨⟨ga_losses_1, ga_known_2, ah_mountain_1, ah_night_1, ah_g_1, ah_flock_1, ah_hunger_1, ah_lean_1, ah_fed_1, ah_taken_1, ah_pacts_1, ah_levels_1, ah_facts_1, sc_kept_1, sc_feuds_1, sc_bones_1, sc_feudsInAll_1, fe_values_1, go_values_1⟩, hc_, hM⟩ := bd_e hM
        refine st_callU hR (k_X6_lookAt_g hc_) cu_X10_192_X1 (rm_le (Nat.le_of_ble_eq_true rfl) (Nat.le_of_ble_eq_true rfl)) [1, 2, 3, 4, 5, 6, 7] rfl rfl rfl 1 0 1 12 rfl rfl rfl rfl (rest := []) rfl (Nat.le_of_ble_eq_true rfl) dX10_level_37 (pc' := 40) rfl (Wn := [wX10 G q_w w_tape w_reader (q_v 0) w_book w_ahead w_scrap (q_ga 0) w_joined w_marks w_draft, wX1 G q_ga (q_v 0) (q_ah 0) (q_sc 0) ga_mostFarms ga_losses_1 ga_known_2 ga_found ga_foundMany_1 ga_nights_1 ga_farms_1 ga_been ga_restingRow, wX9 G q_v (q_mt 0) v_night v_g v_flock v_hunger v_lean v_fed v_taken v_pacts v_levels v_facts, wX9 G q_ah ah_mountain_1 ah_night_1 ah_g_1 ah_flock_1 ah_hunger_1 ah_lean_1 ah_fed_1 ah_taken_1 ah_pacts_1 ah_levels_1 ah_facts_1, wX0 G q_sc sc_kept_1 sc_feuds_1 sc_bites sc_bones_1 sc_feudsInAll_1 sc_bitten, wX5 G q_mt mt_farms mt_fences mt_shares mt_names mt_flock mt_dogs mt_hunger mt_fenced mt_heights mt_pacts mt_partner mt_often mt_toothed (q_fe 0) (q_go 0), wX3 G q_fe fe_kinds fe_lefts fe_rights fe_values_1 fe_steps, wX3 G q_go go_kinds go_lefts go_rights go_values_1 go_steps]) rfl ?_
        refine st_aload_n hR dX10_level_40 0 rfl rfl (pc' := 41) rfl ?_
        refine st_get hR dX10_level_41 fg_X10_59_9_6 0 0 rfl rfl rfl (pc' := 44) rfl ?_
        refine st_iload_n hR dX10_level_44 1 rfl rfl (pc' := 45) rfl ?_
        refine st_iload_n hR dX10_level_45 2 rfl rfl (pc' := 46) rfl ?_
        obtain ⟨r_4, hc_, hM⟩ := bd_e hM
        refine st_callU hR (k_X6_lossIn_g hc_) cu_X10_196_X1 (rm_le (Nat.le_of_ble_eq_true rfl) (Nat.le_of_ble_eq_true rfl)) [1] rfl rfl rfl 1 0 1 12 rfl rfl rfl rfl (rest := []) rfl (Nat.le_of_ble_eq_true rfl) dX10_level_46 (pc' := 49) rfl (Wn := [wX10 G q_w w_tape w_reader (q_v 0) w_book w_ahead w_scrap (q_ga 0) w_joined w_marks w_draft, wX1 G q_ga (q_v 0) (q_ah 0) (q_sc 0) ga_mostFarms ga_losses_1 ga_known_2 ga_found ga_foundMany_1 ga_nights_1 ga_farms_1 ga_been ga_restingRow, wX9 G q_v (q_mt 0) v_night v_g v_flock v_hunger v_lean v_fed v_taken v_pacts v_levels v_facts, wX9 G q_ah ah_mountain_1 ah_night_1 ah_g_1 ah_flock_1 ah_hunger_1 ah_lean_1 ah_fed_1 ah_taken_1 ah_pacts_1 ah_levels_1 ah_facts_1, wX0 G q_sc sc_kept_1 sc_feuds_1 sc_bites sc_bones_1 sc_feudsInAll_1 sc_bitten, wX5 G q_mt mt_farms mt_fences mt_shares mt_names mt_flock mt_dogs mt_hunger mt_fenced mt_heights mt_pacts mt_partner mt_often mt_toothed (q_fe 0) (q_go 0), wX3 G q_fe fe_kinds fe_lefts fe_rights fe_values_1 fe_steps, wX3 G q_go go_kinds go_lefts go_rights go_values_1 go_steps]) rfl ?_
        cases hM
        exact hret _ _ dX10_level_49 (ro_i _)
      · have hM := it_t c_ hM
        refine st_iconst hR dX10_level_30 (v := (-1)) (by decide) (pc' := 31) rfl ?_
        cases hM
        exact hret _ _ dX10_level_31 (ro_i _)
set_option maxHeartbeats 16000000 in
set_option maxRecDepth 100000 in
theorem k_X10_rests {l : Launch} {G : GG} {q_w q_ga q_v q_ah q_sc q_mt q_fe q_go : Nat → Nat} {ga_mostFarms ga_foundMany ga_nights ga_farms ga_restingRow v_night ah_night sc_bones sc_feudsInAll sc_bitten mt_farms mt_fences mt_shares mt_toothed fe_steps go_steps : Int32} {v_g ah_g : Int64} {ga_losses ga_known ga_found ga_been v_flock v_hunger v_lean v_fed v_taken v_pacts v_levels v_facts ah_flock ah_hunger ah_lean ah_fed ah_taken ah_pacts ah_levels ah_facts sc_kept sc_feuds sc_bites mt_flock mt_dogs mt_hunger mt_fenced mt_heights mt_pacts mt_partner mt_often fe_kinds fe_lefts fe_rights fe_values go_kinds go_lefts go_rights go_values : Nat → Int32} {mt_names : Nat → Int64} {w_tape w_reader w_book w_ahead w_scrap w_joined w_draft ah_mountain : Nat} {w_marks : Nat → Option Nat} {l1 : Int32} {o_r : Int32} {o_ga_losses : Nat → Int32} {o_ga_known : Nat → Int32} {o_ga_found : Nat → Int32} {o_ga_foundMany : Int32} {o_ga_nights : Int32} {o_ga_farms : Int32} {o_ah_mountain : Nat} {o_ah_night : Int32} {o_ah_g : Int64} {o_ah_flock : Nat → Int32} {o_ah_hunger : Nat → Int32} {o_ah_lean : Nat → Int32} {o_ah_fed : Nat → Int32} {o_ah_taken : Nat → Int32} {o_ah_pacts : Nat → Int32} {o_ah_levels : Nat → Int32} {o_ah_facts : Nat → Int32} {o_sc_kept : Nat → Int32} {o_sc_feuds : Nat → Int32} {o_sc_bones : Int32} {o_sc_feudsInAll : Int32} {o_fe_values : Nat → Int32} {o_go_values : Nat → Int32} (hM : f_X10_rests ga_mostFarms v_night v_g v_flock v_hunger v_lean v_fed v_taken v_pacts v_levels mt_farms mt_dogs mt_fenced mt_heights mt_partner fe_kinds fe_lefts fe_rights fe_steps go_kinds go_lefts go_rights go_steps ga_losses ga_known ga_found ga_foundMany ga_nights ga_farms ah_mountain ah_night ah_g ah_flock ah_hunger ah_lean ah_fed ah_taken ah_pacts ah_levels ah_facts sc_kept sc_feuds sc_bones sc_feudsInAll fe_values go_values (q_mt 0) l1 = some (o_r, o_ga_losses, o_ga_known, o_ga_found, o_ga_foundMany, o_ga_nights, o_ga_farms, o_ah_mountain, o_ah_night, o_ah_g, o_ah_flock, o_ah_hunger, o_ah_lean, o_ah_fed, o_ah_taken, o_ah_pacts, o_ah_levels, o_ah_facts, o_sc_kept, o_sc_feuds, o_sc_bones, o_sc_feudsInAll, o_fe_values, o_go_values)) : MC l G yX10_rests cX10_rests 2 (some .int) (RM 6) [.ref (q_w 0), .int l1] [wX10 G q_w w_tape w_reader (q_v 0) w_book w_ahead w_scrap (q_ga 0) w_joined w_marks w_draft, wX1 G q_ga (q_v 0) (q_ah 0) (q_sc 0) ga_mostFarms ga_losses ga_known ga_found ga_foundMany ga_nights ga_farms ga_been ga_restingRow, wX9 G q_v (q_mt 0) v_night v_g v_flock v_hunger v_lean v_fed v_taken v_pacts v_levels v_facts, wX9 G q_ah ah_mountain ah_night ah_g ah_flock ah_hunger ah_lean ah_fed ah_taken ah_pacts ah_levels ah_facts, wX0 G q_sc sc_kept sc_feuds sc_bites sc_bones sc_feudsInAll sc_bitten, wX5 G q_mt mt_farms mt_fences mt_shares mt_names mt_flock mt_dogs mt_hunger mt_fenced mt_heights mt_pacts mt_partner mt_often mt_toothed (q_fe 0) (q_go 0), wX3 G q_fe fe_kinds fe_lefts fe_rights fe_values fe_steps, wX3 G q_go go_kinds go_lefts go_rights go_values go_steps] (some (.int o_r)) [wX10 G q_w w_tape w_reader (q_v 0) w_book w_ahead w_scrap (q_ga 0) w_joined w_marks w_draft, wX1 G q_ga (q_v 0) (q_ah 0) (q_sc 0) ga_mostFarms o_ga_losses o_ga_known o_ga_found o_ga_foundMany o_ga_nights o_ga_farms ga_been ga_restingRow, wX9 G q_v (q_mt 0) v_night v_g v_flock v_hunger v_lean v_fed v_taken v_pacts v_levels v_facts, wX9 G q_ah o_ah_mountain o_ah_night o_ah_g o_ah_flock o_ah_hunger o_ah_lean o_ah_fed o_ah_taken o_ah_pacts o_ah_levels o_ah_facts, wX0 G q_sc o_sc_kept o_sc_feuds sc_bites o_sc_bones o_sc_feudsInAll sc_bitten, wX5 G q_mt mt_farms mt_fences mt_shares mt_names mt_flock mt_dogs mt_hunger mt_fenced mt_heights mt_pacts mt_partner mt_often mt_toothed (q_fe 0) (q_go 0), wX3 G q_fe fe_kinds fe_lefts fe_rights o_fe_values fe_steps, wX3 G q_go go_kinds go_lefts go_rights o_go_values go_steps] := by
  refine MC.of pn_X10 (Nat.le_of_ble_eq_true rfl) (fun K hR hret => ?_)
  have hR : Rl l G RX10 cX10_rests 2 (RM 6) K := hR
  show K [wX10 G q_w w_tape w_reader (q_v 0) w_book w_ahead w_scrap (q_ga 0) w_joined w_marks w_draft, wX1 G q_ga (q_v 0) (q_ah 0) (q_sc 0) ga_mostFarms ga_losses ga_known ga_found ga_foundMany ga_nights ga_farms ga_been ga_restingRow, wX9 G q_v (q_mt 0) v_night v_g v_flock v_hunger v_lean v_fed v_taken v_pacts v_levels v_facts, wX9 G q_ah ah_mountain ah_night ah_g ah_flock ah_hunger ah_lean ah_fed ah_taken ah_pacts ah_levels ah_facts, wX0 G q_sc sc_kept sc_feuds sc_bites sc_bones sc_feudsInAll sc_bitten, wX5 G q_mt mt_farms mt_fences mt_shares mt_names mt_flock mt_dogs mt_hunger mt_fenced mt_heights mt_pacts mt_partner mt_often mt_toothed (q_fe 0) (q_go 0), wX3 G q_fe fe_kinds fe_lefts fe_rights fe_values fe_steps, wX3 G q_go go_kinds go_lefts go_rights go_values go_steps] [(0, .ref (q_w 0)), (1, .int l1)] 0 []
  refine st_aload_n hR dX10_rests_0 0 rfl rfl (pc' := 1) rfl ?_
  refine st_get hR dX10_rests_1 fg_X10_59_9_6 0 0 rfl rfl rfl (pc' := 4) rfl ?_
  refine st_iload_n hR dX10_rests_4 1 rfl rfl (pc' := 5) rfl ?_
  obtain ⟨⟨r_1, ga_known_1, ga_foundMany_1, ga_nights_1, ga_farms_1⟩, hc_, hM⟩ := bd_e hM
  refine st_callU hR (k_X6_isReady_g hc_) cu_X10_186_X1 (rm_le (Nat.le_of_ble_eq_true rfl) (Nat.le_of_ble_eq_true rfl)) [1, 2, 5] rfl rfl rfl 1 0 1 12 rfl rfl rfl rfl (rest := []) rfl (Nat.le_of_ble_eq_true rfl) dX10_rests_5 (pc' := 8) rfl (Wn := [wX10 G q_w w_tape w_reader (q_v 0) w_book w_ahead w_scrap (q_ga 0) w_joined w_marks w_draft, wX1 G q_ga (q_v 0) (q_ah 0) (q_sc 0) ga_mostFarms ga_losses ga_known_1 ga_found ga_foundMany_1 ga_nights_1 ga_farms_1 ga_been ga_restingRow, wX9 G q_v (q_mt 0) v_night v_g v_flock v_hunger v_lean v_fed v_taken v_pacts v_levels v_facts, wX9 G q_ah ah_mountain ah_night ah_g ah_flock ah_hunger ah_lean ah_fed ah_taken ah_pacts ah_levels ah_facts, wX0 G q_sc sc_kept sc_feuds sc_bites sc_bones sc_feudsInAll sc_bitten, wX5 G q_mt mt_farms mt_fences mt_shares mt_names mt_flock mt_dogs mt_hunger mt_fenced mt_heights mt_pacts mt_partner mt_often mt_toothed (q_fe 0) (q_go 0), wX3 G q_fe fe_kinds fe_lefts fe_rights fe_values fe_steps, wX3 G q_go go_kinds go_lefts go_rights go_values go_steps]) rfl ?_
  refine st_if_eq hR dX10_rests_8 (tgt := 21) (by decide) (pc' := 11) rfl (fun c_ => ?_) (fun c_ => ?_)
  · have hM := it_t c_ hM
    refine st_iconst hR dX10_rests_21 (v := (-1)) (by decide) (pc' := 22) rfl ?_
    cases hM
    exact hret _ _ dX10_rests_22 (ro_i _)
  · have hM := it_f c_ hM
    refine st_aload_n hR dX10_rests_11 0 rfl rfl (pc' := 12) rfl ?_
    refine st_get hR dX10_rests_12 fg_X10_59_9_6 0 0 rfl rfl rfl (pc' := 15) rfl ?_
    obtain ⟨⟨r_2, ga_losses_1, ga_known_2, ga_found_1, ga_foundMany_2, ah_mountain_1, ah_night_1, ah_g_1, ah_flock_1, ah_hunger_1, ah_lean_1, ah_fed_1, ah_taken_1, ah_pacts_1, ah_levels_1, ah_facts_1, sc_kept_1, sc_feuds_1, sc_bones_1, sc_feudsInAll_1, fe_values_1, go_values_1⟩, hc_, hM⟩ := bd_e hM
    refine st_callU hR (k_X6_findAll_g hc_) cu_X10_199_X1 (rm_le (Nat.le_of_ble_eq_true rfl) (Nat.le_of_ble_eq_true rfl)) [1, 2, 3, 4, 5, 6, 7] rfl rfl rfl 1 0 1 12 rfl rfl rfl rfl (rest := []) rfl (Nat.le_of_ble_eq_true rfl) dX10_rests_15 (pc' := 18) rfl (Wn := [wX10 G q_w w_tape w_reader (q_v 0) w_book w_ahead w_scrap (q_ga 0) w_joined w_marks w_draft, wX1 G q_ga (q_v 0) (q_ah 0) (q_sc 0) ga_mostFarms ga_losses_1 ga_known_2 ga_found_1 ga_foundMany_2 ga_nights_1 ga_farms_1 ga_been ga_restingRow, wX9 G q_v (q_mt 0) v_night v_g v_flock v_hunger v_lean v_fed v_taken v_pacts v_levels v_facts, wX9 G q_ah ah_mountain_1 ah_night_1 ah_g_1 ah_flock_1 ah_hunger_1 ah_lean_1 ah_fed_1 ah_taken_1 ah_pacts_1 ah_levels_1 ah_facts_1, wX0 G q_sc sc_kept_1 sc_feuds_1 sc_bites sc_bones_1 sc_feudsInAll_1 sc_bitten, wX5 G q_mt mt_farms mt_fences mt_shares mt_names mt_flock mt_dogs mt_hunger mt_fenced mt_heights mt_pacts mt_partner mt_often mt_toothed (q_fe 0) (q_go 0), wX3 G q_fe fe_kinds fe_lefts fe_rights fe_values_1 fe_steps, wX3 G q_go go_kinds go_lefts go_rights go_values_1 go_steps]) rfl ?_
    refine st_goto hR dX10_rests_18 (tgt := 22) (by decide) ?_
    cases hM
    exact hret _ _ dX10_rests_22 (ro_i _)
set_option maxHeartbeats 16000000 in
set_option maxRecDepth 100000 in
theorem k_X10_rest {l : Launch} {G : GG} {q_w q_ga q_v q_ah q_sc q_mt q_fe q_go : Nat → Nat} {ga_mostFarms ga_foundMany ga_nights ga_farms ga_restingRow v_night ah_night sc_bones sc_feudsInAll sc_bitten mt_farms mt_fences mt_shares mt_toothed fe_steps go_steps : Int32} {v_g ah_g : Int64} {ga_losses ga_known ga_found ga_been v_flock v_hunger v_lean v_fed v_taken v_pacts v_levels v_facts ah_flock ah_hunger ah_lean ah_fed ah_taken ah_pacts ah_levels ah_facts sc_kept sc_feuds sc_bites mt_flock mt_dogs mt_hunger mt_fenced mt_heights mt_pacts mt_partner mt_often fe_kinds fe_lefts fe_rights fe_values go_kinds go_lefts go_rights go_values : Nat → Int32} {mt_names : Nat → Int64} {w_tape w_reader w_book w_ahead w_scrap w_joined w_draft ah_mountain : Nat} {w_marks : Nat → Option Nat} {l1 l2 : Int32} {o_r : Int32} {o_ga_losses : Nat → Int32} {o_ga_known : Nat → Int32} {o_ga_found : Nat → Int32} {o_ga_foundMany : Int32} {o_ga_nights : Int32} {o_ga_farms : Int32} {o_ah_mountain : Nat} {o_ah_night : Int32} {o_ah_g : Int64} {o_ah_flock : Nat → Int32} {o_ah_hunger : Nat → Int32} {o_ah_lean : Nat → Int32} {o_ah_fed : Nat → Int32} {o_ah_taken : Nat → Int32} {o_ah_pacts : Nat → Int32} {o_ah_levels : Nat → Int32} {o_ah_facts : Nat → Int32} {o_sc_kept : Nat → Int32} {o_sc_feuds : Nat → Int32} {o_sc_bones : Int32} {o_sc_feudsInAll : Int32} {o_fe_values : Nat → Int32} {o_go_values : Nat → Int32} (hM : f_X10_rest ga_mostFarms v_night v_g v_flock v_hunger v_lean v_fed v_taken v_pacts v_levels mt_farms mt_dogs mt_fenced mt_heights mt_partner fe_kinds fe_lefts fe_rights fe_steps go_kinds go_lefts go_rights go_steps ga_losses ga_known ga_found ga_foundMany ga_nights ga_farms ah_mountain ah_night ah_g ah_flock ah_hunger ah_lean ah_fed ah_taken ah_pacts ah_levels ah_facts sc_kept sc_feuds sc_bones sc_feudsInAll fe_values go_values (q_mt 0) l1 l2 = some (o_r, o_ga_losses, o_ga_known, o_ga_found, o_ga_foundMany, o_ga_nights, o_ga_farms, o_ah_mountain, o_ah_night, o_ah_g, o_ah_flock, o_ah_hunger, o_ah_lean, o_ah_fed, o_ah_taken, o_ah_pacts, o_ah_levels, o_ah_facts, o_sc_kept, o_sc_feuds, o_sc_bones, o_sc_feudsInAll, o_fe_values, o_go_values)) : MC l G yX10_rest cX10_rest 3 (some .int) (RM 6) [.ref (q_w 0), .int l1, .int l2] [wX10 G q_w w_tape w_reader (q_v 0) w_book w_ahead w_scrap (q_ga 0) w_joined w_marks w_draft, wX1 G q_ga (q_v 0) (q_ah 0) (q_sc 0) ga_mostFarms ga_losses ga_known ga_found ga_foundMany ga_nights ga_farms ga_been ga_restingRow, wX9 G q_v (q_mt 0) v_night v_g v_flock v_hunger v_lean v_fed v_taken v_pacts v_levels v_facts, wX9 G q_ah ah_mountain ah_night ah_g ah_flock ah_hunger ah_lean ah_fed ah_taken ah_pacts ah_levels ah_facts, wX0 G q_sc sc_kept sc_feuds sc_bites sc_bones sc_feudsInAll sc_bitten, wX5 G q_mt mt_farms mt_fences mt_shares mt_names mt_flock mt_dogs mt_hunger mt_fenced mt_heights mt_pacts mt_partner mt_often mt_toothed (q_fe 0) (q_go 0), wX3 G q_fe fe_kinds fe_lefts fe_rights fe_values fe_steps, wX3 G q_go go_kinds go_lefts go_rights go_values go_steps] (some (.int o_r)) [wX10 G q_w w_tape w_reader (q_v 0) w_book w_ahead w_scrap (q_ga 0) w_joined w_marks w_draft, wX1 G q_ga (q_v 0) (q_ah 0) (q_sc 0) ga_mostFarms o_ga_losses o_ga_known o_ga_found o_ga_foundMany o_ga_nights o_ga_farms ga_been ga_restingRow, wX9 G q_v (q_mt 0) v_night v_g v_flock v_hunger v_lean v_fed v_taken v_pacts v_levels v_facts, wX9 G q_ah o_ah_mountain o_ah_night o_ah_g o_ah_flock o_ah_hunger o_ah_lean o_ah_fed o_ah_taken o_ah_pacts o_ah_levels o_ah_facts, wX0 G q_sc o_sc_kept o_sc_feuds sc_bites o_sc_bones o_sc_feudsInAll sc_bitten, wX5 G q_mt mt_farms mt_fences mt_shares mt_names mt_flock mt_dogs mt_hunger mt_fenced mt_heights mt_pacts mt_partner mt_often mt_toothed (q_fe 0) (q_go 0), wX3 G q_fe fe_kinds fe_lefts fe_rights o_fe_values fe_steps, wX3 G q_go go_kinds go_lefts go_rights o_go_values go_steps] := by
  refine MC.of pn_X10 (Nat.le_of_ble_eq_true rfl) (fun K hR hret => ?_)
  have hR : Rl l G RX10 cX10_rest 3 (RM 6) K := hR
  show K [wX10 G q_w w_tape w_reader (q_v 0) w_book w_ahead w_scrap (q_ga 0) w_joined w_marks w_draft, wX1 G q_ga (q_v 0) (q_ah 0) (q_sc 0) ga_mostFarms ga_losses ga_known ga_found ga_foundMany ga_nights ga_farms ga_been ga_restingRow, wX9 G q_v (q_mt 0) v_night v_g v_flock v_hunger v_lean v_fed v_taken v_pacts v_levels v_facts, wX9 G q_ah ah_mountain ah_night ah_g ah_flock ah_hunger ah_lean ah_fed ah_taken ah_pacts ah_levels ah_facts, wX0 G q_sc sc_kept sc_feuds sc_bites sc_bones sc_feudsInAll sc_bitten, wX5 G q_mt mt_farms mt_fences mt_shares mt_names mt_flock mt_dogs mt_hunger mt_fenced mt_heights mt_pacts mt_partner mt_often mt_toothed (q_fe 0) (q_go 0), wX3 G q_fe fe_kinds fe_lefts fe_rights fe_values fe_steps, wX3 G q_go go_kinds go_lefts go_rights go_values go_steps] [(0, .ref (q_w 0)), (1, .int l1), (2, .int l2)] 0 []
  refine st_aload_n hR dX10_rest_0 0 rfl rfl (pc' := 1) rfl ?_
  refine st_get hR dX10_rest_1 fg_X10_59_9_6 0 0 rfl rfl rfl (pc' := 4) rfl ?_
  refine st_iload_n hR dX10_rest_4 1 rfl rfl (pc' := 5) rfl ?_
  obtain ⟨⟨r_1, ga_known_1, ga_foundMany_1, ga_nights_1, ga_farms_1⟩, hc_, hM⟩ := bd_e hM
  refine st_callU hR (k_X6_isReady_g hc_) cu_X10_186_X1 (rm_le (Nat.le_of_ble_eq_true rfl) (Nat.le_of_ble_eq_true rfl)) [1, 2, 5] rfl rfl rfl 1 0 1 12 rfl rfl rfl rfl (rest := []) rfl (Nat.le_of_ble_eq_true rfl) dX10_rest_5 (pc' := 8) rfl (Wn := [wX10 G q_w w_tape w_reader (q_v 0) w_book w_ahead w_scrap (q_ga 0) w_joined w_marks w_draft, wX1 G q_ga (q_v 0) (q_ah 0) (q_sc 0) ga_mostFarms ga_losses ga_known_1 ga_found ga_foundMany_1 ga_nights_1 ga_farms_1 ga_been ga_restingRow, wX9 G q_v (q_mt 0) v_night v_g v_flock v_hunger v_lean v_fed v_taken v_pacts v_levels v_facts, wX9 G q_ah ah_mountain ah_night ah_g ah_flock ah_hunger ah_lean ah_fed ah_taken ah_pacts ah_levels ah_facts, wX0 G q_sc sc_kept sc_feuds sc_bites sc_bones sc_feudsInAll sc_bitten, wX5 G q_mt mt_farms mt_fences mt_shares mt_names mt_flock mt_dogs mt_hunger mt_fenced mt_heights mt_pacts mt_partner mt_often mt_toothed (q_fe 0) (q_go 0), wX3 G q_fe fe_kinds fe_lefts fe_rights fe_values fe_steps, wX3 G q_go go_kinds go_lefts go_rights go_values go_steps]) rfl ?_
  refine st_if_ne hR dX10_rest_8 (tgt := 13) (by decide) (pc' := 11) rfl (fun c_ => ?_) (fun c_ => ?_)
  · have hM := it_f c_ hM
    refine st_aload_n hR dX10_rest_13 0 rfl rfl (pc' := 14) rfl ?_
    refine st_get hR dX10_rest_14 fg_X10_59_9_6 0 0 rfl rfl rfl (pc' := 17) rfl ?_
    obtain ⟨⟨r_2, ga_losses_1, ga_known_2, ga_found_1, ga_foundMany_2, ah_mountain_1, ah_night_1, ah_g_1, ah_flock_1, ah_hunger_1, ah_lean_1, ah_fed_1, ah_taken_1, ah_pacts_1, ah_levels_1, ah_facts_1, sc_kept_1, sc_feuds_1, sc_bones_1, sc_feudsInAll_1, fe_values_1, go_values_1⟩, hc_, hM⟩ := bd_e hM
    refine st_callU hR (k_X6_findAll_g hc_) cu_X10_199_X1 (rm_le (Nat.le_of_ble_eq_true rfl) (Nat.le_of_ble_eq_true rfl)) [1, 2, 3, 4, 5, 6, 7] rfl rfl rfl 1 0 1 12 rfl rfl rfl rfl (rest := []) rfl (Nat.le_of_ble_eq_true rfl) dX10_rest_17 (pc' := 20) rfl (Wn := [wX10 G q_w w_tape w_reader (q_v 0) w_book w_ahead w_scrap (q_ga 0) w_joined w_marks w_draft, wX1 G q_ga (q_v 0) (q_ah 0) (q_sc 0) ga_mostFarms ga_losses_1 ga_known_2 ga_found_1 ga_foundMany_2 ga_nights_1 ga_farms_1 ga_been ga_restingRow, wX9 G q_v (q_mt 0) v_night v_g v_flock v_hunger v_lean v_fed v_taken v_pacts v_levels v_facts, wX9 G q_ah ah_mountain_1 ah_night_1 ah_g_1 ah_flock_1 ah_hunger_1 ah_lean_1 ah_fed_1 ah_taken_1 ah_pacts_1 ah_levels_1 ah_facts_1, wX0 G q_sc sc_kept_1 sc_feuds_1 sc_bites sc_bones_1 sc_feudsInAll_1 sc_bitten, wX5 G q_mt mt_farms mt_fences mt_shares mt_names mt_flock mt_dogs mt_hunger mt_fenced mt_heights mt_pacts mt_partner mt_often mt_toothed (q_fe 0) (q_go 0), wX3 G q_fe fe_kinds fe_lefts fe_rights fe_values_1 fe_steps, wX3 G q_go go_kinds go_lefts go_rights go_values_1 go_steps]) rfl ?_
    refine st_pop hR dX10_rest_20 (pc' := 21) rfl rfl ?_
    refine st_aload_n hR dX10_rest_21 0 rfl rfl (pc' := 22) rfl ?_
    refine st_get hR dX10_rest_22 fg_X10_59_9_6 0 0 rfl rfl rfl (pc' := 25) rfl ?_
    refine st_iload_n hR dX10_rest_25 2 rfl rfl (pc' := 26) rfl ?_
    obtain ⟨r_3, hc_, hM⟩ := bd_e hM
    refine st_callU hR (k_X6_foundAt_g hc_) cu_X10_203_X1 (rm_le (Nat.le_of_ble_eq_true rfl) (Nat.le_of_ble_eq_true rfl)) [1] rfl rfl rfl 1 0 1 12 rfl rfl rfl rfl (rest := []) rfl (Nat.le_of_ble_eq_true rfl) dX10_rest_26 (pc' := 29) rfl (Wn := [wX10 G q_w w_tape w_reader (q_v 0) w_book w_ahead w_scrap (q_ga 0) w_joined w_marks w_draft, wX1 G q_ga (q_v 0) (q_ah 0) (q_sc 0) ga_mostFarms ga_losses_1 ga_known_2 ga_found_1 ga_foundMany_2 ga_nights_1 ga_farms_1 ga_been ga_restingRow, wX9 G q_v (q_mt 0) v_night v_g v_flock v_hunger v_lean v_fed v_taken v_pacts v_levels v_facts, wX9 G q_ah ah_mountain_1 ah_night_1 ah_g_1 ah_flock_1 ah_hunger_1 ah_lean_1 ah_fed_1 ah_taken_1 ah_pacts_1 ah_levels_1 ah_facts_1, wX0 G q_sc sc_kept_1 sc_feuds_1 sc_bites sc_bones_1 sc_feudsInAll_1 sc_bitten, wX5 G q_mt mt_farms mt_fences mt_shares mt_names mt_flock mt_dogs mt_hunger mt_fenced mt_heights mt_pacts mt_partner mt_often mt_toothed (q_fe 0) (q_go 0), wX3 G q_fe fe_kinds fe_lefts fe_rights fe_values_1 fe_steps, wX3 G q_go go_kinds go_lefts go_rights go_values_1 go_steps]) rfl ?_
    cases hM
    exact hret _ _ dX10_rest_29 (ro_i _)
  · have hM := it_t c_ hM
    refine st_iconst hR dX10_rest_11 (v := (-1)) (by decide) (pc' := 12) rfl ?_
    cases hM
    exact hret _ _ dX10_rest_12 (ro_i _)
set_option maxHeartbeats 16000000 in
set_option maxRecDepth 100000 in
theorem k_X10_played {l : Launch} {G : GG} {q_w q_ga q_v q_ah q_sc q_mt q_fe q_go : Nat → Nat} {ga_mostFarms ga_foundMany ga_nights ga_farms ga_restingRow v_night ah_night sc_bones sc_feudsInAll sc_bitten mt_farms mt_fences mt_shares mt_toothed fe_steps go_steps : Int32} {v_g ah_g : Int64} {ga_losses ga_known ga_found ga_been v_flock v_hunger v_lean v_fed v_taken v_pacts v_levels v_facts ah_flock ah_hunger ah_lean ah_fed ah_taken ah_pacts ah_levels ah_facts sc_kept sc_feuds sc_bites mt_flock mt_dogs mt_hunger mt_fenced mt_heights mt_pacts mt_partner mt_often fe_kinds fe_lefts fe_rights fe_values go_kinds go_lefts go_rights go_values : Nat → Int32} {mt_names : Nat → Int64} {w_tape w_reader w_book w_ahead w_scrap w_joined w_draft ah_mountain : Nat} {w_marks : Nat → Option Nat} {l1 l2 l3 : Int32} {o_r : Int32} {o_ga_losses : Nat → Int32} {o_ga_known : Nat → Int32} {o_ga_foundMany : Int32} {o_ga_nights : Int32} {o_ga_farms : Int32} {o_ga_been : Nat → Int32} {o_ga_restingRow : Int32} {o_ah_mountain : Nat} {o_ah_night : Int32} {o_ah_g : Int64} {o_ah_flock : Nat → Int32} {o_ah_hunger : Nat → Int32} {o_ah_lean : Nat → Int32} {o_ah_fed : Nat → Int32} {o_ah_taken : Nat → Int32} {o_ah_pacts : Nat → Int32} {o_ah_levels : Nat → Int32} {o_ah_facts : Nat → Int32} {o_sc_kept : Nat → Int32} {o_sc_feuds : Nat → Int32} {o_sc_bones : Int32} {o_sc_feudsInAll : Int32} {o_fe_values : Nat → Int32} {o_go_values : Nat → Int32} (hM : f_X10_played ga_mostFarms v_night v_g v_flock v_hunger v_lean v_fed v_taken v_pacts v_levels mt_farms mt_dogs mt_fenced mt_heights mt_partner fe_kinds fe_lefts fe_rights fe_steps go_kinds go_lefts go_rights go_steps ga_losses ga_known ga_foundMany ga_nights ga_farms ga_been ga_restingRow ah_mountain ah_night ah_g ah_flock ah_hunger ah_lean ah_fed ah_taken ah_pacts ah_levels ah_facts sc_kept sc_feuds sc_bones sc_feudsInAll fe_values go_values (q_mt 0) l1 l2 l3 = some (o_r, o_ga_losses, o_ga_known, o_ga_foundMany, o_ga_nights, o_ga_farms, o_ga_been, o_ga_restingRow, o_ah_mountain, o_ah_night, o_ah_g, o_ah_flock, o_ah_hunger, o_ah_lean, o_ah_fed, o_ah_taken, o_ah_pacts, o_ah_levels, o_ah_facts, o_sc_kept, o_sc_feuds, o_sc_bones, o_sc_feudsInAll, o_fe_values, o_go_values)) : MC l G yX10_played cX10_played 5 (some .int) (RM 6) [.ref (q_w 0), .int l1, .int l2, .int l3] [wX10 G q_w w_tape w_reader (q_v 0) w_book w_ahead w_scrap (q_ga 0) w_joined w_marks w_draft, wX1 G q_ga (q_v 0) (q_ah 0) (q_sc 0) ga_mostFarms ga_losses ga_known ga_found ga_foundMany ga_nights ga_farms ga_been ga_restingRow, wX9 G q_v (q_mt 0) v_night v_g v_flock v_hunger v_lean v_fed v_taken v_pacts v_levels v_facts, wX9 G q_ah ah_mountain ah_night ah_g ah_flock ah_hunger ah_lean ah_fed ah_taken ah_pacts ah_levels ah_facts, wX0 G q_sc sc_kept sc_feuds sc_bites sc_bones sc_feudsInAll sc_bitten, wX5 G q_mt mt_farms mt_fences mt_shares mt_names mt_flock mt_dogs mt_hunger mt_fenced mt_heights mt_pacts mt_partner mt_often mt_toothed (q_fe 0) (q_go 0), wX3 G q_fe fe_kinds fe_lefts fe_rights fe_values fe_steps, wX3 G q_go go_kinds go_lefts go_rights go_values go_steps] (some (.int o_r)) [wX10 G q_w w_tape w_reader (q_v 0) w_book w_ahead w_scrap (q_ga 0) w_joined w_marks w_draft, wX1 G q_ga (q_v 0) (q_ah 0) (q_sc 0) ga_mostFarms o_ga_losses o_ga_known ga_found o_ga_foundMany o_ga_nights o_ga_farms o_ga_been o_ga_restingRow, wX9 G q_v (q_mt 0) v_night v_g v_flock v_hunger v_lean v_fed v_taken v_pacts v_levels v_facts, wX9 G q_ah o_ah_mountain o_ah_night o_ah_g o_ah_flock o_ah_hunger o_ah_lean o_ah_fed o_ah_taken o_ah_pacts o_ah_levels o_ah_facts, wX0 G q_sc o_sc_kept o_sc_feuds sc_bites o_sc_bones o_sc_feudsInAll sc_bitten, wX5 G q_mt mt_farms mt_fences mt_shares mt_names mt_flock mt_dogs mt_hunger mt_fenced mt_heights mt_pacts mt_partner mt_often mt_toothed (q_fe 0) (q_go 0), wX3 G q_fe fe_kinds fe_lefts fe_rights o_fe_values fe_steps, wX3 G q_go go_kinds go_lefts go_rights o_go_values go_steps] := by
  refine MC.of pn_X10 (Nat.le_of_ble_eq_true rfl) (fun K hR hret => ?_)
  have hR : Rl l G RX10 cX10_played 5 (RM 6) K := hR
  show K [wX10 G q_w w_tape w_reader (q_v 0) w_book w_ahead w_scrap (q_ga 0) w_joined w_marks w_draft, wX1 G q_ga (q_v 0) (q_ah 0) (q_sc 0) ga_mostFarms ga_losses ga_known ga_found ga_foundMany ga_nights ga_farms ga_been ga_restingRow, wX9 G q_v (q_mt 0) v_night v_g v_flock v_hunger v_lean v_fed v_taken v_pacts v_levels v_facts, wX9 G q_ah ah_mountain ah_night ah_g ah_flock ah_hunger ah_lean ah_fed ah_taken ah_pacts ah_levels ah_facts, wX0 G q_sc sc_kept sc_feuds sc_bites sc_bones sc_feudsInAll sc_bitten, wX5 G q_mt mt_farms mt_fences mt_shares mt_names mt_flock mt_dogs mt_hunger mt_fenced mt_heights mt_pacts mt_partner mt_often mt_toothed (q_fe 0) (q_go 0), wX3 G q_fe fe_kinds fe_lefts fe_rights fe_values fe_steps, wX3 G q_go go_kinds go_lefts go_rights go_values go_steps] [(0, .ref (q_w 0)), (1, .int l1), (2, .int l2), (3, .int l3)] 0 []
  refine st_iload_n hR dX10_played_0 3 rfl rfl (pc' := 1) rfl ?_
  refine st_if_lt hR dX10_played_1 (tgt := 31) (by decide) (pc' := 4) rfl (fun c_ => ?_) (fun c_ => ?_)
  · have hM := it_t c_ hM
    refine st_iconst hR dX10_played_31 (v := (-1)) (by decide) (pc' := 32) rfl ?_
    cases hM
    exact hret _ _ dX10_played_32 (ro_i _)
  · have hM := it_f c_ hM
    refine st_iload_n hR dX10_played_4 3 rfl rfl (pc' := 5) rfl ?_
    refine st_iconst hR dX10_played_5 (v := 1) rfl (pc' := 6) rfl ?_
    refine st_icmp_gt hR dX10_played_6 (tgt := 31) (by decide) (pc' := 9) rfl (fun c_ => ?_) (fun c_ => ?_)
    · have hM := it_t c_ hM
      refine st_iconst hR dX10_played_31 (v := (-1)) (by decide) (pc' := 32) rfl ?_
      cases hM
      exact hret _ _ dX10_played_32 (ro_i _)
    · have hM := it_f c_ hM
      refine st_aload_n hR dX10_played_9 0 rfl rfl (pc' := 10) rfl ?_
      refine st_get hR dX10_played_10 fg_X10_59_9_6 0 0 rfl rfl rfl (pc' := 13) rfl ?_
      refine st_iload_n hR dX10_played_13 2 rfl rfl (pc' := 14) rfl ?_
      obtain ⟨⟨r_1, ga_known_1, ga_foundMany_1, ga_nights_1, ga_farms_1⟩, hc_, hM⟩ := bd_e hM
      refine st_callU hR (k_X6_isReady_g hc_) cu_X10_186_X1 (rm_le (Nat.le_of_ble_eq_true rfl) (Nat.le_of_ble_eq_true rfl)) [1, 2, 5] rfl rfl rfl 1 0 1 12 rfl rfl rfl rfl (rest := []) rfl (Nat.le_of_ble_eq_true rfl) dX10_played_14 (pc' := 17) rfl (Wn := [wX10 G q_w w_tape w_reader (q_v 0) w_book w_ahead w_scrap (q_ga 0) w_joined w_marks w_draft, wX1 G q_ga (q_v 0) (q_ah 0) (q_sc 0) ga_mostFarms ga_losses ga_known_1 ga_found ga_foundMany_1 ga_nights_1 ga_farms_1 ga_been ga_restingRow, wX9 G q_v (q_mt 0) v_night v_g v_flock v_hunger v_lean v_fed v_taken v_pacts v_levels v_facts, wX9 G q_ah ah_mountain ah_night ah_g ah_flock ah_hunger ah_lean ah_fed ah_taken ah_pacts ah_levels ah_facts, wX0 G q_sc sc_kept sc_feuds sc_bites sc_bones sc_feudsInAll sc_bitten, wX5 G q_mt mt_farms mt_fences mt_shares mt_names mt_flock mt_dogs mt_hunger mt_fenced mt_heights mt_pacts mt_partner mt_often mt_toothed (q_fe 0) (q_go 0), wX3 G q_fe fe_kinds fe_lefts fe_rights fe_values fe_steps, wX3 G q_go go_kinds go_lefts go_rights go_values go_steps]) rfl ?_
      refine st_if_eq hR dX10_played_17 (tgt := 31) (by decide) (pc' := 20) rfl (fun c_ => ?_) (fun c_ => ?_)
      · have hM := it_t c_ hM
        refine st_iconst hR dX10_played_31 (v := (-1)) (by decide) (pc' := 32) rfl ?_
        cases hM
        exact hret _ _ dX10_played_32 (ro_i _)
      · have hM := it_f c_ hM
        refine st_aload_n hR dX10_played_20 0 rfl rfl (pc' := 21) rfl ?_
        refine st_get hR dX10_played_21 fg_X10_59_9_6 0 0 rfl rfl rfl (pc' := 24) rfl ?_
        refine st_iload_n hR dX10_played_24 1 rfl rfl (pc' := 25) rfl ?_
        obtain ⟨r_2, hc_, hM⟩ := bd_e hM
        refine st_callV hR (k_X1_isRow hc_) cf_X10_189 (rm_le (Nat.le_of_ble_eq_true rfl) (Nat.le_of_ble_eq_true rfl)) [1] rfl rfl rfl 1 0 1 12 rfl rfl rfl rfl (rest := []) rfl (Nat.le_of_ble_eq_true rfl) dX10_played_25 (pc' := 28) rfl (Wn := [wX10 G q_w w_tape w_reader (q_v 0) w_book w_ahead w_scrap (q_ga 0) w_joined w_marks w_draft, wX1 G q_ga (q_v 0) (q_ah 0) (q_sc 0) ga_mostFarms ga_losses ga_known_1 ga_found ga_foundMany_1 ga_nights_1 ga_farms_1 ga_been ga_restingRow, wX9 G q_v (q_mt 0) v_night v_g v_flock v_hunger v_lean v_fed v_taken v_pacts v_levels v_facts, wX9 G q_ah ah_mountain ah_night ah_g ah_flock ah_hunger ah_lean ah_fed ah_taken ah_pacts ah_levels ah_facts, wX0 G q_sc sc_kept sc_feuds sc_bites sc_bones sc_feudsInAll sc_bitten, wX5 G q_mt mt_farms mt_fences mt_shares mt_names mt_flock mt_dogs mt_hunger mt_fenced mt_heights mt_pacts mt_partner mt_often mt_toothed (q_fe 0) (q_go 0), wX3 G q_fe fe_kinds fe_lefts fe_rights fe_values fe_steps, wX3 G q_go go_kinds go_lefts go_rights go_values go_steps]) rfl ?_
        refine st_if_ne hR dX10_played_28 (tgt := 33) (by decide) (pc' := 31) rfl (fun c_ => ?_) (fun c_ => ?_)
        · have hM := it_f c_ hM
          refine st_aload_n hR dX10_played_33 0 rfl rfl (pc' := 34) rfl ?_
          refine st_get hR dX10_played_34 fg_X10_59_9_6 0 0 rfl rfl rfl (pc' := 37) rfl ?_
          refine st_iload_n hR dX10_played_37 1 rfl rfl (pc' := 38) rfl ?_
          obtain ⟨⟨r_3, ga_losses_1, ga_known_2, ga_been_1, ga_restingRow_1, ah_mountain_1, ah_night_1, ah_g_1, ah_flock_1, ah_hunger_1, ah_lean_1, ah_fed_1, ah_taken_1, ah_pacts_1, ah_levels_1, ah_facts_1, sc_kept_1, sc_feuds_1, sc_bones_1, sc_feudsInAll_1, fe_values_1, go_values_1⟩, hc_, hM⟩ := bd_e hM
          refine st_callV hR (k_X1_playFrom hc_) cf_X10_206 (rm_le (Nat.le_of_ble_eq_true rfl) (Nat.le_of_ble_eq_true rfl)) [1, 2, 3, 4, 5, 6, 7] rfl rfl rfl 1 0 1 12 rfl rfl rfl rfl (rest := []) rfl (Nat.le_of_ble_eq_true rfl) dX10_played_38 (pc' := 41) rfl (Wn := [wX10 G q_w w_tape w_reader (q_v 0) w_book w_ahead w_scrap (q_ga 0) w_joined w_marks w_draft, wX1 G q_ga (q_v 0) (q_ah 0) (q_sc 0) ga_mostFarms ga_losses_1 ga_known_2 ga_found ga_foundMany_1 ga_nights_1 ga_farms_1 ga_been_1 ga_restingRow_1, wX9 G q_v (q_mt 0) v_night v_g v_flock v_hunger v_lean v_fed v_taken v_pacts v_levels v_facts, wX9 G q_ah ah_mountain_1 ah_night_1 ah_g_1 ah_flock_1 ah_hunger_1 ah_lean_1 ah_fed_1 ah_taken_1 ah_pacts_1 ah_levels_1 ah_facts_1, wX0 G q_sc sc_kept_1 sc_feuds_1 sc_bites sc_bones_1 sc_feudsInAll_1 sc_bitten, wX5 G q_mt mt_farms mt_fences mt_shares mt_names mt_flock mt_dogs mt_hunger mt_fenced mt_heights mt_pacts mt_partner mt_often mt_toothed (q_fe 0) (q_go 0), wX3 G q_fe fe_kinds fe_lefts fe_rights fe_values_1 fe_steps, wX3 G q_go go_kinds go_lefts go_rights go_values_1 go_steps]) rfl ?_
          refine st_istore hR dX10_played_41 (Nat.le_of_ble_eq_true rfl) [1, 2, 3, 4, 0] (lv' := [(0, .ref (q_w 0)), (1, .int l1), (2, .int l2), (3, .int l3), (4, .int r_3)]) rfl (pc' := 43) rfl ?_
          refine st_iload_n hR dX10_played_43 3 rfl rfl (pc' := 44) rfl ?_
          refine st_if_ne hR dX10_played_44 (tgt := 57) (by decide) (pc' := 47) rfl (fun c_ => ?_) (fun c_ => ?_)
          · have hM := it_f c_ hM
            refine st_iload hR dX10_played_57 4 rfl (pc' := 59) rfl ?_
            cases hM
            exact hret _ _ dX10_played_59 (ro_i _)
          · have hM := it_t c_ hM
            refine st_aload_n hR dX10_played_47 0 rfl rfl (pc' := 48) rfl ?_
            refine st_get hR dX10_played_48 fg_X10_59_9_6 0 0 rfl rfl rfl (pc' := 51) rfl ?_
            refine st_get hR dX10_played_51 fg_X10_209_1_11 1 0 rfl rfl rfl (pc' := 54) rfl ?_
            refine st_goto hR dX10_played_54 (tgt := 59) (by decide) ?_
            cases hM
            exact hret _ _ dX10_played_59 (ro_i _)
        · have hM := it_t c_ hM
          refine st_iconst hR dX10_played_31 (v := (-1)) (by decide) (pc' := 32) rfl ?_
          cases hM
          exact hret _ _ dX10_played_32 (ro_i _)
set_option maxHeartbeats 16000000 in
set_option maxRecDepth 100000 in
theorem k_X10_firm {l : Launch} {G : GG} {q_w q_jo q_v q_ah q_sc q_mt q_fe q_go : Nat → Nat} {jo_mostFarms jo_foundMany jo_nights jo_farms v_night ah_night sc_bones sc_feudsInAll sc_bitten mt_farms mt_fences mt_shares mt_toothed fe_steps go_steps : Int32} {v_g ah_g : Int64} {jo_losses jo_known jo_found jo_groups jo_renumbered v_flock v_hunger v_lean v_fed v_taken v_pacts v_levels v_facts ah_flock ah_hunger ah_lean ah_fed ah_taken ah_pacts ah_levels ah_facts sc_kept sc_feuds sc_bites mt_flock mt_dogs mt_hunger mt_fenced mt_heights mt_pacts mt_partner mt_often fe_kinds fe_lefts fe_rights fe_values go_kinds go_lefts go_rights go_values : Nat → Int32} {mt_names : Nat → Int64} {w_tape w_reader w_book w_ahead w_scrap w_game w_draft ah_mountain : Nat} {w_marks : Nat → Option Nat} {l1 : Int32} {o_r : Int32} {o_jo_losses : Nat → Int32} {o_jo_known : Nat → Int32} {o_jo_found : Nat → Int32} {o_jo_foundMany : Int32} {o_jo_nights : Int32} {o_jo_farms : Int32} {o_jo_groups : Nat → Int32} {o_jo_renumbered : Nat → Int32} {o_ah_mountain : Nat} {o_ah_night : Int32} {o_ah_g : Int64} {o_ah_flock : Nat → Int32} {o_ah_hunger : Nat → Int32} {o_ah_lean : Nat → Int32} {o_ah_fed : Nat → Int32} {o_ah_taken : Nat → Int32} {o_ah_pacts : Nat → Int32} {o_ah_levels : Nat → Int32} {o_ah_facts : Nat → Int32} {o_sc_kept : Nat → Int32} {o_sc_feuds : Nat → Int32} {o_sc_bones : Int32} {o_sc_feudsInAll : Int32} {o_fe_values : Nat → Int32} {o_go_values : Nat → Int32} (hM : f_X10_firm jo_mostFarms v_night v_g v_flock v_hunger v_lean v_fed v_taken v_pacts v_levels mt_farms mt_dogs mt_fenced mt_heights mt_partner fe_kinds fe_lefts fe_rights fe_steps go_kinds go_lefts go_rights go_steps jo_losses jo_known jo_found jo_foundMany jo_nights jo_farms jo_groups jo_renumbered ah_mountain ah_night ah_g ah_flock ah_hunger ah_lean ah_fed ah_taken ah_pacts ah_levels ah_facts sc_kept sc_feuds sc_bones sc_feudsInAll fe_values go_values (q_mt 0) l1 = some (o_r, o_jo_losses, o_jo_known, o_jo_found, o_jo_foundMany, o_jo_nights, o_jo_farms, o_jo_groups, o_jo_renumbered, o_ah_mountain, o_ah_night, o_ah_g, o_ah_flock, o_ah_hunger, o_ah_lean, o_ah_fed, o_ah_taken, o_ah_pacts, o_ah_levels, o_ah_facts, o_sc_kept, o_sc_feuds, o_sc_bones, o_sc_feudsInAll, o_fe_values, o_go_values)) : MC l G yX10_firm cX10_firm 2 (some .int) (RM 6) [.ref (q_w 0), .int l1] [wX10 G q_w w_tape w_reader (q_v 0) w_book w_ahead w_scrap w_game (q_jo 0) w_marks w_draft, wX2 G q_jo (q_v 0) (q_ah 0) (q_sc 0) jo_mostFarms jo_losses jo_known jo_found jo_foundMany jo_nights jo_farms jo_groups jo_renumbered, wX9 G q_v (q_mt 0) v_night v_g v_flock v_hunger v_lean v_fed v_taken v_pacts v_levels v_facts, wX9 G q_ah ah_mountain ah_night ah_g ah_flock ah_hunger ah_lean ah_fed ah_taken ah_pacts ah_levels ah_facts, wX0 G q_sc sc_kept sc_feuds sc_bites sc_bones sc_feudsInAll sc_bitten, wX5 G q_mt mt_farms mt_fences mt_shares mt_names mt_flock mt_dogs mt_hunger mt_fenced mt_heights mt_pacts mt_partner mt_often mt_toothed (q_fe 0) (q_go 0), wX3 G q_fe fe_kinds fe_lefts fe_rights fe_values fe_steps, wX3 G q_go go_kinds go_lefts go_rights go_values go_steps] (some (.int o_r)) [wX10 G q_w w_tape w_reader (q_v 0) w_book w_ahead w_scrap w_game (q_jo 0) w_marks w_draft, wX2 G q_jo (q_v 0) (q_ah 0) (q_sc 0) jo_mostFarms o_jo_losses o_jo_known o_jo_found o_jo_foundMany o_jo_nights o_jo_farms o_jo_groups o_jo_renumbered, wX9 G q_v (q_mt 0) v_night v_g v_flock v_hunger v_lean v_fed v_taken v_pacts v_levels v_facts, wX9 G q_ah o_ah_mountain o_ah_night o_ah_g o_ah_flock o_ah_hunger o_ah_lean o_ah_fed o_ah_taken o_ah_pacts o_ah_levels o_ah_facts, wX0 G q_sc o_sc_kept o_sc_feuds sc_bites o_sc_bones o_sc_feudsInAll sc_bitten, wX5 G q_mt mt_farms mt_fences mt_shares mt_names mt_flock mt_dogs mt_hunger mt_fenced mt_heights mt_pacts mt_partner mt_often mt_toothed (q_fe 0) (q_go 0), wX3 G q_fe fe_kinds fe_lefts fe_rights o_fe_values fe_steps, wX3 G q_go go_kinds go_lefts go_rights o_go_values go_steps] := by
  refine MC.of pn_X10 (Nat.le_of_ble_eq_true rfl) (fun K hR hret => ?_)
  have hR : Rl l G RX10 cX10_firm 2 (RM 6) K := hR
  show K [wX10 G q_w w_tape w_reader (q_v 0) w_book w_ahead w_scrap w_game (q_jo 0) w_marks w_draft, wX2 G q_jo (q_v 0) (q_ah 0) (q_sc 0) jo_mostFarms jo_losses jo_known jo_found jo_foundMany jo_nights jo_farms jo_groups jo_renumbered, wX9 G q_v (q_mt 0) v_night v_g v_flock v_hunger v_lean v_fed v_taken v_pacts v_levels v_facts, wX9 G q_ah ah_mountain ah_night ah_g ah_flock ah_hunger ah_lean ah_fed ah_taken ah_pacts ah_levels ah_facts, wX0 G q_sc sc_kept sc_feuds sc_bites sc_bones sc_feudsInAll sc_bitten, wX5 G q_mt mt_farms mt_fences mt_shares mt_names mt_flock mt_dogs mt_hunger mt_fenced mt_heights mt_pacts mt_partner mt_often mt_toothed (q_fe 0) (q_go 0), wX3 G q_fe fe_kinds fe_lefts fe_rights fe_values fe_steps, wX3 G q_go go_kinds go_lefts go_rights go_values go_steps] [(0, .ref (q_w 0)), (1, .int l1)] 0 []
  refine st_aload_n hR dX10_firm_0 0 rfl rfl (pc' := 1) rfl ?_
  refine st_get hR dX10_firm_1 fg_X10_66_9_7 0 0 rfl rfl rfl (pc' := 4) rfl ?_
  refine st_iload_n hR dX10_firm_4 1 rfl rfl (pc' := 5) rfl ?_
  obtain ⟨⟨r_1, jo_known_1, jo_foundMany_1, jo_nights_1, jo_farms_1⟩, hc_, hM⟩ := bd_e hM
  refine st_callU hR (k_X6_isReady_j hc_) cu_X10_212_X2 (rm_le (Nat.le_of_ble_eq_true rfl) (Nat.le_of_ble_eq_true rfl)) [1, 2, 5] rfl rfl rfl 1 0 2 12 rfl rfl rfl rfl (rest := []) rfl (Nat.le_of_ble_eq_true rfl) dX10_firm_5 (pc' := 8) rfl (Wn := [wX10 G q_w w_tape w_reader (q_v 0) w_book w_ahead w_scrap w_game (q_jo 0) w_marks w_draft, wX2 G q_jo (q_v 0) (q_ah 0) (q_sc 0) jo_mostFarms jo_losses jo_known_1 jo_found jo_foundMany_1 jo_nights_1 jo_farms_1 jo_groups jo_renumbered, wX9 G q_v (q_mt 0) v_night v_g v_flock v_hunger v_lean v_fed v_taken v_pacts v_levels v_facts, wX9 G q_ah ah_mountain ah_night ah_g ah_flock ah_hunger ah_lean ah_fed ah_taken ah_pacts ah_levels ah_facts, wX0 G q_sc sc_kept sc_feuds sc_bites sc_bones sc_feudsInAll sc_bitten, wX5 G q_mt mt_farms mt_fences mt_shares mt_names mt_flock mt_dogs mt_hunger mt_fenced mt_heights mt_pacts mt_partner mt_often mt_toothed (q_fe 0) (q_go 0), wX3 G q_fe fe_kinds fe_lefts fe_rights fe_values fe_steps, wX3 G q_go go_kinds go_lefts go_rights go_values go_steps]) rfl ?_
  refine st_if_eq hR dX10_firm_8 (tgt := 21) (by decide) (pc' := 11) rfl (fun c_ => ?_) (fun c_ => ?_)
  · have hM := it_t c_ hM
    refine st_iconst hR dX10_firm_21 (v := (-1)) (by decide) (pc' := 22) rfl ?_
    cases hM
    exact hret _ _ dX10_firm_22 (ro_i _)
  · have hM := it_f c_ hM
    refine st_aload_n hR dX10_firm_11 0 rfl rfl (pc' := 12) rfl ?_
    refine st_get hR dX10_firm_12 fg_X10_66_9_7 0 0 rfl rfl rfl (pc' := 15) rfl ?_
    obtain ⟨⟨r_2, jo_losses_1, jo_known_2, jo_found_1, jo_foundMany_2, jo_groups_1, jo_renumbered_1, ah_mountain_1, ah_night_1, ah_g_1, ah_flock_1, ah_hunger_1, ah_lean_1, ah_fed_1, ah_taken_1, ah_pacts_1, ah_levels_1, ah_facts_1, sc_kept_1, sc_feuds_1, sc_bones_1, sc_feudsInAll_1, fe_values_1, go_values_1⟩, hc_, hM⟩ := bd_e hM
    refine st_callU hR (k_X6_findAll_j hc_) cu_X10_213_X2 (rm_le (Nat.le_of_ble_eq_true rfl) (Nat.le_of_ble_eq_true rfl)) [1, 2, 3, 4, 5, 6, 7] rfl rfl rfl 1 0 2 12 rfl rfl rfl rfl (rest := []) rfl (Nat.le_of_ble_eq_true rfl) dX10_firm_15 (pc' := 18) rfl (Wn := [wX10 G q_w w_tape w_reader (q_v 0) w_book w_ahead w_scrap w_game (q_jo 0) w_marks w_draft, wX2 G q_jo (q_v 0) (q_ah 0) (q_sc 0) jo_mostFarms jo_losses_1 jo_known_2 jo_found_1 jo_foundMany_2 jo_nights_1 jo_farms_1 jo_groups_1 jo_renumbered_1, wX9 G q_v (q_mt 0) v_night v_g v_flock v_hunger v_lean v_fed v_taken v_pacts v_levels v_facts, wX9 G q_ah ah_mountain_1 ah_night_1 ah_g_1 ah_flock_1 ah_hunger_1 ah_lean_1 ah_fed_1 ah_taken_1 ah_pacts_1 ah_levels_1 ah_facts_1, wX0 G q_sc sc_kept_1 sc_feuds_1 sc_bites sc_bones_1 sc_feudsInAll_1 sc_bitten, wX5 G q_mt mt_farms mt_fences mt_shares mt_names mt_flock mt_dogs mt_hunger mt_fenced mt_heights mt_pacts mt_partner mt_often mt_toothed (q_fe 0) (q_go 0), wX3 G q_fe fe_kinds fe_lefts fe_rights fe_values_1 fe_steps, wX3 G q_go go_kinds go_lefts go_rights go_values_1 go_steps]) rfl ?_
    refine st_goto hR dX10_firm_18 (tgt := 22) (by decide) ?_
    cases hM
    exact hret _ _ dX10_firm_22 (ro_i _)
set_option maxHeartbeats 16000000 in
set_option maxRecDepth 100000 in
theorem k_X10_group {l : Launch} {G : GG} {q_w q_jo q_v q_ah q_sc q_mt q_fe q_go : Nat → Nat} {jo_mostFarms jo_foundMany jo_nights jo_farms v_night ah_night sc_bones sc_feudsInAll sc_bitten mt_farms mt_fences mt_shares mt_toothed fe_steps go_steps : Int32} {v_g ah_g : Int64} {jo_losses jo_known jo_found jo_groups jo_renumbered v_flock v_hunger v_lean v_fed v_taken v_pacts v_levels v_facts ah_flock ah_hunger ah_lean ah_fed ah_taken ah_pacts ah_levels ah_facts sc_kept sc_feuds sc_bites mt_flock mt_dogs mt_hunger mt_fenced mt_heights mt_pacts mt_partner mt_often fe_kinds fe_lefts fe_rights fe_values go_kinds go_lefts go_rights go_values : Nat → Int32} {mt_names : Nat → Int64} {w_tape w_reader w_book w_ahead w_scrap w_game w_draft ah_mountain : Nat} {w_marks : Nat → Option Nat} {l1 l2 l3 : Int32} {o_r : Int32} {o_jo_losses : Nat → Int32} {o_jo_known : Nat → Int32} {o_jo_found : Nat → Int32} {o_jo_foundMany : Int32} {o_jo_nights : Int32} {o_jo_farms : Int32} {o_jo_groups : Nat → Int32} {o_jo_renumbered : Nat → Int32} {o_ah_mountain : Nat} {o_ah_night : Int32} {o_ah_g : Int64} {o_ah_flock : Nat → Int32} {o_ah_hunger : Nat → Int32} {o_ah_lean : Nat → Int32} {o_ah_fed : Nat → Int32} {o_ah_taken : Nat → Int32} {o_ah_pacts : Nat → Int32} {o_ah_levels : Nat → Int32} {o_ah_facts : Nat → Int32} {o_sc_kept : Nat → Int32} {o_sc_feuds : Nat → Int32} {o_sc_bones : Int32} {o_sc_feudsInAll : Int32} {o_fe_values : Nat → Int32} {o_go_values : Nat → Int32} (hM : f_X10_group jo_mostFarms v_night v_g v_flock v_hunger v_lean v_fed v_taken v_pacts v_levels mt_farms mt_dogs mt_fenced mt_heights mt_partner fe_kinds fe_lefts fe_rights fe_steps go_kinds go_lefts go_rights go_steps jo_losses jo_known jo_found jo_foundMany jo_nights jo_farms jo_groups jo_renumbered ah_mountain ah_night ah_g ah_flock ah_hunger ah_lean ah_fed ah_taken ah_pacts ah_levels ah_facts sc_kept sc_feuds sc_bones sc_feudsInAll fe_values go_values (q_mt 0) l1 l2 l3 = some (o_r, o_jo_losses, o_jo_known, o_jo_found, o_jo_foundMany, o_jo_nights, o_jo_farms, o_jo_groups, o_jo_renumbered, o_ah_mountain, o_ah_night, o_ah_g, o_ah_flock, o_ah_hunger, o_ah_lean, o_ah_fed, o_ah_taken, o_ah_pacts, o_ah_levels, o_ah_facts, o_sc_kept, o_sc_feuds, o_sc_bones, o_sc_feudsInAll, o_fe_values, o_go_values)) : MC l G yX10_group cX10_group 5 (some .int) (RM 6) [.ref (q_w 0), .int l1, .int l2, .int l3] [wX10 G q_w w_tape w_reader (q_v 0) w_book w_ahead w_scrap w_game (q_jo 0) w_marks w_draft, wX2 G q_jo (q_v 0) (q_ah 0) (q_sc 0) jo_mostFarms jo_losses jo_known jo_found jo_foundMany jo_nights jo_farms jo_groups jo_renumbered, wX9 G q_v (q_mt 0) v_night v_g v_flock v_hunger v_lean v_fed v_taken v_pacts v_levels v_facts, wX9 G q_ah ah_mountain ah_night ah_g ah_flock ah_hunger ah_lean ah_fed ah_taken ah_pacts ah_levels ah_facts, wX0 G q_sc sc_kept sc_feuds sc_bites sc_bones sc_feudsInAll sc_bitten, wX5 G q_mt mt_farms mt_fences mt_shares mt_names mt_flock mt_dogs mt_hunger mt_fenced mt_heights mt_pacts mt_partner mt_often mt_toothed (q_fe 0) (q_go 0), wX3 G q_fe fe_kinds fe_lefts fe_rights fe_values fe_steps, wX3 G q_go go_kinds go_lefts go_rights go_values go_steps] (some (.int o_r)) [wX10 G q_w w_tape w_reader (q_v 0) w_book w_ahead w_scrap w_game (q_jo 0) w_marks w_draft, wX2 G q_jo (q_v 0) (q_ah 0) (q_sc 0) jo_mostFarms o_jo_losses o_jo_known o_jo_found o_jo_foundMany o_jo_nights o_jo_farms o_jo_groups o_jo_renumbered, wX9 G q_v (q_mt 0) v_night v_g v_flock v_hunger v_lean v_fed v_taken v_pacts v_levels v_facts, wX9 G q_ah o_ah_mountain o_ah_night o_ah_g o_ah_flock o_ah_hunger o_ah_lean o_ah_fed o_ah_taken o_ah_pacts o_ah_levels o_ah_facts, wX0 G q_sc o_sc_kept o_sc_feuds sc_bites o_sc_bones o_sc_feudsInAll sc_bitten, wX5 G q_mt mt_farms mt_fences mt_shares mt_names mt_flock mt_dogs mt_hunger mt_fenced mt_heights mt_pacts mt_partner mt_often mt_toothed (q_fe 0) (q_go 0), wX3 G q_fe fe_kinds fe_lefts fe_rights o_fe_values fe_steps, wX3 G q_go go_kinds go_lefts go_rights o_go_values go_steps] := by
  refine MC.of pn_X10 (Nat.le_of_ble_eq_true rfl) (fun K hR hret => ?_)
  have hR : Rl l G RX10 cX10_group 5 (RM 6) K := hR
  show K [wX10 G q_w w_tape w_reader (q_v 0) w_book w_ahead w_scrap w_game (q_jo 0) w_marks w_draft, wX2 G q_jo (q_v 0) (q_ah 0) (q_sc 0) jo_mostFarms jo_losses jo_known jo_found jo_foundMany jo_nights jo_farms jo_groups jo_renumbered, wX9 G q_v (q_mt 0) v_night v_g v_flock v_hunger v_lean v_fed v_taken v_pacts v_levels v_facts, wX9 G q_ah ah_mountain ah_night ah_g ah_flock ah_hunger ah_lean ah_fed ah_taken ah_pacts ah_levels ah_facts, wX0 G q_sc sc_kept sc_feuds sc_bites sc_bones sc_feudsInAll sc_bitten, wX5 G q_mt mt_farms mt_fences mt_shares mt_names mt_flock mt_dogs mt_hunger mt_fenced mt_heights mt_pacts mt_partner mt_often mt_toothed (q_fe 0) (q_go 0), wX3 G q_fe fe_kinds fe_lefts fe_rights fe_values fe_steps, wX3 G q_go go_kinds go_lefts go_rights go_values go_steps] [(0, .ref (q_w 0)), (1, .int l1), (2, .int l2), (3, .int l3)] 0 []
  refine st_aload_n hR dX10_group_0 0 rfl rfl (pc' := 1) rfl ?_
  refine st_iload_n hR dX10_group_1 3 rfl rfl (pc' := 2) rfl ?_
  obtain ⟨r_1, hc_, hM⟩ := bd_e hM
  refine st_callV hR (k_X10_isFarm hc_) cf_X10_95 (rm_le (Nat.le_of_ble_eq_true rfl) (Nat.le_of_ble_eq_true rfl)) [0, 2, 5] rfl rfl rfl 0 0 9 10 rfl rfl rfl rfl (rest := []) rfl (Nat.le_of_ble_eq_true rfl) dX10_group_2 (pc' := 5) rfl (Wn := [wX10 G q_w w_tape w_reader (q_v 0) w_book w_ahead w_scrap w_game (q_jo 0) w_marks w_draft, wX2 G q_jo (q_v 0) (q_ah 0) (q_sc 0) jo_mostFarms jo_losses jo_known jo_found jo_foundMany jo_nights jo_farms jo_groups jo_renumbered, wX9 G q_v (q_mt 0) v_night v_g v_flock v_hunger v_lean v_fed v_taken v_pacts v_levels v_facts, wX9 G q_ah ah_mountain ah_night ah_g ah_flock ah_hunger ah_lean ah_fed ah_taken ah_pacts ah_levels ah_facts, wX0 G q_sc sc_kept sc_feuds sc_bites sc_bones sc_feudsInAll sc_bitten, wX5 G q_mt mt_farms mt_fences mt_shares mt_names mt_flock mt_dogs mt_hunger mt_fenced mt_heights mt_pacts mt_partner mt_often mt_toothed (q_fe 0) (q_go 0), wX3 G q_fe fe_kinds fe_lefts fe_rights fe_values fe_steps, wX3 G q_go go_kinds go_lefts go_rights go_values go_steps]) rfl ?_
  refine st_if_eq hR dX10_group_5 (tgt := 19) (by decide) (pc' := 8) rfl (fun c_ => ?_) (fun c_ => ?_)
  · have hM := it_t c_ hM
    refine st_iconst hR dX10_group_19 (v := (-1)) (by decide) (pc' := 20) rfl ?_
    cases hM
    exact hret _ _ dX10_group_20 (ro_i _)
  · have hM := it_f c_ hM
    refine st_aload_n hR dX10_group_8 0 rfl rfl (pc' := 9) rfl ?_
    refine st_get hR dX10_group_9 fg_X10_66_9_7 0 0 rfl rfl rfl (pc' := 12) rfl ?_
    refine st_iload_n hR dX10_group_12 1 rfl rfl (pc' := 13) rfl ?_
    obtain ⟨⟨r_2, jo_known_1, jo_foundMany_1, jo_nights_1, jo_farms_1⟩, hc_, hM⟩ := bd_e hM
    refine st_callU hR (k_X6_isReady_j hc_) cu_X10_212_X2 (rm_le (Nat.le_of_ble_eq_true rfl) (Nat.le_of_ble_eq_true rfl)) [1, 2, 5] rfl rfl rfl 1 0 2 12 rfl rfl rfl rfl (rest := []) rfl (Nat.le_of_ble_eq_true rfl) dX10_group_13 (pc' := 16) rfl (Wn := [wX10 G q_w w_tape w_reader (q_v 0) w_book w_ahead w_scrap w_game (q_jo 0) w_marks w_draft, wX2 G q_jo (q_v 0) (q_ah 0) (q_sc 0) jo_mostFarms jo_losses jo_known_1 jo_found jo_foundMany_1 jo_nights_1 jo_farms_1 jo_groups jo_renumbered, wX9 G q_v (q_mt 0) v_night v_g v_flock v_hunger v_lean v_fed v_taken v_pacts v_levels v_facts, wX9 G q_ah ah_mountain ah_night ah_g ah_flock ah_hunger ah_lean ah_fed ah_taken ah_pacts ah_levels ah_facts, wX0 G q_sc sc_kept sc_feuds sc_bites sc_bones sc_feudsInAll sc_bitten, wX5 G q_mt mt_farms mt_fences mt_shares mt_names mt_flock mt_dogs mt_hunger mt_fenced mt_heights mt_pacts mt_partner mt_often mt_toothed (q_fe 0) (q_go 0), wX3 G q_fe fe_kinds fe_lefts fe_rights fe_values fe_steps, wX3 G q_go go_kinds go_lefts go_rights go_values go_steps]) rfl ?_
    refine st_if_ne hR dX10_group_16 (tgt := 21) (by decide) (pc' := 19) rfl (fun c_ => ?_) (fun c_ => ?_)
    · have hM := it_f c_ hM
      refine st_aload_n hR dX10_group_21 0 rfl rfl (pc' := 22) rfl ?_
      refine st_get hR dX10_group_22 fg_X10_66_9_7 0 0 rfl rfl rfl (pc' := 25) rfl ?_
      obtain ⟨⟨r_3, jo_losses_1, jo_known_2, jo_found_1, jo_foundMany_2, jo_groups_1, jo_renumbered_1, ah_mountain_1, ah_night_1, ah_g_1, ah_flock_1, ah_hunger_1, ah_lean_1, ah_fed_1, ah_taken_1, ah_pacts_1, ah_levels_1, ah_facts_1, sc_kept_1, sc_feuds_1, sc_bones_1, sc_feudsInAll_1, fe_values_1, go_values_1⟩, hc_, hM⟩ := bd_e hM
      refine st_callU hR (k_X6_findAll_j hc_) cu_X10_213_X2 (rm_le (Nat.le_of_ble_eq_true rfl) (Nat.le_of_ble_eq_true rfl)) [1, 2, 3, 4, 5, 6, 7] rfl rfl rfl 1 0 2 12 rfl rfl rfl rfl (rest := []) rfl (Nat.le_of_ble_eq_true rfl) dX10_group_25 (pc' := 28) rfl (Wn := [wX10 G q_w w_tape w_reader (q_v 0) w_book w_ahead w_scrap w_game (q_jo 0) w_marks w_draft, wX2 G q_jo (q_v 0) (q_ah 0) (q_sc 0) jo_mostFarms jo_losses_1 jo_known_2 jo_found_1 jo_foundMany_2 jo_nights_1 jo_farms_1 jo_groups_1 jo_renumbered_1, wX9 G q_v (q_mt 0) v_night v_g v_flock v_hunger v_lean v_fed v_taken v_pacts v_levels v_facts, wX9 G q_ah ah_mountain_1 ah_night_1 ah_g_1 ah_flock_1 ah_hunger_1 ah_lean_1 ah_fed_1 ah_taken_1 ah_pacts_1 ah_levels_1 ah_facts_1, wX0 G q_sc sc_kept_1 sc_feuds_1 sc_bites sc_bones_1 sc_feudsInAll_1 sc_bitten, wX5 G q_mt mt_farms mt_fences mt_shares mt_names mt_flock mt_dogs mt_hunger mt_fenced mt_heights mt_pacts mt_partner mt_often mt_toothed (q_fe 0) (q_go 0), wX3 G q_fe fe_kinds fe_lefts fe_rights fe_values_1 fe_steps, wX3 G q_go go_kinds go_lefts go_rights go_values_1 go_steps]) rfl ?_
      refine st_pop hR dX10_group_28 (pc' := 29) rfl rfl ?_
      refine st_aload_n hR dX10_group_29 0 rfl rfl (pc' := 30) rfl ?_
      refine st_get hR dX10_group_30 fg_X10_66_9_7 0 0 rfl rfl rfl (pc' := 33) rfl ?_
      refine st_iload_n hR dX10_group_33 2 rfl rfl (pc' := 34) rfl ?_
      obtain ⟨r_4, hc_, hM⟩ := bd_e hM
      refine st_callU hR (k_X6_foundAt_j hc_) cu_X10_214_X2 (rm_le (Nat.le_of_ble_eq_true rfl) (Nat.le_of_ble_eq_true rfl)) [1] rfl rfl rfl 1 0 2 12 rfl rfl rfl rfl (rest := []) rfl (Nat.le_of_ble_eq_true rfl) dX10_group_34 (pc' := 37) rfl (Wn := [wX10 G q_w w_tape w_reader (q_v 0) w_book w_ahead w_scrap w_game (q_jo 0) w_marks w_draft, wX2 G q_jo (q_v 0) (q_ah 0) (q_sc 0) jo_mostFarms jo_losses_1 jo_known_2 jo_found_1 jo_foundMany_2 jo_nights_1 jo_farms_1 jo_groups_1 jo_renumbered_1, wX9 G q_v (q_mt 0) v_night v_g v_flock v_hunger v_lean v_fed v_taken v_pacts v_levels v_facts, wX9 G q_ah ah_mountain_1 ah_night_1 ah_g_1 ah_flock_1 ah_hunger_1 ah_lean_1 ah_fed_1 ah_taken_1 ah_pacts_1 ah_levels_1 ah_facts_1, wX0 G q_sc sc_kept_1 sc_feuds_1 sc_bites sc_bones_1 sc_feudsInAll_1 sc_bitten, wX5 G q_mt mt_farms mt_fences mt_shares mt_names mt_flock mt_dogs mt_hunger mt_fenced mt_heights mt_pacts mt_partner mt_often mt_toothed (q_fe 0) (q_go 0), wX3 G q_fe fe_kinds fe_lefts fe_rights fe_values_1 fe_steps, wX3 G q_go go_kinds go_lefts go_rights go_values_1 go_steps]) rfl ?_
      refine st_istore hR dX10_group_37 (Nat.le_of_ble_eq_true rfl) [1, 2, 3, 4, 0] (lv' := [(0, .ref (q_w 0)), (1, .int l1), (2, .int l2), (3, .int l3), (4, .int r_4)]) rfl (pc' := 39) rfl ?_
      refine st_iload hR dX10_group_39 4 rfl (pc' := 41) rfl ?_
      refine st_iconst hR dX10_group_41 (v := (-1)) (by decide) (pc' := 42) rfl ?_
      refine st_icmp_ne hR dX10_group_42 (tgt := 49) (by decide) (pc' := 45) rfl (fun c_ => ?_) (fun c_ => ?_)
      · have hM := it_f c_ hM
        refine st_aload_n hR dX10_group_49 0 rfl rfl (pc' := 50) rfl ?_
        refine st_get hR dX10_group_50 fg_X10_66_9_7 0 0 rfl rfl rfl (pc' := 53) rfl ?_
        refine st_iload hR dX10_group_53 4 rfl (pc' := 55) rfl ?_
        refine st_iload_n hR dX10_group_55 3 rfl rfl (pc' := 56) rfl ?_
        obtain ⟨⟨r_5, jo_groups_2⟩, hc_, hM⟩ := bd_e hM
        refine st_callV hR (k_X2_groupIn hc_) cf_X10_215 (rm_le (Nat.le_of_ble_eq_true rfl) (Nat.le_of_ble_eq_true rfl)) [1] rfl rfl rfl 1 0 2 12 rfl rfl rfl rfl (rest := []) rfl (Nat.le_of_ble_eq_true rfl) dX10_group_56 (pc' := 59) rfl (Wn := [wX10 G q_w w_tape w_reader (q_v 0) w_book w_ahead w_scrap w_game (q_jo 0) w_marks w_draft, wX2 G q_jo (q_v 0) (q_ah 0) (q_sc 0) jo_mostFarms jo_losses_1 jo_known_2 jo_found_1 jo_foundMany_2 jo_nights_1 jo_farms_1 jo_groups_2 jo_renumbered_1, wX9 G q_v (q_mt 0) v_night v_g v_flock v_hunger v_lean v_fed v_taken v_pacts v_levels v_facts, wX9 G q_ah ah_mountain_1 ah_night_1 ah_g_1 ah_flock_1 ah_hunger_1 ah_lean_1 ah_fed_1 ah_taken_1 ah_pacts_1 ah_levels_1 ah_facts_1, wX0 G q_sc sc_kept_1 sc_feuds_1 sc_bites sc_bones_1 sc_feudsInAll_1 sc_bitten, wX5 G q_mt mt_farms mt_fences mt_shares mt_names mt_flock mt_dogs mt_hunger mt_fenced mt_heights mt_pacts mt_partner mt_often mt_toothed (q_fe 0) (q_go 0), wX3 G q_fe fe_kinds fe_lefts fe_rights fe_values_1 fe_steps, wX3 G q_go go_kinds go_lefts go_rights go_values_1 go_steps]) rfl ?_
        cases hM
        exact hret _ _ dX10_group_59 (ro_i _)
      · have hM := it_t c_ hM
        refine st_iconst hR dX10_group_45 (v := (-1)) (by decide) (pc' := 46) rfl ?_
        refine st_goto hR dX10_group_46 (tgt := 59) (by decide) ?_
        cases hM
        exact hret _ _ dX10_group_59 (ro_i _)
    · have hM := it_t c_ hM
      refine st_iconst hR dX10_group_19 (v := (-1)) (by decide) (pc' := 20) rfl ?_
      cases hM
      exact hret _ _ dX10_group_20 (ro_i _)
set_option maxHeartbeats 16000000 in
set_option maxRecDepth 100000 in
theorem k_X10_count {l : Launch} {G : GG} {q_w q_v q_mt q_b q_t : Nat → Nat} {v_night mt_farms mt_fences mt_shares mt_toothed b_bones b_feudsInAll b_bitten t_length t_at t_place t_number t_sign t_end : Int32} {v_g t_word : Int64} {v_flock v_hunger v_lean v_fed v_taken v_pacts v_levels v_facts mt_flock mt_dogs mt_hunger mt_fenced mt_heights mt_pacts mt_partner mt_often b_kept b_feuds b_bites t_signs : Nat → Int32} {mt_names : Nat → Int64} {w_reader w_ahead w_scrap w_game w_joined w_draft mt_feeding mt_going : Nat} {w_marks : Nat → Option Nat} {l1 : Int32} {o_r : Int32} (hM : f_X10_count v_night v_pacts mt_farms mt_fences mt_shares b_feudsInAll b_bitten t_length l1 = some o_r) : MC l G yX10_count cX10_count 2 (some .int) (RM 2) [.ref (q_w 0), .int l1] [wX10 G q_w (q_t 0) w_reader (q_v 0) (q_b 0) w_ahead w_scrap w_game w_joined w_marks w_draft, wX9 G q_v (q_mt 0) v_night v_g v_flock v_hunger v_lean v_fed v_taken v_pacts v_levels v_facts, wX5 G q_mt mt_farms mt_fences mt_shares mt_names mt_flock mt_dogs mt_hunger mt_fenced mt_heights mt_pacts mt_partner mt_often mt_toothed mt_feeding mt_going, wX0 G q_b b_kept b_feuds b_bites b_bones b_feudsInAll b_bitten, wX8 G q_t t_signs t_length t_at t_place t_word t_number t_sign t_end] (some (.int o_r)) [wX10 G q_w (q_t 0) w_reader (q_v 0) (q_b 0) w_ahead w_scrap w_game w_joined w_marks w_draft, wX9 G q_v (q_mt 0) v_night v_g v_flock v_hunger v_lean v_fed v_taken v_pacts v_levels v_facts, wX5 G q_mt mt_farms mt_fences mt_shares mt_names mt_flock mt_dogs mt_hunger mt_fenced mt_heights mt_pacts mt_partner mt_often mt_toothed mt_feeding mt_going, wX0 G q_b b_kept b_feuds b_bites b_bones b_feudsInAll b_bitten, wX8 G q_t t_signs t_length t_at t_place t_word t_number t_sign t_end] := by
  refine MC.of pn_X10 (Nat.le_of_ble_eq_true rfl) (fun K hR hret => ?_)
  have hR : Rl l G RX10 cX10_count 2 (RM 2) K := hR
  show K [wX10 G q_w (q_t 0) w_reader (q_v 0) (q_b 0) w_ahead w_scrap w_game w_joined w_marks w_draft, wX9 G q_v (q_mt 0) v_night v_g v_flock v_hunger v_lean v_fed v_taken v_pacts v_levels v_facts, wX5 G q_mt mt_farms mt_fences mt_shares mt_names mt_flock mt_dogs mt_hunger mt_fenced mt_heights mt_pacts mt_partner mt_often mt_toothed mt_feeding mt_going, wX0 G q_b b_kept b_feuds b_bites b_bones b_feudsInAll b_bitten, wX8 G q_t t_signs t_length t_at t_place t_word t_number t_sign t_end] [(0, .ref (q_w 0)), (1, .int l1)] 0 []
  refine st_iload_n hR dX10_count_0 1 rfl rfl (pc' := 1) rfl ?_
  refine st_sw_case hR dX10_count_1 0 (x0 := 0) (by decide) (by decide) rfl (tgt := 52) (by decide) (fun c0_ => ?_) (fun c0_ => ?_)
  · have hM := it_t c0_ hM
    refine st_aload_n hR dX10_count_52 0 rfl rfl (pc' := 53) rfl ?_
    refine st_get hR dX10_count_53 fg_X10_37_9_2 0 0 rfl rfl rfl (pc' := 56) rfl ?_
    refine st_get hR dX10_count_56 fg_X10_103_8_0 1 0 rfl rfl rfl (pc' := 59) rfl ?_
    refine st_get hR dX10_count_59 fg_X10_226_5_0 2 0 rfl rfl rfl (pc' := 62) rfl ?_
    cases hM
    exact hret _ _ dX10_count_62 (ro_i _)
  · have hM := it_f c0_ hM
    refine st_sw_case hR dX10_count_1 1 (x0 := 1) (by decide) (by decide) rfl (tgt := 63) (by decide) (fun c1_ => ?_) (fun c1_ => ?_)
    · have hM := it_t c1_ hM
      refine st_aload_n hR dX10_count_63 0 rfl rfl (pc' := 64) rfl ?_
      refine st_get hR dX10_count_64 fg_X10_37_9_2 0 0 rfl rfl rfl (pc' := 67) rfl ?_
      refine st_get hR dX10_count_67 fg_X10_140_8_1 1 0 rfl rfl rfl (pc' := 70) rfl ?_
      cases hM
      exact hret _ _ dX10_count_70 (ro_i _)
    · have hM := it_f c1_ hM
      refine st_sw_case hR dX10_count_1 2 (x0 := 2) (by decide) (by decide) rfl (tgt := 71) (by decide) (fun c2_ => ?_) (fun c2_ => ?_)
      · have hM := it_t c2_ hM
        refine st_aload_n hR dX10_count_71 0 rfl rfl (pc' := 72) rfl ?_
        refine st_get hR dX10_count_72 fg_X10_37_9_2 0 0 rfl rfl rfl (pc' := 75) rfl ?_
        refine st_get hR dX10_count_75 fg_X10_140_8_1 1 0 rfl rfl rfl (pc' := 78) rfl ?_
        refine st_bipush hR dX10_count_78 (v := 28) rfl (pc' := 80) rfl ?_
        refine st_idiv hR dX10_count_80 (pc' := 81) rfl (by decide) ?_
        cases hM
        exact hret _ _ dX10_count_81 (ro_i _)
      · have hM := it_f c2_ hM
        refine st_sw_case hR dX10_count_1 3 (x0 := 3) (by decide) (by decide) rfl (tgt := 82) (by decide) (fun c3_ => ?_) (fun c3_ => ?_)
        · have hM := it_t c3_ hM
          refine st_aload_n hR dX10_count_82 0 rfl rfl (pc' := 83) rfl ?_
          refine st_get hR dX10_count_83 fg_X10_37_9_2 0 0 rfl rfl rfl (pc' := 86) rfl ?_
          refine st_get hR dX10_count_86 fg_X10_103_8_0 1 0 rfl rfl rfl (pc' := 89) rfl ?_
          refine st_get hR dX10_count_89 fg_X10_255_5_1 2 0 rfl rfl rfl (pc' := 92) rfl ?_
          cases hM
          exact hret _ _ dX10_count_92 (ro_i _)
        · have hM := it_f c3_ hM
          refine st_sw_case hR dX10_count_1 4 (x0 := 4) (by decide) (by decide) rfl (tgt := 93) (by decide) (fun c4_ => ?_) (fun c4_ => ?_)
          · have hM := it_t c4_ hM
            refine st_aload_n hR dX10_count_93 0 rfl rfl (pc' := 94) rfl ?_
            refine st_get hR dX10_count_94 fg_X10_37_9_2 0 0 rfl rfl rfl (pc' := 97) rfl ?_
            obtain ⟨r_1, hc_, hM⟩ := bd_e hM
            refine st_callV hR (k_X9_pactsInAll hc_) cf_X10_258 (rm_le (Nat.le_of_ble_eq_true rfl) (Nat.le_of_ble_eq_true rfl)) [1, 2] rfl rfl rfl 1 0 8 11 rfl rfl rfl rfl (rest := []) rfl (Nat.le_of_ble_eq_true rfl) dX10_count_97 (pc' := 100) rfl (Wn := [wX10 G q_w (q_t 0) w_reader (q_v 0) (q_b 0) w_ahead w_scrap w_game w_joined w_marks w_draft, wX9 G q_v (q_mt 0) v_night v_g v_flock v_hunger v_lean v_fed v_taken v_pacts v_levels v_facts, wX5 G q_mt mt_farms mt_fences mt_shares mt_names mt_flock mt_dogs mt_hunger mt_fenced mt_heights mt_pacts mt_partner mt_often mt_toothed mt_feeding mt_going, wX0 G q_b b_kept b_feuds b_bites b_bones b_feudsInAll b_bitten, wX8 G q_t t_signs t_length t_at t_place t_word t_number t_sign t_end]) rfl ?_
            cases hM
            exact hret _ _ dX10_count_100 (ro_i _)
          · have hM := it_f c4_ hM
            refine st_sw_case hR dX10_count_1 5 (x0 := 5) (by decide) (by decide) rfl (tgt := 101) (by decide) (fun c5_ => ?_) (fun c5_ => ?_)
            · have hM := it_t c5_ hM
              refine st_aload_n hR dX10_count_101 0 rfl rfl (pc' := 102) rfl ?_
              refine st_get hR dX10_count_102 fg_X10_37_9_2 0 0 rfl rfl rfl (pc' := 105) rfl ?_
              refine st_get hR dX10_count_105 fg_X10_103_8_0 1 0 rfl rfl rfl (pc' := 108) rfl ?_
              refine st_get hR dX10_count_108 fg_X10_261_5_2 2 0 rfl rfl rfl (pc' := 111) rfl ?_
              cases hM
              exact hret _ _ dX10_count_111 (ro_i _)
            · have hM := it_f c5_ hM
              refine st_sw_case hR dX10_count_1 6 (x0 := 6) (by decide) (by decide) rfl (tgt := 112) (by decide) (fun c6_ => ?_) (fun c6_ => ?_)
              · have hM := it_t c6_ hM
                refine st_aload_n hR dX10_count_112 0 rfl rfl (pc' := 113) rfl ?_
                refine st_get hR dX10_count_113 fg_X10_44_9_3 0 0 rfl rfl rfl (pc' := 116) rfl ?_
                refine st_get hR dX10_count_116 fg_X10_220_0_5 3 0 rfl rfl rfl (pc' := 119) rfl ?_
                cases hM
                exact hret _ _ dX10_count_119 (ro_i _)
              · have hM := it_f c6_ hM
                refine st_sw_case hR dX10_count_1 7 (x0 := 7) (by decide) (by decide) rfl (tgt := 120) (by decide) (fun c7_ => ?_) (fun c7_ => ?_)
                · have hM := it_t c7_ hM
                  refine st_aload_n hR dX10_count_120 0 rfl rfl (pc' := 121) rfl ?_
                  refine st_get hR dX10_count_121 fg_X10_44_9_3 0 0 rfl rfl rfl (pc' := 124) rfl ?_
                  refine st_get hR dX10_count_124 fg_X10_264_0_4 3 0 rfl rfl rfl (pc' := 127) rfl ?_
                  cases hM
                  exact hret _ _ dX10_count_127 (ro_i _)
                · have hM := it_f c7_ hM
                  refine st_sw_case hR dX10_count_1 8 (x0 := 8) (by decide) (by decide) rfl (tgt := 128) (by decide) (fun c8_ => ?_) (fun c8_ => ?_)
                  · have hM := it_t c8_ hM
                    refine st_aload_n hR dX10_count_128 0 rfl rfl (pc' := 129) rfl ?_
                    refine st_get hR dX10_count_129 fg_X10_13_9_0 0 0 rfl rfl rfl (pc' := 132) rfl ?_
                    refine st_get hR dX10_count_132 fg_X10_81_7_1 4 0 rfl rfl rfl (pc' := 135) rfl ?_
                    cases hM
                    exact hret _ _ dX10_count_135 (ro_i _)
                  · have hM := it_f c8_ hM
                    have z0_ := sw_ne c0_ (k := 0) (by decide)
                    have z1_ := sw_ne c1_ (k := 1) (by decide)
                    have z2_ := sw_ne c2_ (k := 2) (by decide)
                    have z3_ := sw_ne c3_ (k := 3) (by decide)
                    have z4_ := sw_ne c4_ (k := 4) (by decide)
                    have z5_ := sw_ne c5_ (k := 5) (by decide)
                    have z6_ := sw_ne c6_ (k := 6) (by decide)
                    have z7_ := sw_ne c7_ (k := 7) (by decide)
                    have z8_ := sw_ne c8_ (k := 8) (by decide)
                    refine st_sw_def hR dX10_count_1 (tgt := 136) (by decide) (by omega) ?_
                    refine st_iconst hR dX10_count_136 (v := (-1)) (by decide) (pc' := 137) rfl ?_
                    cases hM
                    exact hret _ _ dX10_count_137 (ro_i _)
set_option maxHeartbeats 16000000 in
set_option maxRecDepth 100000 in
theorem k_X10_settle {l : Launch} {G : GG} {q_w q_v q_mt q_b q_k0 q_k1 q_k2 q_k3 q_ga q_jo : Nat → Nat} {v_night mt_farms mt_fences mt_shares mt_toothed b_bones b_feudsInAll b_bitten k0_laid k1_laid k2_laid k3_laid ga_mostFarms ga_foundMany ga_nights ga_farms ga_restingRow jo_mostFarms jo_foundMany jo_nights jo_farms : Int32} {v_g : Int64} {v_flock v_hunger v_lean v_fed v_taken v_pacts v_levels v_facts mt_flock mt_dogs mt_hunger mt_fenced mt_heights mt_pacts mt_partner mt_often b_kept b_feuds b_bites ga_losses ga_known ga_found ga_been jo_losses jo_known jo_found jo_groups jo_renumbered : Nat → Int32} {mt_names : Nat → Int64} {w_tape w_reader w_ahead w_scrap v_mountain mt_feeding mt_going k0_valley k0_book k1_valley k1_book k2_valley k2_book k3_valley k3_book ga_now ga_ahead ga_scrap jo_now jo_ahead jo_scrap : Nat}  {o_v_night : Int32} {o_v_g : Int64} {o_v_flock : Nat → Int32} {o_v_hunger : Nat → Int32} {o_v_lean : Nat → Int32} {o_v_fed : Nat → Int32} {o_v_taken : Nat → Int32} {o_v_pacts : Nat → Int32} {o_v_levels : Nat → Int32} {o_b_feuds : Nat → Int32} {o_b_bones : Int32} {o_b_feudsInAll : Int32} {o_b_bitten : Int32} {o_k0_laid : Int32} {o_k1_laid : Int32} {o_k2_laid : Int32} {o_k3_laid : Int32} {o_ga_nights : Int32} {o_jo_nights : Int32} (hM : f_X10_settle mt_flock mt_hunger mt_pacts v_night v_g v_flock v_hunger v_lean v_fed v_taken v_pacts v_levels b_feuds b_bones b_feudsInAll b_bitten k0_laid k1_laid k2_laid k3_laid ga_nights jo_nights = some (o_v_night, o_v_g, o_v_flock, o_v_hunger, o_v_lean, o_v_fed, o_v_taken, o_v_pacts, o_v_levels, o_b_feuds, o_b_bones, o_b_feudsInAll, o_b_bitten, o_k0_laid, o_k1_laid, o_k2_laid, o_k3_laid, o_ga_nights, o_jo_nights)) : MC l G yX10_settle cX10_settle 3 none (RM 2) [.ref (q_w 0)] [wX10 G q_w w_tape w_reader (q_v 0) (q_b 0) w_ahead w_scrap (q_ga 0) (q_jo 0) (mk4 (q_k0 0) (q_k1 0) (q_k2 0) (q_k3 0)) (q_mt 0), wX9 G q_v v_mountain v_night v_g v_flock v_hunger v_lean v_fed v_taken v_pacts v_levels v_facts, wX5 G q_mt mt_farms mt_fences mt_shares mt_names mt_flock mt_dogs mt_hunger mt_fenced mt_heights mt_pacts mt_partner mt_often mt_toothed mt_feeding mt_going, wX0 G q_b b_kept b_feuds b_bites b_bones b_feudsInAll b_bitten, wX4 G q_k0 k0_valley k0_book k0_laid, wX4 G q_k1 k1_valley k1_book k1_laid, wX4 G q_k2 k2_valley k2_book k2_laid, wX4 G q_k3 k3_valley k3_book k3_laid, wX1 G q_ga ga_now ga_ahead ga_scrap ga_mostFarms ga_losses ga_known ga_found ga_foundMany ga_nights ga_farms ga_been ga_restingRow, wX2 G q_jo jo_now jo_ahead jo_scrap jo_mostFarms jo_losses jo_known jo_found jo_foundMany jo_nights jo_farms jo_groups jo_renumbered] none [wX10 G q_w w_tape w_reader (q_v 0) (q_b 0) w_ahead w_scrap (q_ga 0) (q_jo 0) (mk4 (q_k0 0) (q_k1 0) (q_k2 0) (q_k3 0)) v_mountain, wX9 G q_v (q_mt 0) o_v_night o_v_g o_v_flock o_v_hunger o_v_lean o_v_fed o_v_taken o_v_pacts o_v_levels v_facts, wX5 G q_mt mt_farms mt_fences mt_shares mt_names mt_flock mt_dogs mt_hunger mt_fenced mt_heights mt_pacts mt_partner mt_often mt_toothed mt_feeding mt_going, wX0 G q_b b_kept o_b_feuds b_bites o_b_bones o_b_feudsInAll o_b_bitten, wX4 G q_k0 k0_valley k0_book o_k0_laid, wX4 G q_k1 k1_valley k1_book o_k1_laid, wX4 G q_k2 k2_valley k2_book o_k2_laid, wX4 G q_k3 k3_valley k3_book o_k3_laid, wX1 G q_ga ga_now ga_ahead ga_scrap ga_mostFarms ga_losses ga_known ga_found ga_foundMany o_ga_nights ga_farms ga_been ga_restingRow, wX2 G q_jo jo_now jo_ahead jo_scrap jo_mostFarms jo_losses jo_known jo_found jo_foundMany o_jo_nights jo_farms jo_groups jo_renumbered] := by
  refine MC.of pn_X10 (Nat.le_of_ble_eq_true rfl) (fun K hR hret => ?_)
  have hR : Rl l G RX10 cX10_settle 3 (RM 2) K := hR
  show K [wX10 G q_w w_tape w_reader (q_v 0) (q_b 0) w_ahead w_scrap (q_ga 0) (q_jo 0) (mk4 (q_k0 0) (q_k1 0) (q_k2 0) (q_k3 0)) (q_mt 0), wX9 G q_v v_mountain v_night v_g v_flock v_hunger v_lean v_fed v_taken v_pacts v_levels v_facts, wX5 G q_mt mt_farms mt_fences mt_shares mt_names mt_flock mt_dogs mt_hunger mt_fenced mt_heights mt_pacts mt_partner mt_often mt_toothed mt_feeding mt_going, wX0 G q_b b_kept b_feuds b_bites b_bones b_feudsInAll b_bitten, wX4 G q_k0 k0_valley k0_book k0_laid, wX4 G q_k1 k1_valley k1_book k1_laid, wX4 G q_k2 k2_valley k2_book k2_laid, wX4 G q_k3 k3_valley k3_book k3_laid, wX1 G q_ga ga_now ga_ahead ga_scrap ga_mostFarms ga_losses ga_known ga_found ga_foundMany ga_nights ga_farms ga_been ga_restingRow, wX2 G q_jo jo_now jo_ahead jo_scrap jo_mostFarms jo_losses jo_known jo_found jo_foundMany jo_nights jo_farms jo_groups jo_renumbered] [(0, .ref (q_w 0))] 0 []
  refine st_aload_n hR dX10_settle_0 0 rfl rfl (pc' := 1) rfl ?_
  refine st_get hR dX10_settle_1 fg_X10_37_9_2 0 0 rfl rfl rfl (pc' := 4) rfl ?_
  refine st_get hR dX10_settle_4 fg_X10_103_8_0 1 0 rfl rfl rfl (pc' := 7) rfl ?_
  refine st_astore_n hR dX10_settle_7 rfl (Nat.le_of_ble_eq_true rfl) [1, 0] (lv' := [(0, .ref (q_w 0)), (1, .ref v_mountain)]) rfl (pc' := 8) rfl ?_
  refine st_aload_n hR dX10_settle_8 0 rfl rfl (pc' := 9) rfl ?_
  refine st_get hR dX10_settle_9 fg_X10_37_9_2 0 0 rfl rfl rfl (pc' := 12) rfl ?_
  refine st_aload_n hR dX10_settle_12 0 rfl rfl (pc' := 13) rfl ?_
  refine st_get hR dX10_settle_13 fg_X10_19_9_9 0 0 rfl rfl rfl (pc' := 16) rfl ?_
  obtain ⟨⟨v_night_1, v_g_1, v_flock_1, v_hunger_1, v_lean_1, v_fed_1, v_taken_1, v_pacts_1, v_levels_1⟩, hc_, hM⟩ := bd_e hM
  refine st_callV hR (k_X9_begin hc_) cf_X10_267 (rm_le (Nat.le_of_ble_eq_true rfl) (Nat.le_of_ble_eq_true rfl)) [1, 2] rfl rfl rfl 1 0 8 11 rfl rfl rfl rfl (rest := []) rfl (Nat.le_of_ble_eq_true rfl) dX10_settle_16 (pc' := 19) rfl (Wn := [wX10 G q_w w_tape w_reader (q_v 0) (q_b 0) w_ahead w_scrap (q_ga 0) (q_jo 0) (mk4 (q_k0 0) (q_k1 0) (q_k2 0) (q_k3 0)) (q_mt 0), wX9 G q_v (q_mt 0) v_night_1 v_g_1 v_flock_1 v_hunger_1 v_lean_1 v_fed_1 v_taken_1 v_pacts_1 v_levels_1 v_facts, wX5 G q_mt mt_farms mt_fences mt_shares mt_names mt_flock mt_dogs mt_hunger mt_fenced mt_heights mt_pacts mt_partner mt_often mt_toothed mt_feeding mt_going, wX0 G q_b b_kept b_feuds b_bites b_bones b_feudsInAll b_bitten, wX4 G q_k0 k0_valley k0_book k0_laid, wX4 G q_k1 k1_valley k1_book k1_laid, wX4 G q_k2 k2_valley k2_book k2_laid, wX4 G q_k3 k3_valley k3_book k3_laid, wX1 G q_ga ga_now ga_ahead ga_scrap ga_mostFarms ga_losses ga_known ga_found ga_foundMany ga_nights ga_farms ga_been ga_restingRow, wX2 G q_jo jo_now jo_ahead jo_scrap jo_mostFarms jo_losses jo_known jo_found jo_foundMany jo_nights jo_farms jo_groups jo_renumbered]) rfl ?_
  refine st_aload_n hR dX10_settle_19 0 rfl rfl (pc' := 20) rfl ?_
  refine st_aload_n hR dX10_settle_20 1 rfl rfl (pc' := 21) rfl ?_
  refine st_put hR dX10_settle_21 fp_X10_19_9_9 0 0 rfl rfl (Nat.le_of_ble_eq_true rfl) rfl rfl (pc' := 24) rfl (W' := [wX10 G q_w w_tape w_reader (q_v 0) (q_b 0) w_ahead w_scrap (q_ga 0) (q_jo 0) (mk4 (q_k0 0) (q_k1 0) (q_k2 0) (q_k3 0)) v_mountain, wX9 G q_v (q_mt 0) v_night_1 v_g_1 v_flock_1 v_hunger_1 v_lean_1 v_fed_1 v_taken_1 v_pacts_1 v_levels_1 v_facts, wX5 G q_mt mt_farms mt_fences mt_shares mt_names mt_flock mt_dogs mt_hunger mt_fenced mt_heights mt_pacts mt_partner mt_often mt_toothed mt_feeding mt_going, wX0 G q_b b_kept b_feuds b_bites b_bones b_feudsInAll b_bitten, wX4 G q_k0 k0_valley k0_book k0_laid, wX4 G q_k1 k1_valley k1_book k1_laid, wX4 G q_k2 k2_valley k2_book k2_laid, wX4 G q_k3 k3_valley k3_book k3_laid, wX1 G q_ga ga_now ga_ahead ga_scrap ga_mostFarms ga_losses ga_known ga_found ga_foundMany ga_nights ga_farms ga_been ga_restingRow, wX2 G q_jo jo_now jo_ahead jo_scrap jo_mostFarms jo_losses jo_known jo_found jo_foundMany jo_nights jo_farms jo_groups jo_renumbered]) rfl ?_
  refine st_aload_n hR dX10_settle_24 0 rfl rfl (pc' := 25) rfl ?_
  refine st_get hR dX10_settle_25 fg_X10_44_9_3 0 0 rfl rfl rfl (pc' := 28) rfl ?_
  obtain ⟨⟨b_feuds_1, b_bones_1, b_feudsInAll_1, b_bitten_1⟩, hc_, hM⟩ := bd_e hM
  refine st_callV hR (k_X0_clear hc_) cf_X10_270 (rm_le (Nat.le_of_ble_eq_true rfl) (Nat.le_of_ble_eq_true rfl)) [3] rfl rfl rfl 3 0 0 6 rfl rfl rfl rfl (rest := []) rfl (Nat.le_of_ble_eq_true rfl) dX10_settle_28 (pc' := 31) rfl (Wn := [wX10 G q_w w_tape w_reader (q_v 0) (q_b 0) w_ahead w_scrap (q_ga 0) (q_jo 0) (mk4 (q_k0 0) (q_k1 0) (q_k2 0) (q_k3 0)) v_mountain, wX9 G q_v (q_mt 0) v_night_1 v_g_1 v_flock_1 v_hunger_1 v_lean_1 v_fed_1 v_taken_1 v_pacts_1 v_levels_1 v_facts, wX5 G q_mt mt_farms mt_fences mt_shares mt_names mt_flock mt_dogs mt_hunger mt_fenced mt_heights mt_pacts mt_partner mt_often mt_toothed mt_feeding mt_going, wX0 G q_b b_kept b_feuds_1 b_bites b_bones_1 b_feudsInAll_1 b_bitten_1, wX4 G q_k0 k0_valley k0_book k0_laid, wX4 G q_k1 k1_valley k1_book k1_laid, wX4 G q_k2 k2_valley k2_book k2_laid, wX4 G q_k3 k3_valley k3_book k3_laid, wX1 G q_ga ga_now ga_ahead ga_scrap ga_mostFarms ga_losses ga_known ga_found ga_foundMany ga_nights ga_farms ga_been ga_restingRow, wX2 G q_jo jo_now jo_ahead jo_scrap jo_mostFarms jo_losses jo_known jo_found jo_foundMany jo_nights jo_farms jo_groups jo_renumbered]) rfl ?_
  refine st_iconst hR dX10_settle_31 (v := 0) rfl (pc' := 32) rfl ?_
  refine st_istore_n hR dX10_settle_32 rfl (Nat.le_of_ble_eq_true rfl) [1, 2, 0] (lv' := [(0, .ref (q_w 0)), (1, .ref v_mountain), (2, .int 0)]) rfl (pc' := 33) rfl ?_
  refine st_iload_n hR dX10_settle_33 2 rfl rfl (pc' := 34) rfl ?_
  refine st_iconst hR dX10_settle_34 (v := 4) rfl (pc' := 35) rfl ?_
  refine st_icmp_ge hR dX10_settle_35 (tgt := 54) (by decide) (pc' := 38) rfl (fun c_ => absurd c_ (by decide)) (fun _ => ?_)
  refine st_aload_n hR dX10_settle_38 0 rfl rfl (pc' := 39) rfl ?_
  refine st_get hR dX10_settle_39 fg_X10_72_9_8 0 0 rfl rfl rfl (pc' := 42) rfl ?_
  refine st_iload_n hR dX10_settle_42 2 rfl rfl (pc' := 43) rfl ?_
  refine st_aldq hR dX10_settle_43 0 1 rfl rfl (vp_lit 0 rfl rfl rfl) (v := q_k0 0) (mk4_0 (cl_lit 0 rfl rfl)) (pc' := 44) rfl ?_
  refine st_iconst hR dX10_settle_44 (v := 0) rfl (pc' := 45) rfl ?_
  refine st_put hR dX10_settle_45 fp_X10_240_4_2 4 0 rfl rfl (Nat.le_of_ble_eq_true rfl) (by decide) (by decide) (pc' := 48) rfl (W' := [wX10 G q_w w_tape w_reader (q_v 0) (q_b 0) w_ahead w_scrap (q_ga 0) (q_jo 0) (mk4 (q_k0 0) (q_k1 0) (q_k2 0) (q_k3 0)) v_mountain, wX9 G q_v (q_mt 0) v_night_1 v_g_1 v_flock_1 v_hunger_1 v_lean_1 v_fed_1 v_taken_1 v_pacts_1 v_levels_1 v_facts, wX5 G q_mt mt_farms mt_fences mt_shares mt_names mt_flock mt_dogs mt_hunger mt_fenced mt_heights mt_pacts mt_partner mt_often mt_toothed mt_feeding mt_going, wX0 G q_b b_kept b_feuds_1 b_bites b_bones_1 b_feudsInAll_1 b_bitten_1, wX4 G q_k0 k0_valley k0_book 0, wX4 G q_k1 k1_valley k1_book k1_laid, wX4 G q_k2 k2_valley k2_book k2_laid, wX4 G q_k3 k3_valley k3_book k3_laid, wX1 G q_ga ga_now ga_ahead ga_scrap ga_mostFarms ga_losses ga_known ga_found ga_foundMany ga_nights ga_farms ga_been ga_restingRow, wX2 G q_jo jo_now jo_ahead jo_scrap jo_mostFarms jo_losses jo_known jo_found jo_foundMany jo_nights jo_farms jo_groups jo_renumbered]) rfl ?_
  refine st_iinc hR dX10_settle_48 (Nat.le_of_ble_eq_true rfl) 2 [1, 2, 0] (v := 1) rfl (by decide) (lv' := [(0, .ref (q_w 0)), (1, .ref v_mountain), (2, .int 1)]) rfl (pc' := 51) rfl ?_
  refine st_goto hR dX10_settle_51 (tgt := 33) (by decide) ?_
  refine st_iload_n hR dX10_settle_33 2 rfl rfl (pc' := 34) rfl ?_
  refine st_iconst hR dX10_settle_34 (v := 4) rfl (pc' := 35) rfl ?_
  refine st_icmp_ge hR dX10_settle_35 (tgt := 54) (by decide) (pc' := 38) rfl (fun c_ => absurd c_ (by decide)) (fun _ => ?_)
  refine st_aload_n hR dX10_settle_38 0 rfl rfl (pc' := 39) rfl ?_
  refine st_get hR dX10_settle_39 fg_X10_72_9_8 0 0 rfl rfl rfl (pc' := 42) rfl ?_
  refine st_iload_n hR dX10_settle_42 2 rfl rfl (pc' := 43) rfl ?_
  refine st_aldq hR dX10_settle_43 0 1 rfl rfl (vp_lit 1 rfl rfl rfl) (v := q_k1 0) (mk4_1 (cl_lit 1 rfl rfl)) (pc' := 44) rfl ?_
  refine st_iconst hR dX10_settle_44 (v := 0) rfl (pc' := 45) rfl ?_
  refine st_put hR dX10_settle_45 fp_X10_240_4_2 5 0 rfl rfl (Nat.le_of_ble_eq_true rfl) (by decide) (by decide) (pc' := 48) rfl (W' := [wX10 G q_w w_tape w_reader (q_v 0) (q_b 0) w_ahead w_scrap (q_ga 0) (q_jo 0) (mk4 (q_k0 0) (q_k1 0) (q_k2 0) (q_k3 0)) v_mountain, wX9 G q_v (q_mt 0) v_night_1 v_g_1 v_flock_1 v_hunger_1 v_lean_1 v_fed_1 v_taken_1 v_pacts_1 v_levels_1 v_facts, wX5 G q_mt mt_farms mt_fences mt_shares mt_names mt_flock mt_dogs mt_hunger mt_fenced mt_heights mt_pacts mt_partner mt_often mt_toothed mt_feeding mt_going, wX0 G q_b b_kept b_feuds_1 b_bites b_bones_1 b_feudsInAll_1 b_bitten_1, wX4 G q_k0 k0_valley k0_book 0, wX4 G q_k1 k1_valley k1_book 0, wX4 G q_k2 k2_valley k2_book k2_laid, wX4 G q_k3 k3_valley k3_book k3_laid, wX1 G q_ga ga_now ga_ahead ga_scrap ga_mostFarms ga_losses ga_known ga_found ga_foundMany ga_nights ga_farms ga_been ga_restingRow, wX2 G q_jo jo_now jo_ahead jo_scrap jo_mostFarms jo_losses jo_known jo_found jo_foundMany jo_nights jo_farms jo_groups jo_renumbered]) rfl ?_
  refine st_iinc hR dX10_settle_48 (Nat.le_of_ble_eq_true rfl) 2 [1, 2, 0] (v := 2) rfl (by decide) (lv' := [(0, .ref (q_w 0)), (1, .ref v_mountain), (2, .int 2)]) rfl (pc' := 51) rfl ?_
  refine st_goto hR dX10_settle_51 (tgt := 33) (by decide) ?_
  refine st_iload_n hR dX10_settle_33 2 rfl rfl (pc' := 34) rfl ?_
  refine st_iconst hR dX10_settle_34 (v := 4) rfl (pc' := 35) rfl ?_
  refine st_icmp_ge hR dX10_settle_35 (tgt := 54) (by decide) (pc' := 38) rfl (fun c_ => absurd c_ (by decide)) (fun _ => ?_)
  refine st_aload_n hR dX10_settle_38 0 rfl rfl (pc' := 39) rfl ?_
  refine st_get hR dX10_settle_39 fg_X10_72_9_8 0 0 rfl rfl rfl (pc' := 42) rfl ?_
  refine st_iload_n hR dX10_settle_42 2 rfl rfl (pc' := 43) rfl ?_
  refine st_aldq hR dX10_settle_43 0 1 rfl rfl (vp_lit 2 rfl rfl rfl) (v := q_k2 0) (mk4_2 (cl_lit 2 rfl rfl)) (pc' := 44) rfl ?_
  refine st_iconst hR dX10_settle_44 (v := 0) rfl (pc' := 45) rfl ?_
  refine st_put hR dX10_settle_45 fp_X10_240_4_2 6 0 rfl rfl (Nat.le_of_ble_eq_true rfl) (by decide) (by decide) (pc' := 48) rfl (W' := [wX10 G q_w w_tape w_reader (q_v 0) (q_b 0) w_ahead w_scrap (q_ga 0) (q_jo 0) (mk4 (q_k0 0) (q_k1 0) (q_k2 0) (q_k3 0)) v_mountain, wX9 G q_v (q_mt 0) v_night_1 v_g_1 v_flock_1 v_hunger_1 v_lean_1 v_fed_1 v_taken_1 v_pacts_1 v_levels_1 v_facts, wX5 G q_mt mt_farms mt_fences mt_shares mt_names mt_flock mt_dogs mt_hunger mt_fenced mt_heights mt_pacts mt_partner mt_often mt_toothed mt_feeding mt_going, wX0 G q_b b_kept b_feuds_1 b_bites b_bones_1 b_feudsInAll_1 b_bitten_1, wX4 G q_k0 k0_valley k0_book 0, wX4 G q_k1 k1_valley k1_book 0, wX4 G q_k2 k2_valley k2_book 0, wX4 G q_k3 k3_valley k3_book k3_laid, wX1 G q_ga ga_now ga_ahead ga_scrap ga_mostFarms ga_losses ga_known ga_found ga_foundMany ga_nights ga_farms ga_been ga_restingRow, wX2 G q_jo jo_now jo_ahead jo_scrap jo_mostFarms jo_losses jo_known jo_found jo_foundMany jo_nights jo_farms jo_groups jo_renumbered]) rfl ?_
  refine st_iinc hR dX10_settle_48 (Nat.le_of_ble_eq_true rfl) 2 [1, 2, 0] (v := 3) rfl (by decide) (lv' := [(0, .ref (q_w 0)), (1, .ref v_mountain), (2, .int 3)]) rfl (pc' := 51) rfl ?_
  refine st_goto hR dX10_settle_51 (tgt := 33) (by decide) ?_
  refine st_iload_n hR dX10_settle_33 2 rfl rfl (pc' := 34) rfl ?_
  refine st_iconst hR dX10_settle_34 (v := 4) rfl (pc' := 35) rfl ?_
  refine st_icmp_ge hR dX10_settle_35 (tgt := 54) (by decide) (pc' := 38) rfl (fun c_ => absurd c_ (by decide)) (fun _ => ?_)
  refine st_aload_n hR dX10_settle_38 0 rfl rfl (pc' := 39) rfl ?_
  refine st_get hR dX10_settle_39 fg_X10_72_9_8 0 0 rfl rfl rfl (pc' := 42) rfl ?_
  refine st_iload_n hR dX10_settle_42 2 rfl rfl (pc' := 43) rfl ?_
  refine st_aldq hR dX10_settle_43 0 1 rfl rfl (vp_lit 3 rfl rfl rfl) (v := q_k3 0) (mk4_3 (cl_lit 3 rfl rfl)) (pc' := 44) rfl ?_
  refine st_iconst hR dX10_settle_44 (v := 0) rfl (pc' := 45) rfl ?_
  refine st_put hR dX10_settle_45 fp_X10_240_4_2 7 0 rfl rfl (Nat.le_of_ble_eq_true rfl) (by decide) (by decide) (pc' := 48) rfl (W' := [wX10 G q_w w_tape w_reader (q_v 0) (q_b 0) w_ahead w_scrap (q_ga 0) (q_jo 0) (mk4 (q_k0 0) (q_k1 0) (q_k2 0) (q_k3 0)) v_mountain, wX9 G q_v (q_mt 0) v_night_1 v_g_1 v_flock_1 v_hunger_1 v_lean_1 v_fed_1 v_taken_1 v_pacts_1 v_levels_1 v_facts, wX5 G q_mt mt_farms mt_fences mt_shares mt_names mt_flock mt_dogs mt_hunger mt_fenced mt_heights mt_pacts mt_partner mt_often mt_toothed mt_feeding mt_going, wX0 G q_b b_kept b_feuds_1 b_bites b_bones_1 b_feudsInAll_1 b_bitten_1, wX4 G q_k0 k0_valley k0_book 0, wX4 G q_k1 k1_valley k1_book 0, wX4 G q_k2 k2_valley k2_book 0, wX4 G q_k3 k3_valley k3_book 0, wX1 G q_ga ga_now ga_ahead ga_scrap ga_mostFarms ga_losses ga_known ga_found ga_foundMany ga_nights ga_farms ga_been ga_restingRow, wX2 G q_jo jo_now jo_ahead jo_scrap jo_mostFarms jo_losses jo_known jo_found jo_foundMany jo_nights jo_farms jo_groups jo_renumbered]) rfl ?_
  refine st_iinc hR dX10_settle_48 (Nat.le_of_ble_eq_true rfl) 2 [1, 2, 0] (v := 4) rfl (by decide) (lv' := [(0, .ref (q_w 0)), (1, .ref v_mountain), (2, .int 4)]) rfl (pc' := 51) rfl ?_
  refine st_goto hR dX10_settle_51 (tgt := 33) (by decide) ?_
  refine st_iload_n hR dX10_settle_33 2 rfl rfl (pc' := 34) rfl ?_
  refine st_iconst hR dX10_settle_34 (v := 4) rfl (pc' := 35) rfl ?_
  refine st_icmp_ge hR dX10_settle_35 (tgt := 54) (by decide) (pc' := 38) rfl (fun _ => ?_) (fun c_ => absurd c_ (by decide))
  refine st_aload_n hR dX10_settle_54 0 rfl rfl (pc' := 55) rfl ?_
  obtain ⟨⟨ga_nights_1, jo_nights_1⟩, hc_, hM⟩ := bd_e hM
  refine st_callV hR (k_X10_forgetAhead hc_) cf_X10_133 (rm_le (Nat.le_of_ble_eq_true rfl) (Nat.le_of_ble_eq_true rfl)) [0, 8, 9] rfl rfl rfl 0 0 9 10 rfl rfl rfl rfl (rest := []) rfl (Nat.le_of_ble_eq_true rfl) dX10_settle_55 (pc' := 58) rfl (Wn := [wX10 G q_w w_tape w_reader (q_v 0) (q_b 0) w_ahead w_scrap (q_ga 0) (q_jo 0) (mk4 (q_k0 0) (q_k1 0) (q_k2 0) (q_k3 0)) v_mountain, wX9 G q_v (q_mt 0) v_night_1 v_g_1 v_flock_1 v_hunger_1 v_lean_1 v_fed_1 v_taken_1 v_pacts_1 v_levels_1 v_facts, wX5 G q_mt mt_farms mt_fences mt_shares mt_names mt_flock mt_dogs mt_hunger mt_fenced mt_heights mt_pacts mt_partner mt_often mt_toothed mt_feeding mt_going, wX0 G q_b b_kept b_feuds_1 b_bites b_bones_1 b_feudsInAll_1 b_bitten_1, wX4 G q_k0 k0_valley k0_book 0, wX4 G q_k1 k1_valley k1_book 0, wX4 G q_k2 k2_valley k2_book 0, wX4 G q_k3 k3_valley k3_book 0, wX1 G q_ga ga_now ga_ahead ga_scrap ga_mostFarms ga_losses ga_known ga_found ga_foundMany ga_nights_1 ga_farms ga_been ga_restingRow, wX2 G q_jo jo_now jo_ahead jo_scrap jo_mostFarms jo_losses jo_known jo_found jo_foundMany jo_nights_1 jo_farms jo_groups jo_renumbered]) rfl ?_
  cases hM
  exact hret _ _ dX10_settle_58 ro_v
set_option maxHeartbeats 16000000 in
set_option maxRecDepth 100000 in
theorem k_X10_mountain {l : Launch} {G : GG} {q_w q_r q_t q_mt q_fe q_go q_v q_b q_k0 q_k1 q_k2 q_k3 q_ga q_jo : Nat → Nat} {r_fault t_length t_at t_place t_number t_sign t_end mt_farms mt_fences mt_shares mt_toothed fe_steps go_steps v_night b_bones b_feudsInAll b_bitten k0_laid k1_laid k2_laid k3_laid ga_mostFarms ga_foundMany ga_nights ga_farms ga_restingRow jo_mostFarms jo_foundMany jo_nights jo_farms : Int32} {t_word v_g : Int64} {t_signs mt_flock mt_dogs mt_hunger mt_fenced mt_heights mt_pacts mt_partner mt_often fe_kinds fe_lefts fe_rights fe_values go_kinds go_lefts go_rights go_values v_flock v_hunger v_lean v_fed v_taken v_pacts v_levels v_facts b_kept b_feuds b_bites ga_losses ga_known ga_found ga_been jo_losses jo_known jo_found jo_groups jo_renumbered : Nat → Int32} {mt_names : Nat → Int64} {w_ahead w_scrap r_told r_law v_mountain k0_valley k0_book k1_valley k1_book k2_valley k2_book k3_valley k3_book ga_now ga_ahead ga_scrap jo_now jo_ahead jo_scrap : Nat}  {o_r : Int32} {o_w_draft : Nat} {o_r_law : Nat} {o_r_fault : Int32} {o_t_length : Int32} {o_t_at : Int32} {o_t_place : Int32} {o_t_word : Int64} {o_t_number : Int32} {o_t_sign : Int32} {o_t_end : Int32} {o_mt_farms : Int32} {o_mt_fences : Int32} {o_mt_shares : Int32} {o_mt_names : Nat → Int64} {o_mt_flock : Nat → Int32} {o_mt_dogs : Nat → Int32} {o_mt_hunger : Nat → Int32} {o_mt_fenced : Nat → Int32} {o_mt_heights : Nat → Int32} {o_mt_pacts : Nat → Int32} {o_mt_partner : Nat → Int32} {o_mt_often : Nat → Int32} {o_mt_toothed : Int32} {o_fe_kinds : Nat → Int32} {o_fe_lefts : Nat → Int32} {o_fe_rights : Nat → Int32} {o_fe_steps : Int32} {o_go_kinds : Nat → Int32} {o_go_lefts : Nat → Int32} {o_go_rights : Nat → Int32} {o_go_steps : Int32} {o_v_mountain : Nat} {o_v_night : Int32} {o_v_g : Int64} {o_v_flock : Nat → Int32} {o_v_hunger : Nat → Int32} {o_v_lean : Nat → Int32} {o_v_fed : Nat → Int32} {o_v_taken : Nat → Int32} {o_v_pacts : Nat → Int32} {o_v_levels : Nat → Int32} {o_b_feuds : Nat → Int32} {o_b_bones : Int32} {o_b_feudsInAll : Int32} {o_b_bitten : Int32} {o_k0_laid : Int32} {o_k1_laid : Int32} {o_k2_laid : Int32} {o_k3_laid : Int32} {o_ga_nights : Int32} {o_jo_nights : Int32} (hM : f_X10_mountain t_signs (q_mt 0) r_law r_fault t_length t_at t_place t_word t_number t_sign t_end mt_farms mt_fences mt_shares mt_names mt_flock mt_dogs mt_hunger mt_fenced mt_heights mt_pacts mt_partner mt_often mt_toothed fe_kinds fe_lefts fe_rights fe_steps go_kinds go_lefts go_rights go_steps v_mountain v_night v_g v_flock v_hunger v_lean v_fed v_taken v_pacts v_levels b_feuds b_bones b_feudsInAll b_bitten k0_laid k1_laid k2_laid k3_laid ga_nights jo_nights (q_mt 0) (q_fe 0) (q_go 0) = some (o_r, o_w_draft, o_r_law, o_r_fault, o_t_length, o_t_at, o_t_place, o_t_word, o_t_number, o_t_sign, o_t_end, o_mt_farms, o_mt_fences, o_mt_shares, o_mt_names, o_mt_flock, o_mt_dogs, o_mt_hunger, o_mt_fenced, o_mt_heights, o_mt_pacts, o_mt_partner, o_mt_often, o_mt_toothed, o_fe_kinds, o_fe_lefts, o_fe_rights, o_fe_steps, o_go_kinds, o_go_lefts, o_go_rights, o_go_steps, o_v_mountain, o_v_night, o_v_g, o_v_flock, o_v_hunger, o_v_lean, o_v_fed, o_v_taken, o_v_pacts, o_v_levels, o_b_feuds, o_b_bones, o_b_feudsInAll, o_b_bitten, o_k0_laid, o_k1_laid, o_k2_laid, o_k3_laid, o_ga_nights, o_jo_nights)) : MC l G yX10_mountain cX10_mountain 2 (some .int) (RM 78) [.ref (q_w 0)] [wX10 G q_w (q_t 0) (q_r 0) (q_v 0) (q_b 0) w_ahead w_scrap (q_ga 0) (q_jo 0) (mk4 (q_k0 0) (q_k1 0) (q_k2 0) (q_k3 0)) (q_mt 0), wX7 G q_r (q_t 0) r_told r_law r_fault, wX8 G q_t t_signs t_length t_at t_place t_word t_number t_sign t_end, wX5 G q_mt mt_farms mt_fences mt_shares mt_names mt_flock mt_dogs mt_hunger mt_fenced mt_heights mt_pacts mt_partner mt_often mt_toothed (q_fe 0) (q_go 0), wX3 G q_fe fe_kinds fe_lefts fe_rights fe_values fe_steps, wX3 G q_go go_kinds go_lefts go_rights go_values go_steps, wX9 G q_v v_mountain v_night v_g v_flock v_hunger v_lean v_fed v_taken v_pacts v_levels v_facts, wX0 G q_b b_kept b_feuds b_bites b_bones b_feudsInAll b_bitten, wX4 G q_k0 k0_valley k0_book k0_laid, wX4 G q_k1 k1_valley k1_book k1_laid, wX4 G q_k2 k2_valley k2_book k2_laid, wX4 G q_k3 k3_valley k3_book k3_laid, wX1 G q_ga ga_now ga_ahead ga_scrap ga_mostFarms ga_losses ga_known ga_found ga_foundMany ga_nights ga_farms ga_been ga_restingRow, wX2 G q_jo jo_now jo_ahead jo_scrap jo_mostFarms jo_losses jo_known jo_found jo_foundMany jo_nights jo_farms jo_groups jo_renumbered] (some (.int o_r)) [wX10 G q_w (q_t 0) (q_r 0) (q_v 0) (q_b 0) w_ahead w_scrap (q_ga 0) (q_jo 0) (mk4 (q_k0 0) (q_k1 0) (q_k2 0) (q_k3 0)) o_w_draft, wX7 G q_r (q_t 0) (q_mt 0) o_r_law o_r_fault, wX8 G q_t t_signs o_t_length o_t_at o_t_place o_t_word o_t_number o_t_sign o_t_end, wX5 G q_mt o_mt_farms o_mt_fences o_mt_shares o_mt_names o_mt_flock o_mt_dogs o_mt_hunger o_mt_fenced o_mt_heights o_mt_pacts o_mt_partner o_mt_often o_mt_toothed (q_fe 0) (q_go 0), wX3 G q_fe o_fe_kinds o_fe_lefts o_fe_rights fe_values o_fe_steps, wX3 G q_go o_go_kinds o_go_lefts o_go_rights go_values o_go_steps, wX9 G q_v o_v_mountain o_v_night o_v_g o_v_flock o_v_hunger o_v_lean o_v_fed o_v_taken o_v_pacts o_v_levels v_facts, wX0 G q_b b_kept o_b_feuds b_bites o_b_bones o_b_feudsInAll o_b_bitten, wX4 G q_k0 k0_valley k0_book o_k0_laid, wX4 G q_k1 k1_valley k1_book o_k1_laid, wX4 G q_k2 k2_valley k2_book o_k2_laid, wX4 G q_k3 k3_valley k3_book o_k3_laid, wX1 G q_ga ga_now ga_ahead ga_scrap ga_mostFarms ga_losses ga_known ga_found ga_foundMany o_ga_nights ga_farms ga_been ga_restingRow, wX2 G q_jo jo_now jo_ahead jo_scrap jo_mostFarms jo_losses jo_known jo_found jo_foundMany o_jo_nights jo_farms jo_groups jo_renumbered] := by
  refine MC.of pn_X10 (Nat.le_of_ble_eq_true rfl) (fun K hR hret => ?_)
  have hR : Rl l G RX10 cX10_mountain 2 (RM 78) K := hR
  show K [wX10 G q_w (q_t 0) (q_r 0) (q_v 0) (q_b 0) w_ahead w_scrap (q_ga 0) (q_jo 0) (mk4 (q_k0 0) (q_k1 0) (q_k2 0) (q_k3 0)) (q_mt 0), wX7 G q_r (q_t 0) r_told r_law r_fault, wX8 G q_t t_signs t_length t_at t_place t_word t_number t_sign t_end, wX5 G q_mt mt_farms mt_fences mt_shares mt_names mt_flock mt_dogs mt_hunger mt_fenced mt_heights mt_pacts mt_partner mt_often mt_toothed (q_fe 0) (q_go 0), wX3 G q_fe fe_kinds fe_lefts fe_rights fe_values fe_steps, wX3 G q_go go_kinds go_lefts go_rights go_values go_steps, wX9 G q_v v_mountain v_night v_g v_flock v_hunger v_lean v_fed v_taken v_pacts v_levels v_facts, wX0 G q_b b_kept b_feuds b_bites b_bones b_feudsInAll b_bitten, wX4 G q_k0 k0_valley k0_book k0_laid, wX4 G q_k1 k1_valley k1_book k1_laid, wX4 G q_k2 k2_valley k2_book k2_laid, wX4 G q_k3 k3_valley k3_book k3_laid, wX1 G q_ga ga_now ga_ahead ga_scrap ga_mostFarms ga_losses ga_known ga_found ga_foundMany ga_nights ga_farms ga_been ga_restingRow, wX2 G q_jo jo_now jo_ahead jo_scrap jo_mostFarms jo_losses jo_known jo_found jo_foundMany jo_nights jo_farms jo_groups jo_renumbered] [(0, .ref (q_w 0))] 0 []
  refine st_aload_n hR dX10_mountain_0 0 rfl rfl (pc' := 1) rfl ?_
  refine st_get hR dX10_mountain_1 fg_X10_28_9_1 0 0 rfl rfl rfl (pc' := 4) rfl ?_
  refine st_aload_n hR dX10_mountain_4 0 rfl rfl (pc' := 5) rfl ?_
  refine st_get hR dX10_mountain_5 fg_X10_19_9_9 0 0 rfl rfl rfl (pc' := 8) rfl ?_
  obtain ⟨⟨r_1, r_law_1, r_fault_1, t_at_1, t_place_1, t_word_1, t_number_1, t_sign_1, t_end_1, mt_farms_1, mt_fences_1, mt_shares_1, mt_names_1, mt_flock_1, mt_dogs_1, mt_hunger_1, mt_fenced_1, mt_heights_1, mt_pacts_1, mt_partner_1, mt_often_1, mt_toothed_1, fe_kinds_1, fe_lefts_1, fe_rights_1, fe_steps_1, go_kinds_1, go_lefts_1, go_rights_1, go_steps_1⟩, hc_, hM⟩ := bd_e hM
  refine st_callV hR (k_X7_read hc_) cf_X10_85 (rm_le (Nat.le_of_ble_eq_true rfl) (Nat.le_of_ble_eq_true rfl)) [1, 2, 3, 4, 5] rfl rfl rfl 1 0 6 4 rfl rfl rfl rfl (rest := []) rfl (Nat.le_of_ble_eq_true rfl) dX10_mountain_8 (pc' := 11) rfl (Wn := [wX10 G q_w (q_t 0) (q_r 0) (q_v 0) (q_b 0) w_ahead w_scrap (q_ga 0) (q_jo 0) (mk4 (q_k0 0) (q_k1 0) (q_k2 0) (q_k3 0)) (q_mt 0), wX7 G q_r (q_t 0) (q_mt 0) r_law_1 r_fault_1, wX8 G q_t t_signs t_length t_at_1 t_place_1 t_word_1 t_number_1 t_sign_1 t_end_1, wX5 G q_mt mt_farms_1 mt_fences_1 mt_shares_1 mt_names_1 mt_flock_1 mt_dogs_1 mt_hunger_1 mt_fenced_1 mt_heights_1 mt_pacts_1 mt_partner_1 mt_often_1 mt_toothed_1 (q_fe 0) (q_go 0), wX3 G q_fe fe_kinds_1 fe_lefts_1 fe_rights_1 fe_values fe_steps_1, wX3 G q_go go_kinds_1 go_lefts_1 go_rights_1 go_values go_steps_1, wX9 G q_v v_mountain v_night v_g v_flock v_hunger v_lean v_fed v_taken v_pacts v_levels v_facts, wX0 G q_b b_kept b_feuds b_bites b_bones b_feudsInAll b_bitten, wX4 G q_k0 k0_valley k0_book k0_laid, wX4 G q_k1 k1_valley k1_book k1_laid, wX4 G q_k2 k2_valley k2_book k2_laid, wX4 G q_k3 k3_valley k3_book k3_laid, wX1 G q_ga ga_now ga_ahead ga_scrap ga_mostFarms ga_losses ga_known ga_found ga_foundMany ga_nights ga_farms ga_been ga_restingRow, wX2 G q_jo jo_now jo_ahead jo_scrap jo_mostFarms jo_losses jo_known jo_found jo_foundMany jo_nights jo_farms jo_groups jo_renumbered]) rfl ?_
  refine st_istore_n hR dX10_mountain_11 rfl (Nat.le_of_ble_eq_true rfl) [1, 0] (lv' := [(0, .ref (q_w 0)), (1, .int r_1)]) rfl (pc' := 12) rfl ?_
  refine st_aload_n hR dX10_mountain_12 0 rfl rfl (pc' := 13) rfl ?_
  refine st_get hR dX10_mountain_13 fg_X10_13_9_0 0 0 rfl rfl rfl (pc' := 16) rfl ?_
  obtain ⟨t_length_1, hc_, hM⟩ := bd_e hM
  refine st_callV hR (k_X8_clear hc_) cf_X10_89 (rm_le (Nat.le_of_ble_eq_true rfl) (Nat.le_of_ble_eq_true rfl)) [2] rfl rfl rfl 2 0 7 8 rfl rfl rfl rfl (rest := []) rfl (Nat.le_of_ble_eq_true rfl) dX10_mountain_16 (pc' := 19) rfl (Wn := [wX10 G q_w (q_t 0) (q_r 0) (q_v 0) (q_b 0) w_ahead w_scrap (q_ga 0) (q_jo 0) (mk4 (q_k0 0) (q_k1 0) (q_k2 0) (q_k3 0)) (q_mt 0), wX7 G q_r (q_t 0) (q_mt 0) r_law_1 r_fault_1, wX8 G q_t t_signs t_length_1 t_at_1 t_place_1 t_word_1 t_number_1 t_sign_1 t_end_1, wX5 G q_mt mt_farms_1 mt_fences_1 mt_shares_1 mt_names_1 mt_flock_1 mt_dogs_1 mt_hunger_1 mt_fenced_1 mt_heights_1 mt_pacts_1 mt_partner_1 mt_often_1 mt_toothed_1 (q_fe 0) (q_go 0), wX3 G q_fe fe_kinds_1 fe_lefts_1 fe_rights_1 fe_values fe_steps_1, wX3 G q_go go_kinds_1 go_lefts_1 go_rights_1 go_values go_steps_1, wX9 G q_v v_mountain v_night v_g v_flock v_hunger v_lean v_fed v_taken v_pacts v_levels v_facts, wX0 G q_b b_kept b_feuds b_bites b_bones b_feudsInAll b_bitten, wX4 G q_k0 k0_valley k0_book k0_laid, wX4 G q_k1 k1_valley k1_book k1_laid, wX4 G q_k2 k2_valley k2_book k2_laid, wX4 G q_k3 k3_valley k3_book k3_laid, wX1 G q_ga ga_now ga_ahead ga_scrap ga_mostFarms ga_losses ga_known ga_found ga_foundMany ga_nights ga_farms ga_been ga_restingRow, wX2 G q_jo jo_now jo_ahead jo_scrap jo_mostFarms jo_losses jo_known jo_found jo_foundMany jo_nights jo_farms jo_groups jo_renumbered]) rfl ?_
  refine st_iload_n hR dX10_mountain_19 1 rfl rfl (pc' := 20) rfl ?_
  refine st_if_ne hR dX10_mountain_20 (tgt := 27) (by decide) (pc' := 23) rfl (fun c_ => ?_) (fun c_ => ?_)
  · have hM := it_f c_ hM
    refine st_iload_n hR dX10_mountain_27 1 rfl rfl (pc' := 28) rfl ?_
    cases hM
    exact hret _ _ dX10_mountain_28 (ro_i _)
  · have hM := it_t c_ hM
    refine st_aload_n hR dX10_mountain_23 0 rfl rfl (pc' := 24) rfl ?_
    obtain ⟨⟨v_night_1, v_g_1, v_flock_1, v_hunger_1, v_lean_1, v_fed_1, v_taken_1, v_pacts_1, v_levels_1, b_feuds_1, b_bones_1, b_feudsInAll_1, b_bitten_1, k0_laid_1, k1_laid_1, k2_laid_1, k3_laid_1, ga_nights_1, jo_nights_1⟩, hc_, hM⟩ := bd_e hM
    refine st_callV hR (k_X10_settle hc_) cf_X10_92 (rm_le (Nat.le_of_ble_eq_true rfl) (Nat.le_of_ble_eq_true rfl)) [0, 6, 3, 7, 8, 9, 10, 11, 12, 13] rfl rfl rfl 0 0 9 10 rfl rfl rfl rfl (rest := []) rfl (Nat.le_of_ble_eq_true rfl) dX10_mountain_24 (pc' := 27) rfl (Wn := [wX10 G q_w (q_t 0) (q_r 0) (q_v 0) (q_b 0) w_ahead w_scrap (q_ga 0) (q_jo 0) (mk4 (q_k0 0) (q_k1 0) (q_k2 0) (q_k3 0)) v_mountain, wX7 G q_r (q_t 0) (q_mt 0) r_law_1 r_fault_1, wX8 G q_t t_signs t_length_1 t_at_1 t_place_1 t_word_1 t_number_1 t_sign_1 t_end_1, wX5 G q_mt mt_farms_1 mt_fences_1 mt_shares_1 mt_names_1 mt_flock_1 mt_dogs_1 mt_hunger_1 mt_fenced_1 mt_heights_1 mt_pacts_1 mt_partner_1 mt_often_1 mt_toothed_1 (q_fe 0) (q_go 0), wX3 G q_fe fe_kinds_1 fe_lefts_1 fe_rights_1 fe_values fe_steps_1, wX3 G q_go go_kinds_1 go_lefts_1 go_rights_1 go_values go_steps_1, wX9 G q_v (q_mt 0) v_night_1 v_g_1 v_flock_1 v_hunger_1 v_lean_1 v_fed_1 v_taken_1 v_pacts_1 v_levels_1 v_facts, wX0 G q_b b_kept b_feuds_1 b_bites b_bones_1 b_feudsInAll_1 b_bitten_1, wX4 G q_k0 k0_valley k0_book k0_laid_1, wX4 G q_k1 k1_valley k1_book k1_laid_1, wX4 G q_k2 k2_valley k2_book k2_laid_1, wX4 G q_k3 k3_valley k3_book k3_laid_1, wX1 G q_ga ga_now ga_ahead ga_scrap ga_mostFarms ga_losses ga_known ga_found ga_foundMany ga_nights_1 ga_farms ga_been ga_restingRow, wX2 G q_jo jo_now jo_ahead jo_scrap jo_mostFarms jo_losses jo_known jo_found jo_foundMany jo_nights_1 jo_farms jo_groups jo_renumbered]) rfl ?_
    refine st_iload_n hR dX10_mountain_27 1 rfl rfl (pc' := 28) rfl ?_
    cases hM
    exact hret _ _ dX10_mountain_28 (ro_i _)
