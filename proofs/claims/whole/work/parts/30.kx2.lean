set_option maxHeartbeats 16000000 in
set_option maxRecDepth 100000 in
theorem k_X7_readAll {l : Launch} {G : GG} {q_r q_t q_mt q_la : Nat → Nat} {r_fault t_length t_at t_place t_number t_sign t_end mt_farms mt_fences mt_shares mt_toothed la_steps : Int32} {t_word : Int64} {t_signs mt_flock mt_dogs mt_hunger mt_fenced mt_heights mt_pacts mt_partner mt_often la_kinds la_lefts la_rights la_values : Nat → Int32} {mt_names : Nat → Int64} {mt_feeding mt_going : Nat} {l1 : Int32} {o_r : Int32} {o_r_fault : Int32} {o_t_at : Int32} {o_t_place : Int32} {o_t_word : Int64} {o_t_number : Int32} {o_t_sign : Int32} {o_t_end : Int32} {o_la_kinds : Nat → Int32} {o_la_lefts : Nat → Int32} {o_la_rights : Nat → Int32} {o_la_steps : Int32} {n : Nat} (hrec : HR_X7_readPart l G n) (hM : f_X7_readAll (f_X7_readPart n) t_signs t_length mt_feeding r_fault t_at t_place t_word t_number t_sign t_end la_kinds la_lefts la_rights la_steps (q_la 0) l1 = some (o_r, o_r_fault, o_t_at, o_t_place, o_t_word, o_t_number, o_t_sign, o_t_end, o_la_kinds, o_la_lefts, o_la_rights, o_la_steps)) : MC l G yX7_readAll cX7_readAll 7 (some .int) (RM (6 * n + 14)) [.ref (q_r 0), .int l1] [wX7 G q_r (q_t 0) (q_mt 0) (q_la 0) r_fault, wX8 G q_t t_signs t_length t_at t_place t_word t_number t_sign t_end, wX5 G q_mt mt_farms mt_fences mt_shares mt_names mt_flock mt_dogs mt_hunger mt_fenced mt_heights mt_pacts mt_partner mt_often mt_toothed mt_feeding mt_going, wX3 G q_la la_kinds la_lefts la_rights la_values la_steps] (some (.int o_r)) [wX7 G q_r (q_t 0) (q_mt 0) (q_la 0) o_r_fault, wX8 G q_t t_signs t_length o_t_at o_t_place o_t_word o_t_number o_t_sign o_t_end, wX5 G q_mt mt_farms mt_fences mt_shares mt_names mt_flock mt_dogs mt_hunger mt_fenced mt_heights mt_pacts mt_partner mt_often mt_toothed mt_feeding mt_going, wX3 G q_la o_la_kinds o_la_lefts o_la_rights la_values o_la_steps] := by
  refine MC.of pn_X7 (Nat.le_of_ble_eq_true rfl) (fun K hR hret => ?_)
  have hR : Rl l G RX7 cX7_readAll 7 (RM (6 * n + 14)) K := hR
  show K [wX7 G q_r (q_t 0) (q_mt 0) (q_la 0) r_fault, wX8 G q_t t_signs t_length t_at t_place t_word t_number t_sign t_end, wX5 G q_mt mt_farms mt_fences mt_shares mt_names mt_flock mt_dogs mt_hunger mt_fenced mt_heights mt_pacts mt_partner mt_often mt_toothed mt_feeding mt_going, wX3 G q_la la_kinds la_lefts la_rights la_values la_steps] [(0, .ref (q_r 0)), (1, .int l1)] 0 []
  have L8 : ∀ (n8 : Nat) (r_fault : Int32) (t_at : Int32) (t_place : Int32) (t_word : Int64) (t_number : Int32) (t_sign : Int32) (t_end : Int32) (la_kinds : Nat → Int32) (la_lefts : Nat → Int32) (la_rights : Nat → Int32) (la_steps : Int32) (l1 : Int32) (l2 : Int32) (l3 : Int32), f_X7_readAll_L8 (f_X7_readPart n) t_signs t_length mt_feeding (q_la 0) n8 r_fault t_at t_place t_word t_number t_sign t_end la_kinds la_lefts la_rights la_steps l1 l2 l3 = some (o_r, o_r_fault, o_t_at, o_t_place, o_t_word, o_t_number, o_t_sign, o_t_end, o_la_kinds, o_la_lefts, o_la_rights, o_la_steps) → K [wX7 G q_r (q_t 0) (q_mt 0) (q_la 0) r_fault, wX8 G q_t t_signs t_length t_at t_place t_word t_number t_sign t_end, wX5 G q_mt mt_farms mt_fences mt_shares mt_names mt_flock mt_dogs mt_hunger mt_fenced mt_heights mt_pacts mt_partner mt_often mt_toothed mt_feeding mt_going, wX3 G q_la la_kinds la_lefts la_rights la_values la_steps] [(0, .ref (q_r 0)), (1, .int l1), (2, .int l2), (3, .int l3)] 8 [] := by
    intro n8
    induction n8 with
    | zero => intro r_fault t_at t_place t_word t_number t_sign t_end la_kinds la_lefts la_rights la_steps l1 l2 l3 hM; exact no_some hM
    | succ n8 ih8 =>
      have J84 : ∀ (r_fault : Int32) (t_at : Int32) (t_place : Int32) (t_word : Int64) (t_number : Int32) (t_sign : Int32) (t_end : Int32) (la_kinds : Nat → Int32) (la_lefts : Nat → Int32) (la_rights : Nat → Int32) (la_steps : Int32) (l1 : Int32) (l2 : Int32) (l3 : Int32) (l6 : Int32) (s0 : Int32), f_X7_readAll_B84 (f_X7_readPart n) (f_X7_readAll_L8 (f_X7_readPart n) t_signs t_length mt_feeding (q_la 0) n8) t_signs t_length mt_feeding (q_la 0) r_fault t_at t_place t_word t_number t_sign t_end la_kinds la_lefts la_rights la_steps l1 l2 l3 l6 s0 = some (o_r, o_r_fault, o_t_at, o_t_place, o_t_word, o_t_number, o_t_sign, o_t_end, o_la_kinds, o_la_lefts, o_la_rights, o_la_steps) → K [wX7 G q_r (q_t 0) (q_mt 0) (q_la 0) r_fault, wX8 G q_t t_signs t_length t_at t_place t_word t_number t_sign t_end, wX5 G q_mt mt_farms mt_fences mt_shares mt_names mt_flock mt_dogs mt_hunger mt_fenced mt_heights mt_pacts mt_partner mt_often mt_toothed mt_feeding mt_going, wX3 G q_la la_kinds la_lefts la_rights la_values la_steps] [(0, .ref (q_r 0)), (1, .int l1), (2, .int l2), (3, .int l3), (6, .int l6)] 84 [.int s0, .ref (q_la 0)] := by
        intro r_fault t_at t_place t_word t_number t_sign t_end la_kinds la_lefts la_rights la_steps l1 l2 l3 l6 s0 hM
        refine st_iload_n hR dX7_readAll_84 2 rfl rfl (pc' := 85) rfl ?_
        refine st_iload hR dX7_readAll_85 4 rfl (pc' := 87) rfl ?_
        obtain ⟨⟨r_1, la_kinds_1, la_lefts_1, la_rights_1, la_steps_1⟩, hc_, hM⟩ := bd_e hM
        refine st_callV hR (k_X3_join hc_) cf_X7_187 (rm_le (by omega) (by decide)) [3] rfl rfl rfl 3 0 3 5 rfl rfl rfl rfl (rest := []) rfl (Nat.le_of_ble_eq_true rfl) dX7_readAll_87 (pc' := 90) rfl (Wn := [wX7 G q_r (q_t 0) (q_mt 0) (q_la 0) r_fault, wX8 G q_t t_signs t_length t_at t_place t_word t_number t_sign t_end, wX5 G q_mt mt_farms mt_fences mt_shares mt_names mt_flock mt_dogs mt_hunger mt_fenced mt_heights mt_pacts mt_partner mt_often mt_toothed mt_feeding mt_going, wX3 G q_la la_kinds_1 la_lefts_1 la_rights_1 la_values la_steps_1]) rfl ?_
        refine st_istore_n hR dX7_readAll_90 rfl (Nat.le_of_ble_eq_true rfl) [1, 2, 0, 3, 4] (lv' := [(0, .ref (q_r 0)), (1, .int l1), (2, .int r_1), (3, .int l3), (6, .int l6)]) rfl (pc' := 91) rfl ?_
        obtain ⟨l3_1, e_⟩ : ∃ y : Int32, y = l3 + 1 := ⟨_, rfl⟩
        refine st_iinc hR dX7_readAll_91 (Nat.le_of_ble_eq_true rfl) 3 [1, 2, 3, 0, 4] (v := l3_1) rfl (by rw [e_]; rfl) (lv' := [(0, .ref (q_r 0)), (1, .int l1), (2, .int r_1), (3, .int l3_1), (6, .int l6)]) rfl (pc' := 94) rfl ?_
        have hM := lt_e e_ hM
        refine st_goto hR dX7_readAll_94 (tgt := 8) (by decide) ?_
        exact st_lv hR [0, 1, 2, 3] rfl (ih8 _ _ _ _ _ _ _ _ _ _ _ _ _ _ hM)
      have J52 : ∀ (r_fault : Int32) (t_at : Int32) (t_place : Int32) (t_word : Int64) (t_number : Int32) (t_sign : Int32) (t_end : Int32) (la_kinds : Nat → Int32) (la_lefts : Nat → Int32) (la_rights : Nat → Int32) (la_steps : Int32) (l1 : Int32) (l2 : Int32) (l3 : Int32) (l4 : Int64), f_X7_readAll_B52 (f_X7_readPart n) (f_X7_readAll_L8 (f_X7_readPart n) t_signs t_length mt_feeding (q_la 0) n8) t_signs t_length mt_feeding (q_la 0) r_fault t_at t_place t_word t_number t_sign t_end la_kinds la_lefts la_rights la_steps l1 l2 l3 l4 = some (o_r, o_r_fault, o_t_at, o_t_place, o_t_word, o_t_number, o_t_sign, o_t_end, o_la_kinds, o_la_lefts, o_la_rights, o_la_steps) → K [wX7 G q_r (q_t 0) (q_mt 0) (q_la 0) r_fault, wX8 G q_t t_signs t_length t_at t_place t_word t_number t_sign t_end, wX5 G q_mt mt_farms mt_fences mt_shares mt_names mt_flock mt_dogs mt_hunger mt_fenced mt_heights mt_pacts mt_partner mt_often mt_toothed mt_feeding mt_going, wX3 G q_la la_kinds la_lefts la_rights la_values la_steps] [(0, .ref (q_r 0)), (1, .int l1), (2, .int l2), (3, .int l3), (4, .long l4)] 52 [] := by
        intro r_fault t_at t_place t_word t_number t_sign t_end la_kinds la_lefts la_rights la_steps l1 l2 l3 l4 hM
        refine st_aload_n hR dX7_readAll_52 0 rfl rfl (pc' := 53) rfl ?_
        refine st_get hR dX7_readAll_53 fg_X7_9_6_0 0 0 rfl rfl rfl (pc' := 56) rfl ?_
        obtain ⟨⟨t_at_1, t_place_1, t_word_1, t_number_1, t_sign_1, t_end_1⟩, hc_, hM⟩ := bd_e hM
        refine st_callV hR (k_X8_next hc_) cf_X7_106 (rm_le (by omega) (by decide)) [1] rfl rfl rfl 1 0 7 8 rfl rfl rfl rfl (rest := []) rfl (Nat.le_of_ble_eq_true rfl) dX7_readAll_56 (pc' := 59) rfl (Wn := [wX7 G q_r (q_t 0) (q_mt 0) (q_la 0) r_fault, wX8 G q_t t_signs t_length t_at_1 t_place_1 t_word_1 t_number_1 t_sign_1 t_end_1, wX5 G q_mt mt_farms mt_fences mt_shares mt_names mt_flock mt_dogs mt_hunger mt_fenced mt_heights mt_pacts mt_partner mt_often mt_toothed mt_feeding mt_going, wX3 G q_la la_kinds la_lefts la_rights la_values la_steps]) rfl ?_
        refine st_aload_n hR dX7_readAll_59 0 rfl rfl (pc' := 60) rfl ?_
        refine st_iload_n hR dX7_readAll_60 1 rfl rfl (pc' := 61) rfl ?_
        obtain ⟨⟨r_1, r_fault_1, t_at_2, t_place_2, t_word_2, t_number_2, t_sign_2, t_end_2, la_kinds_1, la_lefts_1, la_rights_1, la_steps_1⟩, hc_, hM⟩ := bd_e hM
        refine st_callV hR (k_X7_readTest hrec hc_) cf_X7_180 (rm_le (by omega) (by decide)) [0, 1, 2, 3] rfl rfl rfl 0 0 6 4 rfl rfl rfl rfl (rest := []) rfl (Nat.le_of_ble_eq_true rfl) dX7_readAll_61 (pc' := 64) rfl (Wn := [wX7 G q_r (q_t 0) (q_mt 0) (q_la 0) r_fault_1, wX8 G q_t t_signs t_length t_at_2 t_place_2 t_word_2 t_number_2 t_sign_2 t_end_2, wX5 G q_mt mt_farms mt_fences mt_shares mt_names mt_flock mt_dogs mt_hunger mt_fenced mt_heights mt_pacts mt_partner mt_often mt_toothed mt_feeding mt_going, wX3 G q_la la_kinds_1 la_lefts_1 la_rights_1 la_values la_steps_1]) rfl ?_
        refine st_istore hR dX7_readAll_64 (Nat.le_of_ble_eq_true rfl) [1, 2, 3, 4, 5, 0] (lv' := [(0, .ref (q_r 0)), (1, .int l1), (2, .int l2), (3, .int l3), (4, .long l4), (6, .int r_1)]) rfl (pc' := 66) rfl ?_
        refine st_aload_n hR dX7_readAll_66 0 rfl rfl (pc' := 67) rfl ?_
        refine st_get hR dX7_readAll_67 fg_X7_25_6_2 0 0 rfl rfl rfl (pc' := 70) rfl ?_
        refine st_lload hR dX7_readAll_70 4 rfl (pc' := 72) rfl ?_
        refine st_ldc2 hR (v := 6385252) cl_X7_183 dX7_readAll_72 (pc' := 75) rfl ?_
        refine st_lcmp hR dX7_readAll_75 (pc' := 76) rfl ?_
        refine st_if_ne hR dX7_readAll_76 (tgt := 83) (by decide) (pc' := 79) rfl (fun c_ => ?_) (fun c_ => ?_)
        · have hM := it_f c_ hM
          refine st_iconst hR dX7_readAll_83 (v := 4) rfl (pc' := 84) rfl ?_
          exact st_lv hR [0, 1, 2, 3, 5] rfl (J84 _ _ _ _ _ _ _ _ _ _ _ _ _ _ _ _ hM)
        · have hM := it_t c_ hM
          refine st_iconst hR dX7_readAll_79 (v := 3) rfl (pc' := 80) rfl ?_
          refine st_goto hR dX7_readAll_80 (tgt := 84) (by decide) ?_
          exact st_lv hR [0, 1, 2, 3, 5] rfl (J84 _ _ _ _ _ _ _ _ _ _ _ _ _ _ _ _ hM)
      intro r_fault t_at t_place t_word t_number t_sign t_end la_kinds la_lefts la_rights la_steps l1 l2 l3 hM
      have hM : f_X7_readAll_L8b (f_X7_readPart n) (f_X7_readAll_L8 (f_X7_readPart n) t_signs t_length mt_feeding (q_la 0) n8) t_signs t_length mt_feeding (q_la 0) r_fault t_at t_place t_word t_number t_sign t_end la_kinds la_lefts la_rights la_steps l1 l2 l3 = some (o_r, o_r_fault, o_t_at, o_t_place, o_t_word, o_t_number, o_t_sign, o_t_end, o_la_kinds, o_la_lefts, o_la_rights, o_la_steps) := hM
      refine st_iload_n hR dX7_readAll_8 3 rfl rfl (pc' := 9) rfl ?_
      refine st_sipush hR dX7_readAll_9 (v := 1000) rfl (pc' := 12) rfl ?_
      refine st_icmp_ge hR dX7_readAll_12 (tgt := 97) (by decide) (pc' := 15) rfl (fun c_ => ?_) (fun c_ => ?_)
      · have hM := it_t c_ hM
        refine st_iload_n hR dX7_readAll_97 2 rfl rfl (pc' := 98) rfl ?_
        cases hM
        exact hret _ _ dX7_readAll_98 (ro_i _)
      · have hM := it_f c_ hM
        refine st_aload_n hR dX7_readAll_15 0 rfl rfl (pc' := 16) rfl ?_
        refine st_get hR dX7_readAll_16 fg_X7_31_6_3 0 0 rfl rfl rfl (pc' := 19) rfl ?_
        refine st_if_ne hR dX7_readAll_19 (tgt := 97) (by decide) (pc' := 22) rfl (fun c_ => ?_) (fun c_ => ?_)
        · have hM := it_f c_ hM
          refine st_iload_n hR dX7_readAll_97 2 rfl rfl (pc' := 98) rfl ?_
          cases hM
          exact hret _ _ dX7_readAll_98 (ro_i _)
        · have hM := it_t c_ hM
          refine st_aload_n hR dX7_readAll_22 0 rfl rfl (pc' := 23) rfl ?_
          refine st_get hR dX7_readAll_23 fg_X7_9_6_0 0 0 rfl rfl rfl (pc' := 26) rfl ?_
          refine st_get hR dX7_readAll_26 fg_X7_62_7_4 1 0 rfl rfl rfl (pc' := 29) rfl ?_
          refine st_lstore hR dX7_readAll_29 (Nat.le_of_ble_eq_true rfl) [1, 2, 3, 4, 0] (lv' := [(0, .ref (q_r 0)), (1, .int l1), (2, .int l2), (3, .int l3), (4, .long t_word)]) rfl (pc' := 31) rfl ?_
          refine st_lload hR dX7_readAll_31 4 rfl (pc' := 33) rfl ?_
          refine st_ldc2 hR (v := 6385252) cl_X7_183 dX7_readAll_33 (pc' := 36) rfl ?_
          refine st_lcmp hR dX7_readAll_36 (pc' := 37) rfl ?_
          refine st_if_eq hR dX7_readAll_37 (tgt := 52) (by decide) (pc' := 40) rfl (fun c_ => ?_) (fun c_ => ?_)
          · have hM := it_t c_ hM
            exact J52 _ _ _ _ _ _ _ _ _ _ _ _ _ _ _ hM
          · have hM := it_f c_ hM
            refine st_lload hR dX7_readAll_40 4 rfl (pc' := 42) rfl ?_
            refine st_ldc2 hR (v := 28530) cl_X7_185 dX7_readAll_42 (pc' := 45) rfl ?_
            refine st_lcmp hR dX7_readAll_45 (pc' := 46) rfl ?_
            refine st_if_eq hR dX7_readAll_46 (tgt := 52) (by decide) (pc' := 49) rfl (fun c_ => ?_) (fun c_ => ?_)
            · have hM := it_t c_ hM
              exact J52 _ _ _ _ _ _ _ _ _ _ _ _ _ _ _ hM
            · have hM := it_f c_ hM
              refine st_goto hR dX7_readAll_49 (tgt := 97) (by decide) ?_
              refine st_iload_n hR dX7_readAll_97 2 rfl rfl (pc' := 98) rfl ?_
              cases hM
              exact hret _ _ dX7_readAll_98 (ro_i _)
  refine st_aload_n hR dX7_readAll_0 0 rfl rfl (pc' := 1) rfl ?_
  refine st_iload_n hR dX7_readAll_1 1 rfl rfl (pc' := 2) rfl ?_
  obtain ⟨⟨r_1, r_fault_1, t_at_1, t_place_1, t_word_1, t_number_1, t_sign_1, t_end_1, la_kinds_1, la_lefts_1, la_rights_1, la_steps_1⟩, hc_, hM⟩ := bd_e hM
  refine st_callV hR (k_X7_readTest hrec hc_) cf_X7_180 (rm_le (by omega) (by decide)) [0, 1, 2, 3] rfl rfl rfl 0 0 6 4 rfl rfl rfl rfl (rest := []) rfl (Nat.le_of_ble_eq_true rfl) dX7_readAll_2 (pc' := 5) rfl (Wn := [wX7 G q_r (q_t 0) (q_mt 0) (q_la 0) r_fault_1, wX8 G q_t t_signs t_length t_at_1 t_place_1 t_word_1 t_number_1 t_sign_1 t_end_1, wX5 G q_mt mt_farms mt_fences mt_shares mt_names mt_flock mt_dogs mt_hunger mt_fenced mt_heights mt_pacts mt_partner mt_often mt_toothed mt_feeding mt_going, wX3 G q_la la_kinds_1 la_lefts_1 la_rights_1 la_values la_steps_1]) rfl ?_
  refine st_istore_n hR dX7_readAll_5 rfl (Nat.le_of_ble_eq_true rfl) [1, 2, 0] (lv' := [(0, .ref (q_r 0)), (1, .int l1), (2, .int r_1)]) rfl (pc' := 6) rfl ?_
  refine st_iconst hR dX7_readAll_6 (v := 0) rfl (pc' := 7) rfl ?_
  refine st_istore_n hR dX7_readAll_7 rfl (Nat.le_of_ble_eq_true rfl) [1, 2, 3, 0] (lv' := [(0, .ref (q_r 0)), (1, .int l1), (2, .int r_1), (3, .int 0)]) rfl (pc' := 8) rfl ?_
  exact L8 FU _ _ _ _ _ _ _ _ _ _ _ _ _ _ hM
set_option maxHeartbeats 16000000 in
set_option maxRecDepth 100000 in
theorem k_X7_readInner {l : Launch} {G : GG} {q_r q_t q_mt q_la : Nat → Nat} {r_fault t_length t_at t_place t_number t_sign t_end mt_farms mt_fences mt_shares mt_toothed la_steps : Int32} {t_word : Int64} {t_signs mt_flock mt_dogs mt_hunger mt_fenced mt_heights mt_pacts mt_partner mt_often la_kinds la_lefts la_rights la_values : Nat → Int32} {mt_names : Nat → Int64} {mt_feeding mt_going : Nat} {l1 : Int32} {o_r : Int32} {o_r_fault : Int32} {o_t_at : Int32} {o_t_place : Int32} {o_t_word : Int64} {o_t_number : Int32} {o_t_sign : Int32} {o_t_end : Int32} {o_la_kinds : Nat → Int32} {o_la_lefts : Nat → Int32} {o_la_rights : Nat → Int32} {o_la_steps : Int32} {n : Nat} (hrec : HR_X7_readPart l G n) (hM : f_X7_readInner (f_X7_readPart n) t_signs t_length mt_feeding r_fault t_at t_place t_word t_number t_sign t_end la_kinds la_lefts la_rights la_steps (q_la 0) l1 = some (o_r, o_r_fault, o_t_at, o_t_place, o_t_word, o_t_number, o_t_sign, o_t_end, o_la_kinds, o_la_lefts, o_la_rights, o_la_steps)) : MC l G yX7_readInner cX7_readInner 4 (some .int) (RM (6 * n + 15)) [.ref (q_r 0), .int l1] [wX7 G q_r (q_t 0) (q_mt 0) (q_la 0) r_fault, wX8 G q_t t_signs t_length t_at t_place t_word t_number t_sign t_end, wX5 G q_mt mt_farms mt_fences mt_shares mt_names mt_flock mt_dogs mt_hunger mt_fenced mt_heights mt_pacts mt_partner mt_often mt_toothed mt_feeding mt_going, wX3 G q_la la_kinds la_lefts la_rights la_values la_steps] (some (.int o_r)) [wX7 G q_r (q_t 0) (q_mt 0) (q_la 0) o_r_fault, wX8 G q_t t_signs t_length o_t_at o_t_place o_t_word o_t_number o_t_sign o_t_end, wX5 G q_mt mt_farms mt_fences mt_shares mt_names mt_flock mt_dogs mt_hunger mt_fenced mt_heights mt_pacts mt_partner mt_often mt_toothed mt_feeding mt_going, wX3 G q_la o_la_kinds o_la_lefts o_la_rights la_values o_la_steps] := by
  refine MC.of pn_X7 (Nat.le_of_ble_eq_true rfl) (fun K hR hret => ?_)
  have hR : Rl l G RX7 cX7_readInner 4 (RM (6 * n + 15)) K := hR
  show K [wX7 G q_r (q_t 0) (q_mt 0) (q_la 0) r_fault, wX8 G q_t t_signs t_length t_at t_place t_word t_number t_sign t_end, wX5 G q_mt mt_farms mt_fences mt_shares mt_names mt_flock mt_dogs mt_hunger mt_fenced mt_heights mt_pacts mt_partner mt_often mt_toothed mt_feeding mt_going, wX3 G q_la la_kinds la_lefts la_rights la_values la_steps] [(0, .ref (q_r 0)), (1, .int l1)] 0 []
  have J19 : ∀ (r_fault : Int32) (t_at : Int32) (t_place : Int32) (t_word : Int64) (t_number : Int32) (t_sign : Int32) (t_end : Int32) (la_kinds : Nat → Int32) (la_lefts : Nat → Int32) (la_rights : Nat → Int32) (la_steps : Int32) (l1 : Int32) (s0 : Int32), f_X7_readInner_B19 (f_X7_readPart n) t_signs t_length mt_feeding (q_la 0) r_fault t_at t_place t_word t_number t_sign t_end la_kinds la_lefts la_rights la_steps l1 s0 = some (o_r, o_r_fault, o_t_at, o_t_place, o_t_word, o_t_number, o_t_sign, o_t_end, o_la_kinds, o_la_lefts, o_la_rights, o_la_steps) → K [wX7 G q_r (q_t 0) (q_mt 0) (q_la 0) r_fault, wX8 G q_t t_signs t_length t_at t_place t_word t_number t_sign t_end, wX5 G q_mt mt_farms mt_fences mt_shares mt_names mt_flock mt_dogs mt_hunger mt_fenced mt_heights mt_pacts mt_partner mt_often mt_toothed mt_feeding mt_going, wX3 G q_la la_kinds la_lefts la_rights la_values la_steps] [(0, .ref (q_r 0)), (1, .int l1)] 19 [.int s0] := by
    intro r_fault t_at t_place t_word t_number t_sign t_end la_kinds la_lefts la_rights la_steps l1 s0 hM
    refine st_istore_n hR dX7_readInner_19 rfl (Nat.le_of_ble_eq_true rfl) [1, 2, 0] (lv' := [(0, .ref (q_r 0)), (1, .int l1), (2, .int s0)]) rfl (pc' := 20) rfl ?_
    refine st_aload_n hR dX7_readInner_20 0 rfl rfl (pc' := 21) rfl ?_
    refine st_get hR dX7_readInner_21 fg_X7_9_6_0 0 0 rfl rfl rfl (pc' := 24) rfl ?_
    obtain ⟨⟨t_at_1, t_place_1, t_word_1, t_number_1, t_sign_1, t_end_1⟩, hc_, hM⟩ := bd_e hM
    refine st_callV hR (k_X8_next hc_) cf_X7_106 (rm_le (by omega) (by decide)) [1] rfl rfl rfl 1 0 7 8 rfl rfl rfl rfl (rest := []) rfl (Nat.le_of_ble_eq_true rfl) dX7_readInner_24 (pc' := 27) rfl (Wn := [wX7 G q_r (q_t 0) (q_mt 0) (q_la 0) r_fault, wX8 G q_t t_signs t_length t_at_1 t_place_1 t_word_1 t_number_1 t_sign_1 t_end_1, wX5 G q_mt mt_farms mt_fences mt_shares mt_names mt_flock mt_dogs mt_hunger mt_fenced mt_heights mt_pacts mt_partner mt_often mt_toothed mt_feeding mt_going, wX3 G q_la la_kinds la_lefts la_rights la_values la_steps]) rfl ?_
    refine st_iload_n hR dX7_readInner_27 2 rfl rfl (pc' := 28) rfl ?_
    refine st_if_eq hR dX7_readInner_28 (tgt := 48) (by decide) (pc' := 31) rfl (fun c_ => ?_) (fun c_ => ?_)
    · have hM := it_t c_ hM
      refine st_aload_n hR dX7_readInner_48 0 rfl rfl (pc' := 49) rfl ?_
      refine st_iload_n hR dX7_readInner_49 1 rfl rfl (pc' := 50) rfl ?_
      obtain ⟨⟨r_1, r_fault_1, t_at_2, t_place_2, t_word_2, t_number_2, t_sign_2, t_end_2, la_kinds_1, la_lefts_1, la_rights_1, la_steps_1⟩, hc_, hM⟩ := bd_e hM
      refine st_callV hR (k_X7_readAll hrec hc_) cf_X7_177 (rm_le (by omega) (by decide)) [0, 1, 2, 3] rfl rfl rfl 0 0 6 4 rfl rfl rfl rfl (rest := []) rfl (Nat.le_of_ble_eq_true rfl) dX7_readInner_50 (pc' := 53) rfl (Wn := [wX7 G q_r (q_t 0) (q_mt 0) (q_la 0) r_fault_1, wX8 G q_t t_signs t_length t_at_2 t_place_2 t_word_2 t_number_2 t_sign_2 t_end_2, wX5 G q_mt mt_farms mt_fences mt_shares mt_names mt_flock mt_dogs mt_hunger mt_fenced mt_heights mt_pacts mt_partner mt_often mt_toothed mt_feeding mt_going, wX3 G q_la la_kinds_1 la_lefts_1 la_rights_1 la_values la_steps_1]) rfl ?_
      refine st_istore_n hR dX7_readInner_53 rfl (Nat.le_of_ble_eq_true rfl) [1, 2, 3, 0] (lv' := [(0, .ref (q_r 0)), (1, .int l1), (2, .int s0), (3, .int r_1)]) rfl (pc' := 54) rfl ?_
      refine st_aload_n hR dX7_readInner_54 0 rfl rfl (pc' := 55) rfl ?_
      refine st_bipush hR dX7_readInner_55 (v := 41) rfl (pc' := 57) rfl ?_
      obtain ⟨⟨r_fault_2, t_at_3, t_place_3, t_word_3, t_number_3, t_sign_3, t_end_3⟩, hc_, hM⟩ := bd_e hM
      refine st_callV hR (k_X7_readSign hc_) cf_X7_130 (rm_le (by omega) (by decide)) [0, 1] rfl rfl rfl 0 0 6 4 rfl rfl rfl rfl (rest := []) rfl (Nat.le_of_ble_eq_true rfl) dX7_readInner_57 (pc' := 60) rfl (Wn := [wX7 G q_r (q_t 0) (q_mt 0) (q_la 0) r_fault_2, wX8 G q_t t_signs t_length t_at_3 t_place_3 t_word_3 t_number_3 t_sign_3 t_end_3, wX5 G q_mt mt_farms mt_fences mt_shares mt_names mt_flock mt_dogs mt_hunger mt_fenced mt_heights mt_pacts mt_partner mt_often mt_toothed mt_feeding mt_going, wX3 G q_la la_kinds_1 la_lefts_1 la_rights_1 la_values la_steps_1]) rfl ?_
      refine st_iload_n hR dX7_readInner_60 3 rfl rfl (pc' := 61) rfl ?_
      cases hM
      exact hret _ _ dX7_readInner_61 (ro_i _)
    · have hM := it_f c_ hM
      refine st_aload_n hR dX7_readInner_31 0 rfl rfl (pc' := 32) rfl ?_
      refine st_iload_n hR dX7_readInner_32 1 rfl rfl (pc' := 33) rfl ?_
      obtain ⟨⟨r_2, r_fault_3, t_at_4, t_place_4, t_word_4, t_number_4, t_sign_4, t_end_4, la_kinds_2, la_lefts_2, la_rights_2, la_steps_2⟩, hc_, hM⟩ := bd_e hM
      refine st_callV hR (hrec hc_) cf_X7_201 (rm_le (by omega) (by decide)) [0, 1, 2, 3] rfl rfl rfl 0 0 6 4 rfl rfl rfl rfl (rest := []) rfl (Nat.le_of_ble_eq_true rfl) dX7_readInner_33 (pc' := 36) rfl (Wn := [wX7 G q_r (q_t 0) (q_mt 0) (q_la 0) r_fault_3, wX8 G q_t t_signs t_length t_at_4 t_place_4 t_word_4 t_number_4 t_sign_4 t_end_4, wX5 G q_mt mt_farms mt_fences mt_shares mt_names mt_flock mt_dogs mt_hunger mt_fenced mt_heights mt_pacts mt_partner mt_often mt_toothed mt_feeding mt_going, wX3 G q_la la_kinds_2 la_lefts_2 la_rights_2 la_values la_steps_2]) rfl ?_
      refine st_istore_n hR dX7_readInner_36 rfl (Nat.le_of_ble_eq_true rfl) [1, 2, 3, 0] (lv' := [(0, .ref (q_r 0)), (1, .int l1), (2, .int s0), (3, .int r_2)]) rfl (pc' := 37) rfl ?_
      refine st_aload_n hR dX7_readInner_37 0 rfl rfl (pc' := 38) rfl ?_
      refine st_get hR dX7_readInner_38 fg_X7_25_6_2 0 0 rfl rfl rfl (pc' := 41) rfl ?_
      refine st_iconst hR dX7_readInner_41 (v := 2) rfl (pc' := 42) rfl ?_
      refine st_iload_n hR dX7_readInner_42 3 rfl rfl (pc' := 43) rfl ?_
      refine st_iload_n hR dX7_readInner_43 3 rfl rfl (pc' := 44) rfl ?_
      obtain ⟨⟨r_3, la_kinds_3, la_lefts_3, la_rights_3, la_steps_3⟩, hc_, hM⟩ := bd_e hM
      refine st_callV hR (k_X3_join hc_) cf_X7_187 (rm_le (by omega) (by decide)) [3] rfl rfl rfl 3 0 3 5 rfl rfl rfl rfl (rest := []) rfl (Nat.le_of_ble_eq_true rfl) dX7_readInner_44 (pc' := 47) rfl (Wn := [wX7 G q_r (q_t 0) (q_mt 0) (q_la 0) r_fault_3, wX8 G q_t t_signs t_length t_at_4 t_place_4 t_word_4 t_number_4 t_sign_4 t_end_4, wX5 G q_mt mt_farms mt_fences mt_shares mt_names mt_flock mt_dogs mt_hunger mt_fenced mt_heights mt_pacts mt_partner mt_often mt_toothed mt_feeding mt_going, wX3 G q_la la_kinds_3 la_lefts_3 la_rights_3 la_values la_steps_3]) rfl ?_
      cases hM
      exact hret _ _ dX7_readInner_47 (ro_i _)
  refine st_aload_n hR dX7_readInner_0 0 rfl rfl (pc' := 1) rfl ?_
  refine st_get hR dX7_readInner_1 fg_X7_9_6_0 0 0 rfl rfl rfl (pc' := 4) rfl ?_
  refine st_get hR dX7_readInner_4 fg_X7_62_7_4 1 0 rfl rfl rfl (pc' := 7) rfl ?_
  refine st_ldc2 hR (v := 7237492) cl_X7_207 dX7_readInner_7 (pc' := 10) rfl ?_
  refine st_lcmp hR dX7_readInner_10 (pc' := 11) rfl ?_
  refine st_if_ne hR dX7_readInner_11 (tgt := 18) (by decide) (pc' := 14) rfl (fun c_ => ?_) (fun c_ => ?_)
  · have hM := it_f c_ hM
    refine st_iconst hR dX7_readInner_18 (v := 0) rfl (pc' := 19) rfl ?_
    exact J19 _ _ _ _ _ _ _ _ _ _ _ _ _ hM
  · have hM := it_t c_ hM
    refine st_iconst hR dX7_readInner_14 (v := 1) rfl (pc' := 15) rfl ?_
    refine st_goto hR dX7_readInner_15 (tgt := 19) (by decide) ?_
    exact J19 _ _ _ _ _ _ _ _ _ _ _ _ _ hM
set_option maxHeartbeats 16000000 in
set_option maxRecDepth 100000 in
theorem k_X7_readPart_s {l : Launch} {G : GG} {q_r q_t q_mt q_la : Nat → Nat} {r_fault t_length t_at t_place t_number t_sign t_end mt_farms mt_fences mt_shares mt_toothed la_steps : Int32} {t_word : Int64} {t_signs mt_flock mt_dogs mt_hunger mt_fenced mt_heights mt_pacts mt_partner mt_often la_kinds la_lefts la_rights la_values : Nat → Int32} {mt_names : Nat → Int64} {mt_feeding mt_going : Nat} {l1 : Int32} {o_r : Int32} {o_r_fault : Int32} {o_t_at : Int32} {o_t_place : Int32} {o_t_word : Int64} {o_t_number : Int32} {o_t_sign : Int32} {o_t_end : Int32} {o_la_kinds : Nat → Int32} {o_la_lefts : Nat → Int32} {o_la_rights : Nat → Int32} {o_la_steps : Int32} {n : Nat} (hrec : HR_X7_readPart l G n) (hM : f_X7_readPart_b (f_X7_readPart n) t_signs t_length mt_feeding r_fault t_at t_place t_word t_number t_sign t_end la_kinds la_lefts la_rights la_steps (q_la 0) l1 = some (o_r, o_r_fault, o_t_at, o_t_place, o_t_word, o_t_number, o_t_sign, o_t_end, o_la_kinds, o_la_lefts, o_la_rights, o_la_steps)) : MC l G yX7_readPart cX7_readPart 5 (some .int) (RM (6 * n + 16)) [.ref (q_r 0), .int l1] [wX7 G q_r (q_t 0) (q_mt 0) (q_la 0) r_fault, wX8 G q_t t_signs t_length t_at t_place t_word t_number t_sign t_end, wX5 G q_mt mt_farms mt_fences mt_shares mt_names mt_flock mt_dogs mt_hunger mt_fenced mt_heights mt_pacts mt_partner mt_often mt_toothed mt_feeding mt_going, wX3 G q_la la_kinds la_lefts la_rights la_values la_steps] (some (.int o_r)) [wX7 G q_r (q_t 0) (q_mt 0) (q_la 0) o_r_fault, wX8 G q_t t_signs t_length o_t_at o_t_place o_t_word o_t_number o_t_sign o_t_end, wX5 G q_mt mt_farms mt_fences mt_shares mt_names mt_flock mt_dogs mt_hunger mt_fenced mt_heights mt_pacts mt_partner mt_often mt_toothed mt_feeding mt_going, wX3 G q_la o_la_kinds o_la_lefts o_la_rights la_values o_la_steps] := by
  refine MC.of pn_X7 (Nat.le_of_ble_eq_true rfl) (fun K hR hret => ?_)
  have hR : Rl l G RX7 cX7_readPart 5 (RM (6 * n + 16)) K := hR
  show K [wX7 G q_r (q_t 0) (q_mt 0) (q_la 0) r_fault, wX8 G q_t t_signs t_length t_at t_place t_word t_number t_sign t_end, wX5 G q_mt mt_farms mt_fences mt_shares mt_names mt_flock mt_dogs mt_hunger mt_fenced mt_heights mt_pacts mt_partner mt_often mt_toothed mt_feeding mt_going, wX3 G q_la la_kinds la_lefts la_rights la_values la_steps] [(0, .ref (q_r 0)), (1, .int l1)] 0 []
  have J133 : ∀ (r_fault : Int32) (t_at : Int32) (t_place : Int32) (t_word : Int64) (t_number : Int32) (t_sign : Int32) (t_end : Int32) (la_kinds : Nat → Int32) (la_lefts : Nat → Int32) (la_rights : Nat → Int32) (la_steps : Int32) (s0 : Int32), f_X7_readPart_B133 (f_X7_readPart n) t_signs t_length mt_feeding (q_la 0) r_fault t_at t_place t_word t_number t_sign t_end la_kinds la_lefts la_rights la_steps s0 = some (o_r, o_r_fault, o_t_at, o_t_place, o_t_word, o_t_number, o_t_sign, o_t_end, o_la_kinds, o_la_lefts, o_la_rights, o_la_steps) → K [wX7 G q_r (q_t 0) (q_mt 0) (q_la 0) r_fault, wX8 G q_t t_signs t_length t_at t_place t_word t_number t_sign t_end, wX5 G q_mt mt_farms mt_fences mt_shares mt_names mt_flock mt_dogs mt_hunger mt_fenced mt_heights mt_pacts mt_partner mt_often mt_toothed mt_feeding mt_going, wX3 G q_la la_kinds la_lefts la_rights la_values la_steps] [(0, .ref (q_r 0))] 133 [.int s0] := by
    intro r_fault t_at t_place t_word t_number t_sign t_end la_kinds la_lefts la_rights la_steps s0 hM
    refine st_istore hR dX7_readPart_133 (Nat.le_of_ble_eq_true rfl) [1, 0] (lv' := [(0, .ref (q_r 0)), (4, .int s0)]) rfl (pc' := 135) rfl ?_
    refine st_aload_n hR dX7_readPart_135 0 rfl rfl (pc' := 136) rfl ?_
    refine st_get hR dX7_readPart_136 fg_X7_9_6_0 0 0 rfl rfl rfl (pc' := 139) rfl ?_
    obtain ⟨⟨t_at_1, t_place_1, t_word_1, t_number_1, t_sign_1, t_end_1⟩, hc_, hM⟩ := bd_e hM
    refine st_callV hR (k_X8_next hc_) cf_X7_106 (rm_le (by omega) (by decide)) [1] rfl rfl rfl 1 0 7 8 rfl rfl rfl rfl (rest := []) rfl (Nat.le_of_ble_eq_true rfl) dX7_readPart_139 (pc' := 142) rfl (Wn := [wX7 G q_r (q_t 0) (q_mt 0) (q_la 0) r_fault, wX8 G q_t t_signs t_length t_at_1 t_place_1 t_word_1 t_number_1 t_sign_1 t_end_1, wX5 G q_mt mt_farms mt_fences mt_shares mt_names mt_flock mt_dogs mt_hunger mt_fenced mt_heights mt_pacts mt_partner mt_often mt_toothed mt_feeding mt_going, wX3 G q_la la_kinds la_lefts la_rights la_values la_steps]) rfl ?_
    refine st_iload hR dX7_readPart_142 1 rfl (pc' := 144) rfl ?_
    cases hM
    exact hret _ _ dX7_readPart_144 (ro_i _)
  have J82 : ∀ (r_fault : Int32) (t_at : Int32) (t_place : Int32) (t_word : Int64) (t_number : Int32) (t_sign : Int32) (t_end : Int32) (la_kinds : Nat → Int32) (la_lefts : Nat → Int32) (la_rights : Nat → Int32) (la_steps : Int32) (l1 : Int32) (l2 : Int32) (l3 : Int32), f_X7_readPart_B82 (f_X7_readPart n) t_signs t_length mt_feeding (q_la 0) r_fault t_at t_place t_word t_number t_sign t_end la_kinds la_lefts la_rights la_steps l1 l2 l3 = some (o_r, o_r_fault, o_t_at, o_t_place, o_t_word, o_t_number, o_t_sign, o_t_end, o_la_kinds, o_la_lefts, o_la_rights, o_la_steps) → K [wX7 G q_r (q_t 0) (q_mt 0) (q_la 0) r_fault, wX8 G q_t t_signs t_length t_at t_place t_word t_number t_sign t_end, wX5 G q_mt mt_farms mt_fences mt_shares mt_names mt_flock mt_dogs mt_hunger mt_fenced mt_heights mt_pacts mt_partner mt_often mt_toothed mt_feeding mt_going, wX3 G q_la la_kinds la_lefts la_rights la_values la_steps] [(0, .ref (q_r 0)), (1, .int l1), (2, .int l2), (3, .int l3)] 82 [] := by
    intro r_fault t_at t_place t_word t_number t_sign t_end la_kinds la_lefts la_rights la_steps l1 l2 l3 hM
    refine st_aload_n hR dX7_readPart_82 0 rfl rfl (pc' := 83) rfl ?_
    refine st_get hR dX7_readPart_83 fg_X7_31_6_3 0 0 rfl rfl rfl (pc' := 86) rfl ?_
    refine st_if_eq hR dX7_readPart_86 (tgt := 91) (by decide) (pc' := 89) rfl (fun c_ => ?_) (fun c_ => ?_)
    · have hM := it_t c_ hM
      refine st_iload_n hR dX7_readPart_91 3 rfl rfl (pc' := 92) rfl ?_
      refine st_if_eq hR dX7_readPart_92 (tgt := 103) (by decide) (pc' := 95) rfl (fun c_ => ?_) (fun c_ => ?_)
      · have hM := it_t c_ hM
        refine st_iload_n hR dX7_readPart_103 2 rfl rfl (pc' := 104) rfl ?_
        refine st_iconst hR dX7_readPart_104 (v := (-1)) (by decide) (pc' := 105) rfl ?_
        refine st_icmp_ne hR dX7_readPart_105 (tgt := 125) (by decide) (pc' := 108) rfl (fun c_ => ?_) (fun c_ => ?_)
        · have hM := it_f c_ hM
          refine st_aload_n hR dX7_readPart_125 0 rfl rfl (pc' := 126) rfl ?_
          refine st_get hR dX7_readPart_126 fg_X7_25_6_2 0 0 rfl rfl rfl (pc' := 129) rfl ?_
          refine st_iload_n hR dX7_readPart_129 2 rfl rfl (pc' := 130) rfl ?_
          obtain ⟨⟨r_1, la_kinds_1, la_lefts_1, la_rights_1, la_steps_1⟩, hc_, hM⟩ := bd_e hM
          refine st_callV hR (k_X3_addFact hc_) cf_X7_59 (rm_le (by omega) (by decide)) [3] rfl rfl rfl 3 0 3 5 rfl rfl rfl rfl (rest := []) rfl (Nat.le_of_ble_eq_true rfl) dX7_readPart_130 (pc' := 133) rfl (Wn := [wX7 G q_r (q_t 0) (q_mt 0) (q_la 0) r_fault, wX8 G q_t t_signs t_length t_at t_place t_word t_number t_sign t_end, wX5 G q_mt mt_farms mt_fences mt_shares mt_names mt_flock mt_dogs mt_hunger mt_fenced mt_heights mt_pacts mt_partner mt_often mt_toothed mt_feeding mt_going, wX3 G q_la la_kinds_1 la_lefts_1 la_rights_1 la_values la_steps_1]) rfl ?_
          exact st_lv hR [0] rfl (J133 _ _ _ _ _ _ _ _ _ _ _ _ hM)
        · have hM := it_t c_ hM
          refine st_aload_n hR dX7_readPart_108 0 rfl rfl (pc' := 109) rfl ?_
          refine st_get hR dX7_readPart_109 fg_X7_25_6_2 0 0 rfl rfl rfl (pc' := 112) rfl ?_
          refine st_aload_n hR dX7_readPart_112 0 rfl rfl (pc' := 113) rfl ?_
          refine st_get hR dX7_readPart_113 fg_X7_9_6_0 0 0 rfl rfl rfl (pc' := 116) rfl ?_
          refine st_get hR dX7_readPart_116 fg_X7_168_7_5 1 0 rfl rfl rfl (pc' := 119) rfl ?_
          obtain ⟨⟨r_2, la_kinds_2, la_lefts_2, la_rights_2, la_steps_2⟩, hc_, hM⟩ := bd_e hM
          refine st_callV hR (k_X3_addNumber hc_) cf_X7_52 (rm_le (by omega) (by decide)) [3] rfl rfl rfl 3 0 3 5 rfl rfl rfl rfl (rest := []) rfl (Nat.le_of_ble_eq_true rfl) dX7_readPart_119 (pc' := 122) rfl (Wn := [wX7 G q_r (q_t 0) (q_mt 0) (q_la 0) r_fault, wX8 G q_t t_signs t_length t_at t_place t_word t_number t_sign t_end, wX5 G q_mt mt_farms mt_fences mt_shares mt_names mt_flock mt_dogs mt_hunger mt_fenced mt_heights mt_pacts mt_partner mt_often mt_toothed mt_feeding mt_going, wX3 G q_la la_kinds_2 la_lefts_2 la_rights_2 la_values la_steps_2]) rfl ?_
          refine st_goto hR dX7_readPart_122 (tgt := 133) (by decide) ?_
          exact st_lv hR [0] rfl (J133 _ _ _ _ _ _ _ _ _ _ _ _ hM)
      · have hM := it_f c_ hM
        refine st_aload_n hR dX7_readPart_95 0 rfl rfl (pc' := 96) rfl ?_
        refine st_iload_n hR dX7_readPart_96 1 rfl rfl (pc' := 97) rfl ?_
        refine st_iconst hR dX7_readPart_97 (v := 1) rfl (pc' := 98) rfl ?_
        refine st_iadd hR dX7_readPart_98 (pc' := 99) rfl ?_
        obtain ⟨⟨r_3, r_fault_1, t_at_1, t_place_1, t_word_1, t_number_1, t_sign_1, t_end_1, la_kinds_3, la_lefts_3, la_rights_3, la_steps_3⟩, hc_, hM⟩ := bd_e hM
        refine st_callV hR (k_X7_readInner hrec hc_) cf_X7_209 (rm_le (by omega) (by decide)) [0, 1, 2, 3] rfl rfl rfl 0 0 6 4 rfl rfl rfl rfl (rest := []) rfl (Nat.le_of_ble_eq_true rfl) dX7_readPart_99 (pc' := 102) rfl (Wn := [wX7 G q_r (q_t 0) (q_mt 0) (q_la 0) r_fault_1, wX8 G q_t t_signs t_length t_at_1 t_place_1 t_word_1 t_number_1 t_sign_1 t_end_1, wX5 G q_mt mt_farms mt_fences mt_shares mt_names mt_flock mt_dogs mt_hunger mt_fenced mt_heights mt_pacts mt_partner mt_often mt_toothed mt_feeding mt_going, wX3 G q_la la_kinds_3 la_lefts_3 la_rights_3 la_values la_steps_3]) rfl ?_
        cases hM
        exact hret _ _ dX7_readPart_102 (ro_i _)
    · have hM := it_f c_ hM
      refine st_iconst hR dX7_readPart_89 (v := (-1)) (by decide) (pc' := 90) rfl ?_
      cases hM
      exact hret _ _ dX7_readPart_90 (ro_i _)
  have J72 : ∀ (r_fault : Int32) (t_at : Int32) (t_place : Int32) (t_word : Int64) (t_number : Int32) (t_sign : Int32) (t_end : Int32) (la_kinds : Nat → Int32) (la_lefts : Nat → Int32) (la_rights : Nat → Int32) (la_steps : Int32) (l1 : Int32) (l2 : Int32) (l3 : Int32), f_X7_readPart_B72 (f_X7_readPart n) t_signs t_length mt_feeding (q_la 0) r_fault t_at t_place t_word t_number t_sign t_end la_kinds la_lefts la_rights la_steps l1 l2 l3 = some (o_r, o_r_fault, o_t_at, o_t_place, o_t_word, o_t_number, o_t_sign, o_t_end, o_la_kinds, o_la_lefts, o_la_rights, o_la_steps) → K [wX7 G q_r (q_t 0) (q_mt 0) (q_la 0) r_fault, wX8 G q_t t_signs t_length t_at t_place t_word t_number t_sign t_end, wX5 G q_mt mt_farms mt_fences mt_shares mt_names mt_flock mt_dogs mt_hunger mt_fenced mt_heights mt_pacts mt_partner mt_often mt_toothed mt_feeding mt_going, wX3 G q_la la_kinds la_lefts la_rights la_values la_steps] [(0, .ref (q_r 0)), (1, .int l1), (2, .int l2), (3, .int l3)] 72 [] := by
    intro r_fault t_at t_place t_word t_number t_sign t_end la_kinds la_lefts la_rights la_steps l1 l2 l3 hM
    refine st_iload_n hR dX7_readPart_72 1 rfl rfl (pc' := 73) rfl ?_
    refine st_iconst hR dX7_readPart_73 (v := 5) rfl (pc' := 74) rfl ?_
    refine st_icmp_lt hR dX7_readPart_74 (tgt := 82) (by decide) (pc' := 77) rfl (fun c_ => ?_) (fun c_ => ?_)
    · have hM := it_t c_ hM
      exact J82 _ _ _ _ _ _ _ _ _ _ _ _ _ _ hM
    · have hM := it_f c_ hM
      refine st_aload_n hR dX7_readPart_77 0 rfl rfl (pc' := 78) rfl ?_
      refine st_iconst hR dX7_readPart_78 (v := 5) rfl (pc' := 79) rfl ?_
      obtain ⟨r_fault_1, hc_, hM⟩ := bd_e hM
      refine st_callV hR (k_X7_refuse hc_) cf_X7_99 (rm_le (by omega) (by decide)) [0, 1] rfl rfl rfl 0 0 6 4 rfl rfl rfl rfl (rest := []) rfl (Nat.le_of_ble_eq_true rfl) dX7_readPart_79 (pc' := 82) rfl (Wn := [wX7 G q_r (q_t 0) (q_mt 0) (q_la 0) r_fault_1, wX8 G q_t t_signs t_length t_at t_place t_word t_number t_sign t_end, wX5 G q_mt mt_farms mt_fences mt_shares mt_names mt_flock mt_dogs mt_hunger mt_fenced mt_heights mt_pacts mt_partner mt_often mt_toothed mt_feeding mt_going, wX3 G q_la la_kinds la_lefts la_rights la_values la_steps]) rfl ?_
      exact J82 _ _ _ _ _ _ _ _ _ _ _ _ _ _ hM
  have J43 : ∀ (r_fault : Int32) (t_at : Int32) (t_place : Int32) (t_word : Int64) (t_number : Int32) (t_sign : Int32) (t_end : Int32) (la_kinds : Nat → Int32) (la_lefts : Nat → Int32) (la_rights : Nat → Int32) (la_steps : Int32) (l1 : Int32) (l2 : Int32) (s0 : Int32), f_X7_readPart_B43 (f_X7_readPart n) t_signs t_length mt_feeding (q_la 0) r_fault t_at t_place t_word t_number t_sign t_end la_kinds la_lefts la_rights la_steps l1 l2 s0 = some (o_r, o_r_fault, o_t_at, o_t_place, o_t_word, o_t_number, o_t_sign, o_t_end, o_la_kinds, o_la_lefts, o_la_rights, o_la_steps) → K [wX7 G q_r (q_t 0) (q_mt 0) (q_la 0) r_fault, wX8 G q_t t_signs t_length t_at t_place t_word t_number t_sign t_end, wX5 G q_mt mt_farms mt_fences mt_shares mt_names mt_flock mt_dogs mt_hunger mt_fenced mt_heights mt_pacts mt_partner mt_often mt_toothed mt_feeding mt_going, wX3 G q_la la_kinds la_lefts la_rights la_values la_steps] [(0, .ref (q_r 0)), (1, .int l1), (2, .int l2)] 43 [.int s0] := by
    intro r_fault t_at t_place t_word t_number t_sign t_end la_kinds la_lefts la_rights la_steps l1 l2 s0 hM
    refine st_istore_n hR dX7_readPart_43 rfl (Nat.le_of_ble_eq_true rfl) [1, 2, 3, 0] (lv' := [(0, .ref (q_r 0)), (1, .int l1), (2, .int l2), (3, .int s0)]) rfl (pc' := 44) rfl ?_
    refine st_iload_n hR dX7_readPart_44 2 rfl rfl (pc' := 45) rfl ?_
    refine st_iconst hR dX7_readPart_45 (v := (-1)) (by decide) (pc' := 46) rfl ?_
    refine st_icmp_ne hR dX7_readPart_46 (tgt := 72) (by decide) (pc' := 49) rfl (fun c_ => ?_) (fun c_ => ?_)
    · have hM := it_f c_ hM
      exact J72 _ _ _ _ _ _ _ _ _ _ _ _ _ _ hM
    · have hM := it_t c_ hM
      refine st_aload_n hR dX7_readPart_49 0 rfl rfl (pc' := 50) rfl ?_
      refine st_get hR dX7_readPart_50 fg_X7_9_6_0 0 0 rfl rfl rfl (pc' := 53) rfl ?_
      refine st_get hR dX7_readPart_53 fg_X7_168_7_5 1 0 rfl rfl rfl (pc' := 56) rfl ?_
      refine st_iconst hR dX7_readPart_56 (v := (-1)) (by decide) (pc' := 57) rfl ?_
      refine st_icmp_ne hR dX7_readPart_57 (tgt := 72) (by decide) (pc' := 60) rfl (fun c_ => ?_) (fun c_ => ?_)
      · have hM := it_f c_ hM
        exact J72 _ _ _ _ _ _ _ _ _ _ _ _ _ _ hM
      · have hM := it_t c_ hM
        refine st_iload_n hR dX7_readPart_60 3 rfl rfl (pc' := 61) rfl ?_
        refine st_if_ne hR dX7_readPart_61 (tgt := 72) (by decide) (pc' := 64) rfl (fun c_ => ?_) (fun c_ => ?_)
        · have hM := it_f c_ hM
          exact J72 _ _ _ _ _ _ _ _ _ _ _ _ _ _ hM
        · have hM := it_t c_ hM
          refine st_aload_n hR dX7_readPart_64 0 rfl rfl (pc' := 65) rfl ?_
          refine st_iconst hR dX7_readPart_65 (v := 1) rfl (pc' := 66) rfl ?_
          obtain ⟨r_fault_1, hc_, hM⟩ := bd_e hM
          refine st_callV hR (k_X7_refuse hc_) cf_X7_99 (rm_le (by omega) (by decide)) [0, 1] rfl rfl rfl 0 0 6 4 rfl rfl rfl rfl (rest := []) rfl (Nat.le_of_ble_eq_true rfl) dX7_readPart_66 (pc' := 69) rfl (Wn := [wX7 G q_r (q_t 0) (q_mt 0) (q_la 0) r_fault_1, wX8 G q_t t_signs t_length t_at t_place t_word t_number t_sign t_end, wX5 G q_mt mt_farms mt_fences mt_shares mt_names mt_flock mt_dogs mt_hunger mt_fenced mt_heights mt_pacts mt_partner mt_often mt_toothed mt_feeding mt_going, wX3 G q_la la_kinds la_lefts la_rights la_values la_steps]) rfl ?_
          refine st_goto hR dX7_readPart_69 (tgt := 82) (by decide) ?_
          exact J82 _ _ _ _ _ _ _ _ _ _ _ _ _ _ hM
  have J38 : ∀ (r_fault : Int32) (t_at : Int32) (t_place : Int32) (t_word : Int64) (t_number : Int32) (t_sign : Int32) (t_end : Int32) (la_kinds : Nat → Int32) (la_lefts : Nat → Int32) (la_rights : Nat → Int32) (la_steps : Int32) (l1 : Int32) (l2 : Int32), f_X7_readPart_B38 (f_X7_readPart n) t_signs t_length mt_feeding (q_la 0) r_fault t_at t_place t_word t_number t_sign t_end la_kinds la_lefts la_rights la_steps l1 l2 = some (o_r, o_r_fault, o_t_at, o_t_place, o_t_word, o_t_number, o_t_sign, o_t_end, o_la_kinds, o_la_lefts, o_la_rights, o_la_steps) → K [wX7 G q_r (q_t 0) (q_mt 0) (q_la 0) r_fault, wX8 G q_t t_signs t_length t_at t_place t_word t_number t_sign t_end, wX5 G q_mt mt_farms mt_fences mt_shares mt_names mt_flock mt_dogs mt_hunger mt_fenced mt_heights mt_pacts mt_partner mt_often mt_toothed mt_feeding mt_going, wX3 G q_la la_kinds la_lefts la_rights la_values la_steps] [(0, .ref (q_r 0)), (1, .int l1), (2, .int l2)] 38 [] := by
    intro r_fault t_at t_place t_word t_number t_sign t_end la_kinds la_lefts la_rights la_steps l1 l2 hM
    refine st_iconst hR dX7_readPart_38 (v := 1) rfl (pc' := 39) rfl ?_
    refine st_goto hR dX7_readPart_39 (tgt := 43) (by decide) ?_
    exact J43 _ _ _ _ _ _ _ _ _ _ _ _ _ _ hM
  refine st_aload_n hR dX7_readPart_0 0 rfl rfl (pc' := 1) rfl ?_
  refine st_aload_n hR dX7_readPart_1 0 rfl rfl (pc' := 2) rfl ?_
  refine st_get hR dX7_readPart_2 fg_X7_9_6_0 0 0 rfl rfl rfl (pc' := 5) rfl ?_
  refine st_get hR dX7_readPart_5 fg_X7_62_7_4 1 0 rfl rfl rfl (pc' := 8) rfl ?_
  obtain ⟨r_1, hc_, hM⟩ := bd_e hM
  refine st_callV hR (k_X7_factOf hc_) cf_X7_204 (rm_le (by omega) (by decide)) [0, 2] rfl rfl rfl 0 0 6 4 rfl rfl rfl rfl (rest := []) rfl (Nat.le_of_ble_eq_true rfl) dX7_readPart_8 (pc' := 11) rfl (Wn := [wX7 G q_r (q_t 0) (q_mt 0) (q_la 0) r_fault, wX8 G q_t t_signs t_length t_at t_place t_word t_number t_sign t_end, wX5 G q_mt mt_farms mt_fences mt_shares mt_names mt_flock mt_dogs mt_hunger mt_fenced mt_heights mt_pacts mt_partner mt_often mt_toothed mt_feeding mt_going, wX3 G q_la la_kinds la_lefts la_rights la_values la_steps]) rfl ?_
  refine st_istore_n hR dX7_readPart_11 rfl (Nat.le_of_ble_eq_true rfl) [1, 2, 0] (lv' := [(0, .ref (q_r 0)), (1, .int l1), (2, .int r_1)]) rfl (pc' := 12) rfl ?_
  refine st_aload_n hR dX7_readPart_12 0 rfl rfl (pc' := 13) rfl ?_
  refine st_get hR dX7_readPart_13 fg_X7_9_6_0 0 0 rfl rfl rfl (pc' := 16) rfl ?_
  refine st_get hR dX7_readPart_16 fg_X7_62_7_4 1 0 rfl rfl rfl (pc' := 19) rfl ?_
  refine st_ldc2 hR (v := 7237492) cl_X7_207 dX7_readPart_19 (pc' := 22) rfl ?_
  refine st_lcmp hR dX7_readPart_22 (pc' := 23) rfl ?_
  refine st_if_eq hR dX7_readPart_23 (tgt := 38) (by decide) (pc' := 26) rfl (fun c_ => ?_) (fun c_ => ?_)
  · have hM := it_t c_ hM
    exact J38 _ _ _ _ _ _ _ _ _ _ _ _ _ hM
  · have hM := it_f c_ hM
    refine st_aload_n hR dX7_readPart_26 0 rfl rfl (pc' := 27) rfl ?_
    refine st_get hR dX7_readPart_27 fg_X7_9_6_0 0 0 rfl rfl rfl (pc' := 30) rfl ?_
    refine st_get hR dX7_readPart_30 fg_X7_194_7_6 1 0 rfl rfl rfl (pc' := 33) rfl ?_
    refine st_bipush hR dX7_readPart_33 (v := 40) rfl (pc' := 35) rfl ?_
    refine st_icmp_ne hR dX7_readPart_35 (tgt := 42) (by decide) (pc' := 38) rfl (fun c_ => ?_) (fun c_ => ?_)
    · have hM := it_f c_ hM
      refine st_iconst hR dX7_readPart_42 (v := 0) rfl (pc' := 43) rfl ?_
      exact J43 _ _ _ _ _ _ _ _ _ _ _ _ _ _ hM
    · have hM := it_t c_ hM
      exact J38 _ _ _ _ _ _ _ _ _ _ _ _ _ hM
theorem k_X7_readPart_a (l : Launch) (G : GG) : ∀ n, HR_X7_readPart l G n := by
  intro n
  induction n with
  | zero => intro q_r q_t q_mt q_la r_fault t_length t_at t_place t_number t_sign t_end mt_farms mt_fences mt_shares mt_toothed la_steps t_word t_signs mt_flock mt_dogs mt_hunger mt_fenced mt_heights mt_pacts mt_partner mt_often la_kinds la_lefts la_rights la_values mt_names mt_feeding mt_going l1 o_r o_r_fault o_t_at o_t_place o_t_word o_t_number o_t_sign o_t_end o_la_kinds o_la_lefts o_la_rights o_la_steps hM; exact no_some hM
  | succ n ih => intro q_r q_t q_mt q_la r_fault t_length t_at t_place t_number t_sign t_end mt_farms mt_fences mt_shares mt_toothed la_steps t_word t_signs mt_flock mt_dogs mt_hunger mt_fenced mt_heights mt_pacts mt_partner mt_often la_kinds la_lefts la_rights la_values mt_names mt_feeding mt_going l1 o_r o_r_fault o_t_at o_t_place o_t_word o_t_number o_t_sign o_t_end o_la_kinds o_la_lefts o_la_rights o_la_steps hM; exact k_X7_readPart_s ih hM
theorem k_X7_readPart {l : Launch} {G : GG} {q_r q_t q_mt q_la : Nat → Nat} {r_fault t_length t_at t_place t_number t_sign t_end mt_farms mt_fences mt_shares mt_toothed la_steps : Int32} {t_word : Int64} {t_signs mt_flock mt_dogs mt_hunger mt_fenced mt_heights mt_pacts mt_partner mt_often la_kinds la_lefts la_rights la_values : Nat → Int32} {mt_names : Nat → Int64} {mt_feeding mt_going : Nat} {l1 : Int32} {o_r : Int32} {o_r_fault : Int32} {o_t_at : Int32} {o_t_place : Int32} {o_t_word : Int64} {o_t_number : Int32} {o_t_sign : Int32} {o_t_end : Int32} {o_la_kinds : Nat → Int32} {o_la_lefts : Nat → Int32} {o_la_rights : Nat → Int32} {o_la_steps : Int32} (hM : f_X7_readPart RU t_signs t_length mt_feeding r_fault t_at t_place t_word t_number t_sign t_end la_kinds la_lefts la_rights la_steps (q_la 0) l1 = some (o_r, o_r_fault, o_t_at, o_t_place, o_t_word, o_t_number, o_t_sign, o_t_end, o_la_kinds, o_la_lefts, o_la_rights, o_la_steps)) : MC l G yX7_readPart cX7_readPart 5 (some .int) (RM (6 * RU + 10)) [.ref (q_r 0), .int l1] [wX7 G q_r (q_t 0) (q_mt 0) (q_la 0) r_fault, wX8 G q_t t_signs t_length t_at t_place t_word t_number t_sign t_end, wX5 G q_mt mt_farms mt_fences mt_shares mt_names mt_flock mt_dogs mt_hunger mt_fenced mt_heights mt_pacts mt_partner mt_often mt_toothed mt_feeding mt_going, wX3 G q_la la_kinds la_lefts la_rights la_values la_steps] (some (.int o_r)) [wX7 G q_r (q_t 0) (q_mt 0) (q_la 0) o_r_fault, wX8 G q_t t_signs t_length o_t_at o_t_place o_t_word o_t_number o_t_sign o_t_end, wX5 G q_mt mt_farms mt_fences mt_shares mt_names mt_flock mt_dogs mt_hunger mt_fenced mt_heights mt_pacts mt_partner mt_often mt_toothed mt_feeding mt_going, wX3 G q_la o_la_kinds o_la_lefts o_la_rights la_values o_la_steps] := k_X7_readPart_a l G RU hM
theorem k_X7_readProduct_c {l : Launch} {G : GG} {q_r q_t q_mt q_la : Nat → Nat} {r_fault t_length t_at t_place t_number t_sign t_end mt_farms mt_fences mt_shares mt_toothed la_steps : Int32} {t_word : Int64} {t_signs mt_flock mt_dogs mt_hunger mt_fenced mt_heights mt_pacts mt_partner mt_often la_kinds la_lefts la_rights la_values : Nat → Int32} {mt_names : Nat → Int64} {mt_feeding mt_going : Nat} {l1 : Int32} {o_r : Int32} {o_r_fault : Int32} {o_t_at : Int32} {o_t_place : Int32} {o_t_word : Int64} {o_t_number : Int32} {o_t_sign : Int32} {o_t_end : Int32} {o_la_kinds : Nat → Int32} {o_la_lefts : Nat → Int32} {o_la_rights : Nat → Int32} {o_la_steps : Int32} (hM : f_X7_readProduct (f_X7_readPart RU) t_signs t_length mt_feeding r_fault t_at t_place t_word t_number t_sign t_end la_kinds la_lefts la_rights la_steps (q_la 0) l1 = some (o_r, o_r_fault, o_t_at, o_t_place, o_t_word, o_t_number, o_t_sign, o_t_end, o_la_kinds, o_la_lefts, o_la_rights, o_la_steps)) : MC l G yX7_readProduct cX7_readProduct 5 (some .int) (RM (6 * RU + 11)) [.ref (q_r 0), .int l1] [wX7 G q_r (q_t 0) (q_mt 0) (q_la 0) r_fault, wX8 G q_t t_signs t_length t_at t_place t_word t_number t_sign t_end, wX5 G q_mt mt_farms mt_fences mt_shares mt_names mt_flock mt_dogs mt_hunger mt_fenced mt_heights mt_pacts mt_partner mt_often mt_toothed mt_feeding mt_going, wX3 G q_la la_kinds la_lefts la_rights la_values la_steps] (some (.int o_r)) [wX7 G q_r (q_t 0) (q_mt 0) (q_la 0) o_r_fault, wX8 G q_t t_signs t_length o_t_at o_t_place o_t_word o_t_number o_t_sign o_t_end, wX5 G q_mt mt_farms mt_fences mt_shares mt_names mt_flock mt_dogs mt_hunger mt_fenced mt_heights mt_pacts mt_partner mt_often mt_toothed mt_feeding mt_going, wX3 G q_la o_la_kinds o_la_lefts o_la_rights la_values o_la_steps] := k_X7_readProduct (k_X7_readPart_a l G RU) hM
theorem k_X7_readSum_c {l : Launch} {G : GG} {q_r q_t q_mt q_la : Nat → Nat} {r_fault t_length t_at t_place t_number t_sign t_end mt_farms mt_fences mt_shares mt_toothed la_steps : Int32} {t_word : Int64} {t_signs mt_flock mt_dogs mt_hunger mt_fenced mt_heights mt_pacts mt_partner mt_often la_kinds la_lefts la_rights la_values : Nat → Int32} {mt_names : Nat → Int64} {mt_feeding mt_going : Nat} {l1 : Int32} {o_r : Int32} {o_r_fault : Int32} {o_t_at : Int32} {o_t_place : Int32} {o_t_word : Int64} {o_t_number : Int32} {o_t_sign : Int32} {o_t_end : Int32} {o_la_kinds : Nat → Int32} {o_la_lefts : Nat → Int32} {o_la_rights : Nat → Int32} {o_la_steps : Int32} (hM : f_X7_readSum (f_X7_readPart RU) t_signs t_length mt_feeding r_fault t_at t_place t_word t_number t_sign t_end la_kinds la_lefts la_rights la_steps (q_la 0) l1 = some (o_r, o_r_fault, o_t_at, o_t_place, o_t_word, o_t_number, o_t_sign, o_t_end, o_la_kinds, o_la_lefts, o_la_rights, o_la_steps)) : MC l G yX7_readSum cX7_readSum 6 (some .int) (RM (6 * RU + 12)) [.ref (q_r 0), .int l1] [wX7 G q_r (q_t 0) (q_mt 0) (q_la 0) r_fault, wX8 G q_t t_signs t_length t_at t_place t_word t_number t_sign t_end, wX5 G q_mt mt_farms mt_fences mt_shares mt_names mt_flock mt_dogs mt_hunger mt_fenced mt_heights mt_pacts mt_partner mt_often mt_toothed mt_feeding mt_going, wX3 G q_la la_kinds la_lefts la_rights la_values la_steps] (some (.int o_r)) [wX7 G q_r (q_t 0) (q_mt 0) (q_la 0) o_r_fault, wX8 G q_t t_signs t_length o_t_at o_t_place o_t_word o_t_number o_t_sign o_t_end, wX5 G q_mt mt_farms mt_fences mt_shares mt_names mt_flock mt_dogs mt_hunger mt_fenced mt_heights mt_pacts mt_partner mt_often mt_toothed mt_feeding mt_going, wX3 G q_la o_la_kinds o_la_lefts o_la_rights la_values o_la_steps] := k_X7_readSum (k_X7_readPart_a l G RU) hM
theorem k_X7_readTest_c {l : Launch} {G : GG} {q_r q_t q_mt q_la : Nat → Nat} {r_fault t_length t_at t_place t_number t_sign t_end mt_farms mt_fences mt_shares mt_toothed la_steps : Int32} {t_word : Int64} {t_signs mt_flock mt_dogs mt_hunger mt_fenced mt_heights mt_pacts mt_partner mt_often la_kinds la_lefts la_rights la_values : Nat → Int32} {mt_names : Nat → Int64} {mt_feeding mt_going : Nat} {l1 : Int32} {o_r : Int32} {o_r_fault : Int32} {o_t_at : Int32} {o_t_place : Int32} {o_t_word : Int64} {o_t_number : Int32} {o_t_sign : Int32} {o_t_end : Int32} {o_la_kinds : Nat → Int32} {o_la_lefts : Nat → Int32} {o_la_rights : Nat → Int32} {o_la_steps : Int32} (hM : f_X7_readTest (f_X7_readPart RU) t_signs t_length mt_feeding r_fault t_at t_place t_word t_number t_sign t_end la_kinds la_lefts la_rights la_steps (q_la 0) l1 = some (o_r, o_r_fault, o_t_at, o_t_place, o_t_word, o_t_number, o_t_sign, o_t_end, o_la_kinds, o_la_lefts, o_la_rights, o_la_steps)) : MC l G yX7_readTest cX7_readTest 5 (some .int) (RM (6 * RU + 13)) [.ref (q_r 0), .int l1] [wX7 G q_r (q_t 0) (q_mt 0) (q_la 0) r_fault, wX8 G q_t t_signs t_length t_at t_place t_word t_number t_sign t_end, wX5 G q_mt mt_farms mt_fences mt_shares mt_names mt_flock mt_dogs mt_hunger mt_fenced mt_heights mt_pacts mt_partner mt_often mt_toothed mt_feeding mt_going, wX3 G q_la la_kinds la_lefts la_rights la_values la_steps] (some (.int o_r)) [wX7 G q_r (q_t 0) (q_mt 0) (q_la 0) o_r_fault, wX8 G q_t t_signs t_length o_t_at o_t_place o_t_word o_t_number o_t_sign o_t_end, wX5 G q_mt mt_farms mt_fences mt_shares mt_names mt_flock mt_dogs mt_hunger mt_fenced mt_heights mt_pacts mt_partner mt_often mt_toothed mt_feeding mt_going, wX3 G q_la o_la_kinds o_la_lefts o_la_rights la_values o_la_steps] := k_X7_readTest (k_X7_readPart_a l G RU) hM
theorem k_X7_readAll_c {l : Launch} {G : GG} {q_r q_t q_mt q_la : Nat → Nat} {r_fault t_length t_at t_place t_number t_sign t_end mt_farms mt_fences mt_shares mt_toothed la_steps : Int32} {t_word : Int64} {t_signs mt_flock mt_dogs mt_hunger mt_fenced mt_heights mt_pacts mt_partner mt_often la_kinds la_lefts la_rights la_values : Nat → Int32} {mt_names : Nat → Int64} {mt_feeding mt_going : Nat} {l1 : Int32} {o_r : Int32} {o_r_fault : Int32} {o_t_at : Int32} {o_t_place : Int32} {o_t_word : Int64} {o_t_number : Int32} {o_t_sign : Int32} {o_t_end : Int32} {o_la_kinds : Nat → Int32} {o_la_lefts : Nat → Int32} {o_la_rights : Nat → Int32} {o_la_steps : Int32} (hM : f_X7_readAll (f_X7_readPart RU) t_signs t_length mt_feeding r_fault t_at t_place t_word t_number t_sign t_end la_kinds la_lefts la_rights la_steps (q_la 0) l1 = some (o_r, o_r_fault, o_t_at, o_t_place, o_t_word, o_t_number, o_t_sign, o_t_end, o_la_kinds, o_la_lefts, o_la_rights, o_la_steps)) : MC l G yX7_readAll cX7_readAll 7 (some .int) (RM (6 * RU + 14)) [.ref (q_r 0), .int l1] [wX7 G q_r (q_t 0) (q_mt 0) (q_la 0) r_fault, wX8 G q_t t_signs t_length t_at t_place t_word t_number t_sign t_end, wX5 G q_mt mt_farms mt_fences mt_shares mt_names mt_flock mt_dogs mt_hunger mt_fenced mt_heights mt_pacts mt_partner mt_often mt_toothed mt_feeding mt_going, wX3 G q_la la_kinds la_lefts la_rights la_values la_steps] (some (.int o_r)) [wX7 G q_r (q_t 0) (q_mt 0) (q_la 0) o_r_fault, wX8 G q_t t_signs t_length o_t_at o_t_place o_t_word o_t_number o_t_sign o_t_end, wX5 G q_mt mt_farms mt_fences mt_shares mt_names mt_flock mt_dogs mt_hunger mt_fenced mt_heights mt_pacts mt_partner mt_often mt_toothed mt_feeding mt_going, wX3 G q_la o_la_kinds o_la_lefts o_la_rights la_values o_la_steps] := k_X7_readAll (k_X7_readPart_a l G RU) hM
theorem k_X7_readInner_c {l : Launch} {G : GG} {q_r q_t q_mt q_la : Nat → Nat} {r_fault t_length t_at t_place t_number t_sign t_end mt_farms mt_fences mt_shares mt_toothed la_steps : Int32} {t_word : Int64} {t_signs mt_flock mt_dogs mt_hunger mt_fenced mt_heights mt_pacts mt_partner mt_often la_kinds la_lefts la_rights la_values : Nat → Int32} {mt_names : Nat → Int64} {mt_feeding mt_going : Nat} {l1 : Int32} {o_r : Int32} {o_r_fault : Int32} {o_t_at : Int32} {o_t_place : Int32} {o_t_word : Int64} {o_t_number : Int32} {o_t_sign : Int32} {o_t_end : Int32} {o_la_kinds : Nat → Int32} {o_la_lefts : Nat → Int32} {o_la_rights : Nat → Int32} {o_la_steps : Int32} (hM : f_X7_readInner (f_X7_readPart RU) t_signs t_length mt_feeding r_fault t_at t_place t_word t_number t_sign t_end la_kinds la_lefts la_rights la_steps (q_la 0) l1 = some (o_r, o_r_fault, o_t_at, o_t_place, o_t_word, o_t_number, o_t_sign, o_t_end, o_la_kinds, o_la_lefts, o_la_rights, o_la_steps)) : MC l G yX7_readInner cX7_readInner 4 (some .int) (RM (6 * RU + 15)) [.ref (q_r 0), .int l1] [wX7 G q_r (q_t 0) (q_mt 0) (q_la 0) r_fault, wX8 G q_t t_signs t_length t_at t_place t_word t_number t_sign t_end, wX5 G q_mt mt_farms mt_fences mt_shares mt_names mt_flock mt_dogs mt_hunger mt_fenced mt_heights mt_pacts mt_partner mt_often mt_toothed mt_feeding mt_going, wX3 G q_la la_kinds la_lefts la_rights la_values la_steps] (some (.int o_r)) [wX7 G q_r (q_t 0) (q_mt 0) (q_la 0) o_r_fault, wX8 G q_t t_signs t_length o_t_at o_t_place o_t_word o_t_number o_t_sign o_t_end, wX5 G q_mt mt_farms mt_fences mt_shares mt_names mt_flock mt_dogs mt_hunger mt_fenced mt_heights mt_pacts mt_partner mt_often mt_toothed mt_feeding mt_going, wX3 G q_la o_la_kinds o_la_lefts o_la_rights la_values o_la_steps] := k_X7_readInner (k_X7_readPart_a l G RU) hM
set_option maxHeartbeats 16000000 in
set_option maxRecDepth 100000 in
theorem k_X7_readLaw {l : Launch} {G : GG} {q_r q_t q_mt q_la : Nat → Nat} {r_fault t_length t_at t_place t_number t_sign t_end mt_farms mt_fences mt_shares mt_toothed la_steps : Int32} {t_word : Int64} {t_signs mt_flock mt_dogs mt_hunger mt_fenced mt_heights mt_pacts mt_partner mt_often la_kinds la_lefts la_rights la_values : Nat → Int32} {mt_names : Nat → Int64} {r_law mt_feeding mt_going : Nat}  {o_r_fault : Int32} {o_t_at : Int32} {o_t_place : Int32} {o_t_word : Int64} {o_t_number : Int32} {o_t_sign : Int32} {o_t_end : Int32} {o_la_kinds : Nat → Int32} {o_la_lefts : Nat → Int32} {o_la_rights : Nat → Int32} {o_la_steps : Int32} (hM : f_X7_readLaw t_signs t_length mt_feeding r_fault t_at t_place t_word t_number t_sign t_end la_kinds la_lefts la_rights la_steps (q_la 0) = some (o_r_fault, o_t_at, o_t_place, o_t_word, o_t_number, o_t_sign, o_t_end, o_la_kinds, o_la_lefts, o_la_rights, o_la_steps)) : MC l G yX7_readLaw cX7_readLaw 2 none (RM 75) [.ref (q_r 0), .ref (q_la 0)] [wX7 G q_r (q_t 0) (q_mt 0) r_law r_fault, wX8 G q_t t_signs t_length t_at t_place t_word t_number t_sign t_end, wX5 G q_mt mt_farms mt_fences mt_shares mt_names mt_flock mt_dogs mt_hunger mt_fenced mt_heights mt_pacts mt_partner mt_often mt_toothed mt_feeding mt_going, wX3 G q_la la_kinds la_lefts la_rights la_values la_steps] none [wX7 G q_r (q_t 0) (q_mt 0) (q_la 0) o_r_fault, wX8 G q_t t_signs t_length o_t_at o_t_place o_t_word o_t_number o_t_sign o_t_end, wX5 G q_mt mt_farms mt_fences mt_shares mt_names mt_flock mt_dogs mt_hunger mt_fenced mt_heights mt_pacts mt_partner mt_often mt_toothed mt_feeding mt_going, wX3 G q_la o_la_kinds o_la_lefts o_la_rights la_values o_la_steps] := by
  refine MC.of pn_X7 (Nat.le_of_ble_eq_true rfl) (fun K hR hret => ?_)
  have hR : Rl l G RX7 cX7_readLaw 2 (RM 75) K := hR
  show K [wX7 G q_r (q_t 0) (q_mt 0) r_law r_fault, wX8 G q_t t_signs t_length t_at t_place t_word t_number t_sign t_end, wX5 G q_mt mt_farms mt_fences mt_shares mt_names mt_flock mt_dogs mt_hunger mt_fenced mt_heights mt_pacts mt_partner mt_often mt_toothed mt_feeding mt_going, wX3 G q_la la_kinds la_lefts la_rights la_values la_steps] [(0, .ref (q_r 0)), (1, .ref (q_la 0))] 0 []
  have J12 : ∀ (r_fault : Int32) (t_at : Int32) (t_place : Int32) (t_word : Int64) (t_number : Int32) (t_sign : Int32) (t_end : Int32) (la_kinds : Nat → Int32) (la_lefts : Nat → Int32) (la_rights : Nat → Int32) (la_steps : Int32), f_X7_readLaw_B12  t_signs t_length mt_feeding (q_la 0) r_fault t_at t_place t_word t_number t_sign t_end la_kinds la_lefts la_rights la_steps = some (o_r_fault, o_t_at, o_t_place, o_t_word, o_t_number, o_t_sign, o_t_end, o_la_kinds, o_la_lefts, o_la_rights, o_la_steps) → K [wX7 G q_r (q_t 0) (q_mt 0) r_law r_fault, wX8 G q_t t_signs t_length t_at t_place t_word t_number t_sign t_end, wX5 G q_mt mt_farms mt_fences mt_shares mt_names mt_flock mt_dogs mt_hunger mt_fenced mt_heights mt_pacts mt_partner mt_often mt_toothed mt_feeding mt_going, wX3 G q_la la_kinds la_lefts la_rights la_values la_steps] [(0, .ref (q_r 0)), (1, .ref (q_la 0))] 12 [] := by
    intro r_fault t_at t_place t_word t_number t_sign t_end la_kinds la_lefts la_rights la_steps hM
    refine st_aload_n hR dX7_readLaw_12 0 rfl rfl (pc' := 13) rfl ?_
    refine st_get hR dX7_readLaw_13 fg_X7_9_6_0 0 0 rfl rfl rfl (pc' := 16) rfl ?_
    obtain ⟨⟨t_at_1, t_place_1, t_word_1, t_number_1, t_sign_1, t_end_1⟩, hc_, hM⟩ := bd_e hM
    refine st_callV hR (k_X8_next hc_) cf_X7_106 (rm_le (Nat.le_of_ble_eq_true rfl) (Nat.le_of_ble_eq_true rfl)) [1] rfl rfl rfl 1 0 7 8 rfl rfl rfl rfl (rest := []) rfl (Nat.le_of_ble_eq_true rfl) dX7_readLaw_16 (pc' := 19) rfl (Wn := [wX7 G q_r (q_t 0) (q_mt 0) r_law r_fault, wX8 G q_t t_signs t_length t_at_1 t_place_1 t_word_1 t_number_1 t_sign_1 t_end_1, wX5 G q_mt mt_farms mt_fences mt_shares mt_names mt_flock mt_dogs mt_hunger mt_fenced mt_heights mt_pacts mt_partner mt_often mt_toothed mt_feeding mt_going, wX3 G q_la la_kinds la_lefts la_rights la_values la_steps]) rfl ?_
    refine st_aload_n hR dX7_readLaw_19 0 rfl rfl (pc' := 20) rfl ?_
    refine st_aload_n hR dX7_readLaw_20 1 rfl rfl (pc' := 21) rfl ?_
    refine st_put hR dX7_readLaw_21 fp_X7_25_6_2 0 0 rfl rfl (Nat.le_of_ble_eq_true rfl) rfl rfl (pc' := 24) rfl (W' := [wX7 G q_r (q_t 0) (q_mt 0) (q_la 0) r_fault, wX8 G q_t t_signs t_length t_at_1 t_place_1 t_word_1 t_number_1 t_sign_1 t_end_1, wX5 G q_mt mt_farms mt_fences mt_shares mt_names mt_flock mt_dogs mt_hunger mt_fenced mt_heights mt_pacts mt_partner mt_often mt_toothed mt_feeding mt_going, wX3 G q_la la_kinds la_lefts la_rights la_values la_steps]) rfl ?_
    refine st_aload_n hR dX7_readLaw_24 0 rfl rfl (pc' := 25) rfl ?_
    refine st_iconst hR dX7_readLaw_25 (v := 0) rfl (pc' := 26) rfl ?_
    obtain ⟨⟨r_1, r_fault_1, t_at_2, t_place_2, t_word_2, t_number_2, t_sign_2, t_end_2, la_kinds_1, la_lefts_1, la_rights_1, la_steps_1⟩, hc_, hM⟩ := bd_e hM
    refine st_callV hR (k_X7_readAll_c hc_) cf_X7_177 (rm_le (Nat.le_of_ble_eq_true rfl) (Nat.le_of_ble_eq_true rfl)) [0, 1, 2, 3] rfl rfl rfl 0 0 6 4 rfl rfl rfl rfl (rest := []) rfl (Nat.le_of_ble_eq_true rfl) dX7_readLaw_26 (pc' := 29) rfl (Wn := [wX7 G q_r (q_t 0) (q_mt 0) (q_la 0) r_fault_1, wX8 G q_t t_signs t_length t_at_2 t_place_2 t_word_2 t_number_2 t_sign_2 t_end_2, wX5 G q_mt mt_farms mt_fences mt_shares mt_names mt_flock mt_dogs mt_hunger mt_fenced mt_heights mt_pacts mt_partner mt_often mt_toothed mt_feeding mt_going, wX3 G q_la la_kinds_1 la_lefts_1 la_rights_1 la_values la_steps_1]) rfl ?_
    refine st_pop hR dX7_readLaw_29 (pc' := 30) rfl rfl ?_
    refine st_aload_n hR dX7_readLaw_30 0 rfl rfl (pc' := 31) rfl ?_
    refine st_bipush hR dX7_readLaw_31 (v := 59) rfl (pc' := 33) rfl ?_
    obtain ⟨⟨r_fault_2, t_at_3, t_place_3, t_word_3, t_number_3, t_sign_3, t_end_3⟩, hc_, hM⟩ := bd_e hM
    refine st_callV hR (k_X7_readSign hc_) cf_X7_130 (rm_le (Nat.le_of_ble_eq_true rfl) (Nat.le_of_ble_eq_true rfl)) [0, 1] rfl rfl rfl 0 0 6 4 rfl rfl rfl rfl (rest := []) rfl (Nat.le_of_ble_eq_true rfl) dX7_readLaw_33 (pc' := 36) rfl (Wn := [wX7 G q_r (q_t 0) (q_mt 0) (q_la 0) r_fault_2, wX8 G q_t t_signs t_length t_at_3 t_place_3 t_word_3 t_number_3 t_sign_3 t_end_3, wX5 G q_mt mt_farms mt_fences mt_shares mt_names mt_flock mt_dogs mt_hunger mt_fenced mt_heights mt_pacts mt_partner mt_often mt_toothed mt_feeding mt_going, wX3 G q_la la_kinds_1 la_lefts_1 la_rights_1 la_values la_steps_1]) rfl ?_
    cases hM
    exact hret _ _ dX7_readLaw_36 ro_v
  refine st_aload_n hR dX7_readLaw_0 1 rfl rfl (pc' := 1) rfl ?_
  refine st_get hR dX7_readLaw_1 fg_X7_47_3_4 3 0 rfl rfl rfl (pc' := 4) rfl ?_
  refine st_if_le hR dX7_readLaw_4 (tgt := 12) (by decide) (pc' := 7) rfl (fun c_ => ?_) (fun c_ => ?_)
  · have hM := it_t c_ hM
    exact J12 _ _ _ _ _ _ _ _ _ _ _ hM
  · have hM := it_f c_ hM
    refine st_aload_n hR dX7_readLaw_7 0 rfl rfl (pc' := 8) rfl ?_
    refine st_iconst hR dX7_readLaw_8 (v := 3) rfl (pc' := 9) rfl ?_
    obtain ⟨r_fault_1, hc_, hM⟩ := bd_e hM
    refine st_callV hR (k_X7_refuse hc_) cf_X7_99 (rm_le (Nat.le_of_ble_eq_true rfl) (Nat.le_of_ble_eq_true rfl)) [0, 1] rfl rfl rfl 0 0 6 4 rfl rfl rfl rfl (rest := []) rfl (Nat.le_of_ble_eq_true rfl) dX7_readLaw_9 (pc' := 12) rfl (Wn := [wX7 G q_r (q_t 0) (q_mt 0) r_law r_fault_1, wX8 G q_t t_signs t_length t_at t_place t_word t_number t_sign t_end, wX5 G q_mt mt_farms mt_fences mt_shares mt_names mt_flock mt_dogs mt_hunger mt_fenced mt_heights mt_pacts mt_partner mt_often mt_toothed mt_feeding mt_going, wX3 G q_la la_kinds la_lefts la_rights la_values la_steps]) rfl ?_
    exact J12 _ _ _ _ _ _ _ _ _ _ _ hM
set_option maxHeartbeats 16000000 in
set_option maxRecDepth 100000 in
theorem k_X7_readFarm {l : Launch} {G : GG} {q_r q_t q_mt : Nat → Nat} {r_fault t_length t_at t_place t_number t_sign t_end mt_farms mt_fences mt_shares mt_toothed : Int32} {t_word : Int64} {t_signs mt_flock mt_dogs mt_hunger mt_fenced mt_heights mt_pacts mt_partner mt_often : Nat → Int32} {mt_names : Nat → Int64} {r_law mt_feeding mt_going : Nat}  {o_r_fault : Int32} {o_t_at : Int32} {o_t_place : Int32} {o_t_word : Int64} {o_t_number : Int32} {o_t_sign : Int32} {o_t_end : Int32} {o_mt_farms : Int32} {o_mt_names : Nat → Int64} {o_mt_flock : Nat → Int32} {o_mt_dogs : Nat → Int32} {o_mt_hunger : Nat → Int32} (hM : f_X7_readFarm t_signs t_length r_fault t_at t_place t_word t_number t_sign t_end mt_farms mt_names mt_flock mt_dogs mt_hunger = some (o_r_fault, o_t_at, o_t_place, o_t_word, o_t_number, o_t_sign, o_t_end, o_mt_farms, o_mt_names, o_mt_flock, o_mt_dogs, o_mt_hunger)) : MC l G yX7_readFarm cX7_readFarm 6 none (RM 2) [.ref (q_r 0)] [wX7 G q_r (q_t 0) (q_mt 0) r_law r_fault, wX8 G q_t t_signs t_length t_at t_place t_word t_number t_sign t_end, wX5 G q_mt mt_farms mt_fences mt_shares mt_names mt_flock mt_dogs mt_hunger mt_fenced mt_heights mt_pacts mt_partner mt_often mt_toothed mt_feeding mt_going] none [wX7 G q_r (q_t 0) (q_mt 0) r_law o_r_fault, wX8 G q_t t_signs t_length o_t_at o_t_place o_t_word o_t_number o_t_sign o_t_end, wX5 G q_mt o_mt_farms mt_fences mt_shares o_mt_names o_mt_flock o_mt_dogs o_mt_hunger mt_fenced mt_heights mt_pacts mt_partner mt_often mt_toothed mt_feeding mt_going] := by
  refine MC.of pn_X7 (Nat.le_of_ble_eq_true rfl) (fun K hR hret => ?_)
  have hR : Rl l G RX7 cX7_readFarm 6 (RM 2) K := hR
  show K [wX7 G q_r (q_t 0) (q_mt 0) r_law r_fault, wX8 G q_t t_signs t_length t_at t_place t_word t_number t_sign t_end, wX5 G q_mt mt_farms mt_fences mt_shares mt_names mt_flock mt_dogs mt_hunger mt_fenced mt_heights mt_pacts mt_partner mt_often mt_toothed mt_feeding mt_going] [(0, .ref (q_r 0))] 0 []
  have J64 : ∀ (r_fault : Int32) (t_at : Int32) (t_place : Int32) (t_word : Int64) (t_number : Int32) (t_sign : Int32) (t_end : Int32) (mt_farms : Int32) (mt_names : Nat → Int64) (mt_flock : Nat → Int32) (mt_dogs : Nat → Int32) (mt_hunger : Nat → Int32) (l1 : Int64), f_X7_readFarm_B64  t_signs t_length r_fault t_at t_place t_word t_number t_sign t_end mt_farms mt_names mt_flock mt_dogs mt_hunger l1 = some (o_r_fault, o_t_at, o_t_place, o_t_word, o_t_number, o_t_sign, o_t_end, o_mt_farms, o_mt_names, o_mt_flock, o_mt_dogs, o_mt_hunger) → K [wX7 G q_r (q_t 0) (q_mt 0) r_law r_fault, wX8 G q_t t_signs t_length t_at t_place t_word t_number t_sign t_end, wX5 G q_mt mt_farms mt_fences mt_shares mt_names mt_flock mt_dogs mt_hunger mt_fenced mt_heights mt_pacts mt_partner mt_often mt_toothed mt_feeding mt_going] [(0, .ref (q_r 0)), (1, .long l1)] 64 [] := by
    intro r_fault t_at t_place t_word t_number t_sign t_end mt_farms mt_names mt_flock mt_dogs mt_hunger l1 hM
    refine st_aload_n hR dX7_readFarm_64 0 rfl rfl (pc' := 65) rfl ?_
    refine st_get hR dX7_readFarm_65 fg_X7_9_6_0 0 0 rfl rfl rfl (pc' := 68) rfl ?_
    obtain ⟨⟨t_at_1, t_place_1, t_word_1, t_number_1, t_sign_1, t_end_1⟩, hc_, hM⟩ := bd_e hM
    refine st_callV hR (k_X8_next hc_) cf_X7_106 (rm_le (Nat.le_of_ble_eq_true rfl) (Nat.le_of_ble_eq_true rfl)) [1] rfl rfl rfl 1 0 7 8 rfl rfl rfl rfl (rest := []) rfl (Nat.le_of_ble_eq_true rfl) dX7_readFarm_68 (pc' := 71) rfl (Wn := [wX7 G q_r (q_t 0) (q_mt 0) r_law r_fault, wX8 G q_t t_signs t_length t_at_1 t_place_1 t_word_1 t_number_1 t_sign_1 t_end_1, wX5 G q_mt mt_farms mt_fences mt_shares mt_names mt_flock mt_dogs mt_hunger mt_fenced mt_heights mt_pacts mt_partner mt_often mt_toothed mt_feeding mt_going]) rfl ?_
    refine st_aload_n hR dX7_readFarm_71 0 rfl rfl (pc' := 72) rfl ?_
    refine st_ldc2 hR (v := 439905903467) cl_X7_117 dX7_readFarm_72 (pc' := 75) rfl ?_
    obtain ⟨⟨r_fault_1, t_at_2, t_place_2, t_word_2, t_number_2, t_sign_2, t_end_2⟩, hc_, hM⟩ := bd_e hM
    refine st_callV hR (k_X7_readWord hc_) cf_X7_119 (rm_le (Nat.le_of_ble_eq_true rfl) (Nat.le_of_ble_eq_true rfl)) [0, 1] rfl rfl rfl 0 0 6 4 rfl rfl rfl rfl (rest := []) rfl (Nat.le_of_ble_eq_true rfl) dX7_readFarm_75 (pc' := 78) rfl (Wn := [wX7 G q_r (q_t 0) (q_mt 0) r_law r_fault_1, wX8 G q_t t_signs t_length t_at_2 t_place_2 t_word_2 t_number_2 t_sign_2 t_end_2, wX5 G q_mt mt_farms mt_fences mt_shares mt_names mt_flock mt_dogs mt_hunger mt_fenced mt_heights mt_pacts mt_partner mt_often mt_toothed mt_feeding mt_going]) rfl ?_
    refine st_aload_n hR dX7_readFarm_78 0 rfl rfl (pc' := 79) rfl ?_
    refine st_sipush hR dX7_readFarm_79 (v := 9999) rfl (pc' := 82) rfl ?_
    obtain ⟨⟨r_1, r_fault_2, t_at_3, t_place_3, t_word_3, t_number_3, t_sign_3, t_end_3⟩, hc_, hM⟩ := bd_e hM
    refine st_callV hR (k_X7_readNumber hc_) cf_X7_123 (rm_le (Nat.le_of_ble_eq_true rfl) (Nat.le_of_ble_eq_true rfl)) [0, 1] rfl rfl rfl 0 0 6 4 rfl rfl rfl rfl (rest := []) rfl (Nat.le_of_ble_eq_true rfl) dX7_readFarm_82 (pc' := 85) rfl (Wn := [wX7 G q_r (q_t 0) (q_mt 0) r_law r_fault_2, wX8 G q_t t_signs t_length t_at_3 t_place_3 t_word_3 t_number_3 t_sign_3 t_end_3, wX5 G q_mt mt_farms mt_fences mt_shares mt_names mt_flock mt_dogs mt_hunger mt_fenced mt_heights mt_pacts mt_partner mt_often mt_toothed mt_feeding mt_going]) rfl ?_
    refine st_istore_n hR dX7_readFarm_85 rfl (Nat.le_of_ble_eq_true rfl) [1, 2, 0] (lv' := [(0, .ref (q_r 0)), (1, .long l1), (3, .int r_1)]) rfl (pc' := 86) rfl ?_
    refine st_aload_n hR dX7_readFarm_86 0 rfl rfl (pc' := 87) rfl ?_
    refine st_ldc2 hR (v := 1685022579) cl_X7_126 dX7_readFarm_87 (pc' := 90) rfl ?_
    obtain ⟨⟨r_fault_3, t_at_4, t_place_4, t_word_4, t_number_4, t_sign_4, t_end_4⟩, hc_, hM⟩ := bd_e hM
    refine st_callV hR (k_X7_readWord hc_) cf_X7_119 (rm_le (Nat.le_of_ble_eq_true rfl) (Nat.le_of_ble_eq_true rfl)) [0, 1] rfl rfl rfl 0 0 6 4 rfl rfl rfl rfl (rest := []) rfl (Nat.le_of_ble_eq_true rfl) dX7_readFarm_90 (pc' := 93) rfl (Wn := [wX7 G q_r (q_t 0) (q_mt 0) r_law r_fault_3, wX8 G q_t t_signs t_length t_at_4 t_place_4 t_word_4 t_number_4 t_sign_4 t_end_4, wX5 G q_mt mt_farms mt_fences mt_shares mt_names mt_flock mt_dogs mt_hunger mt_fenced mt_heights mt_pacts mt_partner mt_often mt_toothed mt_feeding mt_going]) rfl ?_
    refine st_aload_n hR dX7_readFarm_93 0 rfl rfl (pc' := 94) rfl ?_
    refine st_bipush hR dX7_readFarm_94 (v := 9) rfl (pc' := 96) rfl ?_
    obtain ⟨⟨r_2, r_fault_4, t_at_5, t_place_5, t_word_5, t_number_5, t_sign_5, t_end_5⟩, hc_, hM⟩ := bd_e hM
    refine st_callV hR (k_X7_readNumber hc_) cf_X7_123 (rm_le (Nat.le_of_ble_eq_true rfl) (Nat.le_of_ble_eq_true rfl)) [0, 1] rfl rfl rfl 0 0 6 4 rfl rfl rfl rfl (rest := []) rfl (Nat.le_of_ble_eq_true rfl) dX7_readFarm_96 (pc' := 99) rfl (Wn := [wX7 G q_r (q_t 0) (q_mt 0) r_law r_fault_4, wX8 G q_t t_signs t_length t_at_5 t_place_5 t_word_5 t_number_5 t_sign_5 t_end_5, wX5 G q_mt mt_farms mt_fences mt_shares mt_names mt_flock mt_dogs mt_hunger mt_fenced mt_heights mt_pacts mt_partner mt_often mt_toothed mt_feeding mt_going]) rfl ?_
    refine st_istore hR dX7_readFarm_99 (Nat.le_of_ble_eq_true rfl) [1, 2, 3, 0] (lv' := [(0, .ref (q_r 0)), (1, .long l1), (3, .int r_1), (4, .int r_2)]) rfl (pc' := 101) rfl ?_
    refine st_aload_n hR dX7_readFarm_101 0 rfl rfl (pc' := 102) rfl ?_
    refine st_ldc2 hR (v := 2003790950) cl_X7_128 dX7_readFarm_102 (pc' := 105) rfl ?_
    obtain ⟨⟨r_fault_5, t_at_6, t_place_6, t_word_6, t_number_6, t_sign_6, t_end_6⟩, hc_, hM⟩ := bd_e hM
    refine st_callV hR (k_X7_readWord hc_) cf_X7_119 (rm_le (Nat.le_of_ble_eq_true rfl) (Nat.le_of_ble_eq_true rfl)) [0, 1] rfl rfl rfl 0 0 6 4 rfl rfl rfl rfl (rest := []) rfl (Nat.le_of_ble_eq_true rfl) dX7_readFarm_105 (pc' := 108) rfl (Wn := [wX7 G q_r (q_t 0) (q_mt 0) r_law r_fault_5, wX8 G q_t t_signs t_length t_at_6 t_place_6 t_word_6 t_number_6 t_sign_6 t_end_6, wX5 G q_mt mt_farms mt_fences mt_shares mt_names mt_flock mt_dogs mt_hunger mt_fenced mt_heights mt_pacts mt_partner mt_often mt_toothed mt_feeding mt_going]) rfl ?_
    refine st_aload_n hR dX7_readFarm_108 0 rfl rfl (pc' := 109) rfl ?_
    refine st_bipush hR dX7_readFarm_109 (v := 99) rfl (pc' := 111) rfl ?_
    obtain ⟨⟨r_3, r_fault_6, t_at_7, t_place_7, t_word_7, t_number_7, t_sign_7, t_end_7⟩, hc_, hM⟩ := bd_e hM
    refine st_callV hR (k_X7_readNumber hc_) cf_X7_123 (rm_le (Nat.le_of_ble_eq_true rfl) (Nat.le_of_ble_eq_true rfl)) [0, 1] rfl rfl rfl 0 0 6 4 rfl rfl rfl rfl (rest := []) rfl (Nat.le_of_ble_eq_true rfl) dX7_readFarm_111 (pc' := 114) rfl (Wn := [wX7 G q_r (q_t 0) (q_mt 0) r_law r_fault_6, wX8 G q_t t_signs t_length t_at_7 t_place_7 t_word_7 t_number_7 t_sign_7 t_end_7, wX5 G q_mt mt_farms mt_fences mt_shares mt_names mt_flock mt_dogs mt_hunger mt_fenced mt_heights mt_pacts mt_partner mt_often mt_toothed mt_feeding mt_going]) rfl ?_
    refine st_istore hR dX7_readFarm_114 (Nat.le_of_ble_eq_true rfl) [1, 2, 3, 4, 0] (lv' := [(0, .ref (q_r 0)), (1, .long l1), (3, .int r_1), (4, .int r_2), (5, .int r_3)]) rfl (pc' := 116) rfl ?_
    refine st_aload_n hR dX7_readFarm_116 0 rfl rfl (pc' := 117) rfl ?_
    refine st_bipush hR dX7_readFarm_117 (v := 59) rfl (pc' := 119) rfl ?_
    obtain ⟨⟨r_fault_7, t_at_8, t_place_8, t_word_8, t_number_8, t_sign_8, t_end_8⟩, hc_, hM⟩ := bd_e hM
    refine st_callV hR (k_X7_readSign hc_) cf_X7_130 (rm_le (Nat.le_of_ble_eq_true rfl) (Nat.le_of_ble_eq_true rfl)) [0, 1] rfl rfl rfl 0 0 6 4 rfl rfl rfl rfl (rest := []) rfl (Nat.le_of_ble_eq_true rfl) dX7_readFarm_119 (pc' := 122) rfl (Wn := [wX7 G q_r (q_t 0) (q_mt 0) r_law r_fault_7, wX8 G q_t t_signs t_length t_at_8 t_place_8 t_word_8 t_number_8 t_sign_8 t_end_8, wX5 G q_mt mt_farms mt_fences mt_shares mt_names mt_flock mt_dogs mt_hunger mt_fenced mt_heights mt_pacts mt_partner mt_often mt_toothed mt_feeding mt_going]) rfl ?_
    refine st_aload_n hR dX7_readFarm_122 0 rfl rfl (pc' := 123) rfl ?_
    refine st_get hR dX7_readFarm_123 fg_X7_31_6_3 0 0 rfl rfl rfl (pc' := 126) rfl ?_
    refine st_if_ne hR dX7_readFarm_126 (tgt := 142) (by decide) (pc' := 129) rfl (fun c_ => ?_) (fun c_ => ?_)
    · have hM := it_f c_ hM
      cases hM
      exact hret _ _ dX7_readFarm_142 ro_v
    · have hM := it_t c_ hM
      refine st_aload_n hR dX7_readFarm_129 0 rfl rfl (pc' := 130) rfl ?_
      refine st_get hR dX7_readFarm_130 fg_X7_15_6_1 0 0 rfl rfl rfl (pc' := 133) rfl ?_
      refine st_lload_n hR dX7_readFarm_133 1 rfl rfl (pc' := 134) rfl ?_
      refine st_iload_n hR dX7_readFarm_134 2 rfl rfl (pc' := 135) rfl ?_
      refine st_iload hR dX7_readFarm_135 3 rfl (pc' := 137) rfl ?_
      refine st_iload hR dX7_readFarm_137 4 rfl (pc' := 139) rfl ?_
      obtain ⟨⟨mt_farms_1, mt_names_1, mt_flock_1, mt_dogs_1, mt_hunger_1⟩, hc_, hM⟩ := bd_e hM
      refine st_callV hR (k_X5_addFarm hc_) cf_X7_134 (rm_le (Nat.le_of_ble_eq_true rfl) (Nat.le_of_ble_eq_true rfl)) [2] rfl rfl rfl 2 0 5 15 rfl rfl rfl rfl (rest := []) rfl (Nat.le_of_ble_eq_true rfl) dX7_readFarm_139 (pc' := 142) rfl (Wn := [wX7 G q_r (q_t 0) (q_mt 0) r_law r_fault_7, wX8 G q_t t_signs t_length t_at_8 t_place_8 t_word_8 t_number_8 t_sign_8 t_end_8, wX5 G q_mt mt_farms_1 mt_fences mt_shares mt_names_1 mt_flock_1 mt_dogs_1 mt_hunger_1 mt_fenced mt_heights mt_pacts mt_partner mt_often mt_toothed mt_feeding mt_going]) rfl ?_
      cases hM
      exact hret _ _ dX7_readFarm_142 ro_v
  have J17 : ∀ (r_fault : Int32) (t_at : Int32) (t_place : Int32) (t_word : Int64) (t_number : Int32) (t_sign : Int32) (t_end : Int32) (mt_farms : Int32) (mt_names : Nat → Int64) (mt_flock : Nat → Int32) (mt_dogs : Nat → Int32) (mt_hunger : Nat → Int32), f_X7_readFarm_B17  t_signs t_length r_fault t_at t_place t_word t_number t_sign t_end mt_farms mt_names mt_flock mt_dogs mt_hunger = some (o_r_fault, o_t_at, o_t_place, o_t_word, o_t_number, o_t_sign, o_t_end, o_mt_farms, o_mt_names, o_mt_flock, o_mt_dogs, o_mt_hunger) → K [wX7 G q_r (q_t 0) (q_mt 0) r_law r_fault, wX8 G q_t t_signs t_length t_at t_place t_word t_number t_sign t_end, wX5 G q_mt mt_farms mt_fences mt_shares mt_names mt_flock mt_dogs mt_hunger mt_fenced mt_heights mt_pacts mt_partner mt_often mt_toothed mt_feeding mt_going] [(0, .ref (q_r 0))] 17 [] := by
    intro r_fault t_at t_place t_word t_number t_sign t_end mt_farms mt_names mt_flock mt_dogs mt_hunger hM
    refine st_aload_n hR dX7_readFarm_17 0 rfl rfl (pc' := 18) rfl ?_
    refine st_get hR dX7_readFarm_18 fg_X7_9_6_0 0 0 rfl rfl rfl (pc' := 21) rfl ?_
    obtain ⟨⟨t_at_1, t_place_1, t_word_1, t_number_1, t_sign_1, t_end_1⟩, hc_, hM⟩ := bd_e hM
    refine st_callV hR (k_X8_next hc_) cf_X7_106 (rm_le (Nat.le_of_ble_eq_true rfl) (Nat.le_of_ble_eq_true rfl)) [1] rfl rfl rfl 1 0 7 8 rfl rfl rfl rfl (rest := []) rfl (Nat.le_of_ble_eq_true rfl) dX7_readFarm_21 (pc' := 24) rfl (Wn := [wX7 G q_r (q_t 0) (q_mt 0) r_law r_fault, wX8 G q_t t_signs t_length t_at_1 t_place_1 t_word_1 t_number_1 t_sign_1 t_end_1, wX5 G q_mt mt_farms mt_fences mt_shares mt_names mt_flock mt_dogs mt_hunger mt_fenced mt_heights mt_pacts mt_partner mt_often mt_toothed mt_feeding mt_going]) rfl ?_
    refine st_aload_n hR dX7_readFarm_24 0 rfl rfl (pc' := 25) rfl ?_
    refine st_get hR dX7_readFarm_25 fg_X7_9_6_0 0 0 rfl rfl rfl (pc' := 28) rfl ?_
    refine st_get hR dX7_readFarm_28 fg_X7_62_7_4 1 0 rfl rfl rfl (pc' := 31) rfl ?_
    refine st_lstore_n hR dX7_readFarm_31 rfl (Nat.le_of_ble_eq_true rfl) [1, 0] (lv' := [(0, .ref (q_r 0)), (1, .long t_word_1)]) rfl (pc' := 32) rfl ?_
    refine st_lload_n hR dX7_readFarm_32 1 rfl rfl (pc' := 33) rfl ?_
    obtain ⟨r_1, hc_, hM⟩ := bd_e hM
    refine st_callS hR (k_X7_isName hc_) cf_X7_109 (rm_le (Nat.le_of_ble_eq_true rfl) (Nat.le_of_ble_eq_true rfl)) [] rfl rfl rfl rfl (rest := []) rfl (Nat.le_of_ble_eq_true rfl) dX7_readFarm_33 (pc' := 36) rfl (Wn := [wX7 G q_r (q_t 0) (q_mt 0) r_law r_fault, wX8 G q_t t_signs t_length t_at_1 t_place_1 t_word_1 t_number_1 t_sign_1 t_end_1, wX5 G q_mt mt_farms mt_fences mt_shares mt_names mt_flock mt_dogs mt_hunger mt_fenced mt_heights mt_pacts mt_partner mt_often mt_toothed mt_feeding mt_going]) rfl ?_
    refine st_if_ne hR dX7_readFarm_36 (tgt := 47) (by decide) (pc' := 39) rfl (fun c_ => ?_) (fun c_ => ?_)
    · have hM := it_f c_ hM
      refine st_aload_n hR dX7_readFarm_47 0 rfl rfl (pc' := 48) rfl ?_
      refine st_get hR dX7_readFarm_48 fg_X7_15_6_1 0 0 rfl rfl rfl (pc' := 51) rfl ?_
      refine st_lload_n hR dX7_readFarm_51 1 rfl rfl (pc' := 52) rfl ?_
      obtain ⟨r_2, hc_, hM⟩ := bd_e hM
      refine st_callV hR (k_X5_named hc_) cf_X7_113 (rm_le (Nat.le_of_ble_eq_true rfl) (Nat.le_of_ble_eq_true rfl)) [2] rfl rfl rfl 2 0 5 15 rfl rfl rfl rfl (rest := []) rfl (Nat.le_of_ble_eq_true rfl) dX7_readFarm_52 (pc' := 55) rfl (Wn := [wX7 G q_r (q_t 0) (q_mt 0) r_law r_fault, wX8 G q_t t_signs t_length t_at_1 t_place_1 t_word_1 t_number_1 t_sign_1 t_end_1, wX5 G q_mt mt_farms mt_fences mt_shares mt_names mt_flock mt_dogs mt_hunger mt_fenced mt_heights mt_pacts mt_partner mt_often mt_toothed mt_feeding mt_going]) rfl ?_
      refine st_iconst hR dX7_readFarm_55 (v := (-1)) (by decide) (pc' := 56) rfl ?_
      refine st_icmp_eq hR dX7_readFarm_56 (tgt := 64) (by decide) (pc' := 59) rfl (fun c_ => ?_) (fun c_ => ?_)
      · have hM := it_t c_ hM
        exact J64 _ _ _ _ _ _ _ _ _ _ _ _ _ hM
      · have hM := it_f c_ hM
        refine st_aload_n hR dX7_readFarm_59 0 rfl rfl (pc' := 60) rfl ?_
        refine st_iconst hR dX7_readFarm_60 (v := 3) rfl (pc' := 61) rfl ?_
        obtain ⟨r_fault_1, hc_, hM⟩ := bd_e hM
        refine st_callV hR (k_X7_refuse hc_) cf_X7_99 (rm_le (Nat.le_of_ble_eq_true rfl) (Nat.le_of_ble_eq_true rfl)) [0, 1] rfl rfl rfl 0 0 6 4 rfl rfl rfl rfl (rest := []) rfl (Nat.le_of_ble_eq_true rfl) dX7_readFarm_61 (pc' := 64) rfl (Wn := [wX7 G q_r (q_t 0) (q_mt 0) r_law r_fault_1, wX8 G q_t t_signs t_length t_at_1 t_place_1 t_word_1 t_number_1 t_sign_1 t_end_1, wX5 G q_mt mt_farms mt_fences mt_shares mt_names mt_flock mt_dogs mt_hunger mt_fenced mt_heights mt_pacts mt_partner mt_often mt_toothed mt_feeding mt_going]) rfl ?_
        exact J64 _ _ _ _ _ _ _ _ _ _ _ _ _ hM
    · have hM := it_t c_ hM
      refine st_aload_n hR dX7_readFarm_39 0 rfl rfl (pc' := 40) rfl ?_
      refine st_iconst hR dX7_readFarm_40 (v := 1) rfl (pc' := 41) rfl ?_
      obtain ⟨r_fault_2, hc_, hM⟩ := bd_e hM
      refine st_callV hR (k_X7_refuse hc_) cf_X7_99 (rm_le (Nat.le_of_ble_eq_true rfl) (Nat.le_of_ble_eq_true rfl)) [0, 1] rfl rfl rfl 0 0 6 4 rfl rfl rfl rfl (rest := []) rfl (Nat.le_of_ble_eq_true rfl) dX7_readFarm_41 (pc' := 44) rfl (Wn := [wX7 G q_r (q_t 0) (q_mt 0) r_law r_fault_2, wX8 G q_t t_signs t_length t_at_1 t_place_1 t_word_1 t_number_1 t_sign_1 t_end_1, wX5 G q_mt mt_farms mt_fences mt_shares mt_names mt_flock mt_dogs mt_hunger mt_fenced mt_heights mt_pacts mt_partner mt_often mt_toothed mt_feeding mt_going]) rfl ?_
      refine st_goto hR dX7_readFarm_44 (tgt := 64) (by decide) ?_
      exact J64 _ _ _ _ _ _ _ _ _ _ _ _ _ hM
  refine st_aload_n hR dX7_readFarm_0 0 rfl rfl (pc' := 1) rfl ?_
  refine st_get hR dX7_readFarm_1 fg_X7_15_6_1 0 0 rfl rfl rfl (pc' := 4) rfl ?_
  refine st_get hR dX7_readFarm_4 fg_X7_103_5_0 2 0 rfl rfl rfl (pc' := 7) rfl ?_
  refine st_bipush hR dX7_readFarm_7 (v := 6) rfl (pc' := 9) rfl ?_
  refine st_icmp_lt hR dX7_readFarm_9 (tgt := 17) (by decide) (pc' := 12) rfl (fun c_ => ?_) (fun c_ => ?_)
  · have hM := it_t c_ hM
    exact J17 _ _ _ _ _ _ _ _ _ _ _ _ hM
  · have hM := it_f c_ hM
    refine st_aload_n hR dX7_readFarm_12 0 rfl rfl (pc' := 13) rfl ?_
    refine st_iconst hR dX7_readFarm_13 (v := 5) rfl (pc' := 14) rfl ?_
    obtain ⟨r_fault_1, hc_, hM⟩ := bd_e hM
    refine st_callV hR (k_X7_refuse hc_) cf_X7_99 (rm_le (Nat.le_of_ble_eq_true rfl) (Nat.le_of_ble_eq_true rfl)) [0, 1] rfl rfl rfl 0 0 6 4 rfl rfl rfl rfl (rest := []) rfl (Nat.le_of_ble_eq_true rfl) dX7_readFarm_14 (pc' := 17) rfl (Wn := [wX7 G q_r (q_t 0) (q_mt 0) r_law r_fault_1, wX8 G q_t t_signs t_length t_at t_place t_word t_number t_sign t_end, wX5 G q_mt mt_farms mt_fences mt_shares mt_names mt_flock mt_dogs mt_hunger mt_fenced mt_heights mt_pacts mt_partner mt_often mt_toothed mt_feeding mt_going]) rfl ?_
    exact J17 _ _ _ _ _ _ _ _ _ _ _ _ hM
set_option maxHeartbeats 16000000 in
set_option maxRecDepth 100000 in
theorem k_X7_readFence {l : Launch} {G : GG} {q_r q_t q_mt : Nat → Nat} {r_fault t_length t_at t_place t_number t_sign t_end mt_farms mt_fences mt_shares mt_toothed : Int32} {t_word : Int64} {t_signs mt_flock mt_dogs mt_hunger mt_fenced mt_heights mt_pacts mt_partner mt_often : Nat → Int32} {mt_names : Nat → Int64} {r_law mt_feeding mt_going : Nat}  {o_r_fault : Int32} {o_t_at : Int32} {o_t_place : Int32} {o_t_word : Int64} {o_t_number : Int32} {o_t_sign : Int32} {o_t_end : Int32} {o_mt_fences : Int32} {o_mt_fenced : Nat → Int32} {o_mt_heights : Nat → Int32} (hM : f_X7_readFence t_signs t_length mt_farms mt_names r_fault t_at t_place t_word t_number t_sign t_end mt_fences mt_fenced mt_heights = some (o_r_fault, o_t_at, o_t_place, o_t_word, o_t_number, o_t_sign, o_t_end, o_mt_fences, o_mt_fenced, o_mt_heights)) : MC l G yX7_readFence cX7_readFence 4 none (RM 2) [.ref (q_r 0)] [wX7 G q_r (q_t 0) (q_mt 0) r_law r_fault, wX8 G q_t t_signs t_length t_at t_place t_word t_number t_sign t_end, wX5 G q_mt mt_farms mt_fences mt_shares mt_names mt_flock mt_dogs mt_hunger mt_fenced mt_heights mt_pacts mt_partner mt_often mt_toothed mt_feeding mt_going] none [wX7 G q_r (q_t 0) (q_mt 0) r_law o_r_fault, wX8 G q_t t_signs t_length o_t_at o_t_place o_t_word o_t_number o_t_sign o_t_end, wX5 G q_mt mt_farms o_mt_fences mt_shares mt_names mt_flock mt_dogs mt_hunger o_mt_fenced o_mt_heights mt_pacts mt_partner mt_often mt_toothed mt_feeding mt_going] := by
  refine MC.of pn_X7 (Nat.le_of_ble_eq_true rfl) (fun K hR hret => ?_)
  have hR : Rl l G RX7 cX7_readFence 4 (RM 2) K := hR
  show K [wX7 G q_r (q_t 0) (q_mt 0) r_law r_fault, wX8 G q_t t_signs t_length t_at t_place t_word t_number t_sign t_end, wX5 G q_mt mt_farms mt_fences mt_shares mt_names mt_flock mt_dogs mt_hunger mt_fenced mt_heights mt_pacts mt_partner mt_often mt_toothed mt_feeding mt_going] [(0, .ref (q_r 0))] 0 []
  have J46 : ∀ (r_fault : Int32) (t_at : Int32) (t_place : Int32) (t_word : Int64) (t_number : Int32) (t_sign : Int32) (t_end : Int32) (mt_fences : Int32) (mt_fenced : Nat → Int32) (mt_heights : Nat → Int32) (l1 : Int32) (l2 : Int32), f_X7_readFence_B46  t_signs t_length mt_farms mt_names r_fault t_at t_place t_word t_number t_sign t_end mt_fences mt_fenced mt_heights l1 l2 = some (o_r_fault, o_t_at, o_t_place, o_t_word, o_t_number, o_t_sign, o_t_end, o_mt_fences, o_mt_fenced, o_mt_heights) → K [wX7 G q_r (q_t 0) (q_mt 0) r_law r_fault, wX8 G q_t t_signs t_length t_at t_place t_word t_number t_sign t_end, wX5 G q_mt mt_farms mt_fences mt_shares mt_names mt_flock mt_dogs mt_hunger mt_fenced mt_heights mt_pacts mt_partner mt_often mt_toothed mt_feeding mt_going] [(0, .ref (q_r 0)), (1, .int l1), (2, .int l2)] 46 [] := by
    intro r_fault t_at t_place t_word t_number t_sign t_end mt_fences mt_fenced mt_heights l1 l2 hM
    refine st_aload_n hR dX7_readFence_46 0 rfl rfl (pc' := 47) rfl ?_
    refine st_get hR dX7_readFence_47 fg_X7_9_6_0 0 0 rfl rfl rfl (pc' := 50) rfl ?_
    obtain ⟨⟨t_at_1, t_place_1, t_word_1, t_number_1, t_sign_1, t_end_1⟩, hc_, hM⟩ := bd_e hM
    refine st_callV hR (k_X8_next hc_) cf_X7_106 (rm_le (Nat.le_of_ble_eq_true rfl) (Nat.le_of_ble_eq_true rfl)) [1] rfl rfl rfl 1 0 7 8 rfl rfl rfl rfl (rest := []) rfl (Nat.le_of_ble_eq_true rfl) dX7_readFence_50 (pc' := 53) rfl (Wn := [wX7 G q_r (q_t 0) (q_mt 0) r_law r_fault, wX8 G q_t t_signs t_length t_at_1 t_place_1 t_word_1 t_number_1 t_sign_1 t_end_1, wX5 G q_mt mt_farms mt_fences mt_shares mt_names mt_flock mt_dogs mt_hunger mt_fenced mt_heights mt_pacts mt_partner mt_often mt_toothed mt_feeding mt_going]) rfl ?_
    refine st_aload_n hR dX7_readFence_53 0 rfl rfl (pc' := 54) rfl ?_
    refine st_bipush hR dX7_readFence_54 (v := 99) rfl (pc' := 56) rfl ?_
    obtain ⟨⟨r_1, r_fault_1, t_at_2, t_place_2, t_word_2, t_number_2, t_sign_2, t_end_2⟩, hc_, hM⟩ := bd_e hM
    refine st_callV hR (k_X7_readNumber hc_) cf_X7_123 (rm_le (Nat.le_of_ble_eq_true rfl) (Nat.le_of_ble_eq_true rfl)) [0, 1] rfl rfl rfl 0 0 6 4 rfl rfl rfl rfl (rest := []) rfl (Nat.le_of_ble_eq_true rfl) dX7_readFence_56 (pc' := 59) rfl (Wn := [wX7 G q_r (q_t 0) (q_mt 0) r_law r_fault_1, wX8 G q_t t_signs t_length t_at_2 t_place_2 t_word_2 t_number_2 t_sign_2 t_end_2, wX5 G q_mt mt_farms mt_fences mt_shares mt_names mt_flock mt_dogs mt_hunger mt_fenced mt_heights mt_pacts mt_partner mt_often mt_toothed mt_feeding mt_going]) rfl ?_
    refine st_istore_n hR dX7_readFence_59 rfl (Nat.le_of_ble_eq_true rfl) [1, 2, 3, 0] (lv' := [(0, .ref (q_r 0)), (1, .int l1), (2, .int l2), (3, .int r_1)]) rfl (pc' := 60) rfl ?_
    refine st_aload_n hR dX7_readFence_60 0 rfl rfl (pc' := 61) rfl ?_
    refine st_bipush hR dX7_readFence_61 (v := 59) rfl (pc' := 63) rfl ?_
    obtain ⟨⟨r_fault_2, t_at_3, t_place_3, t_word_3, t_number_3, t_sign_3, t_end_3⟩, hc_, hM⟩ := bd_e hM
    refine st_callV hR (k_X7_readSign hc_) cf_X7_130 (rm_le (Nat.le_of_ble_eq_true rfl) (Nat.le_of_ble_eq_true rfl)) [0, 1] rfl rfl rfl 0 0 6 4 rfl rfl rfl rfl (rest := []) rfl (Nat.le_of_ble_eq_true rfl) dX7_readFence_63 (pc' := 66) rfl (Wn := [wX7 G q_r (q_t 0) (q_mt 0) r_law r_fault_2, wX8 G q_t t_signs t_length t_at_3 t_place_3 t_word_3 t_number_3 t_sign_3 t_end_3, wX5 G q_mt mt_farms mt_fences mt_shares mt_names mt_flock mt_dogs mt_hunger mt_fenced mt_heights mt_pacts mt_partner mt_often mt_toothed mt_feeding mt_going]) rfl ?_
    refine st_aload_n hR dX7_readFence_66 0 rfl rfl (pc' := 67) rfl ?_
    refine st_get hR dX7_readFence_67 fg_X7_31_6_3 0 0 rfl rfl rfl (pc' := 70) rfl ?_
    refine st_if_ne hR dX7_readFence_70 (tgt := 83) (by decide) (pc' := 73) rfl (fun c_ => ?_) (fun c_ => ?_)
    · have hM := it_f c_ hM
      cases hM
      exact hret _ _ dX7_readFence_83 ro_v
    · have hM := it_t c_ hM
      refine st_aload_n hR dX7_readFence_73 0 rfl rfl (pc' := 74) rfl ?_
      refine st_get hR dX7_readFence_74 fg_X7_15_6_1 0 0 rfl rfl rfl (pc' := 77) rfl ?_
      refine st_iload_n hR dX7_readFence_77 1 rfl rfl (pc' := 78) rfl ?_
      refine st_iload_n hR dX7_readFence_78 2 rfl rfl (pc' := 79) rfl ?_
      refine st_iload_n hR dX7_readFence_79 3 rfl rfl (pc' := 80) rfl ?_
      obtain ⟨⟨mt_fences_1, mt_fenced_1, mt_heights_1⟩, hc_, hM⟩ := bd_e hM
      refine st_callV hR (k_X5_addFence hc_) cf_X7_146 (rm_le (Nat.le_of_ble_eq_true rfl) (Nat.le_of_ble_eq_true rfl)) [2] rfl rfl rfl 2 0 5 15 rfl rfl rfl rfl (rest := []) rfl (Nat.le_of_ble_eq_true rfl) dX7_readFence_80 (pc' := 83) rfl (Wn := [wX7 G q_r (q_t 0) (q_mt 0) r_law r_fault_2, wX8 G q_t t_signs t_length t_at_3 t_place_3 t_word_3 t_number_3 t_sign_3 t_end_3, wX5 G q_mt mt_farms mt_fences_1 mt_shares mt_names mt_flock mt_dogs mt_hunger mt_fenced_1 mt_heights_1 mt_pacts mt_partner mt_often mt_toothed mt_feeding mt_going]) rfl ?_
      cases hM
      exact hret _ _ dX7_readFence_83 ro_v
  have J41 : ∀ (r_fault : Int32) (t_at : Int32) (t_place : Int32) (t_word : Int64) (t_number : Int32) (t_sign : Int32) (t_end : Int32) (mt_fences : Int32) (mt_fenced : Nat → Int32) (mt_heights : Nat → Int32) (l1 : Int32) (l2 : Int32), f_X7_readFence_B41  t_signs t_length mt_farms mt_names r_fault t_at t_place t_word t_number t_sign t_end mt_fences mt_fenced mt_heights l1 l2 = some (o_r_fault, o_t_at, o_t_place, o_t_word, o_t_number, o_t_sign, o_t_end, o_mt_fences, o_mt_fenced, o_mt_heights) → K [wX7 G q_r (q_t 0) (q_mt 0) r_law r_fault, wX8 G q_t t_signs t_length t_at t_place t_word t_number t_sign t_end, wX5 G q_mt mt_farms mt_fences mt_shares mt_names mt_flock mt_dogs mt_hunger mt_fenced mt_heights mt_pacts mt_partner mt_often mt_toothed mt_feeding mt_going] [(0, .ref (q_r 0)), (1, .int l1), (2, .int l2)] 41 [] := by
    intro r_fault t_at t_place t_word t_number t_sign t_end mt_fences mt_fenced mt_heights l1 l2 hM
    refine st_aload_n hR dX7_readFence_41 0 rfl rfl (pc' := 42) rfl ?_
    refine st_iconst hR dX7_readFence_42 (v := 3) rfl (pc' := 43) rfl ?_
    obtain ⟨r_fault_1, hc_, hM⟩ := bd_e hM
    refine st_callV hR (k_X7_refuse hc_) cf_X7_99 (rm_le (Nat.le_of_ble_eq_true rfl) (Nat.le_of_ble_eq_true rfl)) [0, 1] rfl rfl rfl 0 0 6 4 rfl rfl rfl rfl (rest := []) rfl (Nat.le_of_ble_eq_true rfl) dX7_readFence_43 (pc' := 46) rfl (Wn := [wX7 G q_r (q_t 0) (q_mt 0) r_law r_fault_1, wX8 G q_t t_signs t_length t_at t_place t_word t_number t_sign t_end, wX5 G q_mt mt_farms mt_fences mt_shares mt_names mt_flock mt_dogs mt_hunger mt_fenced mt_heights mt_pacts mt_partner mt_often mt_toothed mt_feeding mt_going]) rfl ?_
    exact J46 _ _ _ _ _ _ _ _ _ _ _ _ hM
  refine st_aload_n hR dX7_readFence_0 0 rfl rfl (pc' := 1) rfl ?_
  refine st_get hR dX7_readFence_1 fg_X7_9_6_0 0 0 rfl rfl rfl (pc' := 4) rfl ?_
  obtain ⟨⟨t_at_1, t_place_1, t_word_1, t_number_1, t_sign_1, t_end_1⟩, hc_, hM⟩ := bd_e hM
  refine st_callV hR (k_X8_next hc_) cf_X7_106 (rm_le (Nat.le_of_ble_eq_true rfl) (Nat.le_of_ble_eq_true rfl)) [1] rfl rfl rfl 1 0 7 8 rfl rfl rfl rfl (rest := []) rfl (Nat.le_of_ble_eq_true rfl) dX7_readFence_4 (pc' := 7) rfl (Wn := [wX7 G q_r (q_t 0) (q_mt 0) r_law r_fault, wX8 G q_t t_signs t_length t_at_1 t_place_1 t_word_1 t_number_1 t_sign_1 t_end_1, wX5 G q_mt mt_farms mt_fences mt_shares mt_names mt_flock mt_dogs mt_hunger mt_fenced mt_heights mt_pacts mt_partner mt_often mt_toothed mt_feeding mt_going]) rfl ?_
  refine st_aload_n hR dX7_readFence_7 0 rfl rfl (pc' := 8) rfl ?_
  obtain ⟨⟨r_1, r_fault_1⟩, hc_, hM⟩ := bd_e hM
  refine st_callV hR (k_X7_oldFarm hc_) cf_X7_138 (rm_le (Nat.le_of_ble_eq_true rfl) (Nat.le_of_ble_eq_true rfl)) [0, 1, 2] rfl rfl rfl 0 0 6 4 rfl rfl rfl rfl (rest := []) rfl (Nat.le_of_ble_eq_true rfl) dX7_readFence_8 (pc' := 11) rfl (Wn := [wX7 G q_r (q_t 0) (q_mt 0) r_law r_fault_1, wX8 G q_t t_signs t_length t_at_1 t_place_1 t_word_1 t_number_1 t_sign_1 t_end_1, wX5 G q_mt mt_farms mt_fences mt_shares mt_names mt_flock mt_dogs mt_hunger mt_fenced mt_heights mt_pacts mt_partner mt_often mt_toothed mt_feeding mt_going]) rfl ?_
  refine st_istore_n hR dX7_readFence_11 rfl (Nat.le_of_ble_eq_true rfl) [1, 0] (lv' := [(0, .ref (q_r 0)), (1, .int r_1)]) rfl (pc' := 12) rfl ?_
  refine st_aload_n hR dX7_readFence_12 0 rfl rfl (pc' := 13) rfl ?_
  refine st_get hR dX7_readFence_13 fg_X7_9_6_0 0 0 rfl rfl rfl (pc' := 16) rfl ?_
  obtain ⟨⟨t_at_2, t_place_2, t_word_2, t_number_2, t_sign_2, t_end_2⟩, hc_, hM⟩ := bd_e hM
  refine st_callV hR (k_X8_next hc_) cf_X7_106 (rm_le (Nat.le_of_ble_eq_true rfl) (Nat.le_of_ble_eq_true rfl)) [1] rfl rfl rfl 1 0 7 8 rfl rfl rfl rfl (rest := []) rfl (Nat.le_of_ble_eq_true rfl) dX7_readFence_16 (pc' := 19) rfl (Wn := [wX7 G q_r (q_t 0) (q_mt 0) r_law r_fault_1, wX8 G q_t t_signs t_length t_at_2 t_place_2 t_word_2 t_number_2 t_sign_2 t_end_2, wX5 G q_mt mt_farms mt_fences mt_shares mt_names mt_flock mt_dogs mt_hunger mt_fenced mt_heights mt_pacts mt_partner mt_often mt_toothed mt_feeding mt_going]) rfl ?_
  refine st_aload_n hR dX7_readFence_19 0 rfl rfl (pc' := 20) rfl ?_
  obtain ⟨⟨r_2, r_fault_2⟩, hc_, hM⟩ := bd_e hM
  refine st_callV hR (k_X7_oldFarm hc_) cf_X7_138 (rm_le (Nat.le_of_ble_eq_true rfl) (Nat.le_of_ble_eq_true rfl)) [0, 1, 2] rfl rfl rfl 0 0 6 4 rfl rfl rfl rfl (rest := []) rfl (Nat.le_of_ble_eq_true rfl) dX7_readFence_20 (pc' := 23) rfl (Wn := [wX7 G q_r (q_t 0) (q_mt 0) r_law r_fault_2, wX8 G q_t t_signs t_length t_at_2 t_place_2 t_word_2 t_number_2 t_sign_2 t_end_2, wX5 G q_mt mt_farms mt_fences mt_shares mt_names mt_flock mt_dogs mt_hunger mt_fenced mt_heights mt_pacts mt_partner mt_often mt_toothed mt_feeding mt_going]) rfl ?_
  refine st_istore_n hR dX7_readFence_23 rfl (Nat.le_of_ble_eq_true rfl) [1, 2, 0] (lv' := [(0, .ref (q_r 0)), (1, .int r_1), (2, .int r_2)]) rfl (pc' := 24) rfl ?_
  refine st_iload_n hR dX7_readFence_24 1 rfl rfl (pc' := 25) rfl ?_
  refine st_iload_n hR dX7_readFence_25 2 rfl rfl (pc' := 26) rfl ?_
  refine st_icmp_eq hR dX7_readFence_26 (tgt := 41) (by decide) (pc' := 29) rfl (fun c_ => ?_) (fun c_ => ?_)
  · have hM := it_t c_ hM
    exact J41 _ _ _ _ _ _ _ _ _ _ _ _ hM
  · have hM := it_f c_ hM
    refine st_aload_n hR dX7_readFence_29 0 rfl rfl (pc' := 30) rfl ?_
    refine st_get hR dX7_readFence_30 fg_X7_15_6_1 0 0 rfl rfl rfl (pc' := 33) rfl ?_
    refine st_iload_n hR dX7_readFence_33 1 rfl rfl (pc' := 34) rfl ?_
    refine st_iload_n hR dX7_readFence_34 2 rfl rfl (pc' := 35) rfl ?_
    obtain ⟨r_3, hc_, hM⟩ := bd_e hM
    refine st_callV hR (k_X5_haveFence hc_) cf_X7_142 (rm_le (Nat.le_of_ble_eq_true rfl) (Nat.le_of_ble_eq_true rfl)) [2] rfl rfl rfl 2 0 5 15 rfl rfl rfl rfl (rest := []) rfl (Nat.le_of_ble_eq_true rfl) dX7_readFence_35 (pc' := 38) rfl (Wn := [wX7 G q_r (q_t 0) (q_mt 0) r_law r_fault_2, wX8 G q_t t_signs t_length t_at_2 t_place_2 t_word_2 t_number_2 t_sign_2 t_end_2, wX5 G q_mt mt_farms mt_fences mt_shares mt_names mt_flock mt_dogs mt_hunger mt_fenced mt_heights mt_pacts mt_partner mt_often mt_toothed mt_feeding mt_going]) rfl ?_
    refine st_if_eq hR dX7_readFence_38 (tgt := 46) (by decide) (pc' := 41) rfl (fun c_ => ?_) (fun c_ => ?_)
    · have hM := it_t c_ hM
      exact J46 _ _ _ _ _ _ _ _ _ _ _ _ hM
    · have hM := it_f c_ hM
      exact J41 _ _ _ _ _ _ _ _ _ _ _ _ hM
set_option maxHeartbeats 16000000 in
set_option maxRecDepth 100000 in
theorem k_X7_readPact {l : Launch} {G : GG} {q_r q_t q_mt : Nat → Nat} {r_fault t_length t_at t_place t_number t_sign t_end mt_farms mt_fences mt_shares mt_toothed : Int32} {t_word : Int64} {t_signs mt_flock mt_dogs mt_hunger mt_fenced mt_heights mt_pacts mt_partner mt_often : Nat → Int32} {mt_names : Nat → Int64} {r_law mt_feeding mt_going : Nat}  {o_r_fault : Int32} {o_t_at : Int32} {o_t_place : Int32} {o_t_word : Int64} {o_t_number : Int32} {o_t_sign : Int32} {o_t_end : Int32} {o_mt_pacts : Nat → Int32} (hM : f_X7_readPact t_signs t_length mt_farms mt_names r_fault t_at t_place t_word t_number t_sign t_end mt_pacts = some (o_r_fault, o_t_at, o_t_place, o_t_word, o_t_number, o_t_sign, o_t_end, o_mt_pacts)) : MC l G yX7_readPact cX7_readPact 3 none (RM 2) [.ref (q_r 0)] [wX7 G q_r (q_t 0) (q_mt 0) r_law r_fault, wX8 G q_t t_signs t_length t_at t_place t_word t_number t_sign t_end, wX5 G q_mt mt_farms mt_fences mt_shares mt_names mt_flock mt_dogs mt_hunger mt_fenced mt_heights mt_pacts mt_partner mt_often mt_toothed mt_feeding mt_going] none [wX7 G q_r (q_t 0) (q_mt 0) r_law o_r_fault, wX8 G q_t t_signs t_length o_t_at o_t_place o_t_word o_t_number o_t_sign o_t_end, wX5 G q_mt mt_farms mt_fences mt_shares mt_names mt_flock mt_dogs mt_hunger mt_fenced mt_heights o_mt_pacts mt_partner mt_often mt_toothed mt_feeding mt_going] := by
  refine MC.of pn_X7 (Nat.le_of_ble_eq_true rfl) (fun K hR hret => ?_)
  have hR : Rl l G RX7 cX7_readPact 3 (RM 2) K := hR
  show K [wX7 G q_r (q_t 0) (q_mt 0) r_law r_fault, wX8 G q_t t_signs t_length t_at t_place t_word t_number t_sign t_end, wX5 G q_mt mt_farms mt_fences mt_shares mt_names mt_flock mt_dogs mt_hunger mt_fenced mt_heights mt_pacts mt_partner mt_often mt_toothed mt_feeding mt_going] [(0, .ref (q_r 0))] 0 []
  have J46 : ∀ (r_fault : Int32) (t_at : Int32) (t_place : Int32) (t_word : Int64) (t_number : Int32) (t_sign : Int32) (t_end : Int32) (mt_pacts : Nat → Int32) (l1 : Int32) (l2 : Int32), f_X7_readPact_B46  t_signs t_length mt_farms mt_names r_fault t_at t_place t_word t_number t_sign t_end mt_pacts l1 l2 = some (o_r_fault, o_t_at, o_t_place, o_t_word, o_t_number, o_t_sign, o_t_end, o_mt_pacts) → K [wX7 G q_r (q_t 0) (q_mt 0) r_law r_fault, wX8 G q_t t_signs t_length t_at t_place t_word t_number t_sign t_end, wX5 G q_mt mt_farms mt_fences mt_shares mt_names mt_flock mt_dogs mt_hunger mt_fenced mt_heights mt_pacts mt_partner mt_often mt_toothed mt_feeding mt_going] [(0, .ref (q_r 0)), (1, .int l1), (2, .int l2)] 46 [] := by
    intro r_fault t_at t_place t_word t_number t_sign t_end mt_pacts l1 l2 hM
    refine st_aload_n hR dX7_readPact_46 0 rfl rfl (pc' := 47) rfl ?_
    refine st_get hR dX7_readPact_47 fg_X7_9_6_0 0 0 rfl rfl rfl (pc' := 50) rfl ?_
    obtain ⟨⟨t_at_1, t_place_1, t_word_1, t_number_1, t_sign_1, t_end_1⟩, hc_, hM⟩ := bd_e hM
    refine st_callV hR (k_X8_next hc_) cf_X7_106 (rm_le (Nat.le_of_ble_eq_true rfl) (Nat.le_of_ble_eq_true rfl)) [1] rfl rfl rfl 1 0 7 8 rfl rfl rfl rfl (rest := []) rfl (Nat.le_of_ble_eq_true rfl) dX7_readPact_50 (pc' := 53) rfl (Wn := [wX7 G q_r (q_t 0) (q_mt 0) r_law r_fault, wX8 G q_t t_signs t_length t_at_1 t_place_1 t_word_1 t_number_1 t_sign_1 t_end_1, wX5 G q_mt mt_farms mt_fences mt_shares mt_names mt_flock mt_dogs mt_hunger mt_fenced mt_heights mt_pacts mt_partner mt_often mt_toothed mt_feeding mt_going]) rfl ?_
    refine st_aload_n hR dX7_readPact_53 0 rfl rfl (pc' := 54) rfl ?_
    refine st_bipush hR dX7_readPact_54 (v := 59) rfl (pc' := 56) rfl ?_
    obtain ⟨⟨r_fault_1, t_at_2, t_place_2, t_word_2, t_number_2, t_sign_2, t_end_2⟩, hc_, hM⟩ := bd_e hM
    refine st_callV hR (k_X7_readSign hc_) cf_X7_130 (rm_le (Nat.le_of_ble_eq_true rfl) (Nat.le_of_ble_eq_true rfl)) [0, 1] rfl rfl rfl 0 0 6 4 rfl rfl rfl rfl (rest := []) rfl (Nat.le_of_ble_eq_true rfl) dX7_readPact_56 (pc' := 59) rfl (Wn := [wX7 G q_r (q_t 0) (q_mt 0) r_law r_fault_1, wX8 G q_t t_signs t_length t_at_2 t_place_2 t_word_2 t_number_2 t_sign_2 t_end_2, wX5 G q_mt mt_farms mt_fences mt_shares mt_names mt_flock mt_dogs mt_hunger mt_fenced mt_heights mt_pacts mt_partner mt_often mt_toothed mt_feeding mt_going]) rfl ?_
    refine st_aload_n hR dX7_readPact_59 0 rfl rfl (pc' := 60) rfl ?_
    refine st_get hR dX7_readPact_60 fg_X7_31_6_3 0 0 rfl rfl rfl (pc' := 63) rfl ?_
    refine st_if_ne hR dX7_readPact_63 (tgt := 75) (by decide) (pc' := 66) rfl (fun c_ => ?_) (fun c_ => ?_)
    · have hM := it_f c_ hM
      cases hM
      exact hret _ _ dX7_readPact_75 ro_v
    · have hM := it_t c_ hM
      refine st_aload_n hR dX7_readPact_66 0 rfl rfl (pc' := 67) rfl ?_
      refine st_get hR dX7_readPact_67 fg_X7_15_6_1 0 0 rfl rfl rfl (pc' := 70) rfl ?_
      refine st_iload_n hR dX7_readPact_70 1 rfl rfl (pc' := 71) rfl ?_
      refine st_iload_n hR dX7_readPact_71 2 rfl rfl (pc' := 72) rfl ?_
      obtain ⟨mt_pacts_1, hc_, hM⟩ := bd_e hM
      refine st_callV hR (k_X5_addPact hc_) cf_X7_153 (rm_le (Nat.le_of_ble_eq_true rfl) (Nat.le_of_ble_eq_true rfl)) [2] rfl rfl rfl 2 0 5 15 rfl rfl rfl rfl (rest := []) rfl (Nat.le_of_ble_eq_true rfl) dX7_readPact_72 (pc' := 75) rfl (Wn := [wX7 G q_r (q_t 0) (q_mt 0) r_law r_fault_1, wX8 G q_t t_signs t_length t_at_2 t_place_2 t_word_2 t_number_2 t_sign_2 t_end_2, wX5 G q_mt mt_farms mt_fences mt_shares mt_names mt_flock mt_dogs mt_hunger mt_fenced mt_heights mt_pacts_1 mt_partner mt_often mt_toothed mt_feeding mt_going]) rfl ?_
      cases hM
      exact hret _ _ dX7_readPact_75 ro_v
  have J41 : ∀ (r_fault : Int32) (t_at : Int32) (t_place : Int32) (t_word : Int64) (t_number : Int32) (t_sign : Int32) (t_end : Int32) (mt_pacts : Nat → Int32) (l1 : Int32) (l2 : Int32), f_X7_readPact_B41  t_signs t_length mt_farms mt_names r_fault t_at t_place t_word t_number t_sign t_end mt_pacts l1 l2 = some (o_r_fault, o_t_at, o_t_place, o_t_word, o_t_number, o_t_sign, o_t_end, o_mt_pacts) → K [wX7 G q_r (q_t 0) (q_mt 0) r_law r_fault, wX8 G q_t t_signs t_length t_at t_place t_word t_number t_sign t_end, wX5 G q_mt mt_farms mt_fences mt_shares mt_names mt_flock mt_dogs mt_hunger mt_fenced mt_heights mt_pacts mt_partner mt_often mt_toothed mt_feeding mt_going] [(0, .ref (q_r 0)), (1, .int l1), (2, .int l2)] 41 [] := by
    intro r_fault t_at t_place t_word t_number t_sign t_end mt_pacts l1 l2 hM
    refine st_aload_n hR dX7_readPact_41 0 rfl rfl (pc' := 42) rfl ?_
    refine st_iconst hR dX7_readPact_42 (v := 3) rfl (pc' := 43) rfl ?_
    obtain ⟨r_fault_1, hc_, hM⟩ := bd_e hM
    refine st_callV hR (k_X7_refuse hc_) cf_X7_99 (rm_le (Nat.le_of_ble_eq_true rfl) (Nat.le_of_ble_eq_true rfl)) [0, 1] rfl rfl rfl 0 0 6 4 rfl rfl rfl rfl (rest := []) rfl (Nat.le_of_ble_eq_true rfl) dX7_readPact_43 (pc' := 46) rfl (Wn := [wX7 G q_r (q_t 0) (q_mt 0) r_law r_fault_1, wX8 G q_t t_signs t_length t_at t_place t_word t_number t_sign t_end, wX5 G q_mt mt_farms mt_fences mt_shares mt_names mt_flock mt_dogs mt_hunger mt_fenced mt_heights mt_pacts mt_partner mt_often mt_toothed mt_feeding mt_going]) rfl ?_
    exact J46 _ _ _ _ _ _ _ _ _ _ hM
  refine st_aload_n hR dX7_readPact_0 0 rfl rfl (pc' := 1) rfl ?_
  refine st_get hR dX7_readPact_1 fg_X7_9_6_0 0 0 rfl rfl rfl (pc' := 4) rfl ?_
  obtain ⟨⟨t_at_1, t_place_1, t_word_1, t_number_1, t_sign_1, t_end_1⟩, hc_, hM⟩ := bd_e hM
  refine st_callV hR (k_X8_next hc_) cf_X7_106 (rm_le (Nat.le_of_ble_eq_true rfl) (Nat.le_of_ble_eq_true rfl)) [1] rfl rfl rfl 1 0 7 8 rfl rfl rfl rfl (rest := []) rfl (Nat.le_of_ble_eq_true rfl) dX7_readPact_4 (pc' := 7) rfl (Wn := [wX7 G q_r (q_t 0) (q_mt 0) r_law r_fault, wX8 G q_t t_signs t_length t_at_1 t_place_1 t_word_1 t_number_1 t_sign_1 t_end_1, wX5 G q_mt mt_farms mt_fences mt_shares mt_names mt_flock mt_dogs mt_hunger mt_fenced mt_heights mt_pacts mt_partner mt_often mt_toothed mt_feeding mt_going]) rfl ?_
  refine st_aload_n hR dX7_readPact_7 0 rfl rfl (pc' := 8) rfl ?_
  obtain ⟨⟨r_1, r_fault_1⟩, hc_, hM⟩ := bd_e hM
  refine st_callV hR (k_X7_oldFarm hc_) cf_X7_138 (rm_le (Nat.le_of_ble_eq_true rfl) (Nat.le_of_ble_eq_true rfl)) [0, 1, 2] rfl rfl rfl 0 0 6 4 rfl rfl rfl rfl (rest := []) rfl (Nat.le_of_ble_eq_true rfl) dX7_readPact_8 (pc' := 11) rfl (Wn := [wX7 G q_r (q_t 0) (q_mt 0) r_law r_fault_1, wX8 G q_t t_signs t_length t_at_1 t_place_1 t_word_1 t_number_1 t_sign_1 t_end_1, wX5 G q_mt mt_farms mt_fences mt_shares mt_names mt_flock mt_dogs mt_hunger mt_fenced mt_heights mt_pacts mt_partner mt_often mt_toothed mt_feeding mt_going]) rfl ?_
  refine st_istore_n hR dX7_readPact_11 rfl (Nat.le_of_ble_eq_true rfl) [1, 0] (lv' := [(0, .ref (q_r 0)), (1, .int r_1)]) rfl (pc' := 12) rfl ?_
  refine st_aload_n hR dX7_readPact_12 0 rfl rfl (pc' := 13) rfl ?_
  refine st_get hR dX7_readPact_13 fg_X7_9_6_0 0 0 rfl rfl rfl (pc' := 16) rfl ?_
  obtain ⟨⟨t_at_2, t_place_2, t_word_2, t_number_2, t_sign_2, t_end_2⟩, hc_, hM⟩ := bd_e hM
  refine st_callV hR (k_X8_next hc_) cf_X7_106 (rm_le (Nat.le_of_ble_eq_true rfl) (Nat.le_of_ble_eq_true rfl)) [1] rfl rfl rfl 1 0 7 8 rfl rfl rfl rfl (rest := []) rfl (Nat.le_of_ble_eq_true rfl) dX7_readPact_16 (pc' := 19) rfl (Wn := [wX7 G q_r (q_t 0) (q_mt 0) r_law r_fault_1, wX8 G q_t t_signs t_length t_at_2 t_place_2 t_word_2 t_number_2 t_sign_2 t_end_2, wX5 G q_mt mt_farms mt_fences mt_shares mt_names mt_flock mt_dogs mt_hunger mt_fenced mt_heights mt_pacts mt_partner mt_often mt_toothed mt_feeding mt_going]) rfl ?_
  refine st_aload_n hR dX7_readPact_19 0 rfl rfl (pc' := 20) rfl ?_
  obtain ⟨⟨r_2, r_fault_2⟩, hc_, hM⟩ := bd_e hM
  refine st_callV hR (k_X7_oldFarm hc_) cf_X7_138 (rm_le (Nat.le_of_ble_eq_true rfl) (Nat.le_of_ble_eq_true rfl)) [0, 1, 2] rfl rfl rfl 0 0 6 4 rfl rfl rfl rfl (rest := []) rfl (Nat.le_of_ble_eq_true rfl) dX7_readPact_20 (pc' := 23) rfl (Wn := [wX7 G q_r (q_t 0) (q_mt 0) r_law r_fault_2, wX8 G q_t t_signs t_length t_at_2 t_place_2 t_word_2 t_number_2 t_sign_2 t_end_2, wX5 G q_mt mt_farms mt_fences mt_shares mt_names mt_flock mt_dogs mt_hunger mt_fenced mt_heights mt_pacts mt_partner mt_often mt_toothed mt_feeding mt_going]) rfl ?_
  refine st_istore_n hR dX7_readPact_23 rfl (Nat.le_of_ble_eq_true rfl) [1, 2, 0] (lv' := [(0, .ref (q_r 0)), (1, .int r_1), (2, .int r_2)]) rfl (pc' := 24) rfl ?_
  refine st_iload_n hR dX7_readPact_24 1 rfl rfl (pc' := 25) rfl ?_
  refine st_iload_n hR dX7_readPact_25 2 rfl rfl (pc' := 26) rfl ?_
  refine st_icmp_eq hR dX7_readPact_26 (tgt := 41) (by decide) (pc' := 29) rfl (fun c_ => ?_) (fun c_ => ?_)
  · have hM := it_t c_ hM
    exact J41 _ _ _ _ _ _ _ _ _ _ hM
  · have hM := it_f c_ hM
    refine st_aload_n hR dX7_readPact_29 0 rfl rfl (pc' := 30) rfl ?_
    refine st_get hR dX7_readPact_30 fg_X7_15_6_1 0 0 rfl rfl rfl (pc' := 33) rfl ?_
    refine st_iload_n hR dX7_readPact_33 1 rfl rfl (pc' := 34) rfl ?_
    refine st_iload_n hR dX7_readPact_34 2 rfl rfl (pc' := 35) rfl ?_
    obtain ⟨r_3, hc_, hM⟩ := bd_e hM
    refine st_callV hR (k_X5_havePact hc_) cf_X7_150 (rm_le (Nat.le_of_ble_eq_true rfl) (Nat.le_of_ble_eq_true rfl)) [2] rfl rfl rfl 2 0 5 15 rfl rfl rfl rfl (rest := []) rfl (Nat.le_of_ble_eq_true rfl) dX7_readPact_35 (pc' := 38) rfl (Wn := [wX7 G q_r (q_t 0) (q_mt 0) r_law r_fault_2, wX8 G q_t t_signs t_length t_at_2 t_place_2 t_word_2 t_number_2 t_sign_2 t_end_2, wX5 G q_mt mt_farms mt_fences mt_shares mt_names mt_flock mt_dogs mt_hunger mt_fenced mt_heights mt_pacts mt_partner mt_often mt_toothed mt_feeding mt_going]) rfl ?_
    refine st_if_eq hR dX7_readPact_38 (tgt := 46) (by decide) (pc' := 41) rfl (fun c_ => ?_) (fun c_ => ?_)
    · have hM := it_t c_ hM
      exact J46 _ _ _ _ _ _ _ _ _ _ hM
    · have hM := it_f c_ hM
      exact J41 _ _ _ _ _ _ _ _ _ _ hM
set_option maxHeartbeats 16000000 in
set_option maxRecDepth 100000 in
theorem k_X7_readShare {l : Launch} {G : GG} {q_r q_t q_mt : Nat → Nat} {r_fault t_length t_at t_place t_number t_sign t_end mt_farms mt_fences mt_shares mt_toothed : Int32} {t_word : Int64} {t_signs mt_flock mt_dogs mt_hunger mt_fenced mt_heights mt_pacts mt_partner mt_often : Nat → Int32} {mt_names : Nat → Int64} {r_law mt_feeding mt_going : Nat}  {o_r_fault : Int32} {o_t_at : Int32} {o_t_place : Int32} {o_t_word : Int64} {o_t_number : Int32} {o_t_sign : Int32} {o_t_end : Int32} {o_mt_shares : Int32} {o_mt_partner : Nat → Int32} (hM : f_X7_readShare t_signs t_length mt_farms mt_names r_fault t_at t_place t_word t_number t_sign t_end mt_shares mt_partner = some (o_r_fault, o_t_at, o_t_place, o_t_word, o_t_number, o_t_sign, o_t_end, o_mt_shares, o_mt_partner)) : MC l G yX7_readShare cX7_readShare 3 none (RM 2) [.ref (q_r 0)] [wX7 G q_r (q_t 0) (q_mt 0) r_law r_fault, wX8 G q_t t_signs t_length t_at t_place t_word t_number t_sign t_end, wX5 G q_mt mt_farms mt_fences mt_shares mt_names mt_flock mt_dogs mt_hunger mt_fenced mt_heights mt_pacts mt_partner mt_often mt_toothed mt_feeding mt_going] none [wX7 G q_r (q_t 0) (q_mt 0) r_law o_r_fault, wX8 G q_t t_signs t_length o_t_at o_t_place o_t_word o_t_number o_t_sign o_t_end, wX5 G q_mt mt_farms mt_fences o_mt_shares mt_names mt_flock mt_dogs mt_hunger mt_fenced mt_heights mt_pacts o_mt_partner mt_often mt_toothed mt_feeding mt_going] := by
  refine MC.of pn_X7 (Nat.le_of_ble_eq_true rfl) (fun K hR hret => ?_)
  have hR : Rl l G RX7 cX7_readShare 3 (RM 2) K := hR
  show K [wX7 G q_r (q_t 0) (q_mt 0) r_law r_fault, wX8 G q_t t_signs t_length t_at t_place t_word t_number t_sign t_end, wX5 G q_mt mt_farms mt_fences mt_shares mt_names mt_flock mt_dogs mt_hunger mt_fenced mt_heights mt_pacts mt_partner mt_often mt_toothed mt_feeding mt_going] [(0, .ref (q_r 0))] 0 []
  have J52 : ∀ (r_fault : Int32) (t_at : Int32) (t_place : Int32) (t_word : Int64) (t_number : Int32) (t_sign : Int32) (t_end : Int32) (mt_shares : Int32) (mt_partner : Nat → Int32) (l1 : Int32) (l2 : Int32), f_X7_readShare_B52  t_signs t_length mt_farms mt_names r_fault t_at t_place t_word t_number t_sign t_end mt_shares mt_partner l1 l2 = some (o_r_fault, o_t_at, o_t_place, o_t_word, o_t_number, o_t_sign, o_t_end, o_mt_shares, o_mt_partner) → K [wX7 G q_r (q_t 0) (q_mt 0) r_law r_fault, wX8 G q_t t_signs t_length t_at t_place t_word t_number t_sign t_end, wX5 G q_mt mt_farms mt_fences mt_shares mt_names mt_flock mt_dogs mt_hunger mt_fenced mt_heights mt_pacts mt_partner mt_often mt_toothed mt_feeding mt_going] [(0, .ref (q_r 0)), (1, .int l1), (2, .int l2)] 52 [] := by
    intro r_fault t_at t_place t_word t_number t_sign t_end mt_shares mt_partner l1 l2 hM
    refine st_aload_n hR dX7_readShare_52 0 rfl rfl (pc' := 53) rfl ?_
    refine st_get hR dX7_readShare_53 fg_X7_9_6_0 0 0 rfl rfl rfl (pc' := 56) rfl ?_
    obtain ⟨⟨t_at_1, t_place_1, t_word_1, t_number_1, t_sign_1, t_end_1⟩, hc_, hM⟩ := bd_e hM
    refine st_callV hR (k_X8_next hc_) cf_X7_106 (rm_le (Nat.le_of_ble_eq_true rfl) (Nat.le_of_ble_eq_true rfl)) [1] rfl rfl rfl 1 0 7 8 rfl rfl rfl rfl (rest := []) rfl (Nat.le_of_ble_eq_true rfl) dX7_readShare_56 (pc' := 59) rfl (Wn := [wX7 G q_r (q_t 0) (q_mt 0) r_law r_fault, wX8 G q_t t_signs t_length t_at_1 t_place_1 t_word_1 t_number_1 t_sign_1 t_end_1, wX5 G q_mt mt_farms mt_fences mt_shares mt_names mt_flock mt_dogs mt_hunger mt_fenced mt_heights mt_pacts mt_partner mt_often mt_toothed mt_feeding mt_going]) rfl ?_
    refine st_aload_n hR dX7_readShare_59 0 rfl rfl (pc' := 60) rfl ?_
    refine st_bipush hR dX7_readShare_60 (v := 59) rfl (pc' := 62) rfl ?_
    obtain ⟨⟨r_fault_1, t_at_2, t_place_2, t_word_2, t_number_2, t_sign_2, t_end_2⟩, hc_, hM⟩ := bd_e hM
    refine st_callV hR (k_X7_readSign hc_) cf_X7_130 (rm_le (Nat.le_of_ble_eq_true rfl) (Nat.le_of_ble_eq_true rfl)) [0, 1] rfl rfl rfl 0 0 6 4 rfl rfl rfl rfl (rest := []) rfl (Nat.le_of_ble_eq_true rfl) dX7_readShare_62 (pc' := 65) rfl (Wn := [wX7 G q_r (q_t 0) (q_mt 0) r_law r_fault_1, wX8 G q_t t_signs t_length t_at_2 t_place_2 t_word_2 t_number_2 t_sign_2 t_end_2, wX5 G q_mt mt_farms mt_fences mt_shares mt_names mt_flock mt_dogs mt_hunger mt_fenced mt_heights mt_pacts mt_partner mt_often mt_toothed mt_feeding mt_going]) rfl ?_
    refine st_aload_n hR dX7_readShare_65 0 rfl rfl (pc' := 66) rfl ?_
    refine st_get hR dX7_readShare_66 fg_X7_31_6_3 0 0 rfl rfl rfl (pc' := 69) rfl ?_
    refine st_if_ne hR dX7_readShare_69 (tgt := 81) (by decide) (pc' := 72) rfl (fun c_ => ?_) (fun c_ => ?_)
    · have hM := it_f c_ hM
      cases hM
      exact hret _ _ dX7_readShare_81 ro_v
    · have hM := it_t c_ hM
      refine st_aload_n hR dX7_readShare_72 0 rfl rfl (pc' := 73) rfl ?_
      refine st_get hR dX7_readShare_73 fg_X7_15_6_1 0 0 rfl rfl rfl (pc' := 76) rfl ?_
      refine st_iload_n hR dX7_readShare_76 1 rfl rfl (pc' := 77) rfl ?_
      refine st_iload_n hR dX7_readShare_77 2 rfl rfl (pc' := 78) rfl ?_
      obtain ⟨⟨mt_shares_1, mt_partner_1⟩, hc_, hM⟩ := bd_e hM
      refine st_callV hR (k_X5_addShare hc_) cf_X7_161 (rm_le (Nat.le_of_ble_eq_true rfl) (Nat.le_of_ble_eq_true rfl)) [2] rfl rfl rfl 2 0 5 15 rfl rfl rfl rfl (rest := []) rfl (Nat.le_of_ble_eq_true rfl) dX7_readShare_78 (pc' := 81) rfl (Wn := [wX7 G q_r (q_t 0) (q_mt 0) r_law r_fault_1, wX8 G q_t t_signs t_length t_at_2 t_place_2 t_word_2 t_number_2 t_sign_2 t_end_2, wX5 G q_mt mt_farms mt_fences mt_shares_1 mt_names mt_flock mt_dogs mt_hunger mt_fenced mt_heights mt_pacts mt_partner_1 mt_often mt_toothed mt_feeding mt_going]) rfl ?_
      cases hM
      exact hret _ _ dX7_readShare_81 ro_v
  have J30 : ∀ (r_fault : Int32) (t_at : Int32) (t_place : Int32) (t_word : Int64) (t_number : Int32) (t_sign : Int32) (t_end : Int32) (mt_shares : Int32) (mt_partner : Nat → Int32) (l1 : Int32), f_X7_readShare_B30  t_signs t_length mt_farms mt_names r_fault t_at t_place t_word t_number t_sign t_end mt_shares mt_partner l1 = some (o_r_fault, o_t_at, o_t_place, o_t_word, o_t_number, o_t_sign, o_t_end, o_mt_shares, o_mt_partner) → K [wX7 G q_r (q_t 0) (q_mt 0) r_law r_fault, wX8 G q_t t_signs t_length t_at t_place t_word t_number t_sign t_end, wX5 G q_mt mt_farms mt_fences mt_shares mt_names mt_flock mt_dogs mt_hunger mt_fenced mt_heights mt_pacts mt_partner mt_often mt_toothed mt_feeding mt_going] [(0, .ref (q_r 0)), (1, .int l1)] 30 [] := by
    intro r_fault t_at t_place t_word t_number t_sign t_end mt_shares mt_partner l1 hM
    refine st_aload_n hR dX7_readShare_30 0 rfl rfl (pc' := 31) rfl ?_
    refine st_get hR dX7_readShare_31 fg_X7_9_6_0 0 0 rfl rfl rfl (pc' := 34) rfl ?_
    obtain ⟨⟨t_at_1, t_place_1, t_word_1, t_number_1, t_sign_1, t_end_1⟩, hc_, hM⟩ := bd_e hM
    refine st_callV hR (k_X8_next hc_) cf_X7_106 (rm_le (Nat.le_of_ble_eq_true rfl) (Nat.le_of_ble_eq_true rfl)) [1] rfl rfl rfl 1 0 7 8 rfl rfl rfl rfl (rest := []) rfl (Nat.le_of_ble_eq_true rfl) dX7_readShare_34 (pc' := 37) rfl (Wn := [wX7 G q_r (q_t 0) (q_mt 0) r_law r_fault, wX8 G q_t t_signs t_length t_at_1 t_place_1 t_word_1 t_number_1 t_sign_1 t_end_1, wX5 G q_mt mt_farms mt_fences mt_shares mt_names mt_flock mt_dogs mt_hunger mt_fenced mt_heights mt_pacts mt_partner mt_often mt_toothed mt_feeding mt_going]) rfl ?_
    refine st_aload_n hR dX7_readShare_37 0 rfl rfl (pc' := 38) rfl ?_
    obtain ⟨⟨r_1, r_fault_1⟩, hc_, hM⟩ := bd_e hM
    refine st_callV hR (k_X7_oldFarm hc_) cf_X7_138 (rm_le (Nat.le_of_ble_eq_true rfl) (Nat.le_of_ble_eq_true rfl)) [0, 1, 2] rfl rfl rfl 0 0 6 4 rfl rfl rfl rfl (rest := []) rfl (Nat.le_of_ble_eq_true rfl) dX7_readShare_38 (pc' := 41) rfl (Wn := [wX7 G q_r (q_t 0) (q_mt 0) r_law r_fault_1, wX8 G q_t t_signs t_length t_at_1 t_place_1 t_word_1 t_number_1 t_sign_1 t_end_1, wX5 G q_mt mt_farms mt_fences mt_shares mt_names mt_flock mt_dogs mt_hunger mt_fenced mt_heights mt_pacts mt_partner mt_often mt_toothed mt_feeding mt_going]) rfl ?_
    refine st_istore_n hR dX7_readShare_41 rfl (Nat.le_of_ble_eq_true rfl) [1, 2, 0] (lv' := [(0, .ref (q_r 0)), (1, .int l1), (2, .int r_1)]) rfl (pc' := 42) rfl ?_
    refine st_iload_n hR dX7_readShare_42 1 rfl rfl (pc' := 43) rfl ?_
    refine st_iload_n hR dX7_readShare_43 2 rfl rfl (pc' := 44) rfl ?_
    refine st_icmp_ne hR dX7_readShare_44 (tgt := 52) (by decide) (pc' := 47) rfl (fun c_ => ?_) (fun c_ => ?_)
    · have hM := it_f c_ hM
      exact J52 _ _ _ _ _ _ _ _ _ _ _ hM
    · have hM := it_t c_ hM
      refine st_aload_n hR dX7_readShare_47 0 rfl rfl (pc' := 48) rfl ?_
      refine st_iconst hR dX7_readShare_48 (v := 3) rfl (pc' := 49) rfl ?_
      obtain ⟨r_fault_2, hc_, hM⟩ := bd_e hM
      refine st_callV hR (k_X7_refuse hc_) cf_X7_99 (rm_le (Nat.le_of_ble_eq_true rfl) (Nat.le_of_ble_eq_true rfl)) [0, 1] rfl rfl rfl 0 0 6 4 rfl rfl rfl rfl (rest := []) rfl (Nat.le_of_ble_eq_true rfl) dX7_readShare_49 (pc' := 52) rfl (Wn := [wX7 G q_r (q_t 0) (q_mt 0) r_law r_fault_2, wX8 G q_t t_signs t_length t_at_1 t_place_1 t_word_1 t_number_1 t_sign_1 t_end_1, wX5 G q_mt mt_farms mt_fences mt_shares mt_names mt_flock mt_dogs mt_hunger mt_fenced mt_heights mt_pacts mt_partner mt_often mt_toothed mt_feeding mt_going]) rfl ?_
      exact J52 _ _ _ _ _ _ _ _ _ _ _ hM
  refine st_aload_n hR dX7_readShare_0 0 rfl rfl (pc' := 1) rfl ?_
  refine st_get hR dX7_readShare_1 fg_X7_9_6_0 0 0 rfl rfl rfl (pc' := 4) rfl ?_
  obtain ⟨⟨t_at_1, t_place_1, t_word_1, t_number_1, t_sign_1, t_end_1⟩, hc_, hM⟩ := bd_e hM
  refine st_callV hR (k_X8_next hc_) cf_X7_106 (rm_le (Nat.le_of_ble_eq_true rfl) (Nat.le_of_ble_eq_true rfl)) [1] rfl rfl rfl 1 0 7 8 rfl rfl rfl rfl (rest := []) rfl (Nat.le_of_ble_eq_true rfl) dX7_readShare_4 (pc' := 7) rfl (Wn := [wX7 G q_r (q_t 0) (q_mt 0) r_law r_fault, wX8 G q_t t_signs t_length t_at_1 t_place_1 t_word_1 t_number_1 t_sign_1 t_end_1, wX5 G q_mt mt_farms mt_fences mt_shares mt_names mt_flock mt_dogs mt_hunger mt_fenced mt_heights mt_pacts mt_partner mt_often mt_toothed mt_feeding mt_going]) rfl ?_
  refine st_aload_n hR dX7_readShare_7 0 rfl rfl (pc' := 8) rfl ?_
  obtain ⟨⟨r_1, r_fault_1⟩, hc_, hM⟩ := bd_e hM
  refine st_callV hR (k_X7_oldFarm hc_) cf_X7_138 (rm_le (Nat.le_of_ble_eq_true rfl) (Nat.le_of_ble_eq_true rfl)) [0, 1, 2] rfl rfl rfl 0 0 6 4 rfl rfl rfl rfl (rest := []) rfl (Nat.le_of_ble_eq_true rfl) dX7_readShare_8 (pc' := 11) rfl (Wn := [wX7 G q_r (q_t 0) (q_mt 0) r_law r_fault_1, wX8 G q_t t_signs t_length t_at_1 t_place_1 t_word_1 t_number_1 t_sign_1 t_end_1, wX5 G q_mt mt_farms mt_fences mt_shares mt_names mt_flock mt_dogs mt_hunger mt_fenced mt_heights mt_pacts mt_partner mt_often mt_toothed mt_feeding mt_going]) rfl ?_
  refine st_istore_n hR dX7_readShare_11 rfl (Nat.le_of_ble_eq_true rfl) [1, 0] (lv' := [(0, .ref (q_r 0)), (1, .int r_1)]) rfl (pc' := 12) rfl ?_
  refine st_aload_n hR dX7_readShare_12 0 rfl rfl (pc' := 13) rfl ?_
  refine st_get hR dX7_readShare_13 fg_X7_15_6_1 0 0 rfl rfl rfl (pc' := 16) rfl ?_
  refine st_get hR dX7_readShare_16 fg_X7_157_5_10 2 0 rfl rfl rfl (pc' := 19) rfl ?_
  refine st_iload_n hR dX7_readShare_19 1 rfl rfl (pc' := 20) rfl ?_
  obtain ⟨hin_, hM⟩ := g_in_e hM
  refine st_iald hR dX7_readShare_20 2 8 rfl rfl hin_ (v := mt_partner (ix r_1)) rfl (pc' := 21) rfl ?_
  refine st_iconst hR dX7_readShare_21 (v := (-1)) (by decide) (pc' := 22) rfl ?_
  refine st_icmp_eq hR dX7_readShare_22 (tgt := 30) (by decide) (pc' := 25) rfl (fun c_ => ?_) (fun c_ => ?_)
  · have hM := it_t c_ hM
    exact J30 _ _ _ _ _ _ _ _ _ _ hM
  · have hM := it_f c_ hM
    refine st_aload_n hR dX7_readShare_25 0 rfl rfl (pc' := 26) rfl ?_
    refine st_iconst hR dX7_readShare_26 (v := 3) rfl (pc' := 27) rfl ?_
    obtain ⟨r_fault_2, hc_, hM⟩ := bd_e hM
    refine st_callV hR (k_X7_refuse hc_) cf_X7_99 (rm_le (Nat.le_of_ble_eq_true rfl) (Nat.le_of_ble_eq_true rfl)) [0, 1] rfl rfl rfl 0 0 6 4 rfl rfl rfl rfl (rest := []) rfl (Nat.le_of_ble_eq_true rfl) dX7_readShare_27 (pc' := 30) rfl (Wn := [wX7 G q_r (q_t 0) (q_mt 0) r_law r_fault_2, wX8 G q_t t_signs t_length t_at_1 t_place_1 t_word_1 t_number_1 t_sign_1 t_end_1, wX5 G q_mt mt_farms mt_fences mt_shares mt_names mt_flock mt_dogs mt_hunger mt_fenced mt_heights mt_pacts mt_partner mt_often mt_toothed mt_feeding mt_going]) rfl ?_
    exact J30 _ _ _ _ _ _ _ _ _ _ hM
set_option maxHeartbeats 16000000 in
set_option maxRecDepth 100000 in
theorem k_X7_readTooth {l : Launch} {G : GG} {q_r q_t q_mt : Nat → Nat} {r_fault t_length t_at t_place t_number t_sign t_end mt_farms mt_fences mt_shares mt_toothed : Int32} {t_word : Int64} {t_signs mt_flock mt_dogs mt_hunger mt_fenced mt_heights mt_pacts mt_partner mt_often : Nat → Int32} {mt_names : Nat → Int64} {r_law mt_feeding mt_going : Nat}  {o_r_fault : Int32} {o_t_at : Int32} {o_t_place : Int32} {o_t_word : Int64} {o_t_number : Int32} {o_t_sign : Int32} {o_t_end : Int32} {o_mt_often : Nat → Int32} {o_mt_toothed : Int32} (hM : f_X7_readTooth t_signs t_length mt_farms mt_names r_fault t_at t_place t_word t_number t_sign t_end mt_often mt_toothed = some (o_r_fault, o_t_at, o_t_place, o_t_word, o_t_number, o_t_sign, o_t_end, o_mt_often, o_mt_toothed)) : MC l G yX7_readTooth cX7_readTooth 6 none (RM 2) [.ref (q_r 0)] [wX7 G q_r (q_t 0) (q_mt 0) r_law r_fault, wX8 G q_t t_signs t_length t_at t_place t_word t_number t_sign t_end, wX5 G q_mt mt_farms mt_fences mt_shares mt_names mt_flock mt_dogs mt_hunger mt_fenced mt_heights mt_pacts mt_partner mt_often mt_toothed mt_feeding mt_going] none [wX7 G q_r (q_t 0) (q_mt 0) r_law o_r_fault, wX8 G q_t t_signs t_length o_t_at o_t_place o_t_word o_t_number o_t_sign o_t_end, wX5 G q_mt mt_farms mt_fences mt_shares mt_names mt_flock mt_dogs mt_hunger mt_fenced mt_heights mt_pacts mt_partner o_mt_often o_mt_toothed mt_feeding mt_going] := by
  refine MC.of pn_X7 (Nat.le_of_ble_eq_true rfl) (fun K hR hret => ?_)
  have hR : Rl l G RX7 cX7_readTooth 6 (RM 2) K := hR
  show K [wX7 G q_r (q_t 0) (q_mt 0) r_law r_fault, wX8 G q_t t_signs t_length t_at t_place t_word t_number t_sign t_end, wX5 G q_mt mt_farms mt_fences mt_shares mt_names mt_flock mt_dogs mt_hunger mt_fenced mt_heights mt_pacts mt_partner mt_often mt_toothed mt_feeding mt_going] [(0, .ref (q_r 0))] 0 []
  have J117 : ∀ (r_fault : Int32) (t_at : Int32) (t_place : Int32) (t_word : Int64) (t_number : Int32) (t_sign : Int32) (t_end : Int32) (mt_often : Nat → Int32) (mt_toothed : Int32) (l1 : Int32), f_X7_readTooth_B117  t_signs t_length mt_farms mt_names r_fault t_at t_place t_word t_number t_sign t_end mt_often mt_toothed l1 = some (o_r_fault, o_t_at, o_t_place, o_t_word, o_t_number, o_t_sign, o_t_end, o_mt_often, o_mt_toothed) → K [wX7 G q_r (q_t 0) (q_mt 0) r_law r_fault, wX8 G q_t t_signs t_length t_at t_place t_word t_number t_sign t_end, wX5 G q_mt mt_farms mt_fences mt_shares mt_names mt_flock mt_dogs mt_hunger mt_fenced mt_heights mt_pacts mt_partner mt_often mt_toothed mt_feeding mt_going] [(0, .ref (q_r 0)), (1, .int l1)] 117 [] := by
    intro r_fault t_at t_place t_word t_number t_sign t_end mt_often mt_toothed l1 hM
    refine st_aload_n hR dX7_readTooth_117 0 rfl rfl (pc' := 118) rfl ?_
    refine st_bipush hR dX7_readTooth_118 (v := 59) rfl (pc' := 120) rfl ?_
    obtain ⟨⟨r_fault_1, t_at_1, t_place_1, t_word_1, t_number_1, t_sign_1, t_end_1⟩, hc_, hM⟩ := bd_e hM
    refine st_callV hR (k_X7_readSign hc_) cf_X7_130 (rm_le (Nat.le_of_ble_eq_true rfl) (Nat.le_of_ble_eq_true rfl)) [0, 1] rfl rfl rfl 0 0 6 4 rfl rfl rfl rfl (rest := []) rfl (Nat.le_of_ble_eq_true rfl) dX7_readTooth_120 (pc' := 123) rfl (Wn := [wX7 G q_r (q_t 0) (q_mt 0) r_law r_fault_1, wX8 G q_t t_signs t_length t_at_1 t_place_1 t_word_1 t_number_1 t_sign_1 t_end_1, wX5 G q_mt mt_farms mt_fences mt_shares mt_names mt_flock mt_dogs mt_hunger mt_fenced mt_heights mt_pacts mt_partner mt_often mt_toothed mt_feeding mt_going]) rfl ?_
    refine st_aload_n hR dX7_readTooth_123 0 rfl rfl (pc' := 124) rfl ?_
    refine st_get hR dX7_readTooth_124 fg_X7_31_6_3 0 0 rfl rfl rfl (pc' := 127) rfl ?_
    refine st_if_ne hR dX7_readTooth_127 (tgt := 138) (by decide) (pc' := 130) rfl (fun c_ => ?_) (fun c_ => ?_)
    · have hM := it_f c_ hM
      cases hM
      exact hret _ _ dX7_readTooth_138 ro_v
    · have hM := it_t c_ hM
      refine st_aload_n hR dX7_readTooth_130 0 rfl rfl (pc' := 131) rfl ?_
      refine st_get hR dX7_readTooth_131 fg_X7_15_6_1 0 0 rfl rfl rfl (pc' := 134) rfl ?_
      refine st_iload_n hR dX7_readTooth_134 1 rfl rfl (pc' := 135) rfl ?_
      obtain ⟨mt_toothed_1, hc_, hM⟩ := bd_e hM
      refine st_callV hR (k_X5_addTooth hc_) cf_X7_174 (rm_le (Nat.le_of_ble_eq_true rfl) (Nat.le_of_ble_eq_true rfl)) [2] rfl rfl rfl 2 0 5 15 rfl rfl rfl rfl (rest := []) rfl (Nat.le_of_ble_eq_true rfl) dX7_readTooth_135 (pc' := 138) rfl (Wn := [wX7 G q_r (q_t 0) (q_mt 0) r_law r_fault_1, wX8 G q_t t_signs t_length t_at_1 t_place_1 t_word_1 t_number_1 t_sign_1 t_end_1, wX5 G q_mt mt_farms mt_fences mt_shares mt_names mt_flock mt_dogs mt_hunger mt_fenced mt_heights mt_pacts mt_partner mt_often mt_toothed_1 mt_feeding mt_going]) rfl ?_
      cases hM
      exact hret _ _ dX7_readTooth_138 ro_v
  have L39 : ∀ (n39 : Nat) (r_fault : Int32) (t_at : Int32) (t_place : Int32) (t_word : Int64) (t_number : Int32) (t_sign : Int32) (t_end : Int32) (mt_often : Nat → Int32) (mt_toothed : Int32) (l1 : Int32) (l2 : Int32) (l3 : Int32), f_X7_readTooth_L39  t_signs t_length mt_farms mt_names n39 r_fault t_at t_place t_word t_number t_sign t_end mt_often mt_toothed l1 l2 l3 = some (o_r_fault, o_t_at, o_t_place, o_t_word, o_t_number, o_t_sign, o_t_end, o_mt_often, o_mt_toothed) → K [wX7 G q_r (q_t 0) (q_mt 0) r_law r_fault, wX8 G q_t t_signs t_length t_at t_place t_word t_number t_sign t_end, wX5 G q_mt mt_farms mt_fences mt_shares mt_names mt_flock mt_dogs mt_hunger mt_fenced mt_heights mt_pacts mt_partner mt_often mt_toothed mt_feeding mt_going] [(0, .ref (q_r 0)), (1, .int l1), (2, .int l2), (3, .int l3)] 39 [] := by
    intro n39
    induction n39 with
    | zero => intro r_fault t_at t_place t_word t_number t_sign t_end mt_often mt_toothed l1 l2 l3 hM; exact no_some hM
    | succ n39 ih39 =>
      have J87 : ∀ (r_fault : Int32) (t_at : Int32) (t_place : Int32) (t_word : Int64) (t_number : Int32) (t_sign : Int32) (t_end : Int32) (mt_often : Nat → Int32) (mt_toothed : Int32) (l1 : Int32) (l2 : Int32) (l3 : Int32), f_X7_readTooth_B87  (f_X7_readTooth_L39  t_signs t_length mt_farms mt_names n39) t_signs t_length mt_farms mt_names r_fault t_at t_place t_word t_number t_sign t_end mt_often mt_toothed l1 l2 l3 = some (o_r_fault, o_t_at, o_t_place, o_t_word, o_t_number, o_t_sign, o_t_end, o_mt_often, o_mt_toothed) → K [wX7 G q_r (q_t 0) (q_mt 0) r_law r_fault, wX8 G q_t t_signs t_length t_at t_place t_word t_number t_sign t_end, wX5 G q_mt mt_farms mt_fences mt_shares mt_names mt_flock mt_dogs mt_hunger mt_fenced mt_heights mt_pacts mt_partner mt_often mt_toothed mt_feeding mt_going] [(0, .ref (q_r 0)), (1, .int l1), (2, .int l2), (3, .int l3)] 87 [] := by
        intro r_fault t_at t_place t_word t_number t_sign t_end mt_often mt_toothed l1 l2 l3 hM
        refine st_aload_n hR dX7_readTooth_87 0 rfl rfl (pc' := 88) rfl ?_
        refine st_bipush hR dX7_readTooth_88 (v := 9) rfl (pc' := 90) rfl ?_
        obtain ⟨⟨r_1, r_fault_1, t_at_1, t_place_1, t_word_1, t_number_1, t_sign_1, t_end_1⟩, hc_, hM⟩ := bd_e hM
        refine st_callV hR (k_X7_readNumber hc_) cf_X7_123 (rm_le (Nat.le_of_ble_eq_true rfl) (Nat.le_of_ble_eq_true rfl)) [0, 1] rfl rfl rfl 0 0 6 4 rfl rfl rfl rfl (rest := []) rfl (Nat.le_of_ble_eq_true rfl) dX7_readTooth_90 (pc' := 93) rfl (Wn := [wX7 G q_r (q_t 0) (q_mt 0) r_law r_fault_1, wX8 G q_t t_signs t_length t_at_1 t_place_1 t_word_1 t_number_1 t_sign_1 t_end_1, wX5 G q_mt mt_farms mt_fences mt_shares mt_names mt_flock mt_dogs mt_hunger mt_fenced mt_heights mt_pacts mt_partner mt_often mt_toothed mt_feeding mt_going]) rfl ?_
        refine st_istore hR dX7_readTooth_93 (Nat.le_of_ble_eq_true rfl) [1, 2, 3, 4, 0] (lv' := [(0, .ref (q_r 0)), (1, .int l1), (2, .int l2), (3, .int l3), (5, .int r_1)]) rfl (pc' := 95) rfl ?_
        refine st_iload_n hR dX7_readTooth_95 2 rfl rfl (pc' := 96) rfl ?_
        refine st_iload hR dX7_readTooth_96 4 rfl (pc' := 98) rfl ?_
        refine st_iadd hR dX7_readTooth_98 (pc' := 99) rfl ?_
        refine st_topi (fun l2_1 e_ => ?_)
        have hM := lt_e e_ hM
        refine st_istore_n hR dX7_readTooth_99 rfl (Nat.le_of_ble_eq_true rfl) [1, 2, 0, 3, 4] (lv' := [(0, .ref (q_r 0)), (1, .int l1), (2, .int l2_1), (3, .int l3), (5, .int r_1)]) rfl (pc' := 100) rfl ?_
        refine st_aload_n hR dX7_readTooth_100 0 rfl rfl (pc' := 101) rfl ?_
        refine st_get hR dX7_readTooth_101 fg_X7_15_6_1 0 0 rfl rfl rfl (pc' := 104) rfl ?_
        refine st_iload_n hR dX7_readTooth_104 1 rfl rfl (pc' := 105) rfl ?_
        refine st_iload_n hR dX7_readTooth_105 3 rfl rfl (pc' := 106) rfl ?_
        refine st_iload hR dX7_readTooth_106 4 rfl (pc' := 108) rfl ?_
        obtain ⟨mt_often_1, hc_, hM⟩ := bd_e hM
        refine st_callV hR (k_X5_setOften hc_) cf_X7_171 (rm_le (Nat.le_of_ble_eq_true rfl) (Nat.le_of_ble_eq_true rfl)) [2] rfl rfl rfl 2 0 5 15 rfl rfl rfl rfl (rest := []) rfl (Nat.le_of_ble_eq_true rfl) dX7_readTooth_108 (pc' := 111) rfl (Wn := [wX7 G q_r (q_t 0) (q_mt 0) r_law r_fault_1, wX8 G q_t t_signs t_length t_at_1 t_place_1 t_word_1 t_number_1 t_sign_1 t_end_1, wX5 G q_mt mt_farms mt_fences mt_shares mt_names mt_flock mt_dogs mt_hunger mt_fenced mt_heights mt_pacts mt_partner mt_often_1 mt_toothed mt_feeding mt_going]) rfl ?_
        obtain ⟨l3_1, e_⟩ : ∃ y : Int32, y = l3 + 1 := ⟨_, rfl⟩
        refine st_iinc hR dX7_readTooth_111 (Nat.le_of_ble_eq_true rfl) 3 [1, 2, 3, 0, 4] (v := l3_1) rfl (by rw [e_]; rfl) (lv' := [(0, .ref (q_r 0)), (1, .int l1), (2, .int l2_1), (3, .int l3_1), (5, .int r_1)]) rfl (pc' := 114) rfl ?_
        have hM := lt_e e_ hM
        refine st_goto hR dX7_readTooth_114 (tgt := 39) (by decide) ?_
        exact st_lv hR [0, 1, 2, 3] rfl (ih39 _ _ _ _ _ _ _ _ _ _ _ _ hM)
      have J65 : ∀ (r_fault : Int32) (t_at : Int32) (t_place : Int32) (t_word : Int64) (t_number : Int32) (t_sign : Int32) (t_end : Int32) (mt_often : Nat → Int32) (mt_toothed : Int32) (l1 : Int32) (l2 : Int32) (l3 : Int32) (s0 : Int32), f_X7_readTooth_B65  (f_X7_readTooth_L39  t_signs t_length mt_farms mt_names n39) t_signs t_length mt_farms mt_names r_fault t_at t_place t_word t_number t_sign t_end mt_often mt_toothed l1 l2 l3 s0 = some (o_r_fault, o_t_at, o_t_place, o_t_word, o_t_number, o_t_sign, o_t_end, o_mt_often, o_mt_toothed) → K [wX7 G q_r (q_t 0) (q_mt 0) r_law r_fault, wX8 G q_t t_signs t_length t_at t_place t_word t_number t_sign t_end, wX5 G q_mt mt_farms mt_fences mt_shares mt_names mt_flock mt_dogs mt_hunger mt_fenced mt_heights mt_pacts mt_partner mt_often mt_toothed mt_feeding mt_going] [(0, .ref (q_r 0)), (1, .int l1), (2, .int l2), (3, .int l3)] 65 [.int s0] := by
        intro r_fault t_at t_place t_word t_number t_sign t_end mt_often mt_toothed l1 l2 l3 s0 hM
        refine st_istore hR dX7_readTooth_65 (Nat.le_of_ble_eq_true rfl) [1, 2, 3, 4, 0] (lv' := [(0, .ref (q_r 0)), (1, .int l1), (2, .int l2), (3, .int l3), (4, .int s0)]) rfl (pc' := 67) rfl ?_
        refine st_aload_n hR dX7_readTooth_67 0 rfl rfl (pc' := 68) rfl ?_
        refine st_get hR dX7_readTooth_68 fg_X7_9_6_0 0 0 rfl rfl rfl (pc' := 71) rfl ?_
        refine st_get hR dX7_readTooth_71 fg_X7_168_7_5 1 0 rfl rfl rfl (pc' := 74) rfl ?_
        refine st_if_ne hR dX7_readTooth_74 (tgt := 87) (by decide) (pc' := 77) rfl (fun c_ => ?_) (fun c_ => ?_)
        · have hM := it_f c_ hM
          exact st_lv hR [0, 1, 2, 3] rfl (J87 _ _ _ _ _ _ _ _ _ _ _ _ hM)
        · have hM := it_t c_ hM
          refine st_iload hR dX7_readTooth_77 4 rfl (pc' := 79) rfl ?_
          refine st_if_ne hR dX7_readTooth_79 (tgt := 87) (by decide) (pc' := 82) rfl (fun c_ => ?_) (fun c_ => ?_)
          · have hM := it_f c_ hM
            exact st_lv hR [0, 1, 2, 3] rfl (J87 _ _ _ _ _ _ _ _ _ _ _ _ hM)
          · have hM := it_t c_ hM
            refine st_aload_n hR dX7_readTooth_82 0 rfl rfl (pc' := 83) rfl ?_
            refine st_iconst hR dX7_readTooth_83 (v := 4) rfl (pc' := 84) rfl ?_
            obtain ⟨r_fault_1, hc_, hM⟩ := bd_e hM
            refine st_callV hR (k_X7_refuse hc_) cf_X7_99 (rm_le (Nat.le_of_ble_eq_true rfl) (Nat.le_of_ble_eq_true rfl)) [0, 1] rfl rfl rfl 0 0 6 4 rfl rfl rfl rfl (rest := []) rfl (Nat.le_of_ble_eq_true rfl) dX7_readTooth_84 (pc' := 87) rfl (Wn := [wX7 G q_r (q_t 0) (q_mt 0) r_law r_fault_1, wX8 G q_t t_signs t_length t_at t_place t_word t_number t_sign t_end, wX5 G q_mt mt_farms mt_fences mt_shares mt_names mt_flock mt_dogs mt_hunger mt_fenced mt_heights mt_pacts mt_partner mt_often mt_toothed mt_feeding mt_going]) rfl ?_
            exact st_lv hR [0, 1, 2, 3] rfl (J87 _ _ _ _ _ _ _ _ _ _ _ _ hM)
      have J60 : ∀ (r_fault : Int32) (t_at : Int32) (t_place : Int32) (t_word : Int64) (t_number : Int32) (t_sign : Int32) (t_end : Int32) (mt_often : Nat → Int32) (mt_toothed : Int32) (l1 : Int32) (l2 : Int32) (l3 : Int32), f_X7_readTooth_B60  (f_X7_readTooth_L39  t_signs t_length mt_farms mt_names n39) t_signs t_length mt_farms mt_names r_fault t_at t_place t_word t_number t_sign t_end mt_often mt_toothed l1 l2 l3 = some (o_r_fault, o_t_at, o_t_place, o_t_word, o_t_number, o_t_sign, o_t_end, o_mt_often, o_mt_toothed) → K [wX7 G q_r (q_t 0) (q_mt 0) r_law r_fault, wX8 G q_t t_signs t_length t_at t_place t_word t_number t_sign t_end, wX5 G q_mt mt_farms mt_fences mt_shares mt_names mt_flock mt_dogs mt_hunger mt_fenced mt_heights mt_pacts mt_partner mt_often mt_toothed mt_feeding mt_going] [(0, .ref (q_r 0)), (1, .int l1), (2, .int l2), (3, .int l3)] 60 [] := by
        intro r_fault t_at t_place t_word t_number t_sign t_end mt_often mt_toothed l1 l2 l3 hM
        refine st_iconst hR dX7_readTooth_60 (v := 1) rfl (pc' := 61) rfl ?_
        refine st_goto hR dX7_readTooth_61 (tgt := 65) (by decide) ?_
        exact J65 _ _ _ _ _ _ _ _ _ _ _ _ _ hM
      intro r_fault t_at t_place t_word t_number t_sign t_end mt_often mt_toothed l1 l2 l3 hM
      have hM : f_X7_readTooth_L39b  (f_X7_readTooth_L39  t_signs t_length mt_farms mt_names n39) t_signs t_length mt_farms mt_names r_fault t_at t_place t_word t_number t_sign t_end mt_often mt_toothed l1 l2 l3 = some (o_r_fault, o_t_at, o_t_place, o_t_word, o_t_number, o_t_sign, o_t_end, o_mt_often, o_mt_toothed) := hM
      refine st_iload_n hR dX7_readTooth_39 3 rfl rfl (pc' := 40) rfl ?_
      refine st_iconst hR dX7_readTooth_40 (v := 4) rfl (pc' := 41) rfl ?_
      refine st_icmp_gt hR dX7_readTooth_41 (tgt := 117) (by decide) (pc' := 44) rfl (fun c_ => ?_) (fun c_ => ?_)
      · have hM := it_t c_ hM
        exact st_lv hR [0, 1] rfl (J117 _ _ _ _ _ _ _ _ _ _ hM)
      · have hM := it_f c_ hM
        refine st_aload_n hR dX7_readTooth_44 0 rfl rfl (pc' := 45) rfl ?_
        refine st_get hR dX7_readTooth_45 fg_X7_31_6_3 0 0 rfl rfl rfl (pc' := 48) rfl ?_
        refine st_if_ne hR dX7_readTooth_48 (tgt := 117) (by decide) (pc' := 51) rfl (fun c_ => ?_) (fun c_ => ?_)
        · have hM := it_f c_ hM
          exact st_lv hR [0, 1] rfl (J117 _ _ _ _ _ _ _ _ _ _ hM)
        · have hM := it_t c_ hM
          refine st_iload_n hR dX7_readTooth_51 3 rfl rfl (pc' := 52) rfl ?_
          refine st_iconst hR dX7_readTooth_52 (v := 4) rfl (pc' := 53) rfl ?_
          refine st_icmp_lt hR dX7_readTooth_53 (tgt := 60) (by decide) (pc' := 56) rfl (fun c_ => ?_) (fun c_ => ?_)
          · have hM := it_t c_ hM
            exact J60 _ _ _ _ _ _ _ _ _ _ _ _ hM
          · have hM := it_f c_ hM
            refine st_iload_n hR dX7_readTooth_56 2 rfl rfl (pc' := 57) rfl ?_
            refine st_if_le hR dX7_readTooth_57 (tgt := 64) (by decide) (pc' := 60) rfl (fun c_ => ?_) (fun c_ => ?_)
            · have hM := it_t c_ hM
              refine st_iconst hR dX7_readTooth_64 (v := 0) rfl (pc' := 65) rfl ?_
              exact J65 _ _ _ _ _ _ _ _ _ _ _ _ _ hM
            · have hM := it_f c_ hM
              exact J60 _ _ _ _ _ _ _ _ _ _ _ _ hM
  have J28 : ∀ (r_fault : Int32) (t_at : Int32) (t_place : Int32) (t_word : Int64) (t_number : Int32) (t_sign : Int32) (t_end : Int32) (mt_often : Nat → Int32) (mt_toothed : Int32) (l1 : Int32), f_X7_readTooth_B28  t_signs t_length mt_farms mt_names r_fault t_at t_place t_word t_number t_sign t_end mt_often mt_toothed l1 = some (o_r_fault, o_t_at, o_t_place, o_t_word, o_t_number, o_t_sign, o_t_end, o_mt_often, o_mt_toothed) → K [wX7 G q_r (q_t 0) (q_mt 0) r_law r_fault, wX8 G q_t t_signs t_length t_at t_place t_word t_number t_sign t_end, wX5 G q_mt mt_farms mt_fences mt_shares mt_names mt_flock mt_dogs mt_hunger mt_fenced mt_heights mt_pacts mt_partner mt_often mt_toothed mt_feeding mt_going] [(0, .ref (q_r 0)), (1, .int l1)] 28 [] := by
    intro r_fault t_at t_place t_word t_number t_sign t_end mt_often mt_toothed l1 hM
    refine st_aload_n hR dX7_readTooth_28 0 rfl rfl (pc' := 29) rfl ?_
    refine st_get hR dX7_readTooth_29 fg_X7_9_6_0 0 0 rfl rfl rfl (pc' := 32) rfl ?_
    obtain ⟨⟨t_at_1, t_place_1, t_word_1, t_number_1, t_sign_1, t_end_1⟩, hc_, hM⟩ := bd_e hM
    refine st_callV hR (k_X8_next hc_) cf_X7_106 (rm_le (Nat.le_of_ble_eq_true rfl) (Nat.le_of_ble_eq_true rfl)) [1] rfl rfl rfl 1 0 7 8 rfl rfl rfl rfl (rest := []) rfl (Nat.le_of_ble_eq_true rfl) dX7_readTooth_32 (pc' := 35) rfl (Wn := [wX7 G q_r (q_t 0) (q_mt 0) r_law r_fault, wX8 G q_t t_signs t_length t_at_1 t_place_1 t_word_1 t_number_1 t_sign_1 t_end_1, wX5 G q_mt mt_farms mt_fences mt_shares mt_names mt_flock mt_dogs mt_hunger mt_fenced mt_heights mt_pacts mt_partner mt_often mt_toothed mt_feeding mt_going]) rfl ?_
    refine st_iconst hR dX7_readTooth_35 (v := 0) rfl (pc' := 36) rfl ?_
    refine st_istore_n hR dX7_readTooth_36 rfl (Nat.le_of_ble_eq_true rfl) [1, 2, 0] (lv' := [(0, .ref (q_r 0)), (1, .int l1), (2, .int 0)]) rfl (pc' := 37) rfl ?_
    refine st_iconst hR dX7_readTooth_37 (v := 1) rfl (pc' := 38) rfl ?_
    refine st_istore_n hR dX7_readTooth_38 rfl (Nat.le_of_ble_eq_true rfl) [1, 2, 3, 0] (lv' := [(0, .ref (q_r 0)), (1, .int l1), (2, .int 0), (3, .int 1)]) rfl (pc' := 39) rfl ?_
    exact L39 FU _ _ _ _ _ _ _ _ _ _ _ _ hM
  refine st_aload_n hR dX7_readTooth_0 0 rfl rfl (pc' := 1) rfl ?_
  refine st_get hR dX7_readTooth_1 fg_X7_9_6_0 0 0 rfl rfl rfl (pc' := 4) rfl ?_
  obtain ⟨⟨t_at_1, t_place_1, t_word_1, t_number_1, t_sign_1, t_end_1⟩, hc_, hM⟩ := bd_e hM
  refine st_callV hR (k_X8_next hc_) cf_X7_106 (rm_le (Nat.le_of_ble_eq_true rfl) (Nat.le_of_ble_eq_true rfl)) [1] rfl rfl rfl 1 0 7 8 rfl rfl rfl rfl (rest := []) rfl (Nat.le_of_ble_eq_true rfl) dX7_readTooth_4 (pc' := 7) rfl (Wn := [wX7 G q_r (q_t 0) (q_mt 0) r_law r_fault, wX8 G q_t t_signs t_length t_at_1 t_place_1 t_word_1 t_number_1 t_sign_1 t_end_1, wX5 G q_mt mt_farms mt_fences mt_shares mt_names mt_flock mt_dogs mt_hunger mt_fenced mt_heights mt_pacts mt_partner mt_often mt_toothed mt_feeding mt_going]) rfl ?_
  refine st_aload_n hR dX7_readTooth_7 0 rfl rfl (pc' := 8) rfl ?_
  obtain ⟨⟨r_1, r_fault_1⟩, hc_, hM⟩ := bd_e hM
  refine st_callV hR (k_X7_oldFarm hc_) cf_X7_138 (rm_le (Nat.le_of_ble_eq_true rfl) (Nat.le_of_ble_eq_true rfl)) [0, 1, 2] rfl rfl rfl 0 0 6 4 rfl rfl rfl rfl (rest := []) rfl (Nat.le_of_ble_eq_true rfl) dX7_readTooth_8 (pc' := 11) rfl (Wn := [wX7 G q_r (q_t 0) (q_mt 0) r_law r_fault_1, wX8 G q_t t_signs t_length t_at_1 t_place_1 t_word_1 t_number_1 t_sign_1 t_end_1, wX5 G q_mt mt_farms mt_fences mt_shares mt_names mt_flock mt_dogs mt_hunger mt_fenced mt_heights mt_pacts mt_partner mt_often mt_toothed mt_feeding mt_going]) rfl ?_
  refine st_istore_n hR dX7_readTooth_11 rfl (Nat.le_of_ble_eq_true rfl) [1, 0] (lv' := [(0, .ref (q_r 0)), (1, .int r_1)]) rfl (pc' := 12) rfl ?_
  refine st_aload_n hR dX7_readTooth_12 0 rfl rfl (pc' := 13) rfl ?_
  refine st_get hR dX7_readTooth_13 fg_X7_15_6_1 0 0 rfl rfl rfl (pc' := 16) rfl ?_
  refine st_iload_n hR dX7_readTooth_16 1 rfl rfl (pc' := 17) rfl ?_
  obtain ⟨r_2, hc_, hM⟩ := bd_e hM
  refine st_callV hR (k_X5_hasTooth hc_) cf_X7_164 (rm_le (Nat.le_of_ble_eq_true rfl) (Nat.le_of_ble_eq_true rfl)) [2] rfl rfl rfl 2 0 5 15 rfl rfl rfl rfl (rest := []) rfl (Nat.le_of_ble_eq_true rfl) dX7_readTooth_17 (pc' := 20) rfl (Wn := [wX7 G q_r (q_t 0) (q_mt 0) r_law r_fault_1, wX8 G q_t t_signs t_length t_at_1 t_place_1 t_word_1 t_number_1 t_sign_1 t_end_1, wX5 G q_mt mt_farms mt_fences mt_shares mt_names mt_flock mt_dogs mt_hunger mt_fenced mt_heights mt_pacts mt_partner mt_often mt_toothed mt_feeding mt_going]) rfl ?_
  refine st_if_eq hR dX7_readTooth_20 (tgt := 28) (by decide) (pc' := 23) rfl (fun c_ => ?_) (fun c_ => ?_)
  · have hM := it_t c_ hM
    exact J28 _ _ _ _ _ _ _ _ _ _ hM
  · have hM := it_f c_ hM
    refine st_aload_n hR dX7_readTooth_23 0 rfl rfl (pc' := 24) rfl ?_
    refine st_iconst hR dX7_readTooth_24 (v := 3) rfl (pc' := 25) rfl ?_
    obtain ⟨r_fault_2, hc_, hM⟩ := bd_e hM
    refine st_callV hR (k_X7_refuse hc_) cf_X7_99 (rm_le (Nat.le_of_ble_eq_true rfl) (Nat.le_of_ble_eq_true rfl)) [0, 1] rfl rfl rfl 0 0 6 4 rfl rfl rfl rfl (rest := []) rfl (Nat.le_of_ble_eq_true rfl) dX7_readTooth_25 (pc' := 28) rfl (Wn := [wX7 G q_r (q_t 0) (q_mt 0) r_law r_fault_2, wX8 G q_t t_signs t_length t_at_1 t_place_1 t_word_1 t_number_1 t_sign_1 t_end_1, wX5 G q_mt mt_farms mt_fences mt_shares mt_names mt_flock mt_dogs mt_hunger mt_fenced mt_heights mt_pacts mt_partner mt_often mt_toothed mt_feeding mt_going]) rfl ?_
    exact J28 _ _ _ _ _ _ _ _ _ _ hM
set_option maxHeartbeats 16000000 in
set_option maxRecDepth 100000 in
theorem k_X7_readLine {l : Launch} {G : GG} {q_r q_t q_mt q_fe q_go : Nat → Nat} {r_fault t_length t_at t_place t_number t_sign t_end mt_farms mt_fences mt_shares mt_toothed fe_steps go_steps : Int32} {t_word : Int64} {t_signs mt_flock mt_dogs mt_hunger mt_fenced mt_heights mt_pacts mt_partner mt_often fe_kinds fe_lefts fe_rights fe_values go_kinds go_lefts go_rights go_values : Nat → Int32} {mt_names : Nat → Int64} {r_law : Nat}  {o_r_law : Nat} {o_r_fault : Int32} {o_t_at : Int32} {o_t_place : Int32} {o_t_word : Int64} {o_t_number : Int32} {o_t_sign : Int32} {o_t_end : Int32} {o_mt_farms : Int32} {o_mt_fences : Int32} {o_mt_shares : Int32} {o_mt_names : Nat → Int64} {o_mt_flock : Nat → Int32} {o_mt_dogs : Nat → Int32} {o_mt_hunger : Nat → Int32} {o_mt_fenced : Nat → Int32} {o_mt_heights : Nat → Int32} {o_mt_pacts : Nat → Int32} {o_mt_partner : Nat → Int32} {o_mt_often : Nat → Int32} {o_mt_toothed : Int32} {o_fe_kinds : Nat → Int32} {o_fe_lefts : Nat → Int32} {o_fe_rights : Nat → Int32} {o_fe_steps : Int32} {o_go_kinds : Nat → Int32} {o_go_lefts : Nat → Int32} {o_go_rights : Nat → Int32} {o_go_steps : Int32} (hM : f_X7_readLine t_signs t_length r_law r_fault t_at t_place t_word t_number t_sign t_end mt_farms mt_fences mt_shares mt_names mt_flock mt_dogs mt_hunger mt_fenced mt_heights mt_pacts mt_partner mt_often mt_toothed fe_kinds fe_lefts fe_rights fe_steps go_kinds go_lefts go_rights go_steps (q_fe 0) (q_go 0) = some (o_r_law, o_r_fault, o_t_at, o_t_place, o_t_word, o_t_number, o_t_sign, o_t_end, o_mt_farms, o_mt_fences, o_mt_shares, o_mt_names, o_mt_flock, o_mt_dogs, o_mt_hunger, o_mt_fenced, o_mt_heights, o_mt_pacts, o_mt_partner, o_mt_often, o_mt_toothed, o_fe_kinds, o_fe_lefts, o_fe_rights, o_fe_steps, o_go_kinds, o_go_lefts, o_go_rights, o_go_steps)) : MC l G yX7_readLine cX7_readLine 3 none (RM 76) [.ref (q_r 0)] [wX7 G q_r (q_t 0) (q_mt 0) r_law r_fault, wX8 G q_t t_signs t_length t_at t_place t_word t_number t_sign t_end, wX5 G q_mt mt_farms mt_fences mt_shares mt_names mt_flock mt_dogs mt_hunger mt_fenced mt_heights mt_pacts mt_partner mt_often mt_toothed (q_fe 0) (q_go 0), wX3 G q_fe fe_kinds fe_lefts fe_rights fe_values fe_steps, wX3 G q_go go_kinds go_lefts go_rights go_values go_steps] none [wX7 G q_r (q_t 0) (q_mt 0) o_r_law o_r_fault, wX8 G q_t t_signs t_length o_t_at o_t_place o_t_word o_t_number o_t_sign o_t_end, wX5 G q_mt o_mt_farms o_mt_fences o_mt_shares o_mt_names o_mt_flock o_mt_dogs o_mt_hunger o_mt_fenced o_mt_heights o_mt_pacts o_mt_partner o_mt_often o_mt_toothed (q_fe 0) (q_go 0), wX3 G q_fe o_fe_kinds o_fe_lefts o_fe_rights fe_values o_fe_steps, wX3 G q_go o_go_kinds o_go_lefts o_go_rights go_values o_go_steps] := by
  refine MC.of pn_X7 (Nat.le_of_ble_eq_true rfl) (fun K hR hret => ?_)
  have hR : Rl l G RX7 cX7_readLine 3 (RM 76) K := hR
  show K [wX7 G q_r (q_t 0) (q_mt 0) r_law r_fault, wX8 G q_t t_signs t_length t_at t_place t_word t_number t_sign t_end, wX5 G q_mt mt_farms mt_fences mt_shares mt_names mt_flock mt_dogs mt_hunger mt_fenced mt_heights mt_pacts mt_partner mt_often mt_toothed (q_fe 0) (q_go 0), wX3 G q_fe fe_kinds fe_lefts fe_rights fe_values fe_steps, wX3 G q_go go_kinds go_lefts go_rights go_values go_steps] [(0, .ref (q_r 0))] 0 []
  refine st_aload_n hR dX7_readLine_0 0 rfl rfl (pc' := 1) rfl ?_
  refine st_get hR dX7_readLine_1 fg_X7_9_6_0 0 0 rfl rfl rfl (pc' := 4) rfl ?_
  refine st_get hR dX7_readLine_4 fg_X7_62_7_4 1 0 rfl rfl rfl (pc' := 7) rfl ?_
  refine st_lstore_n hR dX7_readLine_7 rfl (Nat.le_of_ble_eq_true rfl) [1, 0] (lv' := [(0, .ref (q_r 0)), (1, .long t_word)]) rfl (pc' := 8) rfl ?_
  refine st_lload_n hR dX7_readLine_8 1 rfl rfl (pc' := 9) rfl ?_
  refine st_ldc2 hR (v := 1717662317) cl_X7_66 dX7_readLine_9 (pc' := 12) rfl ?_
  refine st_lcmp hR dX7_readLine_12 (pc' := 13) rfl ?_
  refine st_if_ne hR dX7_readLine_13 (tgt := 23) (by decide) (pc' := 16) rfl (fun c_ => ?_) (fun c_ => ?_)
  · have hM := it_f c_ hM
    refine st_lload_n hR dX7_readLine_23 1 rfl rfl (pc' := 24) rfl ?_
    refine st_ldc2 hR (v := 439788397413) cl_X7_71 dX7_readLine_24 (pc' := 27) rfl ?_
    refine st_lcmp hR dX7_readLine_27 (pc' := 28) rfl ?_
    refine st_if_ne hR dX7_readLine_28 (tgt := 38) (by decide) (pc' := 31) rfl (fun c_ => ?_) (fun c_ => ?_)
    · have hM := it_f c_ hM
      refine st_lload_n hR dX7_readLine_38 1 rfl rfl (pc' := 39) rfl ?_
      refine st_ldc2 hR (v := 1885430644) cl_X7_76 dX7_readLine_39 (pc' := 42) rfl ?_
      refine st_lcmp hR dX7_readLine_42 (pc' := 43) rfl ?_
      refine st_if_ne hR dX7_readLine_43 (tgt := 53) (by decide) (pc' := 46) rfl (fun c_ => ?_) (fun c_ => ?_)
      · have hM := it_f c_ hM
        refine st_lload_n hR dX7_readLine_53 1 rfl rfl (pc' := 54) rfl ?_
        refine st_ldc2 hR (v := 495672455781) cl_X7_81 dX7_readLine_54 (pc' := 57) rfl ?_
        refine st_lcmp hR dX7_readLine_57 (pc' := 58) rfl ?_
        refine st_if_ne hR dX7_readLine_58 (tgt := 68) (by decide) (pc' := 61) rfl (fun c_ => ?_) (fun c_ => ?_)
        · have hM := it_f c_ hM
          refine st_lload_n hR dX7_readLine_68 1 rfl rfl (pc' := 69) rfl ?_
          refine st_ldc2 hR (v := 500085781608) cl_X7_86 dX7_readLine_69 (pc' := 72) rfl ?_
          refine st_lcmp hR dX7_readLine_72 (pc' := 73) rfl ?_
          refine st_if_ne hR dX7_readLine_73 (tgt := 83) (by decide) (pc' := 76) rfl (fun c_ => ?_) (fun c_ => ?_)
          · have hM := it_f c_ hM
            refine st_lload_n hR dX7_readLine_83 1 rfl rfl (pc' := 84) rfl ?_
            refine st_ldc2 hR (v := 1717921124) cl_X7_91 dX7_readLine_84 (pc' := 87) rfl ?_
            refine st_lcmp hR dX7_readLine_87 (pc' := 88) rfl ?_
            refine st_if_ne hR dX7_readLine_88 (tgt := 105) (by decide) (pc' := 91) rfl (fun c_ => ?_) (fun c_ => ?_)
            · have hM := it_f c_ hM
              refine st_lload_n hR dX7_readLine_105 1 rfl rfl (pc' := 106) rfl ?_
              refine st_ldc2 hR (v := 26479) cl_X7_97 dX7_readLine_106 (pc' := 109) rfl ?_
              refine st_lcmp hR dX7_readLine_109 (pc' := 110) rfl ?_
              refine st_if_ne hR dX7_readLine_110 (tgt := 127) (by decide) (pc' := 113) rfl (fun c_ => ?_) (fun c_ => ?_)
              · have hM := it_f c_ hM
                refine st_aload_n hR dX7_readLine_127 0 rfl rfl (pc' := 128) rfl ?_
                refine st_iconst hR dX7_readLine_128 (v := 1) rfl (pc' := 129) rfl ?_
                obtain ⟨r_fault_1, hc_, hM⟩ := bd_e hM
                refine st_callV hR (k_X7_refuse hc_) cf_X7_99 (rm_le (Nat.le_of_ble_eq_true rfl) (Nat.le_of_ble_eq_true rfl)) [0, 1] rfl rfl rfl 0 0 6 4 rfl rfl rfl rfl (rest := []) rfl (Nat.le_of_ble_eq_true rfl) dX7_readLine_129 (pc' := 132) rfl (Wn := [wX7 G q_r (q_t 0) (q_mt 0) r_law r_fault_1, wX8 G q_t t_signs t_length t_at t_place t_word t_number t_sign t_end, wX5 G q_mt mt_farms mt_fences mt_shares mt_names mt_flock mt_dogs mt_hunger mt_fenced mt_heights mt_pacts mt_partner mt_often mt_toothed (q_fe 0) (q_go 0), wX3 G q_fe fe_kinds fe_lefts fe_rights fe_values fe_steps, wX3 G q_go go_kinds go_lefts go_rights go_values go_steps]) rfl ?_
                cases hM
                exact hret _ _ dX7_readLine_132 ro_v
              · have hM := it_t c_ hM
                refine st_aload_n hR dX7_readLine_113 0 rfl rfl (pc' := 114) rfl ?_
                refine st_aload_n hR dX7_readLine_114 0 rfl rfl (pc' := 115) rfl ?_
                refine st_get hR dX7_readLine_115 fg_X7_15_6_1 0 0 rfl rfl rfl (pc' := 118) rfl ?_
                refine st_get hR dX7_readLine_118 fg_X7_56_5_14 2 0 rfl rfl rfl (pc' := 121) rfl ?_
                obtain ⟨⟨r_fault_2, t_at_1, t_place_1, t_word_1, t_number_1, t_sign_1, t_end_1, go_kinds_1, go_lefts_1, go_rights_1, go_steps_1⟩, hc_, hM⟩ := bd_e hM
                refine st_callV hR (k_X7_readLaw hc_) cf_X7_93 (rm_le (Nat.le_of_ble_eq_true rfl) (Nat.le_of_ble_eq_true rfl)) [0, 1, 2, 4] rfl rfl rfl 0 0 6 4 rfl rfl rfl rfl (rest := []) rfl (Nat.le_of_ble_eq_true rfl) dX7_readLine_121 (pc' := 124) rfl (Wn := [wX7 G q_r (q_t 0) (q_mt 0) (q_go 0) r_fault_2, wX8 G q_t t_signs t_length t_at_1 t_place_1 t_word_1 t_number_1 t_sign_1 t_end_1, wX5 G q_mt mt_farms mt_fences mt_shares mt_names mt_flock mt_dogs mt_hunger mt_fenced mt_heights mt_pacts mt_partner mt_often mt_toothed (q_fe 0) (q_go 0), wX3 G q_fe fe_kinds fe_lefts fe_rights fe_values fe_steps, wX3 G q_go go_kinds_1 go_lefts_1 go_rights_1 go_values go_steps_1]) rfl ?_
                refine st_goto hR dX7_readLine_124 (tgt := 132) (by decide) ?_
                cases hM
                exact hret _ _ dX7_readLine_132 ro_v
            · have hM := it_t c_ hM
              refine st_aload_n hR dX7_readLine_91 0 rfl rfl (pc' := 92) rfl ?_
              refine st_aload_n hR dX7_readLine_92 0 rfl rfl (pc' := 93) rfl ?_
              refine st_get hR dX7_readLine_93 fg_X7_15_6_1 0 0 rfl rfl rfl (pc' := 96) rfl ?_
              refine st_get hR dX7_readLine_96 fg_X7_19_5_13 2 0 rfl rfl rfl (pc' := 99) rfl ?_
              obtain ⟨⟨r_fault_3, t_at_2, t_place_2, t_word_2, t_number_2, t_sign_2, t_end_2, fe_kinds_1, fe_lefts_1, fe_rights_1, fe_steps_1⟩, hc_, hM⟩ := bd_e hM
              refine st_callV hR (k_X7_readLaw hc_) cf_X7_93 (rm_le (Nat.le_of_ble_eq_true rfl) (Nat.le_of_ble_eq_true rfl)) [0, 1, 2, 3] rfl rfl rfl 0 0 6 4 rfl rfl rfl rfl (rest := []) rfl (Nat.le_of_ble_eq_true rfl) dX7_readLine_99 (pc' := 102) rfl (Wn := [wX7 G q_r (q_t 0) (q_mt 0) (q_fe 0) r_fault_3, wX8 G q_t t_signs t_length t_at_2 t_place_2 t_word_2 t_number_2 t_sign_2 t_end_2, wX5 G q_mt mt_farms mt_fences mt_shares mt_names mt_flock mt_dogs mt_hunger mt_fenced mt_heights mt_pacts mt_partner mt_often mt_toothed (q_fe 0) (q_go 0), wX3 G q_fe fe_kinds_1 fe_lefts_1 fe_rights_1 fe_values fe_steps_1, wX3 G q_go go_kinds go_lefts go_rights go_values go_steps]) rfl ?_
              refine st_goto hR dX7_readLine_102 (tgt := 132) (by decide) ?_
              cases hM
              exact hret _ _ dX7_readLine_132 ro_v
          · have hM := it_t c_ hM
            refine st_aload_n hR dX7_readLine_76 0 rfl rfl (pc' := 77) rfl ?_
            obtain ⟨⟨r_fault_4, t_at_3, t_place_3, t_word_3, t_number_3, t_sign_3, t_end_3, mt_often_1, mt_toothed_1⟩, hc_, hM⟩ := bd_e hM
            refine st_callV hR (k_X7_readTooth hc_) cf_X7_88 (rm_le (Nat.le_of_ble_eq_true rfl) (Nat.le_of_ble_eq_true rfl)) [0, 1, 2] rfl rfl rfl 0 0 6 4 rfl rfl rfl rfl (rest := []) rfl (Nat.le_of_ble_eq_true rfl) dX7_readLine_77 (pc' := 80) rfl (Wn := [wX7 G q_r (q_t 0) (q_mt 0) r_law r_fault_4, wX8 G q_t t_signs t_length t_at_3 t_place_3 t_word_3 t_number_3 t_sign_3 t_end_3, wX5 G q_mt mt_farms mt_fences mt_shares mt_names mt_flock mt_dogs mt_hunger mt_fenced mt_heights mt_pacts mt_partner mt_often_1 mt_toothed_1 (q_fe 0) (q_go 0), wX3 G q_fe fe_kinds fe_lefts fe_rights fe_values fe_steps, wX3 G q_go go_kinds go_lefts go_rights go_values go_steps]) rfl ?_
            refine st_goto hR dX7_readLine_80 (tgt := 132) (by decide) ?_
            cases hM
            exact hret _ _ dX7_readLine_132 ro_v
        · have hM := it_t c_ hM
          refine st_aload_n hR dX7_readLine_61 0 rfl rfl (pc' := 62) rfl ?_
          obtain ⟨⟨r_fault_5, t_at_4, t_place_4, t_word_4, t_number_4, t_sign_4, t_end_4, mt_shares_1, mt_partner_1⟩, hc_, hM⟩ := bd_e hM
          refine st_callV hR (k_X7_readShare hc_) cf_X7_83 (rm_le (Nat.le_of_ble_eq_true rfl) (Nat.le_of_ble_eq_true rfl)) [0, 1, 2] rfl rfl rfl 0 0 6 4 rfl rfl rfl rfl (rest := []) rfl (Nat.le_of_ble_eq_true rfl) dX7_readLine_62 (pc' := 65) rfl (Wn := [wX7 G q_r (q_t 0) (q_mt 0) r_law r_fault_5, wX8 G q_t t_signs t_length t_at_4 t_place_4 t_word_4 t_number_4 t_sign_4 t_end_4, wX5 G q_mt mt_farms mt_fences mt_shares_1 mt_names mt_flock mt_dogs mt_hunger mt_fenced mt_heights mt_pacts mt_partner_1 mt_often mt_toothed (q_fe 0) (q_go 0), wX3 G q_fe fe_kinds fe_lefts fe_rights fe_values fe_steps, wX3 G q_go go_kinds go_lefts go_rights go_values go_steps]) rfl ?_
          refine st_goto hR dX7_readLine_65 (tgt := 132) (by decide) ?_
          cases hM
          exact hret _ _ dX7_readLine_132 ro_v
      · have hM := it_t c_ hM
        refine st_aload_n hR dX7_readLine_46 0 rfl rfl (pc' := 47) rfl ?_
        obtain ⟨⟨r_fault_6, t_at_5, t_place_5, t_word_5, t_number_5, t_sign_5, t_end_5, mt_pacts_1⟩, hc_, hM⟩ := bd_e hM
        refine st_callV hR (k_X7_readPact hc_) cf_X7_78 (rm_le (Nat.le_of_ble_eq_true rfl) (Nat.le_of_ble_eq_true rfl)) [0, 1, 2] rfl rfl rfl 0 0 6 4 rfl rfl rfl rfl (rest := []) rfl (Nat.le_of_ble_eq_true rfl) dX7_readLine_47 (pc' := 50) rfl (Wn := [wX7 G q_r (q_t 0) (q_mt 0) r_law r_fault_6, wX8 G q_t t_signs t_length t_at_5 t_place_5 t_word_5 t_number_5 t_sign_5 t_end_5, wX5 G q_mt mt_farms mt_fences mt_shares mt_names mt_flock mt_dogs mt_hunger mt_fenced mt_heights mt_pacts_1 mt_partner mt_often mt_toothed (q_fe 0) (q_go 0), wX3 G q_fe fe_kinds fe_lefts fe_rights fe_values fe_steps, wX3 G q_go go_kinds go_lefts go_rights go_values go_steps]) rfl ?_
        refine st_goto hR dX7_readLine_50 (tgt := 132) (by decide) ?_
        cases hM
        exact hret _ _ dX7_readLine_132 ro_v
    · have hM := it_t c_ hM
      refine st_aload_n hR dX7_readLine_31 0 rfl rfl (pc' := 32) rfl ?_
      obtain ⟨⟨r_fault_7, t_at_6, t_place_6, t_word_6, t_number_6, t_sign_6, t_end_6, mt_fences_1, mt_fenced_1, mt_heights_1⟩, hc_, hM⟩ := bd_e hM
      refine st_callV hR (k_X7_readFence hc_) cf_X7_73 (rm_le (Nat.le_of_ble_eq_true rfl) (Nat.le_of_ble_eq_true rfl)) [0, 1, 2] rfl rfl rfl 0 0 6 4 rfl rfl rfl rfl (rest := []) rfl (Nat.le_of_ble_eq_true rfl) dX7_readLine_32 (pc' := 35) rfl (Wn := [wX7 G q_r (q_t 0) (q_mt 0) r_law r_fault_7, wX8 G q_t t_signs t_length t_at_6 t_place_6 t_word_6 t_number_6 t_sign_6 t_end_6, wX5 G q_mt mt_farms mt_fences_1 mt_shares mt_names mt_flock mt_dogs mt_hunger mt_fenced_1 mt_heights_1 mt_pacts mt_partner mt_often mt_toothed (q_fe 0) (q_go 0), wX3 G q_fe fe_kinds fe_lefts fe_rights fe_values fe_steps, wX3 G q_go go_kinds go_lefts go_rights go_values go_steps]) rfl ?_
      refine st_goto hR dX7_readLine_35 (tgt := 132) (by decide) ?_
      cases hM
      exact hret _ _ dX7_readLine_132 ro_v
  · have hM := it_t c_ hM
    refine st_aload_n hR dX7_readLine_16 0 rfl rfl (pc' := 17) rfl ?_
    obtain ⟨⟨r_fault_8, t_at_7, t_place_7, t_word_7, t_number_7, t_sign_7, t_end_7, mt_farms_1, mt_names_1, mt_flock_1, mt_dogs_1, mt_hunger_1⟩, hc_, hM⟩ := bd_e hM
    refine st_callV hR (k_X7_readFarm hc_) cf_X7_68 (rm_le (Nat.le_of_ble_eq_true rfl) (Nat.le_of_ble_eq_true rfl)) [0, 1, 2] rfl rfl rfl 0 0 6 4 rfl rfl rfl rfl (rest := []) rfl (Nat.le_of_ble_eq_true rfl) dX7_readLine_17 (pc' := 20) rfl (Wn := [wX7 G q_r (q_t 0) (q_mt 0) r_law r_fault_8, wX8 G q_t t_signs t_length t_at_7 t_place_7 t_word_7 t_number_7 t_sign_7 t_end_7, wX5 G q_mt mt_farms_1 mt_fences mt_shares mt_names_1 mt_flock_1 mt_dogs_1 mt_hunger_1 mt_fenced mt_heights mt_pacts mt_partner mt_often mt_toothed (q_fe 0) (q_go 0), wX3 G q_fe fe_kinds fe_lefts fe_rights fe_values fe_steps, wX3 G q_go go_kinds go_lefts go_rights go_values go_steps]) rfl ?_
    refine st_goto hR dX7_readLine_20 (tgt := 132) (by decide) ?_
    cases hM
    exact hret _ _ dX7_readLine_132 ro_v
set_option maxHeartbeats 16000000 in
set_option maxRecDepth 100000 in
theorem k_X7_read {l : Launch} {G : GG} {q_r q_t q_mt q_fe q_go : Nat → Nat} {r_fault t_length t_at t_place t_number t_sign t_end mt_farms mt_fences mt_shares mt_toothed fe_steps go_steps : Int32} {t_word : Int64} {t_signs mt_flock mt_dogs mt_hunger mt_fenced mt_heights mt_pacts mt_partner mt_often fe_kinds fe_lefts fe_rights fe_values go_kinds go_lefts go_rights go_values : Nat → Int32} {mt_names : Nat → Int64} {r_told r_law : Nat}  {o_r : Int32} {o_r_law : Nat} {o_r_fault : Int32} {o_t_at : Int32} {o_t_place : Int32} {o_t_word : Int64} {o_t_number : Int32} {o_t_sign : Int32} {o_t_end : Int32} {o_mt_farms : Int32} {o_mt_fences : Int32} {o_mt_shares : Int32} {o_mt_names : Nat → Int64} {o_mt_flock : Nat → Int32} {o_mt_dogs : Nat → Int32} {o_mt_hunger : Nat → Int32} {o_mt_fenced : Nat → Int32} {o_mt_heights : Nat → Int32} {o_mt_pacts : Nat → Int32} {o_mt_partner : Nat → Int32} {o_mt_often : Nat → Int32} {o_mt_toothed : Int32} {o_fe_kinds : Nat → Int32} {o_fe_lefts : Nat → Int32} {o_fe_rights : Nat → Int32} {o_fe_steps : Int32} {o_go_kinds : Nat → Int32} {o_go_lefts : Nat → Int32} {o_go_rights : Nat → Int32} {o_go_steps : Int32} (hM : f_X7_read t_signs t_length r_law r_fault t_at t_place t_word t_number t_sign t_end mt_farms mt_fences mt_shares mt_names mt_flock mt_dogs mt_hunger mt_fenced mt_heights mt_pacts mt_partner mt_often mt_toothed fe_kinds fe_lefts fe_rights fe_steps go_kinds go_lefts go_rights go_steps (q_fe 0) (q_go 0) = some (o_r, o_r_law, o_r_fault, o_t_at, o_t_place, o_t_word, o_t_number, o_t_sign, o_t_end, o_mt_farms, o_mt_fences, o_mt_shares, o_mt_names, o_mt_flock, o_mt_dogs, o_mt_hunger, o_mt_fenced, o_mt_heights, o_mt_pacts, o_mt_partner, o_mt_often, o_mt_toothed, o_fe_kinds, o_fe_lefts, o_fe_rights, o_fe_steps, o_go_kinds, o_go_lefts, o_go_rights, o_go_steps)) : MC l G yX7_read cX7_read 3 (some .int) (RM 77) [.ref (q_r 0), .ref (q_mt 0)] [wX7 G q_r (q_t 0) r_told r_law r_fault, wX8 G q_t t_signs t_length t_at t_place t_word t_number t_sign t_end, wX5 G q_mt mt_farms mt_fences mt_shares mt_names mt_flock mt_dogs mt_hunger mt_fenced mt_heights mt_pacts mt_partner mt_often mt_toothed (q_fe 0) (q_go 0), wX3 G q_fe fe_kinds fe_lefts fe_rights fe_values fe_steps, wX3 G q_go go_kinds go_lefts go_rights go_values go_steps] (some (.int o_r)) [wX7 G q_r (q_t 0) (q_mt 0) o_r_law o_r_fault, wX8 G q_t t_signs t_length o_t_at o_t_place o_t_word o_t_number o_t_sign o_t_end, wX5 G q_mt o_mt_farms o_mt_fences o_mt_shares o_mt_names o_mt_flock o_mt_dogs o_mt_hunger o_mt_fenced o_mt_heights o_mt_pacts o_mt_partner o_mt_often o_mt_toothed (q_fe 0) (q_go 0), wX3 G q_fe o_fe_kinds o_fe_lefts o_fe_rights fe_values o_fe_steps, wX3 G q_go o_go_kinds o_go_lefts o_go_rights go_values o_go_steps] := by
  refine MC.of pn_X7 (Nat.le_of_ble_eq_true rfl) (fun K hR hret => ?_)
  have hR : Rl l G RX7 cX7_read 3 (RM 77) K := hR
  show K [wX7 G q_r (q_t 0) r_told r_law r_fault, wX8 G q_t t_signs t_length t_at t_place t_word t_number t_sign t_end, wX5 G q_mt mt_farms mt_fences mt_shares mt_names mt_flock mt_dogs mt_hunger mt_fenced mt_heights mt_pacts mt_partner mt_often mt_toothed (q_fe 0) (q_go 0), wX3 G q_fe fe_kinds fe_lefts fe_rights fe_values fe_steps, wX3 G q_go go_kinds go_lefts go_rights go_values go_steps] [(0, .ref (q_r 0)), (1, .ref (q_mt 0))] 0 []
  have J76 : ∀ (r_law : Nat) (r_fault : Int32) (t_at : Int32) (t_place : Int32) (t_word : Int64) (t_number : Int32) (t_sign : Int32) (t_end : Int32) (mt_farms : Int32) (mt_fences : Int32) (mt_shares : Int32) (mt_names : Nat → Int64) (mt_flock : Nat → Int32) (mt_dogs : Nat → Int32) (mt_hunger : Nat → Int32) (mt_fenced : Nat → Int32) (mt_heights : Nat → Int32) (mt_pacts : Nat → Int32) (mt_partner : Nat → Int32) (mt_often : Nat → Int32) (mt_toothed : Int32) (fe_kinds : Nat → Int32) (fe_lefts : Nat → Int32) (fe_rights : Nat → Int32) (fe_steps : Int32) (go_kinds : Nat → Int32) (go_lefts : Nat → Int32) (go_rights : Nat → Int32) (go_steps : Int32), f_X7_read_B76  t_signs t_length (q_fe 0) (q_go 0) r_law r_fault t_at t_place t_word t_number t_sign t_end mt_farms mt_fences mt_shares mt_names mt_flock mt_dogs mt_hunger mt_fenced mt_heights mt_pacts mt_partner mt_often mt_toothed fe_kinds fe_lefts fe_rights fe_steps go_kinds go_lefts go_rights go_steps = some (o_r, o_r_law, o_r_fault, o_t_at, o_t_place, o_t_word, o_t_number, o_t_sign, o_t_end, o_mt_farms, o_mt_fences, o_mt_shares, o_mt_names, o_mt_flock, o_mt_dogs, o_mt_hunger, o_mt_fenced, o_mt_heights, o_mt_pacts, o_mt_partner, o_mt_often, o_mt_toothed, o_fe_kinds, o_fe_lefts, o_fe_rights, o_fe_steps, o_go_kinds, o_go_lefts, o_go_rights, o_go_steps) → K [wX7 G q_r (q_t 0) (q_mt 0) r_law r_fault, wX8 G q_t t_signs t_length t_at t_place t_word t_number t_sign t_end, wX5 G q_mt mt_farms mt_fences mt_shares mt_names mt_flock mt_dogs mt_hunger mt_fenced mt_heights mt_pacts mt_partner mt_often mt_toothed (q_fe 0) (q_go 0), wX3 G q_fe fe_kinds fe_lefts fe_rights fe_values fe_steps, wX3 G q_go go_kinds go_lefts go_rights go_values go_steps] [(0, .ref (q_r 0)), (1, .ref (q_mt 0))] 76 [] := by
    intro r_law r_fault t_at t_place t_word t_number t_sign t_end mt_farms mt_fences mt_shares mt_names mt_flock mt_dogs mt_hunger mt_fenced mt_heights mt_pacts mt_partner mt_often mt_toothed fe_kinds fe_lefts fe_rights fe_steps go_kinds go_lefts go_rights go_steps hM
    refine st_aload_n hR dX7_read_76 1 rfl rfl (pc' := 77) rfl ?_
    refine st_get hR dX7_read_77 fg_X7_56_5_14 2 0 rfl rfl rfl (pc' := 80) rfl ?_
    refine st_get hR dX7_read_80 fg_X7_47_3_4 4 0 rfl rfl rfl (pc' := 83) rfl ?_
    refine st_if_ne hR dX7_read_83 (tgt := 95) (by decide) (pc' := 86) rfl (fun c_ => ?_) (fun c_ => ?_)
    · have hM := it_f c_ hM
      refine st_aload_n hR dX7_read_95 0 rfl rfl (pc' := 96) rfl ?_
      refine st_get hR dX7_read_96 fg_X7_31_6_3 0 0 rfl rfl rfl (pc' := 99) rfl ?_
      cases hM
      exact hret _ _ dX7_read_99 (ro_i _)
    · have hM := it_t c_ hM
      refine st_aload_n hR dX7_read_86 1 rfl rfl (pc' := 87) rfl ?_
      refine st_get hR dX7_read_87 fg_X7_56_5_14 2 0 rfl rfl rfl (pc' := 90) rfl ?_
      refine st_iconst hR dX7_read_90 (v := 0) rfl (pc' := 91) rfl ?_
      obtain ⟨⟨r_1, go_kinds_1, go_lefts_1, go_rights_1, go_steps_1⟩, hc_, hM⟩ := bd_e hM
      refine st_callV hR (k_X3_addFact hc_) cf_X7_59 (rm_le (Nat.le_of_ble_eq_true rfl) (Nat.le_of_ble_eq_true rfl)) [4] rfl rfl rfl 4 0 3 5 rfl rfl rfl rfl (rest := []) rfl (Nat.le_of_ble_eq_true rfl) dX7_read_91 (pc' := 94) rfl (Wn := [wX7 G q_r (q_t 0) (q_mt 0) r_law r_fault, wX8 G q_t t_signs t_length t_at t_place t_word t_number t_sign t_end, wX5 G q_mt mt_farms mt_fences mt_shares mt_names mt_flock mt_dogs mt_hunger mt_fenced mt_heights mt_pacts mt_partner mt_often mt_toothed (q_fe 0) (q_go 0), wX3 G q_fe fe_kinds fe_lefts fe_rights fe_values fe_steps, wX3 G q_go go_kinds_1 go_lefts_1 go_rights_1 go_values go_steps_1]) rfl ?_
      refine st_pop hR dX7_read_94 (pc' := 95) rfl rfl ?_
      refine st_aload_n hR dX7_read_95 0 rfl rfl (pc' := 96) rfl ?_
      refine st_get hR dX7_read_96 fg_X7_31_6_3 0 0 rfl rfl rfl (pc' := 99) rfl ?_
      cases hM
      exact hret _ _ dX7_read_99 (ro_i _)
  have J57 : ∀ (r_law : Nat) (r_fault : Int32) (t_at : Int32) (t_place : Int32) (t_word : Int64) (t_number : Int32) (t_sign : Int32) (t_end : Int32) (mt_farms : Int32) (mt_fences : Int32) (mt_shares : Int32) (mt_names : Nat → Int64) (mt_flock : Nat → Int32) (mt_dogs : Nat → Int32) (mt_hunger : Nat → Int32) (mt_fenced : Nat → Int32) (mt_heights : Nat → Int32) (mt_pacts : Nat → Int32) (mt_partner : Nat → Int32) (mt_often : Nat → Int32) (mt_toothed : Int32) (fe_kinds : Nat → Int32) (fe_lefts : Nat → Int32) (fe_rights : Nat → Int32) (fe_steps : Int32) (go_kinds : Nat → Int32) (go_lefts : Nat → Int32) (go_rights : Nat → Int32) (go_steps : Int32), f_X7_read_B57  t_signs t_length (q_fe 0) (q_go 0) r_law r_fault t_at t_place t_word t_number t_sign t_end mt_farms mt_fences mt_shares mt_names mt_flock mt_dogs mt_hunger mt_fenced mt_heights mt_pacts mt_partner mt_often mt_toothed fe_kinds fe_lefts fe_rights fe_steps go_kinds go_lefts go_rights go_steps = some (o_r, o_r_law, o_r_fault, o_t_at, o_t_place, o_t_word, o_t_number, o_t_sign, o_t_end, o_mt_farms, o_mt_fences, o_mt_shares, o_mt_names, o_mt_flock, o_mt_dogs, o_mt_hunger, o_mt_fenced, o_mt_heights, o_mt_pacts, o_mt_partner, o_mt_often, o_mt_toothed, o_fe_kinds, o_fe_lefts, o_fe_rights, o_fe_steps, o_go_kinds, o_go_lefts, o_go_rights, o_go_steps) → K [wX7 G q_r (q_t 0) (q_mt 0) r_law r_fault, wX8 G q_t t_signs t_length t_at t_place t_word t_number t_sign t_end, wX5 G q_mt mt_farms mt_fences mt_shares mt_names mt_flock mt_dogs mt_hunger mt_fenced mt_heights mt_pacts mt_partner mt_often mt_toothed (q_fe 0) (q_go 0), wX3 G q_fe fe_kinds fe_lefts fe_rights fe_values fe_steps, wX3 G q_go go_kinds go_lefts go_rights go_values go_steps] [(0, .ref (q_r 0)), (1, .ref (q_mt 0))] 57 [] := by
    intro r_law r_fault t_at t_place t_word t_number t_sign t_end mt_farms mt_fences mt_shares mt_names mt_flock mt_dogs mt_hunger mt_fenced mt_heights mt_pacts mt_partner mt_often mt_toothed fe_kinds fe_lefts fe_rights fe_steps go_kinds go_lefts go_rights go_steps hM
    refine st_aload_n hR dX7_read_57 1 rfl rfl (pc' := 58) rfl ?_
    refine st_get hR dX7_read_58 fg_X7_19_5_13 2 0 rfl rfl rfl (pc' := 61) rfl ?_
    refine st_get hR dX7_read_61 fg_X7_47_3_4 3 0 rfl rfl rfl (pc' := 64) rfl ?_
    refine st_if_ne hR dX7_read_64 (tgt := 76) (by decide) (pc' := 67) rfl (fun c_ => ?_) (fun c_ => ?_)
    · have hM := it_f c_ hM
      exact J76 _ _ _ _ _ _ _ _ _ _ _ _ _ _ _ _ _ _ _ _ _ _ _ _ _ _ _ _ _ hM
    · have hM := it_t c_ hM
      refine st_aload_n hR dX7_read_67 1 rfl rfl (pc' := 68) rfl ?_
      refine st_get hR dX7_read_68 fg_X7_19_5_13 2 0 rfl rfl rfl (pc' := 71) rfl ?_
      refine st_iconst hR dX7_read_71 (v := 0) rfl (pc' := 72) rfl ?_
      obtain ⟨⟨r_1, fe_kinds_1, fe_lefts_1, fe_rights_1, fe_steps_1⟩, hc_, hM⟩ := bd_e hM
      refine st_callV hR (k_X3_addNumber hc_) cf_X7_52 (rm_le (Nat.le_of_ble_eq_true rfl) (Nat.le_of_ble_eq_true rfl)) [3] rfl rfl rfl 3 0 3 5 rfl rfl rfl rfl (rest := []) rfl (Nat.le_of_ble_eq_true rfl) dX7_read_72 (pc' := 75) rfl (Wn := [wX7 G q_r (q_t 0) (q_mt 0) r_law r_fault, wX8 G q_t t_signs t_length t_at t_place t_word t_number t_sign t_end, wX5 G q_mt mt_farms mt_fences mt_shares mt_names mt_flock mt_dogs mt_hunger mt_fenced mt_heights mt_pacts mt_partner mt_often mt_toothed (q_fe 0) (q_go 0), wX3 G q_fe fe_kinds_1 fe_lefts_1 fe_rights_1 fe_values fe_steps_1, wX3 G q_go go_kinds go_lefts go_rights go_values go_steps]) rfl ?_
      refine st_pop hR dX7_read_75 (pc' := 76) rfl rfl ?_
      exact J76 _ _ _ _ _ _ _ _ _ _ _ _ _ _ _ _ _ _ _ _ _ _ _ _ _ _ _ _ _ hM
  have L23 : ∀ (n23 : Nat) (r_law : Nat) (r_fault : Int32) (t_at : Int32) (t_place : Int32) (t_word : Int64) (t_number : Int32) (t_sign : Int32) (t_end : Int32) (mt_farms : Int32) (mt_fences : Int32) (mt_shares : Int32) (mt_names : Nat → Int64) (mt_flock : Nat → Int32) (mt_dogs : Nat → Int32) (mt_hunger : Nat → Int32) (mt_fenced : Nat → Int32) (mt_heights : Nat → Int32) (mt_pacts : Nat → Int32) (mt_partner : Nat → Int32) (mt_often : Nat → Int32) (mt_toothed : Int32) (fe_kinds : Nat → Int32) (fe_lefts : Nat → Int32) (fe_rights : Nat → Int32) (fe_steps : Int32) (go_kinds : Nat → Int32) (go_lefts : Nat → Int32) (go_rights : Nat → Int32) (go_steps : Int32) (l2 : Int32), f_X7_read_L23  t_signs t_length (q_fe 0) (q_go 0) n23 r_law r_fault t_at t_place t_word t_number t_sign t_end mt_farms mt_fences mt_shares mt_names mt_flock mt_dogs mt_hunger mt_fenced mt_heights mt_pacts mt_partner mt_often mt_toothed fe_kinds fe_lefts fe_rights fe_steps go_kinds go_lefts go_rights go_steps l2 = some (o_r, o_r_law, o_r_fault, o_t_at, o_t_place, o_t_word, o_t_number, o_t_sign, o_t_end, o_mt_farms, o_mt_fences, o_mt_shares, o_mt_names, o_mt_flock, o_mt_dogs, o_mt_hunger, o_mt_fenced, o_mt_heights, o_mt_pacts, o_mt_partner, o_mt_often, o_mt_toothed, o_fe_kinds, o_fe_lefts, o_fe_rights, o_fe_steps, o_go_kinds, o_go_lefts, o_go_rights, o_go_steps) → K [wX7 G q_r (q_t 0) (q_mt 0) r_law r_fault, wX8 G q_t t_signs t_length t_at t_place t_word t_number t_sign t_end, wX5 G q_mt mt_farms mt_fences mt_shares mt_names mt_flock mt_dogs mt_hunger mt_fenced mt_heights mt_pacts mt_partner mt_often mt_toothed (q_fe 0) (q_go 0), wX3 G q_fe fe_kinds fe_lefts fe_rights fe_values fe_steps, wX3 G q_go go_kinds go_lefts go_rights go_values go_steps] [(0, .ref (q_r 0)), (1, .ref (q_mt 0)), (2, .int l2)] 23 [] := by
    intro n23
    induction n23 with
    | zero => intro r_law r_fault t_at t_place t_word t_number t_sign t_end mt_farms mt_fences mt_shares mt_names mt_flock mt_dogs mt_hunger mt_fenced mt_heights mt_pacts mt_partner mt_often mt_toothed fe_kinds fe_lefts fe_rights fe_steps go_kinds go_lefts go_rights go_steps l2 hM; exact no_some hM
    | succ n23 ih23 =>
      intro r_law r_fault t_at t_place t_word t_number t_sign t_end mt_farms mt_fences mt_shares mt_names mt_flock mt_dogs mt_hunger mt_fenced mt_heights mt_pacts mt_partner mt_often mt_toothed fe_kinds fe_lefts fe_rights fe_steps go_kinds go_lefts go_rights go_steps l2 hM
      have hM : f_X7_read_L23b  (f_X7_read_L23  t_signs t_length (q_fe 0) (q_go 0) n23) t_signs t_length (q_fe 0) (q_go 0) r_law r_fault t_at t_place t_word t_number t_sign t_end mt_farms mt_fences mt_shares mt_names mt_flock mt_dogs mt_hunger mt_fenced mt_heights mt_pacts mt_partner mt_often mt_toothed fe_kinds fe_lefts fe_rights fe_steps go_kinds go_lefts go_rights go_steps l2 = some (o_r, o_r_law, o_r_fault, o_t_at, o_t_place, o_t_word, o_t_number, o_t_sign, o_t_end, o_mt_farms, o_mt_fences, o_mt_shares, o_mt_names, o_mt_flock, o_mt_dogs, o_mt_hunger, o_mt_fenced, o_mt_heights, o_mt_pacts, o_mt_partner, o_mt_often, o_mt_toothed, o_fe_kinds, o_fe_lefts, o_fe_rights, o_fe_steps, o_go_kinds, o_go_lefts, o_go_rights, o_go_steps) := hM
      refine st_iload_n hR dX7_read_23 2 rfl rfl (pc' := 24) rfl ?_
      refine st_sipush hR dX7_read_24 (v := 1000) rfl (pc' := 27) rfl ?_
      refine st_icmp_ge hR dX7_read_27 (tgt := 57) (by decide) (pc' := 30) rfl (fun c_ => ?_) (fun c_ => ?_)
      · have hM := it_t c_ hM
        exact st_lv hR [0, 1] rfl (J57 _ _ _ _ _ _ _ _ _ _ _ _ _ _ _ _ _ _ _ _ _ _ _ _ _ _ _ _ _ hM)
      · have hM := it_f c_ hM
        refine st_aload_n hR dX7_read_30 0 rfl rfl (pc' := 31) rfl ?_
        refine st_get hR dX7_read_31 fg_X7_31_6_3 0 0 rfl rfl rfl (pc' := 34) rfl ?_
        refine st_if_ne hR dX7_read_34 (tgt := 57) (by decide) (pc' := 37) rfl (fun c_ => ?_) (fun c_ => ?_)
        · have hM := it_f c_ hM
          exact st_lv hR [0, 1] rfl (J57 _ _ _ _ _ _ _ _ _ _ _ _ _ _ _ _ _ _ _ _ _ _ _ _ _ _ _ _ _ hM)
        · have hM := it_t c_ hM
          refine st_aload_n hR dX7_read_37 0 rfl rfl (pc' := 38) rfl ?_
          refine st_get hR dX7_read_38 fg_X7_9_6_0 0 0 rfl rfl rfl (pc' := 41) rfl ?_
          refine st_get hR dX7_read_41 fg_X7_40_7_7 1 0 rfl rfl rfl (pc' := 44) rfl ?_
          refine st_if_ne hR dX7_read_44 (tgt := 57) (by decide) (pc' := 47) rfl (fun c_ => ?_) (fun c_ => ?_)
          · have hM := it_f c_ hM
            exact st_lv hR [0, 1] rfl (J57 _ _ _ _ _ _ _ _ _ _ _ _ _ _ _ _ _ _ _ _ _ _ _ _ _ _ _ _ _ hM)
          · have hM := it_t c_ hM
            refine st_aload_n hR dX7_read_47 0 rfl rfl (pc' := 48) rfl ?_
            obtain ⟨⟨r_law_1, r_fault_1, t_at_1, t_place_1, t_word_1, t_number_1, t_sign_1, t_end_1, mt_farms_1, mt_fences_1, mt_shares_1, mt_names_1, mt_flock_1, mt_dogs_1, mt_hunger_1, mt_fenced_1, mt_heights_1, mt_pacts_1, mt_partner_1, mt_often_1, mt_toothed_1, fe_kinds_1, fe_lefts_1, fe_rights_1, fe_steps_1, go_kinds_1, go_lefts_1, go_rights_1, go_steps_1⟩, hc_, hM⟩ := bd_e hM
            refine st_callV hR (k_X7_readLine hc_) cf_X7_44 (rm_le (Nat.le_of_ble_eq_true rfl) (Nat.le_of_ble_eq_true rfl)) [0, 1, 2, 3, 4] rfl rfl rfl 0 0 6 4 rfl rfl rfl rfl (rest := []) rfl (Nat.le_of_ble_eq_true rfl) dX7_read_48 (pc' := 51) rfl (Wn := [wX7 G q_r (q_t 0) (q_mt 0) r_law_1 r_fault_1, wX8 G q_t t_signs t_length t_at_1 t_place_1 t_word_1 t_number_1 t_sign_1 t_end_1, wX5 G q_mt mt_farms_1 mt_fences_1 mt_shares_1 mt_names_1 mt_flock_1 mt_dogs_1 mt_hunger_1 mt_fenced_1 mt_heights_1 mt_pacts_1 mt_partner_1 mt_often_1 mt_toothed_1 (q_fe 0) (q_go 0), wX3 G q_fe fe_kinds_1 fe_lefts_1 fe_rights_1 fe_values fe_steps_1, wX3 G q_go go_kinds_1 go_lefts_1 go_rights_1 go_values go_steps_1]) rfl ?_
            obtain ⟨l2_1, e_⟩ : ∃ y : Int32, y = l2 + 1 := ⟨_, rfl⟩
            refine st_iinc hR dX7_read_51 (Nat.le_of_ble_eq_true rfl) 2 [1, 2, 0] (v := l2_1) rfl (by rw [e_]; rfl) (lv' := [(0, .ref (q_r 0)), (1, .ref (q_mt 0)), (2, .int l2_1)]) rfl (pc' := 54) rfl ?_
            have hM := lt_e e_ hM
            refine st_goto hR dX7_read_54 (tgt := 23) (by decide) ?_
            exact ih23 _ _ _ _ _ _ _ _ _ _ _ _ _ _ _ _ _ _ _ _ _ _ _ _ _ _ _ _ _ _ hM
  refine st_aload_n hR dX7_read_0 1 rfl rfl (pc' := 1) rfl ?_
  obtain ⟨⟨mt_farms_1, mt_fences_1, mt_shares_1, mt_fenced_1, mt_pacts_1, mt_partner_1, mt_often_1, mt_toothed_1, fe_steps_1, go_steps_1⟩, hc_, hM⟩ := bd_e hM
  refine st_callV hR (k_X5_clear hc_) cf_X7_28 (rm_le (Nat.le_of_ble_eq_true rfl) (Nat.le_of_ble_eq_true rfl)) [2, 3, 4] rfl rfl rfl 2 0 5 15 rfl rfl rfl rfl (rest := []) rfl (Nat.le_of_ble_eq_true rfl) dX7_read_1 (pc' := 4) rfl (Wn := [wX7 G q_r (q_t 0) r_told r_law r_fault, wX8 G q_t t_signs t_length t_at t_place t_word t_number t_sign t_end, wX5 G q_mt mt_farms_1 mt_fences_1 mt_shares_1 mt_names mt_flock mt_dogs mt_hunger mt_fenced_1 mt_heights mt_pacts_1 mt_partner_1 mt_often_1 mt_toothed_1 (q_fe 0) (q_go 0), wX3 G q_fe fe_kinds fe_lefts fe_rights fe_values fe_steps_1, wX3 G q_go go_kinds go_lefts go_rights go_values go_steps_1]) rfl ?_
  refine st_aload_n hR dX7_read_4 0 rfl rfl (pc' := 5) rfl ?_
  refine st_aload_n hR dX7_read_5 1 rfl rfl (pc' := 6) rfl ?_
  refine st_put hR dX7_read_6 fp_X7_15_6_1 0 0 rfl rfl (Nat.le_of_ble_eq_true rfl) rfl rfl (pc' := 9) rfl (W' := [wX7 G q_r (q_t 0) (q_mt 0) r_law r_fault, wX8 G q_t t_signs t_length t_at t_place t_word t_number t_sign t_end, wX5 G q_mt mt_farms_1 mt_fences_1 mt_shares_1 mt_names mt_flock mt_dogs mt_hunger mt_fenced_1 mt_heights mt_pacts_1 mt_partner_1 mt_often_1 mt_toothed_1 (q_fe 0) (q_go 0), wX3 G q_fe fe_kinds fe_lefts fe_rights fe_values fe_steps_1, wX3 G q_go go_kinds go_lefts go_rights go_values go_steps_1]) rfl ?_
  refine st_aload_n hR dX7_read_9 0 rfl rfl (pc' := 10) rfl ?_
  refine st_iconst hR dX7_read_10 (v := 0) rfl (pc' := 11) rfl ?_
  refine st_put hR dX7_read_11 fp_X7_31_6_3 0 0 rfl rfl (Nat.le_of_ble_eq_true rfl) rfl rfl (pc' := 14) rfl (W' := [wX7 G q_r (q_t 0) (q_mt 0) r_law 0, wX8 G q_t t_signs t_length t_at t_place t_word t_number t_sign t_end, wX5 G q_mt mt_farms_1 mt_fences_1 mt_shares_1 mt_names mt_flock mt_dogs mt_hunger mt_fenced_1 mt_heights mt_pacts_1 mt_partner_1 mt_often_1 mt_toothed_1 (q_fe 0) (q_go 0), wX3 G q_fe fe_kinds fe_lefts fe_rights fe_values fe_steps_1, wX3 G q_go go_kinds go_lefts go_rights go_values go_steps_1]) rfl ?_
  refine st_aload_n hR dX7_read_14 0 rfl rfl (pc' := 15) rfl ?_
  refine st_get hR dX7_read_15 fg_X7_9_6_0 0 0 rfl rfl rfl (pc' := 18) rfl ?_
  obtain ⟨⟨t_at_1, t_place_1, t_word_1, t_number_1, t_sign_1, t_end_1⟩, hc_, hM⟩ := bd_e hM
  refine st_callV hR (k_X8_start hc_) cf_X7_35 (rm_le (Nat.le_of_ble_eq_true rfl) (Nat.le_of_ble_eq_true rfl)) [1] rfl rfl rfl 1 0 7 8 rfl rfl rfl rfl (rest := []) rfl (Nat.le_of_ble_eq_true rfl) dX7_read_18 (pc' := 21) rfl (Wn := [wX7 G q_r (q_t 0) (q_mt 0) r_law 0, wX8 G q_t t_signs t_length t_at_1 t_place_1 t_word_1 t_number_1 t_sign_1 t_end_1, wX5 G q_mt mt_farms_1 mt_fences_1 mt_shares_1 mt_names mt_flock mt_dogs mt_hunger mt_fenced_1 mt_heights mt_pacts_1 mt_partner_1 mt_often_1 mt_toothed_1 (q_fe 0) (q_go 0), wX3 G q_fe fe_kinds fe_lefts fe_rights fe_values fe_steps_1, wX3 G q_go go_kinds go_lefts go_rights go_values go_steps_1]) rfl ?_
  refine st_iconst hR dX7_read_21 (v := 0) rfl (pc' := 22) rfl ?_
  refine st_istore_n hR dX7_read_22 rfl (Nat.le_of_ble_eq_true rfl) [1, 2, 0] (lv' := [(0, .ref (q_r 0)), (1, .ref (q_mt 0)), (2, .int 0)]) rfl (pc' := 23) rfl ?_
  exact L23 FU _ _ _ _ _ _ _ _ _ _ _ _ _ _ _ _ _ _ _ _ _ _ _ _ _ _ _ _ _ _ hM
set_option maxHeartbeats 16000000 in
set_option maxRecDepth 100000 in
theorem k_X6_farms_g {l : Launch} {G : GG} {q_ga : Nat → Nat} {ga_mostFarms ga_foundMany ga_nights ga_farms ga_restingRow : Int32} {ga_losses ga_known ga_found ga_been : Nat → Int32} {ga_now ga_ahead ga_scrap : Nat}  {o_r : Int32} (hM : f_X6_farms_g ga_farms = some o_r) : MC l G yX6_farms cX6_farms 1 (some .int) (RM 0) [.ref (q_ga 0)] [wX1 G q_ga ga_now ga_ahead ga_scrap ga_mostFarms ga_losses ga_known ga_found ga_foundMany ga_nights ga_farms ga_been ga_restingRow] (some (.int o_r)) [wX1 G q_ga ga_now ga_ahead ga_scrap ga_mostFarms ga_losses ga_known ga_found ga_foundMany ga_nights ga_farms ga_been ga_restingRow] := by
  refine MC.of pn_X6 (Nat.le_of_ble_eq_true rfl) (fun K hR hret => ?_)
  have hR : Rl l G RX6 cX6_farms 1 (RM 0) K := hR
  show K [wX1 G q_ga ga_now ga_ahead ga_scrap ga_mostFarms ga_losses ga_known ga_found ga_foundMany ga_nights ga_farms ga_been ga_restingRow] [(0, .ref (q_ga 0))] 0 []
  refine st_aload_n hR dX6_farms_0 0 rfl rfl (pc' := 1) rfl ?_
  refine st_get hR dX6_farms_1 fg_X6_36_1_9 0 0 rfl rfl rfl (pc' := 4) rfl ?_
  cases hM
  exact hret _ _ dX6_farms_4 (ro_i _)
set_option maxHeartbeats 16000000 in
set_option maxRecDepth 100000 in
theorem k_X6_forget_g {l : Launch} {G : GG} {q_ga : Nat → Nat} {ga_mostFarms ga_foundMany ga_nights ga_farms ga_restingRow : Int32} {ga_losses ga_known ga_found ga_been : Nat → Int32} {ga_now ga_ahead ga_scrap : Nat}  {o_ga_nights : Int32} (hM : f_X6_forget_g ga_nights = some o_ga_nights) : MC l G yX6_forget cX6_forget 1 none (RM 0) [.ref (q_ga 0)] [wX1 G q_ga ga_now ga_ahead ga_scrap ga_mostFarms ga_losses ga_known ga_found ga_foundMany ga_nights ga_farms ga_been ga_restingRow] none [wX1 G q_ga ga_now ga_ahead ga_scrap ga_mostFarms ga_losses ga_known ga_found ga_foundMany o_ga_nights ga_farms ga_been ga_restingRow] := by
  refine MC.of pn_X6 (Nat.le_of_ble_eq_true rfl) (fun K hR hret => ?_)
  have hR : Rl l G RX6 cX6_forget 1 (RM 0) K := hR
  show K [wX1 G q_ga ga_now ga_ahead ga_scrap ga_mostFarms ga_losses ga_known ga_found ga_foundMany ga_nights ga_farms ga_been ga_restingRow] [(0, .ref (q_ga 0))] 0 []
  refine st_aload_n hR dX6_forget_0 0 rfl rfl (pc' := 1) rfl ?_
  refine st_iconst hR dX6_forget_1 (v := 0) rfl (pc' := 2) rfl ?_
  refine st_put hR dX6_forget_2 fp_X6_39_1_8 0 0 rfl rfl (Nat.le_of_ble_eq_true rfl) rfl rfl (pc' := 5) rfl (W' := [wX1 G q_ga ga_now ga_ahead ga_scrap ga_mostFarms ga_losses ga_known ga_found ga_foundMany 0 ga_farms ga_been ga_restingRow]) rfl ?_
  cases hM
  exact hret _ _ dX6_forget_5 ro_v
set_option maxHeartbeats 16000000 in
set_option maxRecDepth 100000 in
theorem k_X6_lossIn_g {l : Launch} {G : GG} {q_ga : Nat → Nat} {ga_mostFarms ga_foundMany ga_nights ga_farms ga_restingRow : Int32} {ga_losses ga_known ga_found ga_been : Nat → Int32} {ga_now ga_ahead ga_scrap : Nat} {l1 l2 : Int32} {o_r : Int32} (hM : f_X6_lossIn_g ga_losses l1 l2 = some o_r) : MC l G yX6_lossIn cX6_lossIn 4 (some .int) (RM 0) [.ref (q_ga 0), .int l1, .int l2] [wX1 G q_ga ga_now ga_ahead ga_scrap ga_mostFarms ga_losses ga_known ga_found ga_foundMany ga_nights ga_farms ga_been ga_restingRow] (some (.int o_r)) [wX1 G q_ga ga_now ga_ahead ga_scrap ga_mostFarms ga_losses ga_known ga_found ga_foundMany ga_nights ga_farms ga_been ga_restingRow] := by
  refine MC.of pn_X6 (Nat.le_of_ble_eq_true rfl) (fun K hR hret => ?_)
  have hR : Rl l G RX6 cX6_lossIn 4 (RM 0) K := hR
  show K [wX1 G q_ga ga_now ga_ahead ga_scrap ga_mostFarms ga_losses ga_known ga_found ga_foundMany ga_nights ga_farms ga_been ga_restingRow] [(0, .ref (q_ga 0)), (1, .int l1), (2, .int l2)] 0 []
  refine st_iload_n hR dX6_lossIn_0 1 rfl rfl (pc' := 1) rfl ?_
  refine st_bipush hR dX6_lossIn_1 (v := 6) rfl (pc' := 3) rfl ?_
  refine st_imul hR dX6_lossIn_3 (pc' := 4) rfl ?_
  refine st_iload_n hR dX6_lossIn_4 2 rfl rfl (pc' := 5) rfl ?_
  refine st_iadd hR dX6_lossIn_5 (pc' := 6) rfl ?_
  refine st_topi (fun l3_1 e_ => ?_)
  have hM := lt_e e_ hM
  refine st_istore_n hR dX6_lossIn_6 rfl (Nat.le_of_ble_eq_true rfl) [1, 2, 3, 0] (lv' := [(0, .ref (q_ga 0)), (1, .int l1), (2, .int l2), (3, .int l3_1)]) rfl (pc' := 7) rfl ?_
  refine st_iload_n hR dX6_lossIn_7 3 rfl rfl (pc' := 8) rfl ?_
  refine st_if_lt hR dX6_lossIn_8 (tgt := 29) (by decide) (pc' := 11) rfl (fun c_ => ?_) (fun c_ => ?_)
  · have hM := it_t c_ hM
    refine st_iconst hR dX6_lossIn_29 (v := 0) rfl (pc' := 30) rfl ?_
    cases hM
    exact hret _ _ dX6_lossIn_30 (ro_i _)
  · have hM := it_f c_ hM
    refine st_iload_n hR dX6_lossIn_11 3 rfl rfl (pc' := 12) rfl ?_
    refine st_aload_n hR dX6_lossIn_12 0 rfl rfl (pc' := 13) rfl ?_
    refine st_get hR dX6_lossIn_13 fg_X6_26_1_4 0 0 rfl rfl rfl (pc' := 16) rfl ?_
    refine st_alen hR dX6_lossIn_16 0 1 0 rfl rfl rfl (v := 1536) rfl (pc' := 17) rfl ?_
    refine st_icmp_ge hR dX6_lossIn_17 (tgt := 29) (by decide) (pc' := 20) rfl (fun c_ => ?_) (fun c_ => ?_)
    · have hM := it_t c_ hM
      refine st_iconst hR dX6_lossIn_29 (v := 0) rfl (pc' := 30) rfl ?_
      cases hM
      exact hret _ _ dX6_lossIn_30 (ro_i _)
    · have hM := it_f c_ hM
      refine st_aload_n hR dX6_lossIn_20 0 rfl rfl (pc' := 21) rfl ?_
      refine st_get hR dX6_lossIn_21 fg_X6_26_1_4 0 0 rfl rfl rfl (pc' := 24) rfl ?_
      refine st_iload_n hR dX6_lossIn_24 3 rfl rfl (pc' := 25) rfl ?_
      obtain ⟨hin_, hM⟩ := g_in_e hM
      refine st_iald hR dX6_lossIn_25 0 1 rfl rfl hin_ (v := ga_losses (ix l3_1)) rfl (pc' := 26) rfl ?_
      refine st_goto hR dX6_lossIn_26 (tgt := 30) (by decide) ?_
      cases hM
      exact hret _ _ dX6_lossIn_30 (ro_i _)
set_option maxHeartbeats 16000000 in
set_option maxRecDepth 100000 in
theorem k_X6_foundAt_g {l : Launch} {G : GG} {q_ga : Nat → Nat} {ga_mostFarms ga_foundMany ga_nights ga_farms ga_restingRow : Int32} {ga_losses ga_known ga_found ga_been : Nat → Int32} {ga_now ga_ahead ga_scrap : Nat} {l1 : Int32} {o_r : Int32} (hM : f_X6_foundAt_g ga_found ga_foundMany l1 = some o_r) : MC l G yX6_foundAt cX6_foundAt 2 (some .int) (RM 0) [.ref (q_ga 0), .int l1] [wX1 G q_ga ga_now ga_ahead ga_scrap ga_mostFarms ga_losses ga_known ga_found ga_foundMany ga_nights ga_farms ga_been ga_restingRow] (some (.int o_r)) [wX1 G q_ga ga_now ga_ahead ga_scrap ga_mostFarms ga_losses ga_known ga_found ga_foundMany ga_nights ga_farms ga_been ga_restingRow] := by
  refine MC.of pn_X6 (Nat.le_of_ble_eq_true rfl) (fun K hR hret => ?_)
  have hR : Rl l G RX6 cX6_foundAt 2 (RM 0) K := hR
  show K [wX1 G q_ga ga_now ga_ahead ga_scrap ga_mostFarms ga_losses ga_known ga_found ga_foundMany ga_nights ga_farms ga_been ga_restingRow] [(0, .ref (q_ga 0)), (1, .int l1)] 0 []
  refine st_iload_n hR dX6_foundAt_0 1 rfl rfl (pc' := 1) rfl ?_
  refine st_if_lt hR dX6_foundAt_1 (tgt := 21) (by decide) (pc' := 4) rfl (fun c_ => ?_) (fun c_ => ?_)
  · have hM := it_t c_ hM
    refine st_iconst hR dX6_foundAt_21 (v := (-1)) (by decide) (pc' := 22) rfl ?_
    cases hM
    exact hret _ _ dX6_foundAt_22 (ro_i _)
  · have hM := it_f c_ hM
    refine st_iload_n hR dX6_foundAt_4 1 rfl rfl (pc' := 5) rfl ?_
    refine st_aload_n hR dX6_foundAt_5 0 rfl rfl (pc' := 6) rfl ?_
    refine st_get hR dX6_foundAt_6 fg_X6_55_1_7 0 0 rfl rfl rfl (pc' := 9) rfl ?_
    refine st_icmp_ge hR dX6_foundAt_9 (tgt := 21) (by decide) (pc' := 12) rfl (fun c_ => ?_) (fun c_ => ?_)
    · have hM := it_t c_ hM
      refine st_iconst hR dX6_foundAt_21 (v := (-1)) (by decide) (pc' := 22) rfl ?_
      cases hM
      exact hret _ _ dX6_foundAt_22 (ro_i _)
    · have hM := it_f c_ hM
      refine st_aload_n hR dX6_foundAt_12 0 rfl rfl (pc' := 13) rfl ?_
      refine st_get hR dX6_foundAt_13 fg_X6_33_1_6 0 0 rfl rfl rfl (pc' := 16) rfl ?_
      refine st_iload_n hR dX6_foundAt_16 1 rfl rfl (pc' := 17) rfl ?_
      obtain ⟨hin_, hM⟩ := g_in_e hM
      refine st_iald hR dX6_foundAt_17 0 3 rfl rfl hin_ (v := ga_found (ix l1)) rfl (pc' := 18) rfl ?_
      refine st_goto hR dX6_foundAt_18 (tgt := 22) (by decide) ?_
      cases hM
      exact hret _ _ dX6_foundAt_22 (ro_i _)
set_option maxHeartbeats 16000000 in
set_option maxRecDepth 100000 in
theorem k_X10_isAhead {l : Launch} {G : GG}  {l0 : Int32} {o_r : Int32} (hM : f_X10_isAhead l0 = some o_r) : MC l G yX10_isAhead cX10_isAhead 1 (some .boolean) (RM 0) [.int l0] [] (some (.int o_r)) [] := by
  refine MC.of pn_X10 (Nat.le_of_ble_eq_true rfl) (fun K hR hret => ?_)
  have hR : Rl l G RX10 cX10_isAhead 1 (RM 0) K := hR
  show K [] [(0, .int l0)] 0 []
  refine st_iload_n hR dX10_isAhead_0 0 rfl rfl (pc' := 1) rfl ?_
  refine st_iconst hR dX10_isAhead_1 (v := 1) rfl (pc' := 2) rfl ?_
  refine st_icmp_lt hR dX10_isAhead_2 (tgt := 15) (by decide) (pc' := 5) rfl (fun c_ => ?_) (fun c_ => ?_)
  · have hM := it_t c_ hM
    refine st_iconst hR dX10_isAhead_15 (v := 0) rfl (pc' := 16) rfl ?_
    cases hM
    exact hret _ _ dX10_isAhead_16 (ro_z (Or.inl rfl))
  · have hM := it_f c_ hM
    refine st_iload_n hR dX10_isAhead_5 0 rfl rfl (pc' := 6) rfl ?_
    refine st_bipush hR dX10_isAhead_6 (v := 28) rfl (pc' := 8) rfl ?_
    refine st_icmp_gt hR dX10_isAhead_8 (tgt := 15) (by decide) (pc' := 11) rfl (fun c_ => ?_) (fun c_ => ?_)
    · have hM := it_t c_ hM
      refine st_iconst hR dX10_isAhead_15 (v := 0) rfl (pc' := 16) rfl ?_
      cases hM
      exact hret _ _ dX10_isAhead_16 (ro_z (Or.inl rfl))
    · have hM := it_f c_ hM
      refine st_iconst hR dX10_isAhead_11 (v := 1) rfl (pc' := 12) rfl ?_
      refine st_goto hR dX10_isAhead_12 (tgt := 16) (by decide) ?_
      cases hM
      exact hret _ _ dX10_isAhead_16 (ro_z (Or.inr rfl))
set_option maxHeartbeats 16000000 in
set_option maxRecDepth 100000 in
theorem k_X6_isReady_g {l : Launch} {G : GG} {q_ga q_v q_mt : Nat → Nat} {ga_mostFarms ga_foundMany ga_nights ga_farms ga_restingRow v_night mt_farms mt_fences mt_shares mt_toothed : Int32} {v_g : Int64} {ga_losses ga_known ga_found ga_been v_flock v_hunger v_lean v_fed v_taken v_pacts v_levels v_facts mt_flock mt_dogs mt_hunger mt_fenced mt_heights mt_pacts mt_partner mt_often : Nat → Int32} {mt_names : Nat → Int64} {ga_ahead ga_scrap mt_feeding mt_going : Nat} {l1 : Int32} {o_r : Int32} {o_ga_known : Nat → Int32} {o_ga_foundMany : Int32} {o_ga_nights : Int32} {o_ga_farms : Int32} (hM : f_X6_isReady_g ga_mostFarms mt_farms ga_known ga_foundMany ga_nights ga_farms l1 = some (o_r, o_ga_known, o_ga_foundMany, o_ga_nights, o_ga_farms)) : MC l G yX6_isReady cX6_isReady 2 (some .boolean) (RM 1) [.ref (q_ga 0), .int l1] [wX1 G q_ga (q_v 0) ga_ahead ga_scrap ga_mostFarms ga_losses ga_known ga_found ga_foundMany ga_nights ga_farms ga_been ga_restingRow, wX9 G q_v (q_mt 0) v_night v_g v_flock v_hunger v_lean v_fed v_taken v_pacts v_levels v_facts, wX5 G q_mt mt_farms mt_fences mt_shares mt_names mt_flock mt_dogs mt_hunger mt_fenced mt_heights mt_pacts mt_partner mt_often mt_toothed mt_feeding mt_going] (some (.int o_r)) [wX1 G q_ga (q_v 0) ga_ahead ga_scrap ga_mostFarms ga_losses o_ga_known ga_found o_ga_foundMany o_ga_nights o_ga_farms ga_been ga_restingRow, wX9 G q_v (q_mt 0) v_night v_g v_flock v_hunger v_lean v_fed v_taken v_pacts v_levels v_facts, wX5 G q_mt mt_farms mt_fences mt_shares mt_names mt_flock mt_dogs mt_hunger mt_fenced mt_heights mt_pacts mt_partner mt_often mt_toothed mt_feeding mt_going] := by
  refine MC.of pn_X6 (Nat.le_of_ble_eq_true rfl) (fun K hR hret => ?_)
  have hR : Rl l G RX6 cX6_isReady 2 (RM 1) K := hR
  show K [wX1 G q_ga (q_v 0) ga_ahead ga_scrap ga_mostFarms ga_losses ga_known ga_found ga_foundMany ga_nights ga_farms ga_been ga_restingRow, wX9 G q_v (q_mt 0) v_night v_g v_flock v_hunger v_lean v_fed v_taken v_pacts v_levels v_facts, wX5 G q_mt mt_farms mt_fences mt_shares mt_names mt_flock mt_dogs mt_hunger mt_fenced mt_heights mt_pacts mt_partner mt_often mt_toothed mt_feeding mt_going] [(0, .ref (q_ga 0)), (1, .int l1)] 0 []
  refine st_iload_n hR dX6_isReady_0 1 rfl rfl (pc' := 1) rfl ?_
  obtain ⟨r_1, hc_, hM⟩ := bd_e hM
  refine st_callSN hR (k_X10_isAhead hc_) cf_X6_42 (rm_le (Nat.le_of_ble_eq_true rfl) (Nat.le_of_ble_eq_true rfl)) [] rfl rfl rfl rfl (rest := []) rfl (Nat.le_of_ble_eq_true rfl) dX6_isReady_1 (pc' := 4) rfl (Wn := [wX1 G q_ga (q_v 0) ga_ahead ga_scrap ga_mostFarms ga_losses ga_known ga_found ga_foundMany ga_nights ga_farms ga_been ga_restingRow, wX9 G q_v (q_mt 0) v_night v_g v_flock v_hunger v_lean v_fed v_taken v_pacts v_levels v_facts, wX5 G q_mt mt_farms mt_fences mt_shares mt_names mt_flock mt_dogs mt_hunger mt_fenced mt_heights mt_pacts mt_partner mt_often mt_toothed mt_feeding mt_going]) rfl ?_
  refine st_if_eq hR dX6_isReady_4 (tgt := 24) (by decide) (pc' := 7) rfl (fun c_ => ?_) (fun c_ => ?_)
  · have hM := it_t c_ hM
    refine st_iconst hR dX6_isReady_24 (v := 0) rfl (pc' := 25) rfl ?_
    cases hM
    exact hret _ _ dX6_isReady_25 (ro_z (Or.inl rfl))
  · have hM := it_f c_ hM
    refine st_aload_n hR dX6_isReady_7 0 rfl rfl (pc' := 8) rfl ?_
    refine st_get hR dX6_isReady_8 fg_X6_9_1_0 0 0 rfl rfl rfl (pc' := 11) rfl ?_
    refine st_get hR dX6_isReady_11 fg_X6_46_8_0 1 0 rfl rfl rfl (pc' := 14) rfl ?_
    refine st_get hR dX6_isReady_14 fg_X6_52_5_0 2 0 rfl rfl rfl (pc' := 17) rfl ?_
    refine st_aload_n hR dX6_isReady_17 0 rfl rfl (pc' := 18) rfl ?_
    refine st_get hR dX6_isReady_18 fg_X6_22_1_3 0 0 rfl rfl rfl (pc' := 21) rfl ?_
    refine st_icmp_le hR dX6_isReady_21 (tgt := 26) (by decide) (pc' := 24) rfl (fun c_ => ?_) (fun c_ => ?_)
    · have hM := it_t c_ hM
      refine st_aload_n hR dX6_isReady_26 0 rfl rfl (pc' := 27) rfl ?_
      refine st_get hR dX6_isReady_27 fg_X6_39_1_8 0 0 rfl rfl rfl (pc' := 30) rfl ?_
      refine st_iload_n hR dX6_isReady_30 1 rfl rfl (pc' := 31) rfl ?_
      refine st_icmp_eq hR dX6_isReady_31 (tgt := 66) (by decide) (pc' := 34) rfl (fun c_ => ?_) (fun c_ => ?_)
      · have hM := it_t c_ hM
        refine st_iconst hR dX6_isReady_66 (v := 1) rfl (pc' := 67) rfl ?_
        cases hM
        exact hret _ _ dX6_isReady_67 (ro_z (Or.inr rfl))
      · have hM := it_f c_ hM
        refine st_aload_n hR dX6_isReady_34 0 rfl rfl (pc' := 35) rfl ?_
        refine st_iload_n hR dX6_isReady_35 1 rfl rfl (pc' := 36) rfl ?_
        refine st_put hR dX6_isReady_36 fp_X6_39_1_8 0 0 rfl rfl (Nat.le_of_ble_eq_true rfl) rfl rfl (pc' := 39) rfl (W' := [wX1 G q_ga (q_v 0) ga_ahead ga_scrap ga_mostFarms ga_losses ga_known ga_found ga_foundMany l1 ga_farms ga_been ga_restingRow, wX9 G q_v (q_mt 0) v_night v_g v_flock v_hunger v_lean v_fed v_taken v_pacts v_levels v_facts, wX5 G q_mt mt_farms mt_fences mt_shares mt_names mt_flock mt_dogs mt_hunger mt_fenced mt_heights mt_pacts mt_partner mt_often mt_toothed mt_feeding mt_going]) rfl ?_
        refine st_aload_n hR dX6_isReady_39 0 rfl rfl (pc' := 40) rfl ?_
        refine st_aload_n hR dX6_isReady_40 0 rfl rfl (pc' := 41) rfl ?_
        refine st_get hR dX6_isReady_41 fg_X6_9_1_0 0 0 rfl rfl rfl (pc' := 44) rfl ?_
        refine st_get hR dX6_isReady_44 fg_X6_46_8_0 1 0 rfl rfl rfl (pc' := 47) rfl ?_
        refine st_get hR dX6_isReady_47 fg_X6_52_5_0 2 0 rfl rfl rfl (pc' := 50) rfl ?_
        refine st_put hR dX6_isReady_50 fp_X6_36_1_9 0 0 rfl rfl (Nat.le_of_ble_eq_true rfl) rfl rfl (pc' := 53) rfl (W' := [wX1 G q_ga (q_v 0) ga_ahead ga_scrap ga_mostFarms ga_losses ga_known ga_found ga_foundMany l1 mt_farms ga_been ga_restingRow, wX9 G q_v (q_mt 0) v_night v_g v_flock v_hunger v_lean v_fed v_taken v_pacts v_levels v_facts, wX5 G q_mt mt_farms mt_fences mt_shares mt_names mt_flock mt_dogs mt_hunger mt_fenced mt_heights mt_pacts mt_partner mt_often mt_toothed mt_feeding mt_going]) rfl ?_
        refine st_aload_n hR dX6_isReady_53 0 rfl rfl (pc' := 54) rfl ?_
        refine st_iconst hR dX6_isReady_54 (v := (-1)) (by decide) (pc' := 55) rfl ?_
        refine st_put hR dX6_isReady_55 fp_X6_55_1_7 0 0 rfl rfl (Nat.le_of_ble_eq_true rfl) rfl rfl (pc' := 58) rfl (W' := [wX1 G q_ga (q_v 0) ga_ahead ga_scrap ga_mostFarms ga_losses ga_known ga_found (-1) l1 mt_farms ga_been ga_restingRow, wX9 G q_v (q_mt 0) v_night v_g v_flock v_hunger v_lean v_fed v_taken v_pacts v_levels v_facts, wX5 G q_mt mt_farms mt_fences mt_shares mt_names mt_flock mt_dogs mt_hunger mt_fenced mt_heights mt_pacts mt_partner mt_often mt_toothed mt_feeding mt_going]) rfl ?_
        refine st_aload_n hR dX6_isReady_58 0 rfl rfl (pc' := 59) rfl ?_
        refine st_get hR dX6_isReady_59 fg_X6_30_1_5 0 0 rfl rfl rfl (pc' := 62) rfl ?_
        refine st_iconst hR dX6_isReady_62 (v := 0) rfl (pc' := 63) rfl ?_
        refine st_fill hR dX6_isReady_63 ff_X6_58 (Nat.le_of_ble_eq_true rfl) (Nat.le_of_ble_eq_true rfl) 0 2 rfl rfl (Nat.le_of_ble_eq_true rfl) (rest := []) (Nat.le_of_ble_eq_true rfl) (pc' := 66) rfl (fun ga_known_1 => [wX1 G q_ga (q_v 0) ga_ahead ga_scrap ga_mostFarms ga_losses ga_known_1 ga_found (-1) l1 mt_farms ga_been ga_restingRow, wX9 G q_v (q_mt 0) v_night v_g v_flock v_hunger v_lean v_fed v_taken v_pacts v_levels v_facts, wX5 G q_mt mt_farms mt_fences mt_shares mt_names mt_flock mt_dogs mt_hunger mt_fenced mt_heights mt_pacts mt_partner mt_often mt_toothed mt_feeding mt_going]) (fun _ => rfl) (fun ga_known_1 e_ => ?_)
        have hM := lt_e e_ hM
        refine st_iconst hR dX6_isReady_66 (v := 1) rfl (pc' := 67) rfl ?_
        cases hM
        exact hret _ _ dX6_isReady_67 (ro_z (Or.inr rfl))
    · have hM := it_f c_ hM
      refine st_iconst hR dX6_isReady_24 (v := 0) rfl (pc' := 25) rfl ?_
      cases hM
      exact hret _ _ dX6_isReady_25 (ro_z (Or.inl rfl))
set_option maxHeartbeats 16000000 in
set_option maxRecDepth 100000 in
theorem k_X1_arrange {l : Launch} {G : GG} {q_ga q_ah : Nat → Nat} {ga_mostFarms ga_foundMany ga_nights ga_farms ga_restingRow ah_night : Int32} {ah_g : Int64} {ga_losses ga_known ga_found ga_been ah_flock ah_hunger ah_lean ah_fed ah_taken ah_pacts ah_levels ah_facts : Nat → Int32} {ga_now ga_ahead ga_scrap ah_mountain : Nat} {l2 : Int32} {o_ah_levels : Nat → Int32} (hM : f_X1_arrange ga_farms ah_levels l2 = some o_ah_levels) : MC l G yX1_arrange cX1_arrange 4 none (RM 1) [.ref (q_ga 0), .ref (q_ah 0), .int l2] [wX1 G q_ga ga_now ga_ahead ga_scrap ga_mostFarms ga_losses ga_known ga_found ga_foundMany ga_nights ga_farms ga_been ga_restingRow, wX9 G q_ah ah_mountain ah_night ah_g ah_flock ah_hunger ah_lean ah_fed ah_taken ah_pacts ah_levels ah_facts] none [wX1 G q_ga ga_now ga_ahead ga_scrap ga_mostFarms ga_losses ga_known ga_found ga_foundMany ga_nights ga_farms ga_been ga_restingRow, wX9 G q_ah ah_mountain ah_night ah_g ah_flock ah_hunger ah_lean ah_fed ah_taken ah_pacts o_ah_levels ah_facts] := by
  refine MC.of pn_X1 (Nat.le_of_ble_eq_true rfl) (fun K hR hret => ?_)
  have hR : Rl l G RX1 cX1_arrange 4 (RM 1) K := hR
  show K [wX1 G q_ga ga_now ga_ahead ga_scrap ga_mostFarms ga_losses ga_known ga_found ga_foundMany ga_nights ga_farms ga_been ga_restingRow, wX9 G q_ah ah_mountain ah_night ah_g ah_flock ah_hunger ah_lean ah_fed ah_taken ah_pacts ah_levels ah_facts] [(0, .ref (q_ga 0)), (1, .ref (q_ah 0)), (2, .int l2)] 0 []
  have L2 : ∀ (n2 : Nat) (ah_levels : Nat → Int32) (l2 : Int32) (l3 : Int32), f_X1_arrange_L2  ga_farms n2 ah_levels l2 l3 = some o_ah_levels → K [wX1 G q_ga ga_now ga_ahead ga_scrap ga_mostFarms ga_losses ga_known ga_found ga_foundMany ga_nights ga_farms ga_been ga_restingRow, wX9 G q_ah ah_mountain ah_night ah_g ah_flock ah_hunger ah_lean ah_fed ah_taken ah_pacts ah_levels ah_facts] [(0, .ref (q_ga 0)), (1, .ref (q_ah 0)), (2, .int l2), (3, .int l3)] 2 [] := by
    intro n2
    induction n2 with
    | zero => intro ah_levels l2 l3 hM; exact no_some hM
    | succ n2 ih2 =>
      intro ah_levels l2 l3 hM
      have hM : f_X1_arrange_L2b  (f_X1_arrange_L2  ga_farms n2) ga_farms ah_levels l2 l3 = some o_ah_levels := hM
      refine st_iload_n hR dX1_arrange_2 3 rfl rfl (pc' := 3) rfl ?_
      refine st_aload_n hR dX1_arrange_3 0 rfl rfl (pc' := 4) rfl ?_
      obtain ⟨r_1, hc_, hM⟩ := bd_e hM
      refine st_callU hR (k_X6_farms_g hc_) cu_X1_15_X1 (rm_le (Nat.le_of_ble_eq_true rfl) (Nat.le_of_ble_eq_true rfl)) [0] rfl rfl rfl 0 0 1 12 rfl rfl rfl rfl (rest := [.int l3]) rfl (Nat.le_of_ble_eq_true rfl) dX1_arrange_4 (pc' := 7) rfl (Wn := [wX1 G q_ga ga_now ga_ahead ga_scrap ga_mostFarms ga_losses ga_known ga_found ga_foundMany ga_nights ga_farms ga_been ga_restingRow, wX9 G q_ah ah_mountain ah_night ah_g ah_flock ah_hunger ah_lean ah_fed ah_taken ah_pacts ah_levels ah_facts]) rfl ?_
      refine st_icmp_ge hR dX1_arrange_7 (tgt := 29) (by decide) (pc' := 10) rfl (fun c_ => ?_) (fun c_ => ?_)
      · have hM := it_t c_ hM
        cases hM
        exact hret _ _ dX1_arrange_29 ro_v
      · have hM := it_f c_ hM
        refine st_aload_n hR dX1_arrange_10 1 rfl rfl (pc' := 11) rfl ?_
        refine st_get hR dX1_arrange_11 fg_X1_22_8_9 1 0 rfl rfl rfl (pc' := 14) rfl ?_
        refine st_iload_n hR dX1_arrange_14 3 rfl rfl (pc' := 15) rfl ?_
        refine st_iload_n hR dX1_arrange_15 2 rfl rfl (pc' := 16) rfl ?_
        refine st_iconst hR dX1_arrange_16 (v := 2) rfl (pc' := 17) rfl ?_
        refine st_iload_n hR dX1_arrange_17 3 rfl rfl (pc' := 18) rfl ?_
        refine st_imul hR dX1_arrange_18 (pc' := 19) rfl ?_
        refine st_ishr hR dX1_arrange_19 (pc' := 20) rfl ?_
        refine st_iconst hR dX1_arrange_20 (v := 3) rfl (pc' := 21) rfl ?_
        refine st_iand hR dX1_arrange_21 (pc' := 22) rfl ?_
        obtain ⟨hin_, hM⟩ := g_in_e hM
        refine st_iast hR dX1_arrange_22 1 7 rfl rfl hin_ (ix := (ix l3)) rfl (pc' := 23) rfl (fun ah_levels_1 => [wX1 G q_ga ga_now ga_ahead ga_scrap ga_mostFarms ga_losses ga_known ga_found ga_foundMany ga_nights ga_farms ga_been ga_restingRow, wX9 G q_ah ah_mountain ah_night ah_g ah_flock ah_hunger ah_lean ah_fed ah_taken ah_pacts ah_levels_1 ah_facts]) (fun _ => rfl) (fun ah_levels_1 e_ => ?_)
        have hM := lt_e e_ hM
        obtain ⟨l3_1, e_⟩ : ∃ y : Int32, y = l3 + 1 := ⟨_, rfl⟩
        refine st_iinc hR dX1_arrange_23 (Nat.le_of_ble_eq_true rfl) 3 [1, 2, 3, 0] (v := l3_1) rfl (by rw [e_]; rfl) (lv' := [(0, .ref (q_ga 0)), (1, .ref (q_ah 0)), (2, .int l2), (3, .int l3_1)]) rfl (pc' := 26) rfl ?_
        have hM := lt_e e_ hM
        refine st_goto hR dX1_arrange_26 (tgt := 2) (by decide) ?_
        exact ih2 _ _ _ hM
  refine st_iconst hR dX1_arrange_0 (v := 0) rfl (pc' := 1) rfl ?_
  refine st_istore_n hR dX1_arrange_1 rfl (Nat.le_of_ble_eq_true rfl) [1, 2, 3, 0] (lv' := [(0, .ref (q_ga 0)), (1, .ref (q_ah 0)), (2, .int l2), (3, .int 0)]) rfl (pc' := 2) rfl ?_
  exact L2 FU _ _ _ hM
set_option maxHeartbeats 16000000 in
set_option maxRecDepth 100000 in
theorem k_X6_lookAt_g {l : Launch} {G : GG} {q_ga q_v q_ah q_sc q_mt q_fe q_go : Nat → Nat} {ga_mostFarms ga_foundMany ga_nights ga_farms ga_restingRow v_night ah_night sc_bones sc_feudsInAll sc_bitten mt_farms mt_fences mt_shares mt_toothed fe_steps go_steps : Int32} {v_g ah_g : Int64} {ga_losses ga_known ga_found ga_been v_flock v_hunger v_lean v_fed v_taken v_pacts v_levels v_facts ah_flock ah_hunger ah_lean ah_fed ah_taken ah_pacts ah_levels ah_facts sc_kept sc_feuds sc_bites mt_flock mt_dogs mt_hunger mt_fenced mt_heights mt_pacts mt_partner mt_often fe_kinds fe_lefts fe_rights fe_values go_kinds go_lefts go_rights go_values : Nat → Int32} {mt_names : Nat → Int64} {ah_mountain : Nat} {l1 : Int32} {o_ga_losses : Nat → Int32} {o_ga_known : Nat → Int32} {o_ah_mountain : Nat} {o_ah_night : Int32} {o_ah_g : Int64} {o_ah_flock : Nat → Int32} {o_ah_hunger : Nat → Int32} {o_ah_lean : Nat → Int32} {o_ah_fed : Nat → Int32} {o_ah_taken : Nat → Int32} {o_ah_pacts : Nat → Int32} {o_ah_levels : Nat → Int32} {o_ah_facts : Nat → Int32} {o_sc_kept : Nat → Int32} {o_sc_feuds : Nat → Int32} {o_sc_bones : Int32} {o_sc_feudsInAll : Int32} {o_fe_values : Nat → Int32} {o_go_values : Nat → Int32} (hM : f_X6_lookAt_g ga_nights ga_farms v_night v_g v_flock v_hunger v_lean v_fed v_taken v_pacts v_levels mt_farms mt_dogs mt_fenced mt_heights mt_partner fe_kinds fe_lefts fe_rights fe_steps go_kinds go_lefts go_rights go_steps ga_losses ga_known ah_mountain ah_night ah_g ah_flock ah_hunger ah_lean ah_fed ah_taken ah_pacts ah_levels ah_facts sc_kept sc_feuds sc_bones sc_feudsInAll fe_values go_values (q_mt 0) l1 = some (o_ga_losses, o_ga_known, o_ah_mountain, o_ah_night, o_ah_g, o_ah_flock, o_ah_hunger, o_ah_lean, o_ah_fed, o_ah_taken, o_ah_pacts, o_ah_levels, o_ah_facts, o_sc_kept, o_sc_feuds, o_sc_bones, o_sc_feudsInAll, o_fe_values, o_go_values)) : MC l G yX6_lookAt cX6_lookAt 3 none (RM 4) [.ref (q_ga 0), .int l1] [wX1 G q_ga (q_v 0) (q_ah 0) (q_sc 0) ga_mostFarms ga_losses ga_known ga_found ga_foundMany ga_nights ga_farms ga_been ga_restingRow, wX9 G q_v (q_mt 0) v_night v_g v_flock v_hunger v_lean v_fed v_taken v_pacts v_levels v_facts, wX9 G q_ah ah_mountain ah_night ah_g ah_flock ah_hunger ah_lean ah_fed ah_taken ah_pacts ah_levels ah_facts, wX0 G q_sc sc_kept sc_feuds sc_bites sc_bones sc_feudsInAll sc_bitten, wX5 G q_mt mt_farms mt_fences mt_shares mt_names mt_flock mt_dogs mt_hunger mt_fenced mt_heights mt_pacts mt_partner mt_often mt_toothed (q_fe 0) (q_go 0), wX3 G q_fe fe_kinds fe_lefts fe_rights fe_values fe_steps, wX3 G q_go go_kinds go_lefts go_rights go_values go_steps] none [wX1 G q_ga (q_v 0) (q_ah 0) (q_sc 0) ga_mostFarms o_ga_losses o_ga_known ga_found ga_foundMany ga_nights ga_farms ga_been ga_restingRow, wX9 G q_v (q_mt 0) v_night v_g v_flock v_hunger v_lean v_fed v_taken v_pacts v_levels v_facts, wX9 G q_ah o_ah_mountain o_ah_night o_ah_g o_ah_flock o_ah_hunger o_ah_lean o_ah_fed o_ah_taken o_ah_pacts o_ah_levels o_ah_facts, wX0 G q_sc o_sc_kept o_sc_feuds sc_bites o_sc_bones o_sc_feudsInAll sc_bitten, wX5 G q_mt mt_farms mt_fences mt_shares mt_names mt_flock mt_dogs mt_hunger mt_fenced mt_heights mt_pacts mt_partner mt_often mt_toothed (q_fe 0) (q_go 0), wX3 G q_fe fe_kinds fe_lefts fe_rights o_fe_values fe_steps, wX3 G q_go go_kinds go_lefts go_rights o_go_values go_steps] := by
  refine MC.of pn_X6 (Nat.le_of_ble_eq_true rfl) (fun K hR hret => ?_)
  have hR : Rl l G RX6 cX6_lookAt 3 (RM 4) K := hR
  show K [wX1 G q_ga (q_v 0) (q_ah 0) (q_sc 0) ga_mostFarms ga_losses ga_known ga_found ga_foundMany ga_nights ga_farms ga_been ga_restingRow, wX9 G q_v (q_mt 0) v_night v_g v_flock v_hunger v_lean v_fed v_taken v_pacts v_levels v_facts, wX9 G q_ah ah_mountain ah_night ah_g ah_flock ah_hunger ah_lean ah_fed ah_taken ah_pacts ah_levels ah_facts, wX0 G q_sc sc_kept sc_feuds sc_bites sc_bones sc_feudsInAll sc_bitten, wX5 G q_mt mt_farms mt_fences mt_shares mt_names mt_flock mt_dogs mt_hunger mt_fenced mt_heights mt_pacts mt_partner mt_often mt_toothed (q_fe 0) (q_go 0), wX3 G q_fe fe_kinds fe_lefts fe_rights fe_values fe_steps, wX3 G q_go go_kinds go_lefts go_rights go_values go_steps] [(0, .ref (q_ga 0)), (1, .int l1)] 0 []
  have L60 : ∀ (n60 : Nat) (ga_losses : Nat → Int32) (ga_known : Nat → Int32) (ah_mountain : Nat) (ah_night : Int32) (ah_g : Int64) (ah_flock : Nat → Int32) (ah_hunger : Nat → Int32) (ah_lean : Nat → Int32) (ah_fed : Nat → Int32) (ah_taken : Nat → Int32) (ah_pacts : Nat → Int32) (ah_levels : Nat → Int32) (ah_facts : Nat → Int32) (sc_kept : Nat → Int32) (sc_feuds : Nat → Int32) (sc_bones : Int32) (sc_feudsInAll : Int32) (fe_values : Nat → Int32) (go_values : Nat → Int32) (l1 : Int32) (l2 : Int32), f_X6_lookAt_g_L60  ga_nights ga_farms v_night v_g v_flock v_hunger v_lean v_fed v_taken v_pacts v_levels mt_farms mt_dogs mt_fenced mt_heights mt_partner fe_kinds fe_lefts fe_rights fe_steps go_kinds go_lefts go_rights go_steps (q_mt 0) n60 ga_losses ga_known ah_mountain ah_night ah_g ah_flock ah_hunger ah_lean ah_fed ah_taken ah_pacts ah_levels ah_facts sc_kept sc_feuds sc_bones sc_feudsInAll fe_values go_values l1 l2 = some (o_ga_losses, o_ga_known, o_ah_mountain, o_ah_night, o_ah_g, o_ah_flock, o_ah_hunger, o_ah_lean, o_ah_fed, o_ah_taken, o_ah_pacts, o_ah_levels, o_ah_facts, o_sc_kept, o_sc_feuds, o_sc_bones, o_sc_feudsInAll, o_fe_values, o_go_values) → K [wX1 G q_ga (q_v 0) (q_ah 0) (q_sc 0) ga_mostFarms ga_losses ga_known ga_found ga_foundMany ga_nights ga_farms ga_been ga_restingRow, wX9 G q_v (q_mt 0) v_night v_g v_flock v_hunger v_lean v_fed v_taken v_pacts v_levels v_facts, wX9 G q_ah ah_mountain ah_night ah_g ah_flock ah_hunger ah_lean ah_fed ah_taken ah_pacts ah_levels ah_facts, wX0 G q_sc sc_kept sc_feuds sc_bites sc_bones sc_feudsInAll sc_bitten, wX5 G q_mt mt_farms mt_fences mt_shares mt_names mt_flock mt_dogs mt_hunger mt_fenced mt_heights mt_pacts mt_partner mt_often mt_toothed (q_fe 0) (q_go 0), wX3 G q_fe fe_kinds fe_lefts fe_rights fe_values fe_steps, wX3 G q_go go_kinds go_lefts go_rights go_values go_steps] [(0, .ref (q_ga 0)), (1, .int l1), (2, .int l2)] 60 [] := by
    intro n60
    induction n60 with
    | zero => intro ga_losses ga_known ah_mountain ah_night ah_g ah_flock ah_hunger ah_lean ah_fed ah_taken ah_pacts ah_levels ah_facts sc_kept sc_feuds sc_bones sc_feudsInAll fe_values go_values l1 l2 hM; exact no_some hM
    | succ n60 ih60 =>
      intro ga_losses ga_known ah_mountain ah_night ah_g ah_flock ah_hunger ah_lean ah_fed ah_taken ah_pacts ah_levels ah_facts sc_kept sc_feuds sc_bones sc_feudsInAll fe_values go_values l1 l2 hM
      have hM : f_X6_lookAt_g_L60b  (f_X6_lookAt_g_L60  ga_nights ga_farms v_night v_g v_flock v_hunger v_lean v_fed v_taken v_pacts v_levels mt_farms mt_dogs mt_fenced mt_heights mt_partner fe_kinds fe_lefts fe_rights fe_steps go_kinds go_lefts go_rights go_steps (q_mt 0) n60) ga_nights ga_farms v_night v_g v_flock v_hunger v_lean v_fed v_taken v_pacts v_levels mt_farms mt_dogs mt_fenced mt_heights mt_partner fe_kinds fe_lefts fe_rights fe_steps go_kinds go_lefts go_rights go_steps (q_mt 0) ga_losses ga_known ah_mountain ah_night ah_g ah_flock ah_hunger ah_lean ah_fed ah_taken ah_pacts ah_levels ah_facts sc_kept sc_feuds sc_bones sc_feudsInAll fe_values go_values l1 l2 = some (o_ga_losses, o_ga_known, o_ah_mountain, o_ah_night, o_ah_g, o_ah_flock, o_ah_hunger, o_ah_lean, o_ah_fed, o_ah_taken, o_ah_pacts, o_ah_levels, o_ah_facts, o_sc_kept, o_sc_feuds, o_sc_bones, o_sc_feudsInAll, o_fe_values, o_go_values) := hM
      refine st_iload_n hR dX6_lookAt_60 2 rfl rfl (pc' := 61) rfl ?_
      refine st_aload_n hR dX6_lookAt_61 0 rfl rfl (pc' := 62) rfl ?_
      refine st_get hR dX6_lookAt_62 fg_X6_36_1_9 0 0 rfl rfl rfl (pc' := 65) rfl ?_
      refine st_icmp_ge hR dX6_lookAt_65 (tgt := 102) (by decide) (pc' := 68) rfl (fun c_ => ?_) (fun c_ => ?_)
      · have hM := it_t c_ hM
        refine st_aload_n hR dX6_lookAt_102 0 rfl rfl (pc' := 103) rfl ?_
        refine st_get hR dX6_lookAt_103 fg_X6_30_1_5 0 0 rfl rfl rfl (pc' := 106) rfl ?_
        refine st_iload_n hR dX6_lookAt_106 1 rfl rfl (pc' := 107) rfl ?_
        refine st_iconst hR dX6_lookAt_107 (v := 1) rfl (pc' := 108) rfl ?_
        obtain ⟨hin_, hM⟩ := g_in_e hM
        refine st_iast hR dX6_lookAt_108 0 2 rfl rfl hin_ (ix := (ix l1)) rfl (pc' := 109) rfl (fun ga_known_1 => [wX1 G q_ga (q_v 0) (q_ah 0) (q_sc 0) ga_mostFarms ga_losses ga_known_1 ga_found ga_foundMany ga_nights ga_farms ga_been ga_restingRow, wX9 G q_v (q_mt 0) v_night v_g v_flock v_hunger v_lean v_fed v_taken v_pacts v_levels v_facts, wX9 G q_ah ah_mountain ah_night ah_g ah_flock ah_hunger ah_lean ah_fed ah_taken ah_pacts ah_levels ah_facts, wX0 G q_sc sc_kept sc_feuds sc_bites sc_bones sc_feudsInAll sc_bitten, wX5 G q_mt mt_farms mt_fences mt_shares mt_names mt_flock mt_dogs mt_hunger mt_fenced mt_heights mt_pacts mt_partner mt_often mt_toothed (q_fe 0) (q_go 0), wX3 G q_fe fe_kinds fe_lefts fe_rights fe_values fe_steps, wX3 G q_go go_kinds go_lefts go_rights go_values go_steps]) (fun _ => rfl) (fun ga_known_1 e_ => ?_)
        have hM := lt_e e_ hM
        cases hM
        exact hret _ _ dX6_lookAt_109 ro_v
      · have hM := it_f c_ hM
        refine st_aload_n hR dX6_lookAt_68 0 rfl rfl (pc' := 69) rfl ?_
        refine st_get hR dX6_lookAt_69 fg_X6_26_1_4 0 0 rfl rfl rfl (pc' := 72) rfl ?_
        refine st_iload_n hR dX6_lookAt_72 1 rfl rfl (pc' := 73) rfl ?_
        refine st_bipush hR dX6_lookAt_73 (v := 6) rfl (pc' := 75) rfl ?_
        refine st_imul hR dX6_lookAt_75 (pc' := 76) rfl ?_
        refine st_iload_n hR dX6_lookAt_76 2 rfl rfl (pc' := 77) rfl ?_
        refine st_iadd hR dX6_lookAt_77 (pc' := 78) rfl ?_
        refine st_aload_n hR dX6_lookAt_78 0 rfl rfl (pc' := 79) rfl ?_
        refine st_get hR dX6_lookAt_79 fg_X6_15_1_1 0 0 rfl rfl rfl (pc' := 82) rfl ?_
        refine st_iload_n hR dX6_lookAt_82 2 rfl rfl (pc' := 83) rfl ?_
        obtain ⟨r_1, hc_, hM⟩ := bd_e hM
        refine st_callV hR (k_X9_goneFrom hc_) cf_X6_76 (rm_le (Nat.le_of_ble_eq_true rfl) (Nat.le_of_ble_eq_true rfl)) [2] rfl rfl rfl 2 0 8 11 rfl rfl rfl rfl (rest := [.int ((l1 * 6) + l2), .ref (q_ga 1)]) rfl (Nat.le_of_ble_eq_true rfl) dX6_lookAt_83 (pc' := 86) rfl (Wn := [wX1 G q_ga (q_v 0) (q_ah 0) (q_sc 0) ga_mostFarms ga_losses ga_known ga_found ga_foundMany ga_nights ga_farms ga_been ga_restingRow, wX9 G q_v (q_mt 0) v_night v_g v_flock v_hunger v_lean v_fed v_taken v_pacts v_levels v_facts, wX9 G q_ah ah_mountain ah_night ah_g ah_flock ah_hunger ah_lean ah_fed ah_taken ah_pacts ah_levels ah_facts, wX0 G q_sc sc_kept sc_feuds sc_bites sc_bones sc_feudsInAll sc_bitten, wX5 G q_mt mt_farms mt_fences mt_shares mt_names mt_flock mt_dogs mt_hunger mt_fenced mt_heights mt_pacts mt_partner mt_often mt_toothed (q_fe 0) (q_go 0), wX3 G q_fe fe_kinds fe_lefts fe_rights fe_values fe_steps, wX3 G q_go go_kinds go_lefts go_rights go_values go_steps]) rfl ?_
        refine st_aload_n hR dX6_lookAt_86 0 rfl rfl (pc' := 87) rfl ?_
        refine st_get hR dX6_lookAt_87 fg_X6_9_1_0 0 0 rfl rfl rfl (pc' := 90) rfl ?_
        refine st_iload_n hR dX6_lookAt_90 2 rfl rfl (pc' := 91) rfl ?_
        obtain ⟨r_2, hc_, hM⟩ := bd_e hM
        refine st_callV hR (k_X9_goneFrom hc_) cf_X6_76 (rm_le (Nat.le_of_ble_eq_true rfl) (Nat.le_of_ble_eq_true rfl)) [1] rfl rfl rfl 1 0 8 11 rfl rfl rfl rfl (rest := [.int r_1, .int ((l1 * 6) + l2), .ref (q_ga 1)]) rfl (Nat.le_of_ble_eq_true rfl) dX6_lookAt_91 (pc' := 94) rfl (Wn := [wX1 G q_ga (q_v 0) (q_ah 0) (q_sc 0) ga_mostFarms ga_losses ga_known ga_found ga_foundMany ga_nights ga_farms ga_been ga_restingRow, wX9 G q_v (q_mt 0) v_night v_g v_flock v_hunger v_lean v_fed v_taken v_pacts v_levels v_facts, wX9 G q_ah ah_mountain ah_night ah_g ah_flock ah_hunger ah_lean ah_fed ah_taken ah_pacts ah_levels ah_facts, wX0 G q_sc sc_kept sc_feuds sc_bites sc_bones sc_feudsInAll sc_bitten, wX5 G q_mt mt_farms mt_fences mt_shares mt_names mt_flock mt_dogs mt_hunger mt_fenced mt_heights mt_pacts mt_partner mt_often mt_toothed (q_fe 0) (q_go 0), wX3 G q_fe fe_kinds fe_lefts fe_rights fe_values fe_steps, wX3 G q_go go_kinds go_lefts go_rights go_values go_steps]) rfl ?_
        refine st_isub hR dX6_lookAt_94 (pc' := 95) rfl ?_
        obtain ⟨hin_, hM⟩ := g_in_e hM
        refine st_iast hR dX6_lookAt_95 0 1 rfl rfl hin_ (ix := (ix ((l1 * 6) + l2))) rfl (pc' := 96) rfl (fun ga_losses_1 => [wX1 G q_ga (q_v 0) (q_ah 0) (q_sc 0) ga_mostFarms ga_losses_1 ga_known ga_found ga_foundMany ga_nights ga_farms ga_been ga_restingRow, wX9 G q_v (q_mt 0) v_night v_g v_flock v_hunger v_lean v_fed v_taken v_pacts v_levels v_facts, wX9 G q_ah ah_mountain ah_night ah_g ah_flock ah_hunger ah_lean ah_fed ah_taken ah_pacts ah_levels ah_facts, wX0 G q_sc sc_kept sc_feuds sc_bites sc_bones sc_feudsInAll sc_bitten, wX5 G q_mt mt_farms mt_fences mt_shares mt_names mt_flock mt_dogs mt_hunger mt_fenced mt_heights mt_pacts mt_partner mt_often mt_toothed (q_fe 0) (q_go 0), wX3 G q_fe fe_kinds fe_lefts fe_rights fe_values fe_steps, wX3 G q_go go_kinds go_lefts go_rights go_values go_steps]) (fun _ => rfl) (fun ga_losses_1 e_ => ?_)
        have hM := lt_e e_ hM
        obtain ⟨l2_1, e_⟩ : ∃ y : Int32, y = l2 + 1 := ⟨_, rfl⟩
        refine st_iinc hR dX6_lookAt_96 (Nat.le_of_ble_eq_true rfl) 2 [1, 2, 0] (v := l2_1) rfl (by rw [e_]; rfl) (lv' := [(0, .ref (q_ga 0)), (1, .int l1), (2, .int l2_1)]) rfl (pc' := 99) rfl ?_
        have hM := lt_e e_ hM
        refine st_goto hR dX6_lookAt_99 (tgt := 60) (by decide) ?_
        exact ih60 _ _ _ _ _ _ _ _ _ _ _ _ _ _ _ _ _ _ _ _ _ hM
  refine st_iload_n hR dX6_lookAt_0 1 rfl rfl (pc' := 1) rfl ?_
  refine st_if_lt hR dX6_lookAt_1 (tgt := 22) (by decide) (pc' := 4) rfl (fun c_ => ?_) (fun c_ => ?_)
  · have hM := it_t c_ hM
    cases hM
    exact hret _ _ dX6_lookAt_22 ro_v
  · have hM := it_f c_ hM
    refine st_iload_n hR dX6_lookAt_4 1 rfl rfl (pc' := 5) rfl ?_
    refine st_aload_n hR dX6_lookAt_5 0 rfl rfl (pc' := 6) rfl ?_
    refine st_get hR dX6_lookAt_6 fg_X6_30_1_5 0 0 rfl rfl rfl (pc' := 9) rfl ?_
    refine st_alen hR dX6_lookAt_9 0 2 0 rfl rfl rfl (v := 256) rfl (pc' := 10) rfl ?_
    refine st_icmp_ge hR dX6_lookAt_10 (tgt := 22) (by decide) (pc' := 13) rfl (fun c_ => ?_) (fun c_ => ?_)
    · have hM := it_t c_ hM
      cases hM
      exact hret _ _ dX6_lookAt_22 ro_v
    · have hM := it_f c_ hM
      refine st_aload_n hR dX6_lookAt_13 0 rfl rfl (pc' := 14) rfl ?_
      refine st_get hR dX6_lookAt_14 fg_X6_30_1_5 0 0 rfl rfl rfl (pc' := 17) rfl ?_
      refine st_iload_n hR dX6_lookAt_17 1 rfl rfl (pc' := 18) rfl ?_
      obtain ⟨hin_, hM⟩ := g_in_e hM
      refine st_iald hR dX6_lookAt_18 0 2 rfl rfl hin_ (v := ga_known (ix l1)) rfl (pc' := 19) rfl ?_
      refine st_if_eq hR dX6_lookAt_19 (tgt := 23) (by decide) (pc' := 22) rfl (fun c_ => ?_) (fun c_ => ?_)
      · have hM := it_t c_ hM
        refine st_aload_n hR dX6_lookAt_23 0 rfl rfl (pc' := 24) rfl ?_
        refine st_get hR dX6_lookAt_24 fg_X6_15_1_1 0 0 rfl rfl rfl (pc' := 27) rfl ?_
        refine st_aload_n hR dX6_lookAt_27 0 rfl rfl (pc' := 28) rfl ?_
        refine st_get hR dX6_lookAt_28 fg_X6_9_1_0 0 0 rfl rfl rfl (pc' := 31) rfl ?_
        obtain ⟨⟨ah_night_1, ah_g_1, ah_flock_1, ah_hunger_1, ah_lean_1, ah_fed_1, ah_taken_1, ah_pacts_1, ah_levels_1⟩, hc_, hM⟩ := bd_e hM
        refine st_callV hR (k_X9_copyFrom hc_) cf_X6_64 (rm_le (Nat.le_of_ble_eq_true rfl) (Nat.le_of_ble_eq_true rfl)) [2, 1] rfl rfl rfl 2 0 8 11 rfl rfl rfl rfl (rest := []) rfl (Nat.le_of_ble_eq_true rfl) dX6_lookAt_31 (pc' := 34) rfl (Wn := [wX1 G q_ga (q_v 0) (q_ah 0) (q_sc 0) ga_mostFarms ga_losses ga_known ga_found ga_foundMany ga_nights ga_farms ga_been ga_restingRow, wX9 G q_v (q_mt 0) v_night v_g v_flock v_hunger v_lean v_fed v_taken v_pacts v_levels v_facts, wX9 G q_ah (q_mt 0) ah_night_1 ah_g_1 ah_flock_1 ah_hunger_1 ah_lean_1 ah_fed_1 ah_taken_1 ah_pacts_1 ah_levels_1 ah_facts, wX0 G q_sc sc_kept sc_feuds sc_bites sc_bones sc_feudsInAll sc_bitten, wX5 G q_mt mt_farms mt_fences mt_shares mt_names mt_flock mt_dogs mt_hunger mt_fenced mt_heights mt_pacts mt_partner mt_often mt_toothed (q_fe 0) (q_go 0), wX3 G q_fe fe_kinds fe_lefts fe_rights fe_values fe_steps, wX3 G q_go go_kinds go_lefts go_rights go_values go_steps]) rfl ?_
        refine st_aload_n hR dX6_lookAt_34 0 rfl rfl (pc' := 35) rfl ?_
        refine st_aload_n hR dX6_lookAt_35 0 rfl rfl (pc' := 36) rfl ?_
        refine st_get hR dX6_lookAt_36 fg_X6_15_1_1 0 0 rfl rfl rfl (pc' := 39) rfl ?_
        refine st_iload_n hR dX6_lookAt_39 1 rfl rfl (pc' := 40) rfl ?_
        obtain ⟨ah_levels_2, hc_, hM⟩ := bd_e hM
        refine st_callU hR (k_X1_arrange hc_) cu_X6_68_X1 (rm_le (Nat.le_of_ble_eq_true rfl) (Nat.le_of_ble_eq_true rfl)) [0, 2] rfl rfl rfl 0 0 1 12 rfl rfl rfl rfl (rest := []) rfl (Nat.le_of_ble_eq_true rfl) dX6_lookAt_40 (pc' := 43) rfl (Wn := [wX1 G q_ga (q_v 0) (q_ah 0) (q_sc 0) ga_mostFarms ga_losses ga_known ga_found ga_foundMany ga_nights ga_farms ga_been ga_restingRow, wX9 G q_v (q_mt 0) v_night v_g v_flock v_hunger v_lean v_fed v_taken v_pacts v_levels v_facts, wX9 G q_ah (q_mt 0) ah_night_1 ah_g_1 ah_flock_1 ah_hunger_1 ah_lean_1 ah_fed_1 ah_taken_1 ah_pacts_1 ah_levels_2 ah_facts, wX0 G q_sc sc_kept sc_feuds sc_bites sc_bones sc_feudsInAll sc_bitten, wX5 G q_mt mt_farms mt_fences mt_shares mt_names mt_flock mt_dogs mt_hunger mt_fenced mt_heights mt_pacts mt_partner mt_often mt_toothed (q_fe 0) (q_go 0), wX3 G q_fe fe_kinds fe_lefts fe_rights fe_values fe_steps, wX3 G q_go go_kinds go_lefts go_rights go_values go_steps]) rfl ?_
        refine st_aload_n hR dX6_lookAt_43 0 rfl rfl (pc' := 44) rfl ?_
        refine st_get hR dX6_lookAt_44 fg_X6_15_1_1 0 0 rfl rfl rfl (pc' := 47) rfl ?_
        refine st_aload_n hR dX6_lookAt_47 0 rfl rfl (pc' := 48) rfl ?_
        refine st_get hR dX6_lookAt_48 fg_X6_18_1_2 0 0 rfl rfl rfl (pc' := 51) rfl ?_
        refine st_aload_n hR dX6_lookAt_51 0 rfl rfl (pc' := 52) rfl ?_
        refine st_get hR dX6_lookAt_52 fg_X6_39_1_8 0 0 rfl rfl rfl (pc' := 55) rfl ?_
        obtain ⟨⟨ah_night_2, ah_g_2, ah_flock_2, ah_lean_2, ah_fed_2, ah_taken_2, ah_facts_1, fe_values_1, go_values_1, sc_kept_1, sc_feuds_1, sc_bones_1, sc_feudsInAll_1⟩, hc_, hM⟩ := bd_e hM
        refine st_callV hR (k_X9_run hc_) cf_X6_72 (rm_le (Nat.le_of_ble_eq_true rfl) (Nat.le_of_ble_eq_true rfl)) [2, 4, 5, 6, 3] rfl rfl rfl 2 0 8 11 rfl rfl rfl rfl (rest := []) rfl (Nat.le_of_ble_eq_true rfl) dX6_lookAt_55 (pc' := 58) rfl (Wn := [wX1 G q_ga (q_v 0) (q_ah 0) (q_sc 0) ga_mostFarms ga_losses ga_known ga_found ga_foundMany ga_nights ga_farms ga_been ga_restingRow, wX9 G q_v (q_mt 0) v_night v_g v_flock v_hunger v_lean v_fed v_taken v_pacts v_levels v_facts, wX9 G q_ah (q_mt 0) ah_night_2 ah_g_2 ah_flock_2 ah_hunger_1 ah_lean_2 ah_fed_2 ah_taken_2 ah_pacts_1 ah_levels_2 ah_facts_1, wX0 G q_sc sc_kept_1 sc_feuds_1 sc_bites sc_bones_1 sc_feudsInAll_1 sc_bitten, wX5 G q_mt mt_farms mt_fences mt_shares mt_names mt_flock mt_dogs mt_hunger mt_fenced mt_heights mt_pacts mt_partner mt_often mt_toothed (q_fe 0) (q_go 0), wX3 G q_fe fe_kinds fe_lefts fe_rights fe_values_1 fe_steps, wX3 G q_go go_kinds go_lefts go_rights go_values_1 go_steps]) rfl ?_
        refine st_iconst hR dX6_lookAt_58 (v := 0) rfl (pc' := 59) rfl ?_
        refine st_istore_n hR dX6_lookAt_59 rfl (Nat.le_of_ble_eq_true rfl) [1, 2, 0] (lv' := [(0, .ref (q_ga 0)), (1, .int l1), (2, .int 0)]) rfl (pc' := 60) rfl ?_
        exact L60 FU _ _ _ _ _ _ _ _ _ _ _ _ _ _ _ _ _ _ _ _ _ hM
      · have hM := it_f c_ hM
        cases hM
        exact hret _ _ dX6_lookAt_22 ro_v
set_option maxHeartbeats 16000000 in
set_option maxRecDepth 100000 in
theorem k_X1_rows {l : Launch} {G : GG} {q_ga : Nat → Nat} {ga_mostFarms ga_foundMany ga_nights ga_farms ga_restingRow : Int32} {ga_losses ga_known ga_found ga_been : Nat → Int32} {ga_now ga_ahead ga_scrap : Nat}  {o_r : Int32} (hM : f_X1_rows ga_farms = some o_r) : MC l G yX1_rows cX1_rows 1 (some .int) (RM 1) [.ref (q_ga 0)] [wX1 G q_ga ga_now ga_ahead ga_scrap ga_mostFarms ga_losses ga_known ga_found ga_foundMany ga_nights ga_farms ga_been ga_restingRow] (some (.int o_r)) [wX1 G q_ga ga_now ga_ahead ga_scrap ga_mostFarms ga_losses ga_known ga_found ga_foundMany ga_nights ga_farms ga_been ga_restingRow] := by
  refine MC.of pn_X1 (Nat.le_of_ble_eq_true rfl) (fun K hR hret => ?_)
  have hR : Rl l G RX1 cX1_rows 1 (RM 1) K := hR
  show K [wX1 G q_ga ga_now ga_ahead ga_scrap ga_mostFarms ga_losses ga_known ga_found ga_foundMany ga_nights ga_farms ga_been ga_restingRow] [(0, .ref (q_ga 0))] 0 []
  refine st_iconst hR dX1_rows_0 (v := 1) rfl (pc' := 1) rfl ?_
  refine st_iconst hR dX1_rows_1 (v := 2) rfl (pc' := 2) rfl ?_
  refine st_aload_n hR dX1_rows_2 0 rfl rfl (pc' := 3) rfl ?_
  obtain ⟨r_1, hc_, hM⟩ := bd_e hM
  refine st_callU hR (k_X6_farms_g hc_) cu_X1_15_X1 (rm_le (Nat.le_of_ble_eq_true rfl) (Nat.le_of_ble_eq_true rfl)) [0] rfl rfl rfl 0 0 1 12 rfl rfl rfl rfl (rest := [.int 2, .int 1]) rfl (Nat.le_of_ble_eq_true rfl) dX1_rows_3 (pc' := 6) rfl (Wn := [wX1 G q_ga ga_now ga_ahead ga_scrap ga_mostFarms ga_losses ga_known ga_found ga_foundMany ga_nights ga_farms ga_been ga_restingRow]) rfl ?_
  refine st_imul hR dX1_rows_6 (pc' := 7) rfl ?_
  refine st_ishl hR dX1_rows_7 (pc' := 8) rfl ?_
  cases hM
  exact hret _ _ dX1_rows_8 (ro_i _)
set_option maxHeartbeats 16000000 in
set_option maxRecDepth 100000 in
theorem k_X1_isRow {l : Launch} {G : GG} {q_ga : Nat → Nat} {ga_mostFarms ga_foundMany ga_nights ga_farms ga_restingRow : Int32} {ga_losses ga_known ga_found ga_been : Nat → Int32} {ga_now ga_ahead ga_scrap : Nat} {l1 : Int32} {o_r : Int32} (hM : f_X1_isRow ga_farms l1 = some o_r) : MC l G yX1_isRow cX1_isRow 2 (some .boolean) (RM 2) [.ref (q_ga 0), .int l1] [wX1 G q_ga ga_now ga_ahead ga_scrap ga_mostFarms ga_losses ga_known ga_found ga_foundMany ga_nights ga_farms ga_been ga_restingRow] (some (.int o_r)) [wX1 G q_ga ga_now ga_ahead ga_scrap ga_mostFarms ga_losses ga_known ga_found ga_foundMany ga_nights ga_farms ga_been ga_restingRow] := by
  refine MC.of pn_X1 (Nat.le_of_ble_eq_true rfl) (fun K hR hret => ?_)
  have hR : Rl l G RX1 cX1_isRow 2 (RM 2) K := hR
  show K [wX1 G q_ga ga_now ga_ahead ga_scrap ga_mostFarms ga_losses ga_known ga_found ga_foundMany ga_nights ga_farms ga_been ga_restingRow] [(0, .ref (q_ga 0)), (1, .int l1)] 0 []
  refine st_iload_n hR dX1_isRow_0 1 rfl rfl (pc' := 1) rfl ?_
  refine st_if_lt hR dX1_isRow_1 (tgt := 16) (by decide) (pc' := 4) rfl (fun c_ => ?_) (fun c_ => ?_)
  · have hM := it_t c_ hM
    refine st_iconst hR dX1_isRow_16 (v := 0) rfl (pc' := 17) rfl ?_
    cases hM
    exact hret _ _ dX1_isRow_17 (ro_z (Or.inl rfl))
  · have hM := it_f c_ hM
    refine st_iload_n hR dX1_isRow_4 1 rfl rfl (pc' := 5) rfl ?_
    refine st_aload_n hR dX1_isRow_5 0 rfl rfl (pc' := 6) rfl ?_
    obtain ⟨r_1, hc_, hM⟩ := bd_e hM
    refine st_callV hR (k_X1_rows hc_) cf_X1_19 (rm_le (Nat.le_of_ble_eq_true rfl) (Nat.le_of_ble_eq_true rfl)) [0] rfl rfl rfl 0 0 1 12 rfl rfl rfl rfl (rest := [.int l1]) rfl (Nat.le_of_ble_eq_true rfl) dX1_isRow_6 (pc' := 9) rfl (Wn := [wX1 G q_ga ga_now ga_ahead ga_scrap ga_mostFarms ga_losses ga_known ga_found ga_foundMany ga_nights ga_farms ga_been ga_restingRow]) rfl ?_
    refine st_icmp_ge hR dX1_isRow_9 (tgt := 16) (by decide) (pc' := 12) rfl (fun c_ => ?_) (fun c_ => ?_)
    · have hM := it_t c_ hM
      refine st_iconst hR dX1_isRow_16 (v := 0) rfl (pc' := 17) rfl ?_
      cases hM
      exact hret _ _ dX1_isRow_17 (ro_z (Or.inl rfl))
    · have hM := it_f c_ hM
      refine st_iconst hR dX1_isRow_12 (v := 1) rfl (pc' := 13) rfl ?_
      refine st_goto hR dX1_isRow_13 (tgt := 17) (by decide) ?_
      cases hM
      exact hret _ _ dX1_isRow_17 (ro_z (Or.inr rfl))
set_option maxHeartbeats 16000000 in
set_option maxRecDepth 100000 in
theorem k_X1_withLevel {l : Launch} {G : GG}  {l0 l1 l2 : Int32} {o_r : Int32} (hM : f_X1_withLevel l0 l1 l2 = some o_r) : MC l G yX1_withLevel cX1_withLevel 3 (some .int) (RM 0) [.int l0, .int l1, .int l2] [] (some (.int o_r)) [] := by
  refine MC.of pn_X1 (Nat.le_of_ble_eq_true rfl) (fun K hR hret => ?_)
  have hR : Rl l G RX1 cX1_withLevel 3 (RM 0) K := hR
  show K [] [(0, .int l0), (1, .int l1), (2, .int l2)] 0 []
  refine st_iload_n hR dX1_withLevel_0 0 rfl rfl (pc' := 1) rfl ?_
  refine st_iconst hR dX1_withLevel_1 (v := 3) rfl (pc' := 2) rfl ?_
  refine st_iconst hR dX1_withLevel_2 (v := 2) rfl (pc' := 3) rfl ?_
  refine st_iload_n hR dX1_withLevel_3 1 rfl rfl (pc' := 4) rfl ?_
  refine st_imul hR dX1_withLevel_4 (pc' := 5) rfl ?_
  refine st_ishl hR dX1_withLevel_5 (pc' := 6) rfl ?_
  refine st_iconst hR dX1_withLevel_6 (v := (-1)) (by decide) (pc' := 7) rfl ?_
  refine st_ixor hR dX1_withLevel_7 (pc' := 8) rfl ?_
  refine st_iand hR dX1_withLevel_8 (pc' := 9) rfl ?_
  refine st_iload_n hR dX1_withLevel_9 2 rfl rfl (pc' := 10) rfl ?_
  refine st_iconst hR dX1_withLevel_10 (v := 2) rfl (pc' := 11) rfl ?_
  refine st_iload_n hR dX1_withLevel_11 1 rfl rfl (pc' := 12) rfl ?_
  refine st_imul hR dX1_withLevel_12 (pc' := 13) rfl ?_
  refine st_ishl hR dX1_withLevel_13 (pc' := 14) rfl ?_
  refine st_ior hR dX1_withLevel_14 (pc' := 15) rfl ?_
  cases hM
  exact hret _ _ dX1_withLevel_15 (ro_i _)
set_option maxHeartbeats 16000000 in
set_option maxRecDepth 100000 in
theorem k_X1_answer {l : Launch} {G : GG} {q_ga : Nat → Nat} {ga_mostFarms ga_foundMany ga_nights ga_farms ga_restingRow : Int32} {ga_losses ga_known ga_found ga_been : Nat → Int32} {ga_now ga_ahead ga_scrap : Nat} {l1 l2 : Int32} {o_r : Int32} (hM : f_X1_answer ga_losses l1 l2 = some o_r) : MC l G yX1_answer cX1_answer 8 (some .int) (RM 1) [.ref (q_ga 0), .int l1, .int l2] [wX1 G q_ga ga_now ga_ahead ga_scrap ga_mostFarms ga_losses ga_known ga_found ga_foundMany ga_nights ga_farms ga_been ga_restingRow] (some (.int o_r)) [wX1 G q_ga ga_now ga_ahead ga_scrap ga_mostFarms ga_losses ga_known ga_found ga_foundMany ga_nights ga_farms ga_been ga_restingRow] := by
  refine MC.of pn_X1 (Nat.le_of_ble_eq_true rfl) (fun K hR hret => ?_)
  have hR : Rl l G RX1 cX1_answer 8 (RM 1) K := hR
  show K [wX1 G q_ga ga_now ga_ahead ga_scrap ga_mostFarms ga_losses ga_known ga_found ga_foundMany ga_nights ga_farms ga_been ga_restingRow] [(0, .ref (q_ga 0)), (1, .int l1), (2, .int l2)] 0 []
  have L13 : ∀ (n13 : Nat) (l1 : Int32) (l2 : Int32) (l3 : Int32) (l4 : Int32) (l5 : Int32), f_X1_answer_L13  ga_losses n13 l1 l2 l3 l4 l5 = some o_r → K [wX1 G q_ga ga_now ga_ahead ga_scrap ga_mostFarms ga_losses ga_known ga_found ga_foundMany ga_nights ga_farms ga_been ga_restingRow] [(0, .ref (q_ga 0)), (1, .int l1), (2, .int l2), (3, .int l3), (4, .int l4), (5, .int l5)] 13 [] := by
    intro n13
    induction n13 with
    | zero => intro l1 l2 l3 l4 l5 hM; exact no_some hM
    | succ n13 ih13 =>
      have J51 : ∀ (l1 : Int32) (l2 : Int32) (l3 : Int32) (l4 : Int32) (l5 : Int32), f_X1_answer_B51  (f_X1_answer_L13  ga_losses n13) ga_losses l1 l2 l3 l4 l5 = some o_r → K [wX1 G q_ga ga_now ga_ahead ga_scrap ga_mostFarms ga_losses ga_known ga_found ga_foundMany ga_nights ga_farms ga_been ga_restingRow] [(0, .ref (q_ga 0)), (1, .int l1), (2, .int l2), (3, .int l3), (4, .int l4), (5, .int l5)] 51 [] := by
        intro l1 l2 l3 l4 l5 hM
        obtain ⟨l5_1, e_⟩ : ∃ y : Int32, y = l5 + 1 := ⟨_, rfl⟩
        refine st_iinc hR dX1_answer_51 (Nat.le_of_ble_eq_true rfl) 5 [1, 2, 3, 4, 5, 0] (v := l5_1) rfl (by rw [e_]; rfl) (lv' := [(0, .ref (q_ga 0)), (1, .int l1), (2, .int l2), (3, .int l3), (4, .int l4), (5, .int l5_1)]) rfl (pc' := 54) rfl ?_
        have hM := lt_e e_ hM
        refine st_goto hR dX1_answer_54 (tgt := 13) (by decide) ?_
        exact ih13 _ _ _ _ _ hM
      intro l1 l2 l3 l4 l5 hM
      have hM : f_X1_answer_L13b  (f_X1_answer_L13  ga_losses n13) ga_losses l1 l2 l3 l4 l5 = some o_r := hM
      refine st_iload hR dX1_answer_13 5 rfl (pc' := 15) rfl ?_
      refine st_iconst hR dX1_answer_15 (v := 4) rfl (pc' := 16) rfl ?_
      refine st_icmp_ge hR dX1_answer_16 (tgt := 57) (by decide) (pc' := 19) rfl (fun c_ => ?_) (fun c_ => ?_)
      · have hM := it_t c_ hM
        refine st_iload_n hR dX1_answer_57 3 rfl rfl (pc' := 58) rfl ?_
        cases hM
        exact hret _ _ dX1_answer_58 (ro_i _)
      · have hM := it_f c_ hM
        refine st_iload_n hR dX1_answer_19 1 rfl rfl (pc' := 20) rfl ?_
        refine st_iload_n hR dX1_answer_20 2 rfl rfl (pc' := 21) rfl ?_
        refine st_iload hR dX1_answer_21 5 rfl (pc' := 23) rfl ?_
        obtain ⟨r_1, hc_, hM⟩ := bd_e hM
        refine st_callS hR (k_X1_withLevel hc_) cf_X1_41 (rm_le (Nat.le_of_ble_eq_true rfl) (Nat.le_of_ble_eq_true rfl)) [] rfl rfl rfl rfl (rest := []) rfl (Nat.le_of_ble_eq_true rfl) dX1_answer_23 (pc' := 26) rfl (Wn := [wX1 G q_ga ga_now ga_ahead ga_scrap ga_mostFarms ga_losses ga_known ga_found ga_foundMany ga_nights ga_farms ga_been ga_restingRow]) rfl ?_
        refine st_istore hR dX1_answer_26 (Nat.le_of_ble_eq_true rfl) [1, 2, 3, 4, 5, 6, 0] (lv' := [(0, .ref (q_ga 0)), (1, .int l1), (2, .int l2), (3, .int l3), (4, .int l4), (5, .int l5), (6, .int r_1)]) rfl (pc' := 28) rfl ?_
        refine st_aload_n hR dX1_answer_28 0 rfl rfl (pc' := 29) rfl ?_
        refine st_iload hR dX1_answer_29 6 rfl (pc' := 31) rfl ?_
        refine st_iload_n hR dX1_answer_31 2 rfl rfl (pc' := 32) rfl ?_
        obtain ⟨r_2, hc_, hM⟩ := bd_e hM
        refine st_callU hR (k_X6_lossIn_g hc_) cu_X1_49_X1 (rm_le (Nat.le_of_ble_eq_true rfl) (Nat.le_of_ble_eq_true rfl)) [0] rfl rfl rfl 0 0 1 12 rfl rfl rfl rfl (rest := []) rfl (Nat.le_of_ble_eq_true rfl) dX1_answer_32 (pc' := 35) rfl (Wn := [wX1 G q_ga ga_now ga_ahead ga_scrap ga_mostFarms ga_losses ga_known ga_found ga_foundMany ga_nights ga_farms ga_been ga_restingRow]) rfl ?_
        refine st_istore hR dX1_answer_35 (Nat.le_of_ble_eq_true rfl) [1, 2, 3, 4, 5, 6, 7, 0] (lv' := [(0, .ref (q_ga 0)), (1, .int l1), (2, .int l2), (3, .int l3), (4, .int l4), (5, .int l5), (6, .int r_1), (7, .int r_2)]) rfl (pc' := 37) rfl ?_
        refine st_iload hR dX1_answer_37 7 rfl (pc' := 39) rfl ?_
        refine st_iload hR dX1_answer_39 4 rfl (pc' := 41) rfl ?_
        refine st_icmp_ge hR dX1_answer_41 (tgt := 51) (by decide) (pc' := 44) rfl (fun c_ => ?_) (fun c_ => ?_)
        · have hM := it_t c_ hM
          exact st_lv hR [0, 1, 2, 3, 4, 5] rfl (J51 _ _ _ _ _ hM)
        · have hM := it_f c_ hM
          refine st_iload hR dX1_answer_44 7 rfl (pc' := 46) rfl ?_
          refine st_istore hR dX1_answer_46 (Nat.le_of_ble_eq_true rfl) [1, 2, 3, 4, 0, 5, 6, 7] (lv' := [(0, .ref (q_ga 0)), (1, .int l1), (2, .int l2), (3, .int l3), (4, .int r_2), (5, .int l5), (6, .int r_1), (7, .int r_2)]) rfl (pc' := 48) rfl ?_
          refine st_iload hR dX1_answer_48 6 rfl (pc' := 50) rfl ?_
          refine st_istore_n hR dX1_answer_50 rfl (Nat.le_of_ble_eq_true rfl) [1, 2, 3, 0, 4, 5, 6, 7] (lv' := [(0, .ref (q_ga 0)), (1, .int l1), (2, .int l2), (3, .int r_1), (4, .int r_2), (5, .int l5), (6, .int r_1), (7, .int r_2)]) rfl (pc' := 51) rfl ?_
          exact st_lv hR [0, 1, 2, 3, 4, 5] rfl (J51 _ _ _ _ _ hM)
  refine st_iload_n hR dX1_answer_0 1 rfl rfl (pc' := 1) rfl ?_
  refine st_istore_n hR dX1_answer_1 rfl (Nat.le_of_ble_eq_true rfl) [1, 2, 3, 0] (lv' := [(0, .ref (q_ga 0)), (1, .int l1), (2, .int l2), (3, .int l1)]) rfl (pc' := 2) rfl ?_
  refine st_aload_n hR dX1_answer_2 0 rfl rfl (pc' := 3) rfl ?_
  refine st_iload_n hR dX1_answer_3 1 rfl rfl (pc' := 4) rfl ?_
  refine st_iload_n hR dX1_answer_4 2 rfl rfl (pc' := 5) rfl ?_
  obtain ⟨r_1, hc_, hM⟩ := bd_e hM
  refine st_callU hR (k_X6_lossIn_g hc_) cu_X1_49_X1 (rm_le (Nat.le_of_ble_eq_true rfl) (Nat.le_of_ble_eq_true rfl)) [0] rfl rfl rfl 0 0 1 12 rfl rfl rfl rfl (rest := []) rfl (Nat.le_of_ble_eq_true rfl) dX1_answer_5 (pc' := 8) rfl (Wn := [wX1 G q_ga ga_now ga_ahead ga_scrap ga_mostFarms ga_losses ga_known ga_found ga_foundMany ga_nights ga_farms ga_been ga_restingRow]) rfl ?_
  refine st_istore hR dX1_answer_8 (Nat.le_of_ble_eq_true rfl) [1, 2, 3, 4, 0] (lv' := [(0, .ref (q_ga 0)), (1, .int l1), (2, .int l2), (3, .int l1), (4, .int r_1)]) rfl (pc' := 10) rfl ?_
  refine st_iconst hR dX1_answer_10 (v := 0) rfl (pc' := 11) rfl ?_
  refine st_istore hR dX1_answer_11 (Nat.le_of_ble_eq_true rfl) [1, 2, 3, 4, 5, 0] (lv' := [(0, .ref (q_ga 0)), (1, .int l1), (2, .int l2), (3, .int l1), (4, .int r_1), (5, .int 0)]) rfl (pc' := 13) rfl ?_
  exact L13 FU _ _ _ _ _ hM
set_option maxHeartbeats 16000000 in
set_option maxRecDepth 100000 in
theorem k_X1_stays {l : Launch} {G : GG} {q_ga : Nat → Nat} {ga_mostFarms ga_foundMany ga_nights ga_farms ga_restingRow : Int32} {ga_losses ga_known ga_found ga_been : Nat → Int32} {ga_now ga_ahead ga_scrap : Nat} {l1 : Int32} {o_r : Int32} (hM : f_X1_stays ga_losses ga_farms l1 = some o_r) : MC l G yX1_stays cX1_stays 3 (some .boolean) (RM 2) [.ref (q_ga 0), .int l1] [wX1 G q_ga ga_now ga_ahead ga_scrap ga_mostFarms ga_losses ga_known ga_found ga_foundMany ga_nights ga_farms ga_been ga_restingRow] (some (.int o_r)) [wX1 G q_ga ga_now ga_ahead ga_scrap ga_mostFarms ga_losses ga_known ga_found ga_foundMany ga_nights ga_farms ga_been ga_restingRow] := by
  refine MC.of pn_X1 (Nat.le_of_ble_eq_true rfl) (fun K hR hret => ?_)
  have hR : Rl l G RX1 cX1_stays 3 (RM 2) K := hR
  show K [wX1 G q_ga ga_now ga_ahead ga_scrap ga_mostFarms ga_losses ga_known ga_found ga_foundMany ga_nights ga_farms ga_been ga_restingRow] [(0, .ref (q_ga 0)), (1, .int l1)] 0 []
  have L2 : ∀ (n2 : Nat) (l1 : Int32) (l2 : Int32), f_X1_stays_L2  ga_losses ga_farms n2 l1 l2 = some o_r → K [wX1 G q_ga ga_now ga_ahead ga_scrap ga_mostFarms ga_losses ga_known ga_found ga_foundMany ga_nights ga_farms ga_been ga_restingRow] [(0, .ref (q_ga 0)), (1, .int l1), (2, .int l2)] 2 [] := by
    intro n2
    induction n2 with
    | zero => intro l1 l2 hM; exact no_some hM
    | succ n2 ih2 =>
      intro l1 l2 hM
      have hM : f_X1_stays_L2b  (f_X1_stays_L2  ga_losses ga_farms n2) ga_losses ga_farms l1 l2 = some o_r := hM
      refine st_iload_n hR dX1_stays_2 2 rfl rfl (pc' := 3) rfl ?_
      refine st_aload_n hR dX1_stays_3 0 rfl rfl (pc' := 4) rfl ?_
      obtain ⟨r_1, hc_, hM⟩ := bd_e hM
      refine st_callU hR (k_X6_farms_g hc_) cu_X1_15_X1 (rm_le (Nat.le_of_ble_eq_true rfl) (Nat.le_of_ble_eq_true rfl)) [0] rfl rfl rfl 0 0 1 12 rfl rfl rfl rfl (rest := [.int l2]) rfl (Nat.le_of_ble_eq_true rfl) dX1_stays_4 (pc' := 7) rfl (Wn := [wX1 G q_ga ga_now ga_ahead ga_scrap ga_mostFarms ga_losses ga_known ga_found ga_foundMany ga_nights ga_farms ga_been ga_restingRow]) rfl ?_
      refine st_icmp_ge hR dX1_stays_7 (tgt := 28) (by decide) (pc' := 10) rfl (fun c_ => ?_) (fun c_ => ?_)
      · have hM := it_t c_ hM
        refine st_iconst hR dX1_stays_28 (v := 1) rfl (pc' := 29) rfl ?_
        cases hM
        exact hret _ _ dX1_stays_29 (ro_z (Or.inr rfl))
      · have hM := it_f c_ hM
        refine st_aload_n hR dX1_stays_10 0 rfl rfl (pc' := 11) rfl ?_
        refine st_iload_n hR dX1_stays_11 1 rfl rfl (pc' := 12) rfl ?_
        refine st_iload_n hR dX1_stays_12 2 rfl rfl (pc' := 13) rfl ?_
        obtain ⟨r_2, hc_, hM⟩ := bd_e hM
        refine st_callV hR (k_X1_answer hc_) cf_X1_27 (rm_le (Nat.le_of_ble_eq_true rfl) (Nat.le_of_ble_eq_true rfl)) [0] rfl rfl rfl 0 0 1 12 rfl rfl rfl rfl (rest := []) rfl (Nat.le_of_ble_eq_true rfl) dX1_stays_13 (pc' := 16) rfl (Wn := [wX1 G q_ga ga_now ga_ahead ga_scrap ga_mostFarms ga_losses ga_known ga_found ga_foundMany ga_nights ga_farms ga_been ga_restingRow]) rfl ?_
        refine st_iload_n hR dX1_stays_16 1 rfl rfl (pc' := 17) rfl ?_
        refine st_icmp_eq hR dX1_stays_17 (tgt := 22) (by decide) (pc' := 20) rfl (fun c_ => ?_) (fun c_ => ?_)
        · have hM := it_t c_ hM
          obtain ⟨l2_1, e_⟩ : ∃ y : Int32, y = l2 + 1 := ⟨_, rfl⟩
          refine st_iinc hR dX1_stays_22 (Nat.le_of_ble_eq_true rfl) 2 [1, 2, 0] (v := l2_1) rfl (by rw [e_]; rfl) (lv' := [(0, .ref (q_ga 0)), (1, .int l1), (2, .int l2_1)]) rfl (pc' := 25) rfl ?_
          have hM := lt_e e_ hM
          refine st_goto hR dX1_stays_25 (tgt := 2) (by decide) ?_
          exact ih2 _ _ hM
        · have hM := it_f c_ hM
          refine st_iconst hR dX1_stays_20 (v := 0) rfl (pc' := 21) rfl ?_
          cases hM
          exact hret _ _ dX1_stays_21 (ro_z (Or.inl rfl))
  refine st_iconst hR dX1_stays_0 (v := 0) rfl (pc' := 1) rfl ?_
  refine st_istore_n hR dX1_stays_1 rfl (Nat.le_of_ble_eq_true rfl) [1, 2, 0] (lv' := [(0, .ref (q_ga 0)), (1, .int l1), (2, .int 0)]) rfl (pc' := 2) rfl ?_
  exact L2 FU _ _ hM
set_option maxHeartbeats 16000000 in
set_option maxRecDepth 100000 in
theorem k_X6_findAll_g {l : Launch} {G : GG} {q_ga q_v q_ah q_sc q_mt q_fe q_go : Nat → Nat} {ga_mostFarms ga_foundMany ga_nights ga_farms ga_restingRow v_night ah_night sc_bones sc_feudsInAll sc_bitten mt_farms mt_fences mt_shares mt_toothed fe_steps go_steps : Int32} {v_g ah_g : Int64} {ga_losses ga_known ga_found ga_been v_flock v_hunger v_lean v_fed v_taken v_pacts v_levels v_facts ah_flock ah_hunger ah_lean ah_fed ah_taken ah_pacts ah_levels ah_facts sc_kept sc_feuds sc_bites mt_flock mt_dogs mt_hunger mt_fenced mt_heights mt_pacts mt_partner mt_often fe_kinds fe_lefts fe_rights fe_values go_kinds go_lefts go_rights go_values : Nat → Int32} {mt_names : Nat → Int64} {ah_mountain : Nat}  {o_r : Int32} {o_ga_losses : Nat → Int32} {o_ga_known : Nat → Int32} {o_ga_found : Nat → Int32} {o_ga_foundMany : Int32} {o_ah_mountain : Nat} {o_ah_night : Int32} {o_ah_g : Int64} {o_ah_flock : Nat → Int32} {o_ah_hunger : Nat → Int32} {o_ah_lean : Nat → Int32} {o_ah_fed : Nat → Int32} {o_ah_taken : Nat → Int32} {o_ah_pacts : Nat → Int32} {o_ah_levels : Nat → Int32} {o_ah_facts : Nat → Int32} {o_sc_kept : Nat → Int32} {o_sc_feuds : Nat → Int32} {o_sc_bones : Int32} {o_sc_feudsInAll : Int32} {o_fe_values : Nat → Int32} {o_go_values : Nat → Int32} (hM : f_X6_findAll_g ga_nights ga_farms v_night v_g v_flock v_hunger v_lean v_fed v_taken v_pacts v_levels mt_farms mt_dogs mt_fenced mt_heights mt_partner fe_kinds fe_lefts fe_rights fe_steps go_kinds go_lefts go_rights go_steps ga_losses ga_known ga_found ga_foundMany ah_mountain ah_night ah_g ah_flock ah_hunger ah_lean ah_fed ah_taken ah_pacts ah_levels ah_facts sc_kept sc_feuds sc_bones sc_feudsInAll fe_values go_values (q_mt 0) = some (o_r, o_ga_losses, o_ga_known, o_ga_found, o_ga_foundMany, o_ah_mountain, o_ah_night, o_ah_g, o_ah_flock, o_ah_hunger, o_ah_lean, o_ah_fed, o_ah_taken, o_ah_pacts, o_ah_levels, o_ah_facts, o_sc_kept, o_sc_feuds, o_sc_bones, o_sc_feudsInAll, o_fe_values, o_go_values)) : MC l G yX6_findAll cX6_findAll 3 (some .int) (RM 5) [.ref (q_ga 0)] [wX1 G q_ga (q_v 0) (q_ah 0) (q_sc 0) ga_mostFarms ga_losses ga_known ga_found ga_foundMany ga_nights ga_farms ga_been ga_restingRow, wX9 G q_v (q_mt 0) v_night v_g v_flock v_hunger v_lean v_fed v_taken v_pacts v_levels v_facts, wX9 G q_ah ah_mountain ah_night ah_g ah_flock ah_hunger ah_lean ah_fed ah_taken ah_pacts ah_levels ah_facts, wX0 G q_sc sc_kept sc_feuds sc_bites sc_bones sc_feudsInAll sc_bitten, wX5 G q_mt mt_farms mt_fences mt_shares mt_names mt_flock mt_dogs mt_hunger mt_fenced mt_heights mt_pacts mt_partner mt_often mt_toothed (q_fe 0) (q_go 0), wX3 G q_fe fe_kinds fe_lefts fe_rights fe_values fe_steps, wX3 G q_go go_kinds go_lefts go_rights go_values go_steps] (some (.int o_r)) [wX1 G q_ga (q_v 0) (q_ah 0) (q_sc 0) ga_mostFarms o_ga_losses o_ga_known o_ga_found o_ga_foundMany ga_nights ga_farms ga_been ga_restingRow, wX9 G q_v (q_mt 0) v_night v_g v_flock v_hunger v_lean v_fed v_taken v_pacts v_levels v_facts, wX9 G q_ah o_ah_mountain o_ah_night o_ah_g o_ah_flock o_ah_hunger o_ah_lean o_ah_fed o_ah_taken o_ah_pacts o_ah_levels o_ah_facts, wX0 G q_sc o_sc_kept o_sc_feuds sc_bites o_sc_bones o_sc_feudsInAll sc_bitten, wX5 G q_mt mt_farms mt_fences mt_shares mt_names mt_flock mt_dogs mt_hunger mt_fenced mt_heights mt_pacts mt_partner mt_often mt_toothed (q_fe 0) (q_go 0), wX3 G q_fe fe_kinds fe_lefts fe_rights o_fe_values fe_steps, wX3 G q_go go_kinds go_lefts go_rights o_go_values go_steps] := by
  refine MC.of pn_X6 (Nat.le_of_ble_eq_true rfl) (fun K hR hret => ?_)
  have hR : Rl l G RX6 cX6_findAll 3 (RM 5) K := hR
  show K [wX1 G q_ga (q_v 0) (q_ah 0) (q_sc 0) ga_mostFarms ga_losses ga_known ga_found ga_foundMany ga_nights ga_farms ga_been ga_restingRow, wX9 G q_v (q_mt 0) v_night v_g v_flock v_hunger v_lean v_fed v_taken v_pacts v_levels v_facts, wX9 G q_ah ah_mountain ah_night ah_g ah_flock ah_hunger ah_lean ah_fed ah_taken ah_pacts ah_levels ah_facts, wX0 G q_sc sc_kept sc_feuds sc_bites sc_bones sc_feudsInAll sc_bitten, wX5 G q_mt mt_farms mt_fences mt_shares mt_names mt_flock mt_dogs mt_hunger mt_fenced mt_heights mt_pacts mt_partner mt_often mt_toothed (q_fe 0) (q_go 0), wX3 G q_fe fe_kinds fe_lefts fe_rights fe_values fe_steps, wX3 G q_go go_kinds go_lefts go_rights go_values go_steps] [(0, .ref (q_ga 0))] 0 []
  have L59 : ∀ (n59 : Nat) (ga_losses : Nat → Int32) (ga_known : Nat → Int32) (ga_found : Nat → Int32) (ga_foundMany : Int32) (ah_mountain : Nat) (ah_night : Int32) (ah_g : Int64) (ah_flock : Nat → Int32) (ah_hunger : Nat → Int32) (ah_lean : Nat → Int32) (ah_fed : Nat → Int32) (ah_taken : Nat → Int32) (ah_pacts : Nat → Int32) (ah_levels : Nat → Int32) (ah_facts : Nat → Int32) (sc_kept : Nat → Int32) (sc_feuds : Nat → Int32) (sc_bones : Int32) (sc_feudsInAll : Int32) (fe_values : Nat → Int32) (go_values : Nat → Int32) (l1 : Int32) (l2 : Int32), f_X6_findAll_g_L59  ga_nights ga_farms v_night v_g v_flock v_hunger v_lean v_fed v_taken v_pacts v_levels mt_farms mt_dogs mt_fenced mt_heights mt_partner fe_kinds fe_lefts fe_rights fe_steps go_kinds go_lefts go_rights go_steps (q_mt 0) n59 ga_losses ga_known ga_found ga_foundMany ah_mountain ah_night ah_g ah_flock ah_hunger ah_lean ah_fed ah_taken ah_pacts ah_levels ah_facts sc_kept sc_feuds sc_bones sc_feudsInAll fe_values go_values l1 l2 = some (o_r, o_ga_losses, o_ga_known, o_ga_found, o_ga_foundMany, o_ah_mountain, o_ah_night, o_ah_g, o_ah_flock, o_ah_hunger, o_ah_lean, o_ah_fed, o_ah_taken, o_ah_pacts, o_ah_levels, o_ah_facts, o_sc_kept, o_sc_feuds, o_sc_bones, o_sc_feudsInAll, o_fe_values, o_go_values) → K [wX1 G q_ga (q_v 0) (q_ah 0) (q_sc 0) ga_mostFarms ga_losses ga_known ga_found ga_foundMany ga_nights ga_farms ga_been ga_restingRow, wX9 G q_v (q_mt 0) v_night v_g v_flock v_hunger v_lean v_fed v_taken v_pacts v_levels v_facts, wX9 G q_ah ah_mountain ah_night ah_g ah_flock ah_hunger ah_lean ah_fed ah_taken ah_pacts ah_levels ah_facts, wX0 G q_sc sc_kept sc_feuds sc_bites sc_bones sc_feudsInAll sc_bitten, wX5 G q_mt mt_farms mt_fences mt_shares mt_names mt_flock mt_dogs mt_hunger mt_fenced mt_heights mt_pacts mt_partner mt_often mt_toothed (q_fe 0) (q_go 0), wX3 G q_fe fe_kinds fe_lefts fe_rights fe_values fe_steps, wX3 G q_go go_kinds go_lefts go_rights go_values go_steps] [(0, .ref (q_ga 0)), (1, .int l1), (2, .int l2)] 59 [] := by
    intro n59
    induction n59 with
    | zero => intro ga_losses ga_known ga_found ga_foundMany ah_mountain ah_night ah_g ah_flock ah_hunger ah_lean ah_fed ah_taken ah_pacts ah_levels ah_facts sc_kept sc_feuds sc_bones sc_feudsInAll fe_values go_values l1 l2 hM; exact no_some hM
    | succ n59 ih59 =>
      have J100 : ∀ (ga_losses : Nat → Int32) (ga_known : Nat → Int32) (ga_found : Nat → Int32) (ga_foundMany : Int32) (ah_mountain : Nat) (ah_night : Int32) (ah_g : Int64) (ah_flock : Nat → Int32) (ah_hunger : Nat → Int32) (ah_lean : Nat → Int32) (ah_fed : Nat → Int32) (ah_taken : Nat → Int32) (ah_pacts : Nat → Int32) (ah_levels : Nat → Int32) (ah_facts : Nat → Int32) (sc_kept : Nat → Int32) (sc_feuds : Nat → Int32) (sc_bones : Int32) (sc_feudsInAll : Int32) (fe_values : Nat → Int32) (go_values : Nat → Int32) (l1 : Int32) (l2 : Int32), f_X6_findAll_g_B100  (f_X6_findAll_g_L59  ga_nights ga_farms v_night v_g v_flock v_hunger v_lean v_fed v_taken v_pacts v_levels mt_farms mt_dogs mt_fenced mt_heights mt_partner fe_kinds fe_lefts fe_rights fe_steps go_kinds go_lefts go_rights go_steps (q_mt 0) n59) ga_nights ga_farms v_night v_g v_flock v_hunger v_lean v_fed v_taken v_pacts v_levels mt_farms mt_dogs mt_fenced mt_heights mt_partner fe_kinds fe_lefts fe_rights fe_steps go_kinds go_lefts go_rights go_steps (q_mt 0) ga_losses ga_known ga_found ga_foundMany ah_mountain ah_night ah_g ah_flock ah_hunger ah_lean ah_fed ah_taken ah_pacts ah_levels ah_facts sc_kept sc_feuds sc_bones sc_feudsInAll fe_values go_values l1 l2 = some (o_r, o_ga_losses, o_ga_known, o_ga_found, o_ga_foundMany, o_ah_mountain, o_ah_night, o_ah_g, o_ah_flock, o_ah_hunger, o_ah_lean, o_ah_fed, o_ah_taken, o_ah_pacts, o_ah_levels, o_ah_facts, o_sc_kept, o_sc_feuds, o_sc_bones, o_sc_feudsInAll, o_fe_values, o_go_values) → K [wX1 G q_ga (q_v 0) (q_ah 0) (q_sc 0) ga_mostFarms ga_losses ga_known ga_found ga_foundMany ga_nights ga_farms ga_been ga_restingRow, wX9 G q_v (q_mt 0) v_night v_g v_flock v_hunger v_lean v_fed v_taken v_pacts v_levels v_facts, wX9 G q_ah ah_mountain ah_night ah_g ah_flock ah_hunger ah_lean ah_fed ah_taken ah_pacts ah_levels ah_facts, wX0 G q_sc sc_kept sc_feuds sc_bites sc_bones sc_feudsInAll sc_bitten, wX5 G q_mt mt_farms mt_fences mt_shares mt_names mt_flock mt_dogs mt_hunger mt_fenced mt_heights mt_pacts mt_partner mt_often mt_toothed (q_fe 0) (q_go 0), wX3 G q_fe fe_kinds fe_lefts fe_rights fe_values fe_steps, wX3 G q_go go_kinds go_lefts go_rights go_values go_steps] [(0, .ref (q_ga 0)), (1, .int l1), (2, .int l2)] 100 [] := by
        intro ga_losses ga_known ga_found ga_foundMany ah_mountain ah_night ah_g ah_flock ah_hunger ah_lean ah_fed ah_taken ah_pacts ah_levels ah_facts sc_kept sc_feuds sc_bones sc_feudsInAll fe_values go_values l1 l2 hM
        obtain ⟨l2_1, e_⟩ : ∃ y : Int32, y = l2 + 1 := ⟨_, rfl⟩
        refine st_iinc hR dX6_findAll_100 (Nat.le_of_ble_eq_true rfl) 2 [1, 2, 0] (v := l2_1) rfl (by rw [e_]; rfl) (lv' := [(0, .ref (q_ga 0)), (1, .int l1), (2, .int l2_1)]) rfl (pc' := 103) rfl ?_
        have hM := lt_e e_ hM
        refine st_goto hR dX6_findAll_103 (tgt := 59) (by decide) ?_
        exact ih59 _ _ _ _ _ _ _ _ _ _ _ _ _ _ _ _ _ _ _ _ _ _ _ hM
      intro ga_losses ga_known ga_found ga_foundMany ah_mountain ah_night ah_g ah_flock ah_hunger ah_lean ah_fed ah_taken ah_pacts ah_levels ah_facts sc_kept sc_feuds sc_bones sc_feudsInAll fe_values go_values l1 l2 hM
      have hM : f_X6_findAll_g_L59b  (f_X6_findAll_g_L59  ga_nights ga_farms v_night v_g v_flock v_hunger v_lean v_fed v_taken v_pacts v_levels mt_farms mt_dogs mt_fenced mt_heights mt_partner fe_kinds fe_lefts fe_rights fe_steps go_kinds go_lefts go_rights go_steps (q_mt 0) n59) ga_nights ga_farms v_night v_g v_flock v_hunger v_lean v_fed v_taken v_pacts v_levels mt_farms mt_dogs mt_fenced mt_heights mt_partner fe_kinds fe_lefts fe_rights fe_steps go_kinds go_lefts go_rights go_steps (q_mt 0) ga_losses ga_known ga_found ga_foundMany ah_mountain ah_night ah_g ah_flock ah_hunger ah_lean ah_fed ah_taken ah_pacts ah_levels ah_facts sc_kept sc_feuds sc_bones sc_feudsInAll fe_values go_values l1 l2 = some (o_r, o_ga_losses, o_ga_known, o_ga_found, o_ga_foundMany, o_ah_mountain, o_ah_night, o_ah_g, o_ah_flock, o_ah_hunger, o_ah_lean, o_ah_fed, o_ah_taken, o_ah_pacts, o_ah_levels, o_ah_facts, o_sc_kept, o_sc_feuds, o_sc_bones, o_sc_feudsInAll, o_fe_values, o_go_values) := hM
      refine st_iload_n hR dX6_findAll_59 2 rfl rfl (pc' := 60) rfl ?_
      refine st_iload_n hR dX6_findAll_60 1 rfl rfl (pc' := 61) rfl ?_
      refine st_icmp_ge hR dX6_findAll_61 (tgt := 106) (by decide) (pc' := 64) rfl (fun c_ => ?_) (fun c_ => ?_)
      · have hM := it_t c_ hM
        refine st_aload_n hR dX6_findAll_106 0 rfl rfl (pc' := 107) rfl ?_
        refine st_get hR dX6_findAll_107 fg_X6_55_1_7 0 0 rfl rfl rfl (pc' := 110) rfl ?_
        cases hM
        exact hret _ _ dX6_findAll_110 (ro_i _)
      · have hM := it_f c_ hM
        refine st_aload_n hR dX6_findAll_64 0 rfl rfl (pc' := 65) rfl ?_
        refine st_iload_n hR dX6_findAll_65 2 rfl rfl (pc' := 66) rfl ?_
        obtain ⟨r_1, hc_, hM⟩ := bd_e hM
        refine st_callU hR (k_X1_isRow hc_) cu_X6_90_X1 (rm_le (Nat.le_of_ble_eq_true rfl) (Nat.le_of_ble_eq_true rfl)) [0] rfl rfl rfl 0 0 1 12 rfl rfl rfl rfl (rest := []) rfl (Nat.le_of_ble_eq_true rfl) dX6_findAll_66 (pc' := 69) rfl (Wn := [wX1 G q_ga (q_v 0) (q_ah 0) (q_sc 0) ga_mostFarms ga_losses ga_known ga_found ga_foundMany ga_nights ga_farms ga_been ga_restingRow, wX9 G q_v (q_mt 0) v_night v_g v_flock v_hunger v_lean v_fed v_taken v_pacts v_levels v_facts, wX9 G q_ah ah_mountain ah_night ah_g ah_flock ah_hunger ah_lean ah_fed ah_taken ah_pacts ah_levels ah_facts, wX0 G q_sc sc_kept sc_feuds sc_bites sc_bones sc_feudsInAll sc_bitten, wX5 G q_mt mt_farms mt_fences mt_shares mt_names mt_flock mt_dogs mt_hunger mt_fenced mt_heights mt_pacts mt_partner mt_often mt_toothed (q_fe 0) (q_go 0), wX3 G q_fe fe_kinds fe_lefts fe_rights fe_values fe_steps, wX3 G q_go go_kinds go_lefts go_rights go_values go_steps]) rfl ?_
        refine st_if_eq hR dX6_findAll_69 (tgt := 100) (by decide) (pc' := 72) rfl (fun c_ => ?_) (fun c_ => ?_)
        · have hM := it_t c_ hM
          exact J100 _ _ _ _ _ _ _ _ _ _ _ _ _ _ _ _ _ _ _ _ _ _ _ hM
        · have hM := it_f c_ hM
          refine st_aload_n hR dX6_findAll_72 0 rfl rfl (pc' := 73) rfl ?_
          refine st_iload_n hR dX6_findAll_73 2 rfl rfl (pc' := 74) rfl ?_
          obtain ⟨r_2, hc_, hM⟩ := bd_e hM
          refine st_callU hR (k_X1_stays hc_) cu_X6_97_X1 (rm_le (Nat.le_of_ble_eq_true rfl) (Nat.le_of_ble_eq_true rfl)) [0] rfl rfl rfl 0 0 1 12 rfl rfl rfl rfl (rest := []) rfl (Nat.le_of_ble_eq_true rfl) dX6_findAll_74 (pc' := 77) rfl (Wn := [wX1 G q_ga (q_v 0) (q_ah 0) (q_sc 0) ga_mostFarms ga_losses ga_known ga_found ga_foundMany ga_nights ga_farms ga_been ga_restingRow, wX9 G q_v (q_mt 0) v_night v_g v_flock v_hunger v_lean v_fed v_taken v_pacts v_levels v_facts, wX9 G q_ah ah_mountain ah_night ah_g ah_flock ah_hunger ah_lean ah_fed ah_taken ah_pacts ah_levels ah_facts, wX0 G q_sc sc_kept sc_feuds sc_bites sc_bones sc_feudsInAll sc_bitten, wX5 G q_mt mt_farms mt_fences mt_shares mt_names mt_flock mt_dogs mt_hunger mt_fenced mt_heights mt_pacts mt_partner mt_often mt_toothed (q_fe 0) (q_go 0), wX3 G q_fe fe_kinds fe_lefts fe_rights fe_values fe_steps, wX3 G q_go go_kinds go_lefts go_rights go_values go_steps]) rfl ?_
          refine st_if_eq hR dX6_findAll_77 (tgt := 100) (by decide) (pc' := 80) rfl (fun c_ => ?_) (fun c_ => ?_)
          · have hM := it_t c_ hM
            exact J100 _ _ _ _ _ _ _ _ _ _ _ _ _ _ _ _ _ _ _ _ _ _ _ hM
          · have hM := it_f c_ hM
            refine st_aload_n hR dX6_findAll_80 0 rfl rfl (pc' := 81) rfl ?_
            refine st_get hR dX6_findAll_81 fg_X6_33_1_6 0 0 rfl rfl rfl (pc' := 84) rfl ?_
            refine st_aload_n hR dX6_findAll_84 0 rfl rfl (pc' := 85) rfl ?_
            refine st_get hR dX6_findAll_85 fg_X6_55_1_7 0 0 rfl rfl rfl (pc' := 88) rfl ?_
            refine st_iload_n hR dX6_findAll_88 2 rfl rfl (pc' := 89) rfl ?_
            obtain ⟨hin_, hM⟩ := g_in_e hM
            refine st_iast hR dX6_findAll_89 0 3 rfl rfl hin_ (ix := (ix ga_foundMany)) rfl (pc' := 90) rfl (fun ga_found_1 => [wX1 G q_ga (q_v 0) (q_ah 0) (q_sc 0) ga_mostFarms ga_losses ga_known ga_found_1 ga_foundMany ga_nights ga_farms ga_been ga_restingRow, wX9 G q_v (q_mt 0) v_night v_g v_flock v_hunger v_lean v_fed v_taken v_pacts v_levels v_facts, wX9 G q_ah ah_mountain ah_night ah_g ah_flock ah_hunger ah_lean ah_fed ah_taken ah_pacts ah_levels ah_facts, wX0 G q_sc sc_kept sc_feuds sc_bites sc_bones sc_feudsInAll sc_bitten, wX5 G q_mt mt_farms mt_fences mt_shares mt_names mt_flock mt_dogs mt_hunger mt_fenced mt_heights mt_pacts mt_partner mt_often mt_toothed (q_fe 0) (q_go 0), wX3 G q_fe fe_kinds fe_lefts fe_rights fe_values fe_steps, wX3 G q_go go_kinds go_lefts go_rights go_values go_steps]) (fun _ => rfl) (fun ga_found_1 e_ => ?_)
            have hM := lt_e e_ hM
            refine st_aload_n hR dX6_findAll_90 0 rfl rfl (pc' := 91) rfl ?_
            refine st_dup hR dX6_findAll_91 (pc' := 92) rfl rfl ?_
            refine st_get hR dX6_findAll_92 fg_X6_55_1_7 0 0 rfl rfl rfl (pc' := 95) rfl ?_
            refine st_iconst hR dX6_findAll_95 (v := 1) rfl (pc' := 96) rfl ?_
            refine st_iadd hR dX6_findAll_96 (pc' := 97) rfl ?_
            refine st_topi (fun ga_foundMany_1 e_ => ?_)
            have hM := lt_e e_ hM
            refine st_put hR dX6_findAll_97 fp_X6_55_1_7 0 0 rfl rfl (Nat.le_of_ble_eq_true rfl) rfl rfl (pc' := 100) rfl (W' := [wX1 G q_ga (q_v 0) (q_ah 0) (q_sc 0) ga_mostFarms ga_losses ga_known ga_found_1 ga_foundMany_1 ga_nights ga_farms ga_been ga_restingRow, wX9 G q_v (q_mt 0) v_night v_g v_flock v_hunger v_lean v_fed v_taken v_pacts v_levels v_facts, wX9 G q_ah ah_mountain ah_night ah_g ah_flock ah_hunger ah_lean ah_fed ah_taken ah_pacts ah_levels ah_facts, wX0 G q_sc sc_kept sc_feuds sc_bites sc_bones sc_feudsInAll sc_bitten, wX5 G q_mt mt_farms mt_fences mt_shares mt_names mt_flock mt_dogs mt_hunger mt_fenced mt_heights mt_pacts mt_partner mt_often mt_toothed (q_fe 0) (q_go 0), wX3 G q_fe fe_kinds fe_lefts fe_rights fe_values fe_steps, wX3 G q_go go_kinds go_lefts go_rights go_values go_steps]) rfl ?_
            exact J100 _ _ _ _ _ _ _ _ _ _ _ _ _ _ _ _ _ _ _ _ _ _ _ hM
  have L28 : ∀ (n28 : Nat) (ga_losses : Nat → Int32) (ga_known : Nat → Int32) (ga_found : Nat → Int32) (ga_foundMany : Int32) (ah_mountain : Nat) (ah_night : Int32) (ah_g : Int64) (ah_flock : Nat → Int32) (ah_hunger : Nat → Int32) (ah_lean : Nat → Int32) (ah_fed : Nat → Int32) (ah_taken : Nat → Int32) (ah_pacts : Nat → Int32) (ah_levels : Nat → Int32) (ah_facts : Nat → Int32) (sc_kept : Nat → Int32) (sc_feuds : Nat → Int32) (sc_bones : Int32) (sc_feudsInAll : Int32) (fe_values : Nat → Int32) (go_values : Nat → Int32) (l1 : Int32) (l2 : Int32), f_X6_findAll_g_L28  ga_nights ga_farms v_night v_g v_flock v_hunger v_lean v_fed v_taken v_pacts v_levels mt_farms mt_dogs mt_fenced mt_heights mt_partner fe_kinds fe_lefts fe_rights fe_steps go_kinds go_lefts go_rights go_steps (q_mt 0) n28 ga_losses ga_known ga_found ga_foundMany ah_mountain ah_night ah_g ah_flock ah_hunger ah_lean ah_fed ah_taken ah_pacts ah_levels ah_facts sc_kept sc_feuds sc_bones sc_feudsInAll fe_values go_values l1 l2 = some (o_r, o_ga_losses, o_ga_known, o_ga_found, o_ga_foundMany, o_ah_mountain, o_ah_night, o_ah_g, o_ah_flock, o_ah_hunger, o_ah_lean, o_ah_fed, o_ah_taken, o_ah_pacts, o_ah_levels, o_ah_facts, o_sc_kept, o_sc_feuds, o_sc_bones, o_sc_feudsInAll, o_fe_values, o_go_values) → K [wX1 G q_ga (q_v 0) (q_ah 0) (q_sc 0) ga_mostFarms ga_losses ga_known ga_found ga_foundMany ga_nights ga_farms ga_been ga_restingRow, wX9 G q_v (q_mt 0) v_night v_g v_flock v_hunger v_lean v_fed v_taken v_pacts v_levels v_facts, wX9 G q_ah ah_mountain ah_night ah_g ah_flock ah_hunger ah_lean ah_fed ah_taken ah_pacts ah_levels ah_facts, wX0 G q_sc sc_kept sc_feuds sc_bites sc_bones sc_feudsInAll sc_bitten, wX5 G q_mt mt_farms mt_fences mt_shares mt_names mt_flock mt_dogs mt_hunger mt_fenced mt_heights mt_pacts mt_partner mt_often mt_toothed (q_fe 0) (q_go 0), wX3 G q_fe fe_kinds fe_lefts fe_rights fe_values fe_steps, wX3 G q_go go_kinds go_lefts go_rights go_values go_steps] [(0, .ref (q_ga 0)), (1, .int l1), (2, .int l2)] 28 [] := by
    intro n28
    induction n28 with
    | zero => intro ga_losses ga_known ga_found ga_foundMany ah_mountain ah_night ah_g ah_flock ah_hunger ah_lean ah_fed ah_taken ah_pacts ah_levels ah_facts sc_kept sc_feuds sc_bones sc_feudsInAll fe_values go_values l1 l2 hM; exact no_some hM
    | succ n28 ih28 =>
      have J46 : ∀ (ga_losses : Nat → Int32) (ga_known : Nat → Int32) (ga_found : Nat → Int32) (ga_foundMany : Int32) (ah_mountain : Nat) (ah_night : Int32) (ah_g : Int64) (ah_flock : Nat → Int32) (ah_hunger : Nat → Int32) (ah_lean : Nat → Int32) (ah_fed : Nat → Int32) (ah_taken : Nat → Int32) (ah_pacts : Nat → Int32) (ah_levels : Nat → Int32) (ah_facts : Nat → Int32) (sc_kept : Nat → Int32) (sc_feuds : Nat → Int32) (sc_bones : Int32) (sc_feudsInAll : Int32) (fe_values : Nat → Int32) (go_values : Nat → Int32) (l1 : Int32) (l2 : Int32), f_X6_findAll_g_B46  (f_X6_findAll_g_L28  ga_nights ga_farms v_night v_g v_flock v_hunger v_lean v_fed v_taken v_pacts v_levels mt_farms mt_dogs mt_fenced mt_heights mt_partner fe_kinds fe_lefts fe_rights fe_steps go_kinds go_lefts go_rights go_steps (q_mt 0) n28) ga_nights ga_farms v_night v_g v_flock v_hunger v_lean v_fed v_taken v_pacts v_levels mt_farms mt_dogs mt_fenced mt_heights mt_partner fe_kinds fe_lefts fe_rights fe_steps go_kinds go_lefts go_rights go_steps (q_mt 0) ga_losses ga_known ga_found ga_foundMany ah_mountain ah_night ah_g ah_flock ah_hunger ah_lean ah_fed ah_taken ah_pacts ah_levels ah_facts sc_kept sc_feuds sc_bones sc_feudsInAll fe_values go_values l1 l2 = some (o_r, o_ga_losses, o_ga_known, o_ga_found, o_ga_foundMany, o_ah_mountain, o_ah_night, o_ah_g, o_ah_flock, o_ah_hunger, o_ah_lean, o_ah_fed, o_ah_taken, o_ah_pacts, o_ah_levels, o_ah_facts, o_sc_kept, o_sc_feuds, o_sc_bones, o_sc_feudsInAll, o_fe_values, o_go_values) → K [wX1 G q_ga (q_v 0) (q_ah 0) (q_sc 0) ga_mostFarms ga_losses ga_known ga_found ga_foundMany ga_nights ga_farms ga_been ga_restingRow, wX9 G q_v (q_mt 0) v_night v_g v_flock v_hunger v_lean v_fed v_taken v_pacts v_levels v_facts, wX9 G q_ah ah_mountain ah_night ah_g ah_flock ah_hunger ah_lean ah_fed ah_taken ah_pacts ah_levels ah_facts, wX0 G q_sc sc_kept sc_feuds sc_bites sc_bones sc_feudsInAll sc_bitten, wX5 G q_mt mt_farms mt_fences mt_shares mt_names mt_flock mt_dogs mt_hunger mt_fenced mt_heights mt_pacts mt_partner mt_often mt_toothed (q_fe 0) (q_go 0), wX3 G q_fe fe_kinds fe_lefts fe_rights fe_values fe_steps, wX3 G q_go go_kinds go_lefts go_rights go_values go_steps] [(0, .ref (q_ga 0)), (1, .int l1), (2, .int l2)] 46 [] := by
        intro ga_losses ga_known ga_found ga_foundMany ah_mountain ah_night ah_g ah_flock ah_hunger ah_lean ah_fed ah_taken ah_pacts ah_levels ah_facts sc_kept sc_feuds sc_bones sc_feudsInAll fe_values go_values l1 l2 hM
        obtain ⟨l2_1, e_⟩ : ∃ y : Int32, y = l2 + 1 := ⟨_, rfl⟩
        refine st_iinc hR dX6_findAll_46 (Nat.le_of_ble_eq_true rfl) 2 [1, 2, 0] (v := l2_1) rfl (by rw [e_]; rfl) (lv' := [(0, .ref (q_ga 0)), (1, .int l1), (2, .int l2_1)]) rfl (pc' := 49) rfl ?_
        have hM := lt_e e_ hM
        refine st_goto hR dX6_findAll_49 (tgt := 28) (by decide) ?_
        exact ih28 _ _ _ _ _ _ _ _ _ _ _ _ _ _ _ _ _ _ _ _ _ _ _ hM
      intro ga_losses ga_known ga_found ga_foundMany ah_mountain ah_night ah_g ah_flock ah_hunger ah_lean ah_fed ah_taken ah_pacts ah_levels ah_facts sc_kept sc_feuds sc_bones sc_feudsInAll fe_values go_values l1 l2 hM
      have hM : f_X6_findAll_g_L28b  (f_X6_findAll_g_L28  ga_nights ga_farms v_night v_g v_flock v_hunger v_lean v_fed v_taken v_pacts v_levels mt_farms mt_dogs mt_fenced mt_heights mt_partner fe_kinds fe_lefts fe_rights fe_steps go_kinds go_lefts go_rights go_steps (q_mt 0) n28) ga_nights ga_farms v_night v_g v_flock v_hunger v_lean v_fed v_taken v_pacts v_levels mt_farms mt_dogs mt_fenced mt_heights mt_partner fe_kinds fe_lefts fe_rights fe_steps go_kinds go_lefts go_rights go_steps (q_mt 0) ga_losses ga_known ga_found ga_foundMany ah_mountain ah_night ah_g ah_flock ah_hunger ah_lean ah_fed ah_taken ah_pacts ah_levels ah_facts sc_kept sc_feuds sc_bones sc_feudsInAll fe_values go_values l1 l2 = some (o_r, o_ga_losses, o_ga_known, o_ga_found, o_ga_foundMany, o_ah_mountain, o_ah_night, o_ah_g, o_ah_flock, o_ah_hunger, o_ah_lean, o_ah_fed, o_ah_taken, o_ah_pacts, o_ah_levels, o_ah_facts, o_sc_kept, o_sc_feuds, o_sc_bones, o_sc_feudsInAll, o_fe_values, o_go_values) := hM
      refine st_iload_n hR dX6_findAll_28 2 rfl rfl (pc' := 29) rfl ?_
      refine st_iload_n hR dX6_findAll_29 1 rfl rfl (pc' := 30) rfl ?_
      refine st_icmp_ge hR dX6_findAll_30 (tgt := 52) (by decide) (pc' := 33) rfl (fun c_ => ?_) (fun c_ => ?_)
      · have hM := it_t c_ hM
        refine st_aload_n hR dX6_findAll_52 0 rfl rfl (pc' := 53) rfl ?_
        refine st_iconst hR dX6_findAll_53 (v := 0) rfl (pc' := 54) rfl ?_
        refine st_put hR dX6_findAll_54 fp_X6_55_1_7 0 0 rfl rfl (Nat.le_of_ble_eq_true rfl) rfl rfl (pc' := 57) rfl (W' := [wX1 G q_ga (q_v 0) (q_ah 0) (q_sc 0) ga_mostFarms ga_losses ga_known ga_found 0 ga_nights ga_farms ga_been ga_restingRow, wX9 G q_v (q_mt 0) v_night v_g v_flock v_hunger v_lean v_fed v_taken v_pacts v_levels v_facts, wX9 G q_ah ah_mountain ah_night ah_g ah_flock ah_hunger ah_lean ah_fed ah_taken ah_pacts ah_levels ah_facts, wX0 G q_sc sc_kept sc_feuds sc_bites sc_bones sc_feudsInAll sc_bitten, wX5 G q_mt mt_farms mt_fences mt_shares mt_names mt_flock mt_dogs mt_hunger mt_fenced mt_heights mt_pacts mt_partner mt_often mt_toothed (q_fe 0) (q_go 0), wX3 G q_fe fe_kinds fe_lefts fe_rights fe_values fe_steps, wX3 G q_go go_kinds go_lefts go_rights go_values go_steps]) rfl ?_
        refine st_iconst hR dX6_findAll_57 (v := 0) rfl (pc' := 58) rfl ?_
        refine st_istore_n hR dX6_findAll_58 rfl (Nat.le_of_ble_eq_true rfl) [1, 2, 0] (lv' := [(0, .ref (q_ga 0)), (1, .int l1), (2, .int 0)]) rfl (pc' := 59) rfl ?_
        exact L59 FU _ _ _ _ _ _ _ _ _ _ _ _ _ _ _ _ _ _ _ _ _ _ _ hM
      · have hM := it_f c_ hM
        refine st_aload_n hR dX6_findAll_33 0 rfl rfl (pc' := 34) rfl ?_
        refine st_iload_n hR dX6_findAll_34 2 rfl rfl (pc' := 35) rfl ?_
        obtain ⟨r_1, hc_, hM⟩ := bd_e hM
        refine st_callU hR (k_X1_isRow hc_) cu_X6_90_X1 (rm_le (Nat.le_of_ble_eq_true rfl) (Nat.le_of_ble_eq_true rfl)) [0] rfl rfl rfl 0 0 1 12 rfl rfl rfl rfl (rest := []) rfl (Nat.le_of_ble_eq_true rfl) dX6_findAll_35 (pc' := 38) rfl (Wn := [wX1 G q_ga (q_v 0) (q_ah 0) (q_sc 0) ga_mostFarms ga_losses ga_known ga_found ga_foundMany ga_nights ga_farms ga_been ga_restingRow, wX9 G q_v (q_mt 0) v_night v_g v_flock v_hunger v_lean v_fed v_taken v_pacts v_levels v_facts, wX9 G q_ah ah_mountain ah_night ah_g ah_flock ah_hunger ah_lean ah_fed ah_taken ah_pacts ah_levels ah_facts, wX0 G q_sc sc_kept sc_feuds sc_bites sc_bones sc_feudsInAll sc_bitten, wX5 G q_mt mt_farms mt_fences mt_shares mt_names mt_flock mt_dogs mt_hunger mt_fenced mt_heights mt_pacts mt_partner mt_often mt_toothed (q_fe 0) (q_go 0), wX3 G q_fe fe_kinds fe_lefts fe_rights fe_values fe_steps, wX3 G q_go go_kinds go_lefts go_rights go_values go_steps]) rfl ?_
        refine st_if_eq hR dX6_findAll_38 (tgt := 46) (by decide) (pc' := 41) rfl (fun c_ => ?_) (fun c_ => ?_)
        · have hM := it_t c_ hM
          exact J46 _ _ _ _ _ _ _ _ _ _ _ _ _ _ _ _ _ _ _ _ _ _ _ hM
        · have hM := it_f c_ hM
          refine st_aload_n hR dX6_findAll_41 0 rfl rfl (pc' := 42) rfl ?_
          refine st_iload_n hR dX6_findAll_42 2 rfl rfl (pc' := 43) rfl ?_
          obtain ⟨⟨ga_losses_1, ga_known_1, ah_mountain_1, ah_night_1, ah_g_1, ah_flock_1, ah_hunger_1, ah_lean_1, ah_fed_1, ah_taken_1, ah_pacts_1, ah_levels_1, ah_facts_1, sc_kept_1, sc_feuds_1, sc_bones_1, sc_feudsInAll_1, fe_values_1, go_values_1⟩, hc_, hM⟩ := bd_e hM
          refine st_callU hR (k_X6_lookAt_g hc_) cu_X6_93_X1 (rm_le (Nat.le_of_ble_eq_true rfl) (Nat.le_of_ble_eq_true rfl)) [0, 1, 2, 3, 4, 5, 6] rfl rfl rfl 0 0 1 12 rfl rfl rfl rfl (rest := []) rfl (Nat.le_of_ble_eq_true rfl) dX6_findAll_43 (pc' := 46) rfl (Wn := [wX1 G q_ga (q_v 0) (q_ah 0) (q_sc 0) ga_mostFarms ga_losses_1 ga_known_1 ga_found ga_foundMany ga_nights ga_farms ga_been ga_restingRow, wX9 G q_v (q_mt 0) v_night v_g v_flock v_hunger v_lean v_fed v_taken v_pacts v_levels v_facts, wX9 G q_ah ah_mountain_1 ah_night_1 ah_g_1 ah_flock_1 ah_hunger_1 ah_lean_1 ah_fed_1 ah_taken_1 ah_pacts_1 ah_levels_1 ah_facts_1, wX0 G q_sc sc_kept_1 sc_feuds_1 sc_bites sc_bones_1 sc_feudsInAll_1 sc_bitten, wX5 G q_mt mt_farms mt_fences mt_shares mt_names mt_flock mt_dogs mt_hunger mt_fenced mt_heights mt_pacts mt_partner mt_often mt_toothed (q_fe 0) (q_go 0), wX3 G q_fe fe_kinds fe_lefts fe_rights fe_values_1 fe_steps, wX3 G q_go go_kinds go_lefts go_rights go_values_1 go_steps]) rfl ?_
          exact J46 _ _ _ _ _ _ _ _ _ _ _ _ _ _ _ _ _ _ _ _ _ _ _ hM
  refine st_aload_n hR dX6_findAll_0 0 rfl rfl (pc' := 1) rfl ?_
  refine st_get hR dX6_findAll_1 fg_X6_55_1_7 0 0 rfl rfl rfl (pc' := 4) rfl ?_
  refine st_iconst hR dX6_findAll_4 (v := (-1)) (by decide) (pc' := 5) rfl ?_
  refine st_icmp_eq hR dX6_findAll_5 (tgt := 13) (by decide) (pc' := 8) rfl (fun c_ => ?_) (fun c_ => ?_)
  · have hM := it_t c_ hM
    refine st_aload_n hR dX6_findAll_13 0 rfl rfl (pc' := 14) rfl ?_
    obtain ⟨r_1, hc_, hM⟩ := bd_e hM
    refine st_callU hR (k_X1_rows hc_) cu_X6_80_X1 (rm_le (Nat.le_of_ble_eq_true rfl) (Nat.le_of_ble_eq_true rfl)) [0] rfl rfl rfl 0 0 1 12 rfl rfl rfl rfl (rest := []) rfl (Nat.le_of_ble_eq_true rfl) dX6_findAll_14 (pc' := 17) rfl (Wn := [wX1 G q_ga (q_v 0) (q_ah 0) (q_sc 0) ga_mostFarms ga_losses ga_known ga_found ga_foundMany ga_nights ga_farms ga_been ga_restingRow, wX9 G q_v (q_mt 0) v_night v_g v_flock v_hunger v_lean v_fed v_taken v_pacts v_levels v_facts, wX9 G q_ah ah_mountain ah_night ah_g ah_flock ah_hunger ah_lean ah_fed ah_taken ah_pacts ah_levels ah_facts, wX0 G q_sc sc_kept sc_feuds sc_bites sc_bones sc_feudsInAll sc_bitten, wX5 G q_mt mt_farms mt_fences mt_shares mt_names mt_flock mt_dogs mt_hunger mt_fenced mt_heights mt_pacts mt_partner mt_often mt_toothed (q_fe 0) (q_go 0), wX3 G q_fe fe_kinds fe_lefts fe_rights fe_values fe_steps, wX3 G q_go go_kinds go_lefts go_rights go_values go_steps]) rfl ?_
    refine st_aload_n hR dX6_findAll_17 0 rfl rfl (pc' := 18) rfl ?_
    refine st_get hR dX6_findAll_18 fg_X6_30_1_5 0 0 rfl rfl rfl (pc' := 21) rfl ?_
    refine st_alen hR dX6_findAll_21 0 2 0 rfl rfl rfl (v := 256) rfl (pc' := 22) rfl ?_
    refine st_mmin hR dX6_findAll_22 mm_X6_84 (Nat.le_of_ble_eq_true rfl) (rest := []) (Nat.le_of_ble_eq_true rfl) (pc' := 25) rfl ?_
    refine st_topi (fun l1_1 e_ => ?_)
    have hM := lt_e e_ hM
    refine st_istore_n hR dX6_findAll_25 rfl (Nat.le_of_ble_eq_true rfl) [1, 0] (lv' := [(0, .ref (q_ga 0)), (1, .int l1_1)]) rfl (pc' := 26) rfl ?_
    refine st_iconst hR dX6_findAll_26 (v := 0) rfl (pc' := 27) rfl ?_
    refine st_istore_n hR dX6_findAll_27 rfl (Nat.le_of_ble_eq_true rfl) [1, 2, 0] (lv' := [(0, .ref (q_ga 0)), (1, .int l1_1), (2, .int 0)]) rfl (pc' := 28) rfl ?_
    exact L28 FU _ _ _ _ _ _ _ _ _ _ _ _ _ _ _ _ _ _ _ _ _ _ _ hM
  · have hM := it_f c_ hM
    refine st_aload_n hR dX6_findAll_8 0 rfl rfl (pc' := 9) rfl ?_
    refine st_get hR dX6_findAll_9 fg_X6_55_1_7 0 0 rfl rfl rfl (pc' := 12) rfl ?_
    cases hM
    exact hret _ _ dX6_findAll_12 (ro_i _)
set_option maxHeartbeats 16000000 in
set_option maxRecDepth 100000 in
theorem k_X6_farms_j {l : Launch} {G : GG} {q_jo : Nat → Nat} {jo_mostFarms jo_foundMany jo_nights jo_farms : Int32} {jo_losses jo_known jo_found jo_groups jo_renumbered : Nat → Int32} {jo_now jo_ahead jo_scrap : Nat}  {o_r : Int32} (hM : f_X6_farms_j jo_farms = some o_r) : MC l G yX6_farms cX6_farms 1 (some .int) (RM 0) [.ref (q_jo 0)] [wX2 G q_jo jo_now jo_ahead jo_scrap jo_mostFarms jo_losses jo_known jo_found jo_foundMany jo_nights jo_farms jo_groups jo_renumbered] (some (.int o_r)) [wX2 G q_jo jo_now jo_ahead jo_scrap jo_mostFarms jo_losses jo_known jo_found jo_foundMany jo_nights jo_farms jo_groups jo_renumbered] := by
  refine MC.of pn_X6 (Nat.le_of_ble_eq_true rfl) (fun K hR hret => ?_)
  have hR : Rl l G RX6 cX6_farms 1 (RM 0) K := hR
  show K [wX2 G q_jo jo_now jo_ahead jo_scrap jo_mostFarms jo_losses jo_known jo_found jo_foundMany jo_nights jo_farms jo_groups jo_renumbered] [(0, .ref (q_jo 0))] 0 []
  refine st_aload_n hR dX6_farms_0 0 rfl rfl (pc' := 1) rfl ?_
  refine st_get hR dX6_farms_1 fg_X6_36_2_9 0 0 rfl rfl rfl (pc' := 4) rfl ?_
  cases hM
  exact hret _ _ dX6_farms_4 (ro_i _)
set_option maxHeartbeats 16000000 in
set_option maxRecDepth 100000 in
theorem k_X6_forget_j {l : Launch} {G : GG} {q_jo : Nat → Nat} {jo_mostFarms jo_foundMany jo_nights jo_farms : Int32} {jo_losses jo_known jo_found jo_groups jo_renumbered : Nat → Int32} {jo_now jo_ahead jo_scrap : Nat}  {o_jo_nights : Int32} (hM : f_X6_forget_j jo_nights = some o_jo_nights) : MC l G yX6_forget cX6_forget 1 none (RM 0) [.ref (q_jo 0)] [wX2 G q_jo jo_now jo_ahead jo_scrap jo_mostFarms jo_losses jo_known jo_found jo_foundMany jo_nights jo_farms jo_groups jo_renumbered] none [wX2 G q_jo jo_now jo_ahead jo_scrap jo_mostFarms jo_losses jo_known jo_found jo_foundMany o_jo_nights jo_farms jo_groups jo_renumbered] := by
  refine MC.of pn_X6 (Nat.le_of_ble_eq_true rfl) (fun K hR hret => ?_)
  have hR : Rl l G RX6 cX6_forget 1 (RM 0) K := hR
  show K [wX2 G q_jo jo_now jo_ahead jo_scrap jo_mostFarms jo_losses jo_known jo_found jo_foundMany jo_nights jo_farms jo_groups jo_renumbered] [(0, .ref (q_jo 0))] 0 []
  refine st_aload_n hR dX6_forget_0 0 rfl rfl (pc' := 1) rfl ?_
  refine st_iconst hR dX6_forget_1 (v := 0) rfl (pc' := 2) rfl ?_
  refine st_put hR dX6_forget_2 fp_X6_39_2_8 0 0 rfl rfl (Nat.le_of_ble_eq_true rfl) rfl rfl (pc' := 5) rfl (W' := [wX2 G q_jo jo_now jo_ahead jo_scrap jo_mostFarms jo_losses jo_known jo_found jo_foundMany 0 jo_farms jo_groups jo_renumbered]) rfl ?_
  cases hM
  exact hret _ _ dX6_forget_5 ro_v
set_option maxHeartbeats 16000000 in
set_option maxRecDepth 100000 in
theorem k_X6_lossIn_j {l : Launch} {G : GG} {q_jo : Nat → Nat} {jo_mostFarms jo_foundMany jo_nights jo_farms : Int32} {jo_losses jo_known jo_found jo_groups jo_renumbered : Nat → Int32} {jo_now jo_ahead jo_scrap : Nat} {l1 l2 : Int32} {o_r : Int32} (hM : f_X6_lossIn_j jo_losses l1 l2 = some o_r) : MC l G yX6_lossIn cX6_lossIn 4 (some .int) (RM 0) [.ref (q_jo 0), .int l1, .int l2] [wX2 G q_jo jo_now jo_ahead jo_scrap jo_mostFarms jo_losses jo_known jo_found jo_foundMany jo_nights jo_farms jo_groups jo_renumbered] (some (.int o_r)) [wX2 G q_jo jo_now jo_ahead jo_scrap jo_mostFarms jo_losses jo_known jo_found jo_foundMany jo_nights jo_farms jo_groups jo_renumbered] := by
  refine MC.of pn_X6 (Nat.le_of_ble_eq_true rfl) (fun K hR hret => ?_)
  have hR : Rl l G RX6 cX6_lossIn 4 (RM 0) K := hR
  show K [wX2 G q_jo jo_now jo_ahead jo_scrap jo_mostFarms jo_losses jo_known jo_found jo_foundMany jo_nights jo_farms jo_groups jo_renumbered] [(0, .ref (q_jo 0)), (1, .int l1), (2, .int l2)] 0 []
  refine st_iload_n hR dX6_lossIn_0 1 rfl rfl (pc' := 1) rfl ?_
  refine st_bipush hR dX6_lossIn_1 (v := 6) rfl (pc' := 3) rfl ?_
  refine st_imul hR dX6_lossIn_3 (pc' := 4) rfl ?_
  refine st_iload_n hR dX6_lossIn_4 2 rfl rfl (pc' := 5) rfl ?_
  refine st_iadd hR dX6_lossIn_5 (pc' := 6) rfl ?_
  refine st_topi (fun l3_1 e_ => ?_)
  have hM := lt_e e_ hM
  refine st_istore_n hR dX6_lossIn_6 rfl (Nat.le_of_ble_eq_true rfl) [1, 2, 3, 0] (lv' := [(0, .ref (q_jo 0)), (1, .int l1), (2, .int l2), (3, .int l3_1)]) rfl (pc' := 7) rfl ?_
  refine st_iload_n hR dX6_lossIn_7 3 rfl rfl (pc' := 8) rfl ?_
  refine st_if_lt hR dX6_lossIn_8 (tgt := 29) (by decide) (pc' := 11) rfl (fun c_ => ?_) (fun c_ => ?_)
  · have hM := it_t c_ hM
    refine st_iconst hR dX6_lossIn_29 (v := 0) rfl (pc' := 30) rfl ?_
    cases hM
    exact hret _ _ dX6_lossIn_30 (ro_i _)
  · have hM := it_f c_ hM
    refine st_iload_n hR dX6_lossIn_11 3 rfl rfl (pc' := 12) rfl ?_
    refine st_aload_n hR dX6_lossIn_12 0 rfl rfl (pc' := 13) rfl ?_
    refine st_get hR dX6_lossIn_13 fg_X6_26_2_4 0 0 rfl rfl rfl (pc' := 16) rfl ?_
    refine st_alen hR dX6_lossIn_16 0 1 0 rfl rfl rfl (v := 720) rfl (pc' := 17) rfl ?_
    refine st_icmp_ge hR dX6_lossIn_17 (tgt := 29) (by decide) (pc' := 20) rfl (fun c_ => ?_) (fun c_ => ?_)
    · have hM := it_t c_ hM
      refine st_iconst hR dX6_lossIn_29 (v := 0) rfl (pc' := 30) rfl ?_
      cases hM
      exact hret _ _ dX6_lossIn_30 (ro_i _)
    · have hM := it_f c_ hM
      refine st_aload_n hR dX6_lossIn_20 0 rfl rfl (pc' := 21) rfl ?_
      refine st_get hR dX6_lossIn_21 fg_X6_26_2_4 0 0 rfl rfl rfl (pc' := 24) rfl ?_
      refine st_iload_n hR dX6_lossIn_24 3 rfl rfl (pc' := 25) rfl ?_
      obtain ⟨hin_, hM⟩ := g_in_e hM
      refine st_iald hR dX6_lossIn_25 0 1 rfl rfl hin_ (v := jo_losses (ix l3_1)) rfl (pc' := 26) rfl ?_
      refine st_goto hR dX6_lossIn_26 (tgt := 30) (by decide) ?_
      cases hM
      exact hret _ _ dX6_lossIn_30 (ro_i _)
set_option maxHeartbeats 16000000 in
set_option maxRecDepth 100000 in
theorem k_X6_foundAt_j {l : Launch} {G : GG} {q_jo : Nat → Nat} {jo_mostFarms jo_foundMany jo_nights jo_farms : Int32} {jo_losses jo_known jo_found jo_groups jo_renumbered : Nat → Int32} {jo_now jo_ahead jo_scrap : Nat} {l1 : Int32} {o_r : Int32} (hM : f_X6_foundAt_j jo_found jo_foundMany l1 = some o_r) : MC l G yX6_foundAt cX6_foundAt 2 (some .int) (RM 0) [.ref (q_jo 0), .int l1] [wX2 G q_jo jo_now jo_ahead jo_scrap jo_mostFarms jo_losses jo_known jo_found jo_foundMany jo_nights jo_farms jo_groups jo_renumbered] (some (.int o_r)) [wX2 G q_jo jo_now jo_ahead jo_scrap jo_mostFarms jo_losses jo_known jo_found jo_foundMany jo_nights jo_farms jo_groups jo_renumbered] := by
  refine MC.of pn_X6 (Nat.le_of_ble_eq_true rfl) (fun K hR hret => ?_)
  have hR : Rl l G RX6 cX6_foundAt 2 (RM 0) K := hR
  show K [wX2 G q_jo jo_now jo_ahead jo_scrap jo_mostFarms jo_losses jo_known jo_found jo_foundMany jo_nights jo_farms jo_groups jo_renumbered] [(0, .ref (q_jo 0)), (1, .int l1)] 0 []
  refine st_iload_n hR dX6_foundAt_0 1 rfl rfl (pc' := 1) rfl ?_
  refine st_if_lt hR dX6_foundAt_1 (tgt := 21) (by decide) (pc' := 4) rfl (fun c_ => ?_) (fun c_ => ?_)
  · have hM := it_t c_ hM
    refine st_iconst hR dX6_foundAt_21 (v := (-1)) (by decide) (pc' := 22) rfl ?_
    cases hM
    exact hret _ _ dX6_foundAt_22 (ro_i _)
  · have hM := it_f c_ hM
    refine st_iload_n hR dX6_foundAt_4 1 rfl rfl (pc' := 5) rfl ?_
    refine st_aload_n hR dX6_foundAt_5 0 rfl rfl (pc' := 6) rfl ?_
    refine st_get hR dX6_foundAt_6 fg_X6_55_2_7 0 0 rfl rfl rfl (pc' := 9) rfl ?_
    refine st_icmp_ge hR dX6_foundAt_9 (tgt := 21) (by decide) (pc' := 12) rfl (fun c_ => ?_) (fun c_ => ?_)
    · have hM := it_t c_ hM
      refine st_iconst hR dX6_foundAt_21 (v := (-1)) (by decide) (pc' := 22) rfl ?_
      cases hM
      exact hret _ _ dX6_foundAt_22 (ro_i _)
    · have hM := it_f c_ hM
      refine st_aload_n hR dX6_foundAt_12 0 rfl rfl (pc' := 13) rfl ?_
      refine st_get hR dX6_foundAt_13 fg_X6_33_2_6 0 0 rfl rfl rfl (pc' := 16) rfl ?_
      refine st_iload_n hR dX6_foundAt_16 1 rfl rfl (pc' := 17) rfl ?_
      obtain ⟨hin_, hM⟩ := g_in_e hM
      refine st_iald hR dX6_foundAt_17 0 3 rfl rfl hin_ (v := jo_found (ix l1)) rfl (pc' := 18) rfl ?_
      refine st_goto hR dX6_foundAt_18 (tgt := 22) (by decide) ?_
      cases hM
      exact hret _ _ dX6_foundAt_22 (ro_i _)
set_option maxHeartbeats 16000000 in
set_option maxRecDepth 100000 in
theorem k_X6_isReady_j {l : Launch} {G : GG} {q_jo q_v q_mt : Nat → Nat} {jo_mostFarms jo_foundMany jo_nights jo_farms v_night mt_farms mt_fences mt_shares mt_toothed : Int32} {v_g : Int64} {jo_losses jo_known jo_found jo_groups jo_renumbered v_flock v_hunger v_lean v_fed v_taken v_pacts v_levels v_facts mt_flock mt_dogs mt_hunger mt_fenced mt_heights mt_pacts mt_partner mt_often : Nat → Int32} {mt_names : Nat → Int64} {jo_ahead jo_scrap mt_feeding mt_going : Nat} {l1 : Int32} {o_r : Int32} {o_jo_known : Nat → Int32} {o_jo_foundMany : Int32} {o_jo_nights : Int32} {o_jo_farms : Int32} (hM : f_X6_isReady_j jo_mostFarms mt_farms jo_known jo_foundMany jo_nights jo_farms l1 = some (o_r, o_jo_known, o_jo_foundMany, o_jo_nights, o_jo_farms)) : MC l G yX6_isReady cX6_isReady 2 (some .boolean) (RM 1) [.ref (q_jo 0), .int l1] [wX2 G q_jo (q_v 0) jo_ahead jo_scrap jo_mostFarms jo_losses jo_known jo_found jo_foundMany jo_nights jo_farms jo_groups jo_renumbered, wX9 G q_v (q_mt 0) v_night v_g v_flock v_hunger v_lean v_fed v_taken v_pacts v_levels v_facts, wX5 G q_mt mt_farms mt_fences mt_shares mt_names mt_flock mt_dogs mt_hunger mt_fenced mt_heights mt_pacts mt_partner mt_often mt_toothed mt_feeding mt_going] (some (.int o_r)) [wX2 G q_jo (q_v 0) jo_ahead jo_scrap jo_mostFarms jo_losses o_jo_known jo_found o_jo_foundMany o_jo_nights o_jo_farms jo_groups jo_renumbered, wX9 G q_v (q_mt 0) v_night v_g v_flock v_hunger v_lean v_fed v_taken v_pacts v_levels v_facts, wX5 G q_mt mt_farms mt_fences mt_shares mt_names mt_flock mt_dogs mt_hunger mt_fenced mt_heights mt_pacts mt_partner mt_often mt_toothed mt_feeding mt_going] := by
  refine MC.of pn_X6 (Nat.le_of_ble_eq_true rfl) (fun K hR hret => ?_)
  have hR : Rl l G RX6 cX6_isReady 2 (RM 1) K := hR
  show K [wX2 G q_jo (q_v 0) jo_ahead jo_scrap jo_mostFarms jo_losses jo_known jo_found jo_foundMany jo_nights jo_farms jo_groups jo_renumbered, wX9 G q_v (q_mt 0) v_night v_g v_flock v_hunger v_lean v_fed v_taken v_pacts v_levels v_facts, wX5 G q_mt mt_farms mt_fences mt_shares mt_names mt_flock mt_dogs mt_hunger mt_fenced mt_heights mt_pacts mt_partner mt_often mt_toothed mt_feeding mt_going] [(0, .ref (q_jo 0)), (1, .int l1)] 0 []
  refine st_iload_n hR dX6_isReady_0 1 rfl rfl (pc' := 1) rfl ?_
  obtain ⟨r_1, hc_, hM⟩ := bd_e hM
  refine st_callSN hR (k_X10_isAhead hc_) cf_X6_42 (rm_le (Nat.le_of_ble_eq_true rfl) (Nat.le_of_ble_eq_true rfl)) [] rfl rfl rfl rfl (rest := []) rfl (Nat.le_of_ble_eq_true rfl) dX6_isReady_1 (pc' := 4) rfl (Wn := [wX2 G q_jo (q_v 0) jo_ahead jo_scrap jo_mostFarms jo_losses jo_known jo_found jo_foundMany jo_nights jo_farms jo_groups jo_renumbered, wX9 G q_v (q_mt 0) v_night v_g v_flock v_hunger v_lean v_fed v_taken v_pacts v_levels v_facts, wX5 G q_mt mt_farms mt_fences mt_shares mt_names mt_flock mt_dogs mt_hunger mt_fenced mt_heights mt_pacts mt_partner mt_often mt_toothed mt_feeding mt_going]) rfl ?_
  refine st_if_eq hR dX6_isReady_4 (tgt := 24) (by decide) (pc' := 7) rfl (fun c_ => ?_) (fun c_ => ?_)
  · have hM := it_t c_ hM
    refine st_iconst hR dX6_isReady_24 (v := 0) rfl (pc' := 25) rfl ?_
    cases hM
    exact hret _ _ dX6_isReady_25 (ro_z (Or.inl rfl))
  · have hM := it_f c_ hM
    refine st_aload_n hR dX6_isReady_7 0 rfl rfl (pc' := 8) rfl ?_
    refine st_get hR dX6_isReady_8 fg_X6_9_2_0 0 0 rfl rfl rfl (pc' := 11) rfl ?_
    refine st_get hR dX6_isReady_11 fg_X6_46_8_0 1 0 rfl rfl rfl (pc' := 14) rfl ?_
    refine st_get hR dX6_isReady_14 fg_X6_52_5_0 2 0 rfl rfl rfl (pc' := 17) rfl ?_
    refine st_aload_n hR dX6_isReady_17 0 rfl rfl (pc' := 18) rfl ?_
    refine st_get hR dX6_isReady_18 fg_X6_22_2_3 0 0 rfl rfl rfl (pc' := 21) rfl ?_
    refine st_icmp_le hR dX6_isReady_21 (tgt := 26) (by decide) (pc' := 24) rfl (fun c_ => ?_) (fun c_ => ?_)
    · have hM := it_t c_ hM
      refine st_aload_n hR dX6_isReady_26 0 rfl rfl (pc' := 27) rfl ?_
      refine st_get hR dX6_isReady_27 fg_X6_39_2_8 0 0 rfl rfl rfl (pc' := 30) rfl ?_
      refine st_iload_n hR dX6_isReady_30 1 rfl rfl (pc' := 31) rfl ?_
      refine st_icmp_eq hR dX6_isReady_31 (tgt := 66) (by decide) (pc' := 34) rfl (fun c_ => ?_) (fun c_ => ?_)
      · have hM := it_t c_ hM
        refine st_iconst hR dX6_isReady_66 (v := 1) rfl (pc' := 67) rfl ?_
        cases hM
        exact hret _ _ dX6_isReady_67 (ro_z (Or.inr rfl))
      · have hM := it_f c_ hM
        refine st_aload_n hR dX6_isReady_34 0 rfl rfl (pc' := 35) rfl ?_
        refine st_iload_n hR dX6_isReady_35 1 rfl rfl (pc' := 36) rfl ?_
        refine st_put hR dX6_isReady_36 fp_X6_39_2_8 0 0 rfl rfl (Nat.le_of_ble_eq_true rfl) rfl rfl (pc' := 39) rfl (W' := [wX2 G q_jo (q_v 0) jo_ahead jo_scrap jo_mostFarms jo_losses jo_known jo_found jo_foundMany l1 jo_farms jo_groups jo_renumbered, wX9 G q_v (q_mt 0) v_night v_g v_flock v_hunger v_lean v_fed v_taken v_pacts v_levels v_facts, wX5 G q_mt mt_farms mt_fences mt_shares mt_names mt_flock mt_dogs mt_hunger mt_fenced mt_heights mt_pacts mt_partner mt_often mt_toothed mt_feeding mt_going]) rfl ?_
        refine st_aload_n hR dX6_isReady_39 0 rfl rfl (pc' := 40) rfl ?_
        refine st_aload_n hR dX6_isReady_40 0 rfl rfl (pc' := 41) rfl ?_
        refine st_get hR dX6_isReady_41 fg_X6_9_2_0 0 0 rfl rfl rfl (pc' := 44) rfl ?_
        refine st_get hR dX6_isReady_44 fg_X6_46_8_0 1 0 rfl rfl rfl (pc' := 47) rfl ?_
        refine st_get hR dX6_isReady_47 fg_X6_52_5_0 2 0 rfl rfl rfl (pc' := 50) rfl ?_
        refine st_put hR dX6_isReady_50 fp_X6_36_2_9 0 0 rfl rfl (Nat.le_of_ble_eq_true rfl) rfl rfl (pc' := 53) rfl (W' := [wX2 G q_jo (q_v 0) jo_ahead jo_scrap jo_mostFarms jo_losses jo_known jo_found jo_foundMany l1 mt_farms jo_groups jo_renumbered, wX9 G q_v (q_mt 0) v_night v_g v_flock v_hunger v_lean v_fed v_taken v_pacts v_levels v_facts, wX5 G q_mt mt_farms mt_fences mt_shares mt_names mt_flock mt_dogs mt_hunger mt_fenced mt_heights mt_pacts mt_partner mt_often mt_toothed mt_feeding mt_going]) rfl ?_
        refine st_aload_n hR dX6_isReady_53 0 rfl rfl (pc' := 54) rfl ?_
        refine st_iconst hR dX6_isReady_54 (v := (-1)) (by decide) (pc' := 55) rfl ?_
        refine st_put hR dX6_isReady_55 fp_X6_55_2_7 0 0 rfl rfl (Nat.le_of_ble_eq_true rfl) rfl rfl (pc' := 58) rfl (W' := [wX2 G q_jo (q_v 0) jo_ahead jo_scrap jo_mostFarms jo_losses jo_known jo_found (-1) l1 mt_farms jo_groups jo_renumbered, wX9 G q_v (q_mt 0) v_night v_g v_flock v_hunger v_lean v_fed v_taken v_pacts v_levels v_facts, wX5 G q_mt mt_farms mt_fences mt_shares mt_names mt_flock mt_dogs mt_hunger mt_fenced mt_heights mt_pacts mt_partner mt_often mt_toothed mt_feeding mt_going]) rfl ?_
        refine st_aload_n hR dX6_isReady_58 0 rfl rfl (pc' := 59) rfl ?_
        refine st_get hR dX6_isReady_59 fg_X6_30_2_5 0 0 rfl rfl rfl (pc' := 62) rfl ?_
        refine st_iconst hR dX6_isReady_62 (v := 0) rfl (pc' := 63) rfl ?_
        refine st_fill hR dX6_isReady_63 ff_X6_58 (Nat.le_of_ble_eq_true rfl) (Nat.le_of_ble_eq_true rfl) 0 2 rfl rfl (Nat.le_of_ble_eq_true rfl) (rest := []) (Nat.le_of_ble_eq_true rfl) (pc' := 66) rfl (fun jo_known_1 => [wX2 G q_jo (q_v 0) jo_ahead jo_scrap jo_mostFarms jo_losses jo_known_1 jo_found (-1) l1 mt_farms jo_groups jo_renumbered, wX9 G q_v (q_mt 0) v_night v_g v_flock v_hunger v_lean v_fed v_taken v_pacts v_levels v_facts, wX5 G q_mt mt_farms mt_fences mt_shares mt_names mt_flock mt_dogs mt_hunger mt_fenced mt_heights mt_pacts mt_partner mt_often mt_toothed mt_feeding mt_going]) (fun _ => rfl) (fun jo_known_1 e_ => ?_)
        have hM := lt_e e_ hM
        refine st_iconst hR dX6_isReady_66 (v := 1) rfl (pc' := 67) rfl ?_
        cases hM
        exact hret _ _ dX6_isReady_67 (ro_z (Or.inr rfl))
    · have hM := it_f c_ hM
      refine st_iconst hR dX6_isReady_24 (v := 0) rfl (pc' := 25) rfl ?_
      cases hM
      exact hret _ _ dX6_isReady_25 (ro_z (Or.inl rfl))
set_option maxHeartbeats 16000000 in
set_option maxRecDepth 100000 in
theorem k_X2_split {l : Launch} {G : GG} {q_jo : Nat → Nat} {jo_mostFarms jo_foundMany jo_nights jo_farms : Int32} {jo_losses jo_known jo_found jo_groups jo_renumbered : Nat → Int32} {jo_now jo_ahead jo_scrap : Nat} {l1 : Int32} {o_jo_groups : Nat → Int32} (hM : f_X2_split jo_farms jo_groups l1 = some o_jo_groups) : MC l G yX2_split cX2_split 4 none (RM 1) [.ref (q_jo 0), .int l1] [wX2 G q_jo jo_now jo_ahead jo_scrap jo_mostFarms jo_losses jo_known jo_found jo_foundMany jo_nights jo_farms jo_groups jo_renumbered] none [wX2 G q_jo jo_now jo_ahead jo_scrap jo_mostFarms jo_losses jo_known jo_found jo_foundMany jo_nights jo_farms o_jo_groups jo_renumbered] := by
  refine MC.of pn_X2 (Nat.le_of_ble_eq_true rfl) (fun K hR hret => ?_)
  have hR : Rl l G RX2 cX2_split 4 (RM 1) K := hR
  show K [wX2 G q_jo jo_now jo_ahead jo_scrap jo_mostFarms jo_losses jo_known jo_found jo_foundMany jo_nights jo_farms jo_groups jo_renumbered] [(0, .ref (q_jo 0)), (1, .int l1)] 0 []
  have L9 : ∀ (n9 : Nat) (jo_groups : Nat → Int32) (l2 : Int32) (l3 : Int32), f_X2_split_L9  jo_farms n9 jo_groups l2 l3 = some o_jo_groups → K [wX2 G q_jo jo_now jo_ahead jo_scrap jo_mostFarms jo_losses jo_known jo_found jo_foundMany jo_nights jo_farms jo_groups jo_renumbered] [(0, .ref (q_jo 0)), (2, .int l2), (3, .int l3)] 9 [] := by
    intro n9
    induction n9 with
    | zero => intro jo_groups l2 l3 hM; exact no_some hM
    | succ n9 ih9 =>
      intro jo_groups l2 l3 hM
      have hM : f_X2_split_L9b  (f_X2_split_L9  jo_farms n9) jo_farms jo_groups l2 l3 = some o_jo_groups := hM
      refine st_iload_n hR dX2_split_9 2 rfl rfl (pc' := 10) rfl ?_
      refine st_if_lt hR dX2_split_10 (tgt := 36) (by decide) (pc' := 13) rfl (fun c_ => ?_) (fun c_ => ?_)
      · have hM := it_t c_ hM
        cases hM
        exact hret _ _ dX2_split_36 ro_v
      · have hM := it_f c_ hM
        refine st_aload_n hR dX2_split_13 0 rfl rfl (pc' := 14) rfl ?_
        refine st_get hR dX2_split_14 fg_X2_11_2_10 0 0 rfl rfl rfl (pc' := 17) rfl ?_
        refine st_iload_n hR dX2_split_17 2 rfl rfl (pc' := 18) rfl ?_
        refine st_iload_n hR dX2_split_18 1 rfl rfl (pc' := 19) rfl ?_
        refine st_iload_n hR dX2_split_19 2 rfl rfl (pc' := 20) rfl ?_
        refine st_iconst hR dX2_split_20 (v := 1) rfl (pc' := 21) rfl ?_
        refine st_iadd hR dX2_split_21 (pc' := 22) rfl ?_
        obtain ⟨hnz_, hM⟩ := g_nz_e hM
        refine st_irem hR dX2_split_22 (pc' := 23) rfl hnz_ ?_
        obtain ⟨hin_, hM⟩ := g_in_e hM
        refine st_iast hR dX2_split_23 0 4 rfl rfl hin_ (ix := (ix l3)) rfl (pc' := 24) rfl (fun jo_groups_1 => [wX2 G q_jo jo_now jo_ahead jo_scrap jo_mostFarms jo_losses jo_known jo_found jo_foundMany jo_nights jo_farms jo_groups_1 jo_renumbered]) (fun _ => rfl) (fun jo_groups_1 e_ => ?_)
        have hM := lt_e e_ hM
        refine st_iload_n hR dX2_split_24 1 rfl rfl (pc' := 25) rfl ?_
        refine st_iload_n hR dX2_split_25 2 rfl rfl (pc' := 26) rfl ?_
        refine st_iconst hR dX2_split_26 (v := 1) rfl (pc' := 27) rfl ?_
        refine st_iadd hR dX2_split_27 (pc' := 28) rfl ?_
        obtain ⟨hnz_, hM⟩ := g_nz_e hM
        refine st_idiv hR dX2_split_28 (pc' := 29) rfl hnz_ ?_
        refine st_topi (fun l2_1 e_ => ?_)
        have hM := lt_e e_ hM
        refine st_istore_n hR dX2_split_29 rfl (Nat.le_of_ble_eq_true rfl) [1, 0, 2] (lv' := [(0, .ref (q_jo 0)), (2, .int l2_1), (3, .int l3)]) rfl (pc' := 30) rfl ?_
        obtain ⟨l3_1, e_⟩ : ∃ y : Int32, y = l3 + (-1) := ⟨_, rfl⟩
        refine st_iinc hR dX2_split_30 (Nat.le_of_ble_eq_true rfl) 2 [1, 2, 0] (v := l3_1) rfl (by rw [e_]; rfl) (lv' := [(0, .ref (q_jo 0)), (2, .int l2_1), (3, .int l3_1)]) rfl (pc' := 33) rfl ?_
        have hM := lt_e e_ hM
        refine st_goto hR dX2_split_33 (tgt := 9) (by decide) ?_
        exact ih9 _ _ _ hM
  refine st_iload_n hR dX2_split_0 1 rfl rfl (pc' := 1) rfl ?_
  refine st_istore_n hR dX2_split_1 rfl (Nat.le_of_ble_eq_true rfl) [1, 2, 0] (lv' := [(0, .ref (q_jo 0)), (1, .int l1), (2, .int l1)]) rfl (pc' := 2) rfl ?_
  refine st_aload_n hR dX2_split_2 0 rfl rfl (pc' := 3) rfl ?_
  obtain ⟨r_1, hc_, hM⟩ := bd_e hM
  refine st_callU hR (k_X6_farms_j hc_) cu_X2_18_X2 (rm_le (Nat.le_of_ble_eq_true rfl) (Nat.le_of_ble_eq_true rfl)) [0] rfl rfl rfl 0 0 2 12 rfl rfl rfl rfl (rest := []) rfl (Nat.le_of_ble_eq_true rfl) dX2_split_3 (pc' := 6) rfl (Wn := [wX2 G q_jo jo_now jo_ahead jo_scrap jo_mostFarms jo_losses jo_known jo_found jo_foundMany jo_nights jo_farms jo_groups jo_renumbered]) rfl ?_
  refine st_iconst hR dX2_split_6 (v := 1) rfl (pc' := 7) rfl ?_
  refine st_isub hR dX2_split_7 (pc' := 8) rfl ?_
  refine st_topi (fun l3_1 e_ => ?_)
  have hM := lt_e e_ hM
  refine st_istore_n hR dX2_split_8 rfl (Nat.le_of_ble_eq_true rfl) [1, 2, 3, 0] (lv' := [(0, .ref (q_jo 0)), (1, .int l1), (2, .int l1), (3, .int l3_1)]) rfl (pc' := 9) rfl ?_
  exact st_lv hR [0, 2, 3] rfl (L9 FU _ _ _ hM)
set_option maxHeartbeats 16000000 in
set_option maxRecDepth 100000 in
theorem k_X2_arrange {l : Launch} {G : GG} {q_jo q_ah : Nat → Nat} {jo_mostFarms jo_foundMany jo_nights jo_farms ah_night : Int32} {ah_g : Int64} {jo_losses jo_known jo_found jo_groups jo_renumbered ah_flock ah_hunger ah_lean ah_fed ah_taken ah_pacts ah_levels ah_facts : Nat → Int32} {jo_now jo_ahead jo_scrap ah_mountain : Nat} {l2 : Int32} {o_jo_groups : Nat → Int32} {o_ah_pacts : Nat → Int32} (hM : f_X2_arrange jo_farms jo_groups ah_pacts l2 = some (o_jo_groups, o_ah_pacts)) : MC l G yX2_arrange cX2_arrange 6 none (RM 2) [.ref (q_jo 0), .ref (q_ah 0), .int l2] [wX2 G q_jo jo_now jo_ahead jo_scrap jo_mostFarms jo_losses jo_known jo_found jo_foundMany jo_nights jo_farms jo_groups jo_renumbered, wX9 G q_ah ah_mountain ah_night ah_g ah_flock ah_hunger ah_lean ah_fed ah_taken ah_pacts ah_levels ah_facts] none [wX2 G q_jo jo_now jo_ahead jo_scrap jo_mostFarms jo_losses jo_known jo_found jo_foundMany jo_nights jo_farms o_jo_groups jo_renumbered, wX9 G q_ah ah_mountain ah_night ah_g ah_flock ah_hunger ah_lean ah_fed ah_taken o_ah_pacts ah_levels ah_facts] := by
  refine MC.of pn_X2 (Nat.le_of_ble_eq_true rfl) (fun K hR hret => ?_)
  have hR : Rl l G RX2 cX2_arrange 6 (RM 2) K := hR
  show K [wX2 G q_jo jo_now jo_ahead jo_scrap jo_mostFarms jo_losses jo_known jo_found jo_foundMany jo_nights jo_farms jo_groups jo_renumbered, wX9 G q_ah ah_mountain ah_night ah_g ah_flock ah_hunger ah_lean ah_fed ah_taken ah_pacts ah_levels ah_facts] [(0, .ref (q_jo 0)), (1, .ref (q_ah 0)), (2, .int l2)] 0 []
  have L7 : ∀ (n7 : Nat) (jo_groups : Nat → Int32) (ah_pacts : Nat → Int32) (l3 : Int32), f_X2_arrange_L7  jo_farms n7 jo_groups ah_pacts l3 = some (o_jo_groups, o_ah_pacts) → K [wX2 G q_jo jo_now jo_ahead jo_scrap jo_mostFarms jo_losses jo_known jo_found jo_foundMany jo_nights jo_farms jo_groups jo_renumbered, wX9 G q_ah ah_mountain ah_night ah_g ah_flock ah_hunger ah_lean ah_fed ah_taken ah_pacts ah_levels ah_facts] [(0, .ref (q_jo 0)), (1, .ref (q_ah 0)), (3, .int l3)] 7 [] := by
    intro n7
    induction n7 with
    | zero => intro jo_groups ah_pacts l3 hM; exact no_some hM
    | succ n7 ih7 =>
      have L21 : ∀ (n21 : Nat) (jo_groups : Nat → Int32) (ah_pacts : Nat → Int32) (l3 : Int32) (l4 : Int32) (l5 : Int32), f_X2_arrange_L21  (f_X2_arrange_L7  jo_farms n7) jo_farms n21 jo_groups ah_pacts l3 l4 l5 = some (o_jo_groups, o_ah_pacts) → K [wX2 G q_jo jo_now jo_ahead jo_scrap jo_mostFarms jo_losses jo_known jo_found jo_foundMany jo_nights jo_farms jo_groups jo_renumbered, wX9 G q_ah ah_mountain ah_night ah_g ah_flock ah_hunger ah_lean ah_fed ah_taken ah_pacts ah_levels ah_facts] [(0, .ref (q_jo 0)), (1, .ref (q_ah 0)), (3, .int l3), (4, .int l4), (5, .int l5)] 21 [] := by
        intro n21
        induction n21 with
        | zero => intro jo_groups ah_pacts l3 l4 l5 hM; exact no_some hM
        | succ n21 ih21 =>
          have J61 : ∀ (jo_groups : Nat → Int32) (ah_pacts : Nat → Int32) (l3 : Int32) (l4 : Int32) (l5 : Int32), f_X2_arrange_B61  (f_X2_arrange_L7  jo_farms n7) (f_X2_arrange_L21  (f_X2_arrange_L7  jo_farms n7) jo_farms n21) jo_farms jo_groups ah_pacts l3 l4 l5 = some (o_jo_groups, o_ah_pacts) → K [wX2 G q_jo jo_now jo_ahead jo_scrap jo_mostFarms jo_losses jo_known jo_found jo_foundMany jo_nights jo_farms jo_groups jo_renumbered, wX9 G q_ah ah_mountain ah_night ah_g ah_flock ah_hunger ah_lean ah_fed ah_taken ah_pacts ah_levels ah_facts] [(0, .ref (q_jo 0)), (1, .ref (q_ah 0)), (3, .int l3), (4, .int l4), (5, .int l5)] 61 [] := by
            intro jo_groups ah_pacts l3 l4 l5 hM
            obtain ⟨l5_1, e_⟩ : ∃ y : Int32, y = l5 + 1 := ⟨_, rfl⟩
            refine st_iinc hR dX2_arrange_61 (Nat.le_of_ble_eq_true rfl) 4 [1, 2, 3, 4, 0] (v := l5_1) rfl (by rw [e_]; rfl) (lv' := [(0, .ref (q_jo 0)), (1, .ref (q_ah 0)), (3, .int l3), (4, .int l4), (5, .int l5_1)]) rfl (pc' := 64) rfl ?_
            have hM := lt_e e_ hM
            refine st_goto hR dX2_arrange_64 (tgt := 21) (by decide) ?_
            exact ih21 _ _ _ _ _ hM
          intro jo_groups ah_pacts l3 l4 l5 hM
          have hM : f_X2_arrange_L21b  (f_X2_arrange_L7  jo_farms n7) (f_X2_arrange_L21  (f_X2_arrange_L7  jo_farms n7) jo_farms n21) jo_farms jo_groups ah_pacts l3 l4 l5 = some (o_jo_groups, o_ah_pacts) := hM
          refine st_iload hR dX2_arrange_21 4 rfl (pc' := 23) rfl ?_
          refine st_aload_n hR dX2_arrange_23 0 rfl rfl (pc' := 24) rfl ?_
          obtain ⟨r_1, hc_, hM⟩ := bd_e hM
          refine st_callU hR (k_X6_farms_j hc_) cu_X2_18_X2 (rm_le (Nat.le_of_ble_eq_true rfl) (Nat.le_of_ble_eq_true rfl)) [0] rfl rfl rfl 0 0 2 12 rfl rfl rfl rfl (rest := [.int l5]) rfl (Nat.le_of_ble_eq_true rfl) dX2_arrange_24 (pc' := 27) rfl (Wn := [wX2 G q_jo jo_now jo_ahead jo_scrap jo_mostFarms jo_losses jo_known jo_found jo_foundMany jo_nights jo_farms jo_groups jo_renumbered, wX9 G q_ah ah_mountain ah_night ah_g ah_flock ah_hunger ah_lean ah_fed ah_taken ah_pacts ah_levels ah_facts]) rfl ?_
          refine st_icmp_ge hR dX2_arrange_27 (tgt := 67) (by decide) (pc' := 30) rfl (fun c_ => ?_) (fun c_ => ?_)
          · have hM := it_t c_ hM
            refine st_aload_n hR dX2_arrange_67 1 rfl rfl (pc' := 68) rfl ?_
            refine st_get hR dX2_arrange_68 fg_X2_26_8_8 1 0 rfl rfl rfl (pc' := 71) rfl ?_
            refine st_iload_n hR dX2_arrange_71 2 rfl rfl (pc' := 72) rfl ?_
            refine st_iload hR dX2_arrange_72 3 rfl (pc' := 74) rfl ?_
            obtain ⟨hin_, hM⟩ := g_in_e hM
            refine st_iast hR dX2_arrange_74 1 6 rfl rfl hin_ (ix := (ix l3)) rfl (pc' := 75) rfl (fun ah_pacts_1 => [wX2 G q_jo jo_now jo_ahead jo_scrap jo_mostFarms jo_losses jo_known jo_found jo_foundMany jo_nights jo_farms jo_groups jo_renumbered, wX9 G q_ah ah_mountain ah_night ah_g ah_flock ah_hunger ah_lean ah_fed ah_taken ah_pacts_1 ah_levels ah_facts]) (fun _ => rfl) (fun ah_pacts_1 e_ => ?_)
            have hM := lt_e e_ hM
            obtain ⟨l3_1, e_⟩ : ∃ y : Int32, y = l3 + 1 := ⟨_, rfl⟩
            refine st_iinc hR dX2_arrange_75 (Nat.le_of_ble_eq_true rfl) 2 [1, 2, 0, 3, 4] (v := l3_1) rfl (by rw [e_]; rfl) (lv' := [(0, .ref (q_jo 0)), (1, .ref (q_ah 0)), (3, .int l3_1), (4, .int l4), (5, .int l5)]) rfl (pc' := 78) rfl ?_
            have hM := lt_e e_ hM
            refine st_goto hR dX2_arrange_78 (tgt := 7) (by decide) ?_
            exact st_lv hR [0, 1, 2] rfl (ih7 _ _ _ hM)
          · have hM := it_f c_ hM
            refine st_iload hR dX2_arrange_30 4 rfl (pc' := 32) rfl ?_
            refine st_iload_n hR dX2_arrange_32 2 rfl rfl (pc' := 33) rfl ?_
            refine st_icmp_eq hR dX2_arrange_33 (tgt := 61) (by decide) (pc' := 36) rfl (fun c_ => ?_) (fun c_ => ?_)
            · have hM := it_t c_ hM
              exact J61 _ _ _ _ _ hM
            · have hM := it_f c_ hM
              refine st_aload_n hR dX2_arrange_36 0 rfl rfl (pc' := 37) rfl ?_
              refine st_get hR dX2_arrange_37 fg_X2_11_2_10 0 0 rfl rfl rfl (pc' := 40) rfl ?_
              refine st_iload hR dX2_arrange_40 4 rfl (pc' := 42) rfl ?_
              obtain ⟨hin_, hM⟩ := g_in_e hM
              refine st_iald hR dX2_arrange_42 0 4 rfl rfl hin_ (v := jo_groups (ix l5)) rfl (pc' := 43) rfl ?_
              refine st_aload_n hR dX2_arrange_43 0 rfl rfl (pc' := 44) rfl ?_
              refine st_get hR dX2_arrange_44 fg_X2_11_2_10 0 0 rfl rfl rfl (pc' := 47) rfl ?_
              refine st_iload_n hR dX2_arrange_47 2 rfl rfl (pc' := 48) rfl ?_
              obtain ⟨hin_, hM⟩ := g_in_e hM
              refine st_iald hR dX2_arrange_48 0 4 rfl rfl hin_ (v := jo_groups (ix l3)) rfl (pc' := 49) rfl ?_
              refine st_icmp_ne hR dX2_arrange_49 (tgt := 61) (by decide) (pc' := 52) rfl (fun c_ => ?_) (fun c_ => ?_)
              · have hM := it_f c_ hM
                exact J61 _ _ _ _ _ hM
              · have hM := it_t c_ hM
                refine st_iload hR dX2_arrange_52 3 rfl (pc' := 54) rfl ?_
                refine st_iconst hR dX2_arrange_54 (v := 1) rfl (pc' := 55) rfl ?_
                refine st_iload hR dX2_arrange_55 4 rfl (pc' := 57) rfl ?_
                refine st_ishl hR dX2_arrange_57 (pc' := 58) rfl ?_
                refine st_ior hR dX2_arrange_58 (pc' := 59) rfl ?_
                refine st_topi (fun l4_1 e_ => ?_)
                have hM := lt_e e_ hM
                refine st_istore hR dX2_arrange_59 (Nat.le_of_ble_eq_true rfl) [1, 2, 3, 0, 4] (lv' := [(0, .ref (q_jo 0)), (1, .ref (q_ah 0)), (3, .int l3), (4, .int l4_1), (5, .int l5)]) rfl (pc' := 61) rfl ?_
                exact J61 _ _ _ _ _ hM
      intro jo_groups ah_pacts l3 hM
      have hM : f_X2_arrange_L7b  (f_X2_arrange_L7  jo_farms n7) jo_farms jo_groups ah_pacts l3 = some (o_jo_groups, o_ah_pacts) := hM
      refine st_iload_n hR dX2_arrange_7 2 rfl rfl (pc' := 8) rfl ?_
      refine st_aload_n hR dX2_arrange_8 0 rfl rfl (pc' := 9) rfl ?_
      obtain ⟨r_1, hc_, hM⟩ := bd_e hM
      refine st_callU hR (k_X6_farms_j hc_) cu_X2_18_X2 (rm_le (Nat.le_of_ble_eq_true rfl) (Nat.le_of_ble_eq_true rfl)) [0] rfl rfl rfl 0 0 2 12 rfl rfl rfl rfl (rest := [.int l3]) rfl (Nat.le_of_ble_eq_true rfl) dX2_arrange_9 (pc' := 12) rfl (Wn := [wX2 G q_jo jo_now jo_ahead jo_scrap jo_mostFarms jo_losses jo_known jo_found jo_foundMany jo_nights jo_farms jo_groups jo_renumbered, wX9 G q_ah ah_mountain ah_night ah_g ah_flock ah_hunger ah_lean ah_fed ah_taken ah_pacts ah_levels ah_facts]) rfl ?_
      refine st_icmp_ge hR dX2_arrange_12 (tgt := 81) (by decide) (pc' := 15) rfl (fun c_ => ?_) (fun c_ => ?_)
      · have hM := it_t c_ hM
        cases hM
        exact hret _ _ dX2_arrange_81 ro_v
      · have hM := it_f c_ hM
        refine st_iconst hR dX2_arrange_15 (v := 0) rfl (pc' := 16) rfl ?_
        refine st_istore hR dX2_arrange_16 (Nat.le_of_ble_eq_true rfl) [1, 2, 3, 0] (lv' := [(0, .ref (q_jo 0)), (1, .ref (q_ah 0)), (3, .int l3), (4, .int 0)]) rfl (pc' := 18) rfl ?_
        refine st_iconst hR dX2_arrange_18 (v := 0) rfl (pc' := 19) rfl ?_
        refine st_istore hR dX2_arrange_19 (Nat.le_of_ble_eq_true rfl) [1, 2, 3, 4, 0] (lv' := [(0, .ref (q_jo 0)), (1, .ref (q_ah 0)), (3, .int l3), (4, .int 0), (5, .int 0)]) rfl (pc' := 21) rfl ?_
        exact L21 FU _ _ _ _ _ hM
  refine st_aload_n hR dX2_arrange_0 0 rfl rfl (pc' := 1) rfl ?_
  refine st_iload_n hR dX2_arrange_1 2 rfl rfl (pc' := 2) rfl ?_
  obtain ⟨jo_groups_1, hc_, hM⟩ := bd_e hM
  refine st_callV hR (k_X2_split hc_) cf_X2_22 (rm_le (Nat.le_of_ble_eq_true rfl) (Nat.le_of_ble_eq_true rfl)) [0] rfl rfl rfl 0 0 2 12 rfl rfl rfl rfl (rest := []) rfl (Nat.le_of_ble_eq_true rfl) dX2_arrange_2 (pc' := 5) rfl (Wn := [wX2 G q_jo jo_now jo_ahead jo_scrap jo_mostFarms jo_losses jo_known jo_found jo_foundMany jo_nights jo_farms jo_groups_1 jo_renumbered, wX9 G q_ah ah_mountain ah_night ah_g ah_flock ah_hunger ah_lean ah_fed ah_taken ah_pacts ah_levels ah_facts]) rfl ?_
  refine st_iconst hR dX2_arrange_5 (v := 0) rfl (pc' := 6) rfl ?_
  refine st_istore_n hR dX2_arrange_6 rfl (Nat.le_of_ble_eq_true rfl) [1, 2, 3, 0] (lv' := [(0, .ref (q_jo 0)), (1, .ref (q_ah 0)), (2, .int l2), (3, .int 0)]) rfl (pc' := 7) rfl ?_
  exact st_lv hR [0, 1, 3] rfl (L7 FU _ _ _ hM)
set_option maxHeartbeats 16000000 in
set_option maxRecDepth 100000 in
theorem k_X6_lookAt_j {l : Launch} {G : GG} {q_jo q_v q_ah q_sc q_mt q_fe q_go : Nat → Nat} {jo_mostFarms jo_foundMany jo_nights jo_farms v_night ah_night sc_bones sc_feudsInAll sc_bitten mt_farms mt_fences mt_shares mt_toothed fe_steps go_steps : Int32} {v_g ah_g : Int64} {jo_losses jo_known jo_found jo_groups jo_renumbered v_flock v_hunger v_lean v_fed v_taken v_pacts v_levels v_facts ah_flock ah_hunger ah_lean ah_fed ah_taken ah_pacts ah_levels ah_facts sc_kept sc_feuds sc_bites mt_flock mt_dogs mt_hunger mt_fenced mt_heights mt_pacts mt_partner mt_often fe_kinds fe_lefts fe_rights fe_values go_kinds go_lefts go_rights go_values : Nat → Int32} {mt_names : Nat → Int64} {ah_mountain : Nat} {l1 : Int32} {o_jo_losses : Nat → Int32} {o_jo_known : Nat → Int32} {o_jo_groups : Nat → Int32} {o_ah_mountain : Nat} {o_ah_night : Int32} {o_ah_g : Int64} {o_ah_flock : Nat → Int32} {o_ah_hunger : Nat → Int32} {o_ah_lean : Nat → Int32} {o_ah_fed : Nat → Int32} {o_ah_taken : Nat → Int32} {o_ah_pacts : Nat → Int32} {o_ah_levels : Nat → Int32} {o_ah_facts : Nat → Int32} {o_sc_kept : Nat → Int32} {o_sc_feuds : Nat → Int32} {o_sc_bones : Int32} {o_sc_feudsInAll : Int32} {o_fe_values : Nat → Int32} {o_go_values : Nat → Int32} (hM : f_X6_lookAt_j jo_nights jo_farms v_night v_g v_flock v_hunger v_lean v_fed v_taken v_pacts v_levels mt_farms mt_dogs mt_fenced mt_heights mt_partner fe_kinds fe_lefts fe_rights fe_steps go_kinds go_lefts go_rights go_steps jo_losses jo_known jo_groups ah_mountain ah_night ah_g ah_flock ah_hunger ah_lean ah_fed ah_taken ah_pacts ah_levels ah_facts sc_kept sc_feuds sc_bones sc_feudsInAll fe_values go_values (q_mt 0) l1 = some (o_jo_losses, o_jo_known, o_jo_groups, o_ah_mountain, o_ah_night, o_ah_g, o_ah_flock, o_ah_hunger, o_ah_lean, o_ah_fed, o_ah_taken, o_ah_pacts, o_ah_levels, o_ah_facts, o_sc_kept, o_sc_feuds, o_sc_bones, o_sc_feudsInAll, o_fe_values, o_go_values)) : MC l G yX6_lookAt cX6_lookAt 3 none (RM 4) [.ref (q_jo 0), .int l1] [wX2 G q_jo (q_v 0) (q_ah 0) (q_sc 0) jo_mostFarms jo_losses jo_known jo_found jo_foundMany jo_nights jo_farms jo_groups jo_renumbered, wX9 G q_v (q_mt 0) v_night v_g v_flock v_hunger v_lean v_fed v_taken v_pacts v_levels v_facts, wX9 G q_ah ah_mountain ah_night ah_g ah_flock ah_hunger ah_lean ah_fed ah_taken ah_pacts ah_levels ah_facts, wX0 G q_sc sc_kept sc_feuds sc_bites sc_bones sc_feudsInAll sc_bitten, wX5 G q_mt mt_farms mt_fences mt_shares mt_names mt_flock mt_dogs mt_hunger mt_fenced mt_heights mt_pacts mt_partner mt_often mt_toothed (q_fe 0) (q_go 0), wX3 G q_fe fe_kinds fe_lefts fe_rights fe_values fe_steps, wX3 G q_go go_kinds go_lefts go_rights go_values go_steps] none [wX2 G q_jo (q_v 0) (q_ah 0) (q_sc 0) jo_mostFarms o_jo_losses o_jo_known jo_found jo_foundMany jo_nights jo_farms o_jo_groups jo_renumbered, wX9 G q_v (q_mt 0) v_night v_g v_flock v_hunger v_lean v_fed v_taken v_pacts v_levels v_facts, wX9 G q_ah o_ah_mountain o_ah_night o_ah_g o_ah_flock o_ah_hunger o_ah_lean o_ah_fed o_ah_taken o_ah_pacts o_ah_levels o_ah_facts, wX0 G q_sc o_sc_kept o_sc_feuds sc_bites o_sc_bones o_sc_feudsInAll sc_bitten, wX5 G q_mt mt_farms mt_fences mt_shares mt_names mt_flock mt_dogs mt_hunger mt_fenced mt_heights mt_pacts mt_partner mt_often mt_toothed (q_fe 0) (q_go 0), wX3 G q_fe fe_kinds fe_lefts fe_rights o_fe_values fe_steps, wX3 G q_go go_kinds go_lefts go_rights o_go_values go_steps] := by
  refine MC.of pn_X6 (Nat.le_of_ble_eq_true rfl) (fun K hR hret => ?_)
  have hR : Rl l G RX6 cX6_lookAt 3 (RM 4) K := hR
  show K [wX2 G q_jo (q_v 0) (q_ah 0) (q_sc 0) jo_mostFarms jo_losses jo_known jo_found jo_foundMany jo_nights jo_farms jo_groups jo_renumbered, wX9 G q_v (q_mt 0) v_night v_g v_flock v_hunger v_lean v_fed v_taken v_pacts v_levels v_facts, wX9 G q_ah ah_mountain ah_night ah_g ah_flock ah_hunger ah_lean ah_fed ah_taken ah_pacts ah_levels ah_facts, wX0 G q_sc sc_kept sc_feuds sc_bites sc_bones sc_feudsInAll sc_bitten, wX5 G q_mt mt_farms mt_fences mt_shares mt_names mt_flock mt_dogs mt_hunger mt_fenced mt_heights mt_pacts mt_partner mt_often mt_toothed (q_fe 0) (q_go 0), wX3 G q_fe fe_kinds fe_lefts fe_rights fe_values fe_steps, wX3 G q_go go_kinds go_lefts go_rights go_values go_steps] [(0, .ref (q_jo 0)), (1, .int l1)] 0 []
  have L60 : ∀ (n60 : Nat) (jo_losses : Nat → Int32) (jo_known : Nat → Int32) (jo_groups : Nat → Int32) (ah_mountain : Nat) (ah_night : Int32) (ah_g : Int64) (ah_flock : Nat → Int32) (ah_hunger : Nat → Int32) (ah_lean : Nat → Int32) (ah_fed : Nat → Int32) (ah_taken : Nat → Int32) (ah_pacts : Nat → Int32) (ah_levels : Nat → Int32) (ah_facts : Nat → Int32) (sc_kept : Nat → Int32) (sc_feuds : Nat → Int32) (sc_bones : Int32) (sc_feudsInAll : Int32) (fe_values : Nat → Int32) (go_values : Nat → Int32) (l1 : Int32) (l2 : Int32), f_X6_lookAt_j_L60  jo_nights jo_farms v_night v_g v_flock v_hunger v_lean v_fed v_taken v_pacts v_levels mt_farms mt_dogs mt_fenced mt_heights mt_partner fe_kinds fe_lefts fe_rights fe_steps go_kinds go_lefts go_rights go_steps (q_mt 0) n60 jo_losses jo_known jo_groups ah_mountain ah_night ah_g ah_flock ah_hunger ah_lean ah_fed ah_taken ah_pacts ah_levels ah_facts sc_kept sc_feuds sc_bones sc_feudsInAll fe_values go_values l1 l2 = some (o_jo_losses, o_jo_known, o_jo_groups, o_ah_mountain, o_ah_night, o_ah_g, o_ah_flock, o_ah_hunger, o_ah_lean, o_ah_fed, o_ah_taken, o_ah_pacts, o_ah_levels, o_ah_facts, o_sc_kept, o_sc_feuds, o_sc_bones, o_sc_feudsInAll, o_fe_values, o_go_values) → K [wX2 G q_jo (q_v 0) (q_ah 0) (q_sc 0) jo_mostFarms jo_losses jo_known jo_found jo_foundMany jo_nights jo_farms jo_groups jo_renumbered, wX9 G q_v (q_mt 0) v_night v_g v_flock v_hunger v_lean v_fed v_taken v_pacts v_levels v_facts, wX9 G q_ah ah_mountain ah_night ah_g ah_flock ah_hunger ah_lean ah_fed ah_taken ah_pacts ah_levels ah_facts, wX0 G q_sc sc_kept sc_feuds sc_bites sc_bones sc_feudsInAll sc_bitten, wX5 G q_mt mt_farms mt_fences mt_shares mt_names mt_flock mt_dogs mt_hunger mt_fenced mt_heights mt_pacts mt_partner mt_often mt_toothed (q_fe 0) (q_go 0), wX3 G q_fe fe_kinds fe_lefts fe_rights fe_values fe_steps, wX3 G q_go go_kinds go_lefts go_rights go_values go_steps] [(0, .ref (q_jo 0)), (1, .int l1), (2, .int l2)] 60 [] := by
    intro n60
    induction n60 with
    | zero => intro jo_losses jo_known jo_groups ah_mountain ah_night ah_g ah_flock ah_hunger ah_lean ah_fed ah_taken ah_pacts ah_levels ah_facts sc_kept sc_feuds sc_bones sc_feudsInAll fe_values go_values l1 l2 hM; exact no_some hM
    | succ n60 ih60 =>
      intro jo_losses jo_known jo_groups ah_mountain ah_night ah_g ah_flock ah_hunger ah_lean ah_fed ah_taken ah_pacts ah_levels ah_facts sc_kept sc_feuds sc_bones sc_feudsInAll fe_values go_values l1 l2 hM
      have hM : f_X6_lookAt_j_L60b  (f_X6_lookAt_j_L60  jo_nights jo_farms v_night v_g v_flock v_hunger v_lean v_fed v_taken v_pacts v_levels mt_farms mt_dogs mt_fenced mt_heights mt_partner fe_kinds fe_lefts fe_rights fe_steps go_kinds go_lefts go_rights go_steps (q_mt 0) n60) jo_nights jo_farms v_night v_g v_flock v_hunger v_lean v_fed v_taken v_pacts v_levels mt_farms mt_dogs mt_fenced mt_heights mt_partner fe_kinds fe_lefts fe_rights fe_steps go_kinds go_lefts go_rights go_steps (q_mt 0) jo_losses jo_known jo_groups ah_mountain ah_night ah_g ah_flock ah_hunger ah_lean ah_fed ah_taken ah_pacts ah_levels ah_facts sc_kept sc_feuds sc_bones sc_feudsInAll fe_values go_values l1 l2 = some (o_jo_losses, o_jo_known, o_jo_groups, o_ah_mountain, o_ah_night, o_ah_g, o_ah_flock, o_ah_hunger, o_ah_lean, o_ah_fed, o_ah_taken, o_ah_pacts, o_ah_levels, o_ah_facts, o_sc_kept, o_sc_feuds, o_sc_bones, o_sc_feudsInAll, o_fe_values, o_go_values) := hM
      refine st_iload_n hR dX6_lookAt_60 2 rfl rfl (pc' := 61) rfl ?_
      refine st_aload_n hR dX6_lookAt_61 0 rfl rfl (pc' := 62) rfl ?_
      refine st_get hR dX6_lookAt_62 fg_X6_36_2_9 0 0 rfl rfl rfl (pc' := 65) rfl ?_
      refine st_icmp_ge hR dX6_lookAt_65 (tgt := 102) (by decide) (pc' := 68) rfl (fun c_ => ?_) (fun c_ => ?_)
      · have hM := it_t c_ hM
        refine st_aload_n hR dX6_lookAt_102 0 rfl rfl (pc' := 103) rfl ?_
        refine st_get hR dX6_lookAt_103 fg_X6_30_2_5 0 0 rfl rfl rfl (pc' := 106) rfl ?_
        refine st_iload_n hR dX6_lookAt_106 1 rfl rfl (pc' := 107) rfl ?_
        refine st_iconst hR dX6_lookAt_107 (v := 1) rfl (pc' := 108) rfl ?_
        obtain ⟨hin_, hM⟩ := g_in_e hM
        refine st_iast hR dX6_lookAt_108 0 2 rfl rfl hin_ (ix := (ix l1)) rfl (pc' := 109) rfl (fun jo_known_1 => [wX2 G q_jo (q_v 0) (q_ah 0) (q_sc 0) jo_mostFarms jo_losses jo_known_1 jo_found jo_foundMany jo_nights jo_farms jo_groups jo_renumbered, wX9 G q_v (q_mt 0) v_night v_g v_flock v_hunger v_lean v_fed v_taken v_pacts v_levels v_facts, wX9 G q_ah ah_mountain ah_night ah_g ah_flock ah_hunger ah_lean ah_fed ah_taken ah_pacts ah_levels ah_facts, wX0 G q_sc sc_kept sc_feuds sc_bites sc_bones sc_feudsInAll sc_bitten, wX5 G q_mt mt_farms mt_fences mt_shares mt_names mt_flock mt_dogs mt_hunger mt_fenced mt_heights mt_pacts mt_partner mt_often mt_toothed (q_fe 0) (q_go 0), wX3 G q_fe fe_kinds fe_lefts fe_rights fe_values fe_steps, wX3 G q_go go_kinds go_lefts go_rights go_values go_steps]) (fun _ => rfl) (fun jo_known_1 e_ => ?_)
        have hM := lt_e e_ hM
        cases hM
        exact hret _ _ dX6_lookAt_109 ro_v
      · have hM := it_f c_ hM
        refine st_aload_n hR dX6_lookAt_68 0 rfl rfl (pc' := 69) rfl ?_
        refine st_get hR dX6_lookAt_69 fg_X6_26_2_4 0 0 rfl rfl rfl (pc' := 72) rfl ?_
        refine st_iload_n hR dX6_lookAt_72 1 rfl rfl (pc' := 73) rfl ?_
        refine st_bipush hR dX6_lookAt_73 (v := 6) rfl (pc' := 75) rfl ?_
        refine st_imul hR dX6_lookAt_75 (pc' := 76) rfl ?_
        refine st_iload_n hR dX6_lookAt_76 2 rfl rfl (pc' := 77) rfl ?_
        refine st_iadd hR dX6_lookAt_77 (pc' := 78) rfl ?_
        refine st_aload_n hR dX6_lookAt_78 0 rfl rfl (pc' := 79) rfl ?_
        refine st_get hR dX6_lookAt_79 fg_X6_15_2_1 0 0 rfl rfl rfl (pc' := 82) rfl ?_
        refine st_iload_n hR dX6_lookAt_82 2 rfl rfl (pc' := 83) rfl ?_
        obtain ⟨r_1, hc_, hM⟩ := bd_e hM
        refine st_callV hR (k_X9_goneFrom hc_) cf_X6_76 (rm_le (Nat.le_of_ble_eq_true rfl) (Nat.le_of_ble_eq_true rfl)) [2] rfl rfl rfl 2 0 8 11 rfl rfl rfl rfl (rest := [.int ((l1 * 6) + l2), .ref (q_jo 1)]) rfl (Nat.le_of_ble_eq_true rfl) dX6_lookAt_83 (pc' := 86) rfl (Wn := [wX2 G q_jo (q_v 0) (q_ah 0) (q_sc 0) jo_mostFarms jo_losses jo_known jo_found jo_foundMany jo_nights jo_farms jo_groups jo_renumbered, wX9 G q_v (q_mt 0) v_night v_g v_flock v_hunger v_lean v_fed v_taken v_pacts v_levels v_facts, wX9 G q_ah ah_mountain ah_night ah_g ah_flock ah_hunger ah_lean ah_fed ah_taken ah_pacts ah_levels ah_facts, wX0 G q_sc sc_kept sc_feuds sc_bites sc_bones sc_feudsInAll sc_bitten, wX5 G q_mt mt_farms mt_fences mt_shares mt_names mt_flock mt_dogs mt_hunger mt_fenced mt_heights mt_pacts mt_partner mt_often mt_toothed (q_fe 0) (q_go 0), wX3 G q_fe fe_kinds fe_lefts fe_rights fe_values fe_steps, wX3 G q_go go_kinds go_lefts go_rights go_values go_steps]) rfl ?_
        refine st_aload_n hR dX6_lookAt_86 0 rfl rfl (pc' := 87) rfl ?_
        refine st_get hR dX6_lookAt_87 fg_X6_9_2_0 0 0 rfl rfl rfl (pc' := 90) rfl ?_
        refine st_iload_n hR dX6_lookAt_90 2 rfl rfl (pc' := 91) rfl ?_
        obtain ⟨r_2, hc_, hM⟩ := bd_e hM
        refine st_callV hR (k_X9_goneFrom hc_) cf_X6_76 (rm_le (Nat.le_of_ble_eq_true rfl) (Nat.le_of_ble_eq_true rfl)) [1] rfl rfl rfl 1 0 8 11 rfl rfl rfl rfl (rest := [.int r_1, .int ((l1 * 6) + l2), .ref (q_jo 1)]) rfl (Nat.le_of_ble_eq_true rfl) dX6_lookAt_91 (pc' := 94) rfl (Wn := [wX2 G q_jo (q_v 0) (q_ah 0) (q_sc 0) jo_mostFarms jo_losses jo_known jo_found jo_foundMany jo_nights jo_farms jo_groups jo_renumbered, wX9 G q_v (q_mt 0) v_night v_g v_flock v_hunger v_lean v_fed v_taken v_pacts v_levels v_facts, wX9 G q_ah ah_mountain ah_night ah_g ah_flock ah_hunger ah_lean ah_fed ah_taken ah_pacts ah_levels ah_facts, wX0 G q_sc sc_kept sc_feuds sc_bites sc_bones sc_feudsInAll sc_bitten, wX5 G q_mt mt_farms mt_fences mt_shares mt_names mt_flock mt_dogs mt_hunger mt_fenced mt_heights mt_pacts mt_partner mt_often mt_toothed (q_fe 0) (q_go 0), wX3 G q_fe fe_kinds fe_lefts fe_rights fe_values fe_steps, wX3 G q_go go_kinds go_lefts go_rights go_values go_steps]) rfl ?_
        refine st_isub hR dX6_lookAt_94 (pc' := 95) rfl ?_
        obtain ⟨hin_, hM⟩ := g_in_e hM
        refine st_iast hR dX6_lookAt_95 0 1 rfl rfl hin_ (ix := (ix ((l1 * 6) + l2))) rfl (pc' := 96) rfl (fun jo_losses_1 => [wX2 G q_jo (q_v 0) (q_ah 0) (q_sc 0) jo_mostFarms jo_losses_1 jo_known jo_found jo_foundMany jo_nights jo_farms jo_groups jo_renumbered, wX9 G q_v (q_mt 0) v_night v_g v_flock v_hunger v_lean v_fed v_taken v_pacts v_levels v_facts, wX9 G q_ah ah_mountain ah_night ah_g ah_flock ah_hunger ah_lean ah_fed ah_taken ah_pacts ah_levels ah_facts, wX0 G q_sc sc_kept sc_feuds sc_bites sc_bones sc_feudsInAll sc_bitten, wX5 G q_mt mt_farms mt_fences mt_shares mt_names mt_flock mt_dogs mt_hunger mt_fenced mt_heights mt_pacts mt_partner mt_often mt_toothed (q_fe 0) (q_go 0), wX3 G q_fe fe_kinds fe_lefts fe_rights fe_values fe_steps, wX3 G q_go go_kinds go_lefts go_rights go_values go_steps]) (fun _ => rfl) (fun jo_losses_1 e_ => ?_)
        have hM := lt_e e_ hM
        obtain ⟨l2_1, e_⟩ : ∃ y : Int32, y = l2 + 1 := ⟨_, rfl⟩
        refine st_iinc hR dX6_lookAt_96 (Nat.le_of_ble_eq_true rfl) 2 [1, 2, 0] (v := l2_1) rfl (by rw [e_]; rfl) (lv' := [(0, .ref (q_jo 0)), (1, .int l1), (2, .int l2_1)]) rfl (pc' := 99) rfl ?_
        have hM := lt_e e_ hM
        refine st_goto hR dX6_lookAt_99 (tgt := 60) (by decide) ?_
        exact ih60 _ _ _ _ _ _ _ _ _ _ _ _ _ _ _ _ _ _ _ _ _ _ hM
  refine st_iload_n hR dX6_lookAt_0 1 rfl rfl (pc' := 1) rfl ?_
  refine st_if_lt hR dX6_lookAt_1 (tgt := 22) (by decide) (pc' := 4) rfl (fun c_ => ?_) (fun c_ => ?_)
  · have hM := it_t c_ hM
    cases hM
    exact hret _ _ dX6_lookAt_22 ro_v
  · have hM := it_f c_ hM
    refine st_iload_n hR dX6_lookAt_4 1 rfl rfl (pc' := 5) rfl ?_
    refine st_aload_n hR dX6_lookAt_5 0 rfl rfl (pc' := 6) rfl ?_
    refine st_get hR dX6_lookAt_6 fg_X6_30_2_5 0 0 rfl rfl rfl (pc' := 9) rfl ?_
    refine st_alen hR dX6_lookAt_9 0 2 0 rfl rfl rfl (v := 120) rfl (pc' := 10) rfl ?_
    refine st_icmp_ge hR dX6_lookAt_10 (tgt := 22) (by decide) (pc' := 13) rfl (fun c_ => ?_) (fun c_ => ?_)
    · have hM := it_t c_ hM
      cases hM
      exact hret _ _ dX6_lookAt_22 ro_v
    · have hM := it_f c_ hM
      refine st_aload_n hR dX6_lookAt_13 0 rfl rfl (pc' := 14) rfl ?_
      refine st_get hR dX6_lookAt_14 fg_X6_30_2_5 0 0 rfl rfl rfl (pc' := 17) rfl ?_
      refine st_iload_n hR dX6_lookAt_17 1 rfl rfl (pc' := 18) rfl ?_
      obtain ⟨hin_, hM⟩ := g_in_e hM
      refine st_iald hR dX6_lookAt_18 0 2 rfl rfl hin_ (v := jo_known (ix l1)) rfl (pc' := 19) rfl ?_
      refine st_if_eq hR dX6_lookAt_19 (tgt := 23) (by decide) (pc' := 22) rfl (fun c_ => ?_) (fun c_ => ?_)
      · have hM := it_t c_ hM
        refine st_aload_n hR dX6_lookAt_23 0 rfl rfl (pc' := 24) rfl ?_
        refine st_get hR dX6_lookAt_24 fg_X6_15_2_1 0 0 rfl rfl rfl (pc' := 27) rfl ?_
        refine st_aload_n hR dX6_lookAt_27 0 rfl rfl (pc' := 28) rfl ?_
        refine st_get hR dX6_lookAt_28 fg_X6_9_2_0 0 0 rfl rfl rfl (pc' := 31) rfl ?_
        obtain ⟨⟨ah_night_1, ah_g_1, ah_flock_1, ah_hunger_1, ah_lean_1, ah_fed_1, ah_taken_1, ah_pacts_1, ah_levels_1⟩, hc_, hM⟩ := bd_e hM
        refine st_callV hR (k_X9_copyFrom hc_) cf_X6_64 (rm_le (Nat.le_of_ble_eq_true rfl) (Nat.le_of_ble_eq_true rfl)) [2, 1] rfl rfl rfl 2 0 8 11 rfl rfl rfl rfl (rest := []) rfl (Nat.le_of_ble_eq_true rfl) dX6_lookAt_31 (pc' := 34) rfl (Wn := [wX2 G q_jo (q_v 0) (q_ah 0) (q_sc 0) jo_mostFarms jo_losses jo_known jo_found jo_foundMany jo_nights jo_farms jo_groups jo_renumbered, wX9 G q_v (q_mt 0) v_night v_g v_flock v_hunger v_lean v_fed v_taken v_pacts v_levels v_facts, wX9 G q_ah (q_mt 0) ah_night_1 ah_g_1 ah_flock_1 ah_hunger_1 ah_lean_1 ah_fed_1 ah_taken_1 ah_pacts_1 ah_levels_1 ah_facts, wX0 G q_sc sc_kept sc_feuds sc_bites sc_bones sc_feudsInAll sc_bitten, wX5 G q_mt mt_farms mt_fences mt_shares mt_names mt_flock mt_dogs mt_hunger mt_fenced mt_heights mt_pacts mt_partner mt_often mt_toothed (q_fe 0) (q_go 0), wX3 G q_fe fe_kinds fe_lefts fe_rights fe_values fe_steps, wX3 G q_go go_kinds go_lefts go_rights go_values go_steps]) rfl ?_
        refine st_aload_n hR dX6_lookAt_34 0 rfl rfl (pc' := 35) rfl ?_
        refine st_aload_n hR dX6_lookAt_35 0 rfl rfl (pc' := 36) rfl ?_
        refine st_get hR dX6_lookAt_36 fg_X6_15_2_1 0 0 rfl rfl rfl (pc' := 39) rfl ?_
        refine st_iload_n hR dX6_lookAt_39 1 rfl rfl (pc' := 40) rfl ?_
        obtain ⟨⟨jo_groups_1, ah_pacts_2⟩, hc_, hM⟩ := bd_e hM
        refine st_callU hR (k_X2_arrange hc_) cu_X6_68_X2 (rm_le (Nat.le_of_ble_eq_true rfl) (Nat.le_of_ble_eq_true rfl)) [0, 2] rfl rfl rfl 0 0 2 12 rfl rfl rfl rfl (rest := []) rfl (Nat.le_of_ble_eq_true rfl) dX6_lookAt_40 (pc' := 43) rfl (Wn := [wX2 G q_jo (q_v 0) (q_ah 0) (q_sc 0) jo_mostFarms jo_losses jo_known jo_found jo_foundMany jo_nights jo_farms jo_groups_1 jo_renumbered, wX9 G q_v (q_mt 0) v_night v_g v_flock v_hunger v_lean v_fed v_taken v_pacts v_levels v_facts, wX9 G q_ah (q_mt 0) ah_night_1 ah_g_1 ah_flock_1 ah_hunger_1 ah_lean_1 ah_fed_1 ah_taken_1 ah_pacts_2 ah_levels_1 ah_facts, wX0 G q_sc sc_kept sc_feuds sc_bites sc_bones sc_feudsInAll sc_bitten, wX5 G q_mt mt_farms mt_fences mt_shares mt_names mt_flock mt_dogs mt_hunger mt_fenced mt_heights mt_pacts mt_partner mt_often mt_toothed (q_fe 0) (q_go 0), wX3 G q_fe fe_kinds fe_lefts fe_rights fe_values fe_steps, wX3 G q_go go_kinds go_lefts go_rights go_values go_steps]) rfl ?_
        refine st_aload_n hR dX6_lookAt_43 0 rfl rfl (pc' := 44) rfl ?_
        refine st_get hR dX6_lookAt_44 fg_X6_15_2_1 0 0 rfl rfl rfl (pc' := 47) rfl ?_
        refine st_aload_n hR dX6_lookAt_47 0 rfl rfl (pc' := 48) rfl ?_
        refine st_get hR dX6_lookAt_48 fg_X6_18_2_2 0 0 rfl rfl rfl (pc' := 51) rfl ?_
        refine st_aload_n hR dX6_lookAt_51 0 rfl rfl (pc' := 52) rfl ?_
        refine st_get hR dX6_lookAt_52 fg_X6_39_2_8 0 0 rfl rfl rfl (pc' := 55) rfl ?_
        obtain ⟨⟨ah_night_2, ah_g_2, ah_flock_2, ah_lean_2, ah_fed_2, ah_taken_2, ah_facts_1, fe_values_1, go_values_1, sc_kept_1, sc_feuds_1, sc_bones_1, sc_feudsInAll_1⟩, hc_, hM⟩ := bd_e hM
        refine st_callV hR (k_X9_run hc_) cf_X6_72 (rm_le (Nat.le_of_ble_eq_true rfl) (Nat.le_of_ble_eq_true rfl)) [2, 4, 5, 6, 3] rfl rfl rfl 2 0 8 11 rfl rfl rfl rfl (rest := []) rfl (Nat.le_of_ble_eq_true rfl) dX6_lookAt_55 (pc' := 58) rfl (Wn := [wX2 G q_jo (q_v 0) (q_ah 0) (q_sc 0) jo_mostFarms jo_losses jo_known jo_found jo_foundMany jo_nights jo_farms jo_groups_1 jo_renumbered, wX9 G q_v (q_mt 0) v_night v_g v_flock v_hunger v_lean v_fed v_taken v_pacts v_levels v_facts, wX9 G q_ah (q_mt 0) ah_night_2 ah_g_2 ah_flock_2 ah_hunger_1 ah_lean_2 ah_fed_2 ah_taken_2 ah_pacts_2 ah_levels_1 ah_facts_1, wX0 G q_sc sc_kept_1 sc_feuds_1 sc_bites sc_bones_1 sc_feudsInAll_1 sc_bitten, wX5 G q_mt mt_farms mt_fences mt_shares mt_names mt_flock mt_dogs mt_hunger mt_fenced mt_heights mt_pacts mt_partner mt_often mt_toothed (q_fe 0) (q_go 0), wX3 G q_fe fe_kinds fe_lefts fe_rights fe_values_1 fe_steps, wX3 G q_go go_kinds go_lefts go_rights go_values_1 go_steps]) rfl ?_
        refine st_iconst hR dX6_lookAt_58 (v := 0) rfl (pc' := 59) rfl ?_
        refine st_istore_n hR dX6_lookAt_59 rfl (Nat.le_of_ble_eq_true rfl) [1, 2, 0] (lv' := [(0, .ref (q_jo 0)), (1, .int l1), (2, .int 0)]) rfl (pc' := 60) rfl ?_
        exact L60 FU _ _ _ _ _ _ _ _ _ _ _ _ _ _ _ _ _ _ _ _ _ _ hM
      · have hM := it_f c_ hM
        cases hM
        exact hret _ _ dX6_lookAt_22 ro_v
set_option maxHeartbeats 16000000 in
set_option maxRecDepth 100000 in
theorem k_X2_rows {l : Launch} {G : GG} {q_jo : Nat → Nat} {jo_mostFarms jo_foundMany jo_nights jo_farms : Int32} {jo_losses jo_known jo_found jo_groups jo_renumbered : Nat → Int32} {jo_now jo_ahead jo_scrap : Nat}  {o_r : Int32} (hM : f_X2_rows jo_farms = some o_r) : MC l G yX2_rows cX2_rows 3 (some .int) (RM 1) [.ref (q_jo 0)] [wX2 G q_jo jo_now jo_ahead jo_scrap jo_mostFarms jo_losses jo_known jo_found jo_foundMany jo_nights jo_farms jo_groups jo_renumbered] (some (.int o_r)) [wX2 G q_jo jo_now jo_ahead jo_scrap jo_mostFarms jo_losses jo_known jo_found jo_foundMany jo_nights jo_farms jo_groups jo_renumbered] := by
  refine MC.of pn_X2 (Nat.le_of_ble_eq_true rfl) (fun K hR hret => ?_)
  have hR : Rl l G RX2 cX2_rows 3 (RM 1) K := hR
  show K [wX2 G q_jo jo_now jo_ahead jo_scrap jo_mostFarms jo_losses jo_known jo_found jo_foundMany jo_nights jo_farms jo_groups jo_renumbered] [(0, .ref (q_jo 0))] 0 []
  have L4 : ∀ (n4 : Nat) (l1 : Int32) (l2 : Int32), f_X2_rows_L4  jo_farms n4 l1 l2 = some o_r → K [wX2 G q_jo jo_now jo_ahead jo_scrap jo_mostFarms jo_losses jo_known jo_found jo_foundMany jo_nights jo_farms jo_groups jo_renumbered] [(0, .ref (q_jo 0)), (1, .int l1), (2, .int l2)] 4 [] := by
    intro n4
    induction n4 with
    | zero => intro l1 l2 hM; exact no_some hM
    | succ n4 ih4 =>
      intro l1 l2 hM
      have hM : f_X2_rows_L4b  (f_X2_rows_L4  jo_farms n4) jo_farms l1 l2 = some o_r := hM
      refine st_iload_n hR dX2_rows_4 2 rfl rfl (pc' := 5) rfl ?_
      refine st_aload_n hR dX2_rows_5 0 rfl rfl (pc' := 6) rfl ?_
      obtain ⟨r_1, hc_, hM⟩ := bd_e hM
      refine st_callU hR (k_X6_farms_j hc_) cu_X2_18_X2 (rm_le (Nat.le_of_ble_eq_true rfl) (Nat.le_of_ble_eq_true rfl)) [0] rfl rfl rfl 0 0 2 12 rfl rfl rfl rfl (rest := [.int l2]) rfl (Nat.le_of_ble_eq_true rfl) dX2_rows_6 (pc' := 9) rfl (Wn := [wX2 G q_jo jo_now jo_ahead jo_scrap jo_mostFarms jo_losses jo_known jo_found jo_foundMany jo_nights jo_farms jo_groups jo_renumbered]) rfl ?_
      refine st_icmp_ge hR dX2_rows_9 (tgt := 24) (by decide) (pc' := 12) rfl (fun c_ => ?_) (fun c_ => ?_)
      · have hM := it_t c_ hM
        refine st_iload_n hR dX2_rows_24 1 rfl rfl (pc' := 25) rfl ?_
        cases hM
        exact hret _ _ dX2_rows_25 (ro_i _)
      · have hM := it_f c_ hM
        refine st_iload_n hR dX2_rows_12 1 rfl rfl (pc' := 13) rfl ?_
        refine st_iload_n hR dX2_rows_13 2 rfl rfl (pc' := 14) rfl ?_
        refine st_iconst hR dX2_rows_14 (v := 1) rfl (pc' := 15) rfl ?_
        refine st_iadd hR dX2_rows_15 (pc' := 16) rfl ?_
        refine st_imul hR dX2_rows_16 (pc' := 17) rfl ?_
        refine st_topi (fun l1_1 e_ => ?_)
        have hM := lt_e e_ hM
        refine st_istore_n hR dX2_rows_17 rfl (Nat.le_of_ble_eq_true rfl) [1, 0, 2] (lv' := [(0, .ref (q_jo 0)), (1, .int l1_1), (2, .int l2)]) rfl (pc' := 18) rfl ?_
        obtain ⟨l2_1, e_⟩ : ∃ y : Int32, y = l2 + 1 := ⟨_, rfl⟩
        refine st_iinc hR dX2_rows_18 (Nat.le_of_ble_eq_true rfl) 2 [1, 2, 0] (v := l2_1) rfl (by rw [e_]; rfl) (lv' := [(0, .ref (q_jo 0)), (1, .int l1_1), (2, .int l2_1)]) rfl (pc' := 21) rfl ?_
        have hM := lt_e e_ hM
        refine st_goto hR dX2_rows_21 (tgt := 4) (by decide) ?_
        exact ih4 _ _ hM
  refine st_iconst hR dX2_rows_0 (v := 1) rfl (pc' := 1) rfl ?_
  refine st_istore_n hR dX2_rows_1 rfl (Nat.le_of_ble_eq_true rfl) [1, 0] (lv' := [(0, .ref (q_jo 0)), (1, .int 1)]) rfl (pc' := 2) rfl ?_
  refine st_iconst hR dX2_rows_2 (v := 1) rfl (pc' := 3) rfl ?_
  refine st_istore_n hR dX2_rows_3 rfl (Nat.le_of_ble_eq_true rfl) [1, 2, 0] (lv' := [(0, .ref (q_jo 0)), (1, .int 1), (2, .int 1)]) rfl (pc' := 4) rfl ?_
  exact L4 FU _ _ hM
set_option maxHeartbeats 16000000 in
set_option maxRecDepth 100000 in
theorem k_X2_isRow {l : Launch} {G : GG} {q_jo : Nat → Nat} {jo_mostFarms jo_foundMany jo_nights jo_farms : Int32} {jo_losses jo_known jo_found jo_groups jo_renumbered : Nat → Int32} {jo_now jo_ahead jo_scrap : Nat} {l1 : Int32} {o_r : Int32} {o_jo_groups : Nat → Int32} (hM : f_X2_isRow jo_farms jo_groups l1 = some (o_r, o_jo_groups)) : MC l G yX2_isRow cX2_isRow 4 (some .boolean) (RM 2) [.ref (q_jo 0), .int l1] [wX2 G q_jo jo_now jo_ahead jo_scrap jo_mostFarms jo_losses jo_known jo_found jo_foundMany jo_nights jo_farms jo_groups jo_renumbered] (some (.int o_r)) [wX2 G q_jo jo_now jo_ahead jo_scrap jo_mostFarms jo_losses jo_known jo_found jo_foundMany jo_nights jo_farms o_jo_groups jo_renumbered] := by
  refine MC.of pn_X2 (Nat.le_of_ble_eq_true rfl) (fun K hR hret => ?_)
  have hR : Rl l G RX2 cX2_isRow 4 (RM 2) K := hR
  show K [wX2 G q_jo jo_now jo_ahead jo_scrap jo_mostFarms jo_losses jo_known jo_found jo_foundMany jo_nights jo_farms jo_groups jo_renumbered] [(0, .ref (q_jo 0)), (1, .int l1)] 0 []
  have L9 : ∀ (n9 : Nat) (jo_groups : Nat → Int32) (l2 : Int32) (l3 : Int32), f_X2_isRow_L9  jo_farms n9 jo_groups l2 l3 = some (o_r, o_jo_groups) → K [wX2 G q_jo jo_now jo_ahead jo_scrap jo_mostFarms jo_losses jo_known jo_found jo_foundMany jo_nights jo_farms jo_groups jo_renumbered] [(0, .ref (q_jo 0)), (2, .int l2), (3, .int l3)] 9 [] := by
    intro n9
    induction n9 with
    | zero => intro jo_groups l2 l3 hM; exact no_some hM
    | succ n9 ih9 =>
      have J42 : ∀ (jo_groups : Nat → Int32) (l2 : Int32) (l3 : Int32), f_X2_isRow_B42  (f_X2_isRow_L9  jo_farms n9) jo_farms jo_groups l2 l3 = some (o_r, o_jo_groups) → K [wX2 G q_jo jo_now jo_ahead jo_scrap jo_mostFarms jo_losses jo_known jo_found jo_foundMany jo_nights jo_farms jo_groups jo_renumbered] [(0, .ref (q_jo 0)), (2, .int l2), (3, .int l3)] 42 [] := by
        intro jo_groups l2 l3 hM
        obtain ⟨l3_1, e_⟩ : ∃ y : Int32, y = l3 + 1 := ⟨_, rfl⟩
        refine st_iinc hR dX2_isRow_42 (Nat.le_of_ble_eq_true rfl) 2 [1, 2, 0] (v := l3_1) rfl (by rw [e_]; rfl) (lv' := [(0, .ref (q_jo 0)), (2, .int l2), (3, .int l3_1)]) rfl (pc' := 45) rfl ?_
        have hM := lt_e e_ hM
        refine st_goto hR dX2_isRow_45 (tgt := 9) (by decide) ?_
        exact ih9 _ _ _ hM
      intro jo_groups l2 l3 hM
      have hM : f_X2_isRow_L9b  (f_X2_isRow_L9  jo_farms n9) jo_farms jo_groups l2 l3 = some (o_r, o_jo_groups) := hM
      refine st_iload_n hR dX2_isRow_9 2 rfl rfl (pc' := 10) rfl ?_
      refine st_aload_n hR dX2_isRow_10 0 rfl rfl (pc' := 11) rfl ?_
      obtain ⟨r_1, hc_, hM⟩ := bd_e hM
      refine st_callU hR (k_X6_farms_j hc_) cu_X2_18_X2 (rm_le (Nat.le_of_ble_eq_true rfl) (Nat.le_of_ble_eq_true rfl)) [0] rfl rfl rfl 0 0 2 12 rfl rfl rfl rfl (rest := [.int l3]) rfl (Nat.le_of_ble_eq_true rfl) dX2_isRow_11 (pc' := 14) rfl (Wn := [wX2 G q_jo jo_now jo_ahead jo_scrap jo_mostFarms jo_losses jo_known jo_found jo_foundMany jo_nights jo_farms jo_groups jo_renumbered]) rfl ?_
      refine st_icmp_ge hR dX2_isRow_14 (tgt := 48) (by decide) (pc' := 17) rfl (fun c_ => ?_) (fun c_ => ?_)
      · have hM := it_t c_ hM
        refine st_iconst hR dX2_isRow_48 (v := 1) rfl (pc' := 49) rfl ?_
        cases hM
        exact hret _ _ dX2_isRow_49 (ro_z (Or.inr rfl))
      · have hM := it_f c_ hM
        refine st_aload_n hR dX2_isRow_17 0 rfl rfl (pc' := 18) rfl ?_
        refine st_get hR dX2_isRow_18 fg_X2_11_2_10 0 0 rfl rfl rfl (pc' := 21) rfl ?_
        refine st_iload_n hR dX2_isRow_21 2 rfl rfl (pc' := 22) rfl ?_
        obtain ⟨hin_, hM⟩ := g_in_e hM
        refine st_iald hR dX2_isRow_22 0 4 rfl rfl hin_ (v := jo_groups (ix l3)) rfl (pc' := 23) rfl ?_
        refine st_iload_n hR dX2_isRow_23 1 rfl rfl (pc' := 24) rfl ?_
        refine st_icmp_le hR dX2_isRow_24 (tgt := 29) (by decide) (pc' := 27) rfl (fun c_ => ?_) (fun c_ => ?_)
        · have hM := it_t c_ hM
          refine st_aload_n hR dX2_isRow_29 0 rfl rfl (pc' := 30) rfl ?_
          refine st_get hR dX2_isRow_30 fg_X2_11_2_10 0 0 rfl rfl rfl (pc' := 33) rfl ?_
          refine st_iload_n hR dX2_isRow_33 2 rfl rfl (pc' := 34) rfl ?_
          obtain ⟨hin_, hM⟩ := g_in_e hM
          refine st_iald hR dX2_isRow_34 0 4 rfl rfl hin_ (v := jo_groups (ix l3)) rfl (pc' := 35) rfl ?_
          refine st_iload_n hR dX2_isRow_35 1 rfl rfl (pc' := 36) rfl ?_
          refine st_icmp_ne hR dX2_isRow_36 (tgt := 42) (by decide) (pc' := 39) rfl (fun c_ => ?_) (fun c_ => ?_)
          · have hM := it_f c_ hM
            exact J42 _ _ _ hM
          · have hM := it_t c_ hM
            obtain ⟨l2_1, e_⟩ : ∃ y : Int32, y = l2 + 1 := ⟨_, rfl⟩
            refine st_iinc hR dX2_isRow_39 (Nat.le_of_ble_eq_true rfl) 1 [1, 0, 2] (v := l2_1) rfl (by rw [e_]; rfl) (lv' := [(0, .ref (q_jo 0)), (2, .int l2_1), (3, .int l3)]) rfl (pc' := 42) rfl ?_
            have hM := lt_e e_ hM
            exact J42 _ _ _ hM
        · have hM := it_f c_ hM
          refine st_iconst hR dX2_isRow_27 (v := 0) rfl (pc' := 28) rfl ?_
          cases hM
          exact hret _ _ dX2_isRow_28 (ro_z (Or.inl rfl))
  refine st_aload_n hR dX2_isRow_0 0 rfl rfl (pc' := 1) rfl ?_
  refine st_iload_n hR dX2_isRow_1 1 rfl rfl (pc' := 2) rfl ?_
  obtain ⟨jo_groups_1, hc_, hM⟩ := bd_e hM
  refine st_callV hR (k_X2_split hc_) cf_X2_22 (rm_le (Nat.le_of_ble_eq_true rfl) (Nat.le_of_ble_eq_true rfl)) [0] rfl rfl rfl 0 0 2 12 rfl rfl rfl rfl (rest := []) rfl (Nat.le_of_ble_eq_true rfl) dX2_isRow_2 (pc' := 5) rfl (Wn := [wX2 G q_jo jo_now jo_ahead jo_scrap jo_mostFarms jo_losses jo_known jo_found jo_foundMany jo_nights jo_farms jo_groups_1 jo_renumbered]) rfl ?_
  refine st_iconst hR dX2_isRow_5 (v := 0) rfl (pc' := 6) rfl ?_
  refine st_istore_n hR dX2_isRow_6 rfl (Nat.le_of_ble_eq_true rfl) [1, 2, 0] (lv' := [(0, .ref (q_jo 0)), (1, .int l1), (2, .int 0)]) rfl (pc' := 7) rfl ?_
  refine st_iconst hR dX2_isRow_7 (v := 0) rfl (pc' := 8) rfl ?_
  refine st_istore_n hR dX2_isRow_8 rfl (Nat.le_of_ble_eq_true rfl) [1, 2, 3, 0] (lv' := [(0, .ref (q_jo 0)), (1, .int l1), (2, .int 0), (3, .int 0)]) rfl (pc' := 9) rfl ?_
  exact st_lv hR [0, 2, 3] rfl (L9 FU _ _ _ hM)
set_option maxHeartbeats 16000000 in
set_option maxRecDepth 100000 in
theorem k_X2_rowWithout {l : Launch} {G : GG} {q_jo : Nat → Nat} {jo_mostFarms jo_foundMany jo_nights jo_farms : Int32} {jo_losses jo_known jo_found jo_groups jo_renumbered : Nat → Int32} {jo_now jo_ahead jo_scrap : Nat} {l1 : Int32} {o_r : Int32} {o_jo_renumbered : Nat → Int32} (hM : f_X2_rowWithout jo_farms jo_groups jo_renumbered l1 = some (o_r, o_jo_renumbered)) : MC l G yX2_rowWithout cX2_rowWithout 6 (some .int) (RM 1) [.ref (q_jo 0), .int l1] [wX2 G q_jo jo_now jo_ahead jo_scrap jo_mostFarms jo_losses jo_known jo_found jo_foundMany jo_nights jo_farms jo_groups jo_renumbered] (some (.int o_r)) [wX2 G q_jo jo_now jo_ahead jo_scrap jo_mostFarms jo_losses jo_known jo_found jo_foundMany jo_nights jo_farms jo_groups o_jo_renumbered] := by
  refine MC.of pn_X2 (Nat.le_of_ble_eq_true rfl) (fun K hR hret => ?_)
  have hR : Rl l G RX2 cX2_rowWithout 6 (RM 1) K := hR
  show K [wX2 G q_jo jo_now jo_ahead jo_scrap jo_mostFarms jo_losses jo_known jo_found jo_foundMany jo_nights jo_farms jo_groups jo_renumbered] [(0, .ref (q_jo 0)), (1, .int l1)] 0 []
  have L15 : ∀ (n15 : Nat) (jo_renumbered : Nat → Int32) (l1 : Int32) (l2 : Int32) (l3 : Int32) (l4 : Int32), f_X2_rowWithout_L15  jo_farms jo_groups n15 jo_renumbered l1 l2 l3 l4 = some (o_r, o_jo_renumbered) → K [wX2 G q_jo jo_now jo_ahead jo_scrap jo_mostFarms jo_losses jo_known jo_found jo_foundMany jo_nights jo_farms jo_groups jo_renumbered] [(0, .ref (q_jo 0)), (1, .int l1), (2, .int l2), (3, .int l3), (4, .int l4)] 15 [] := by
    intro n15
    induction n15 with
    | zero => intro jo_renumbered l1 l2 l3 l4 hM; exact no_some hM
    | succ n15 ih15 =>
      have J69 : ∀ (jo_renumbered : Nat → Int32) (l1 : Int32) (l2 : Int32) (l3 : Int32) (l4 : Int32) (l5 : Int32), f_X2_rowWithout_B69  (f_X2_rowWithout_L15  jo_farms jo_groups n15) jo_farms jo_groups jo_renumbered l1 l2 l3 l4 l5 = some (o_r, o_jo_renumbered) → K [wX2 G q_jo jo_now jo_ahead jo_scrap jo_mostFarms jo_losses jo_known jo_found jo_foundMany jo_nights jo_farms jo_groups jo_renumbered] [(0, .ref (q_jo 0)), (1, .int l1), (2, .int l2), (3, .int l3), (4, .int l4), (5, .int l5)] 69 [] := by
        intro jo_renumbered l1 l2 l3 l4 l5 hM
        refine st_iload_n hR dX2_rowWithout_69 2 rfl rfl (pc' := 70) rfl ?_
        refine st_iload hR dX2_rowWithout_70 4 rfl (pc' := 72) rfl ?_
        refine st_iconst hR dX2_rowWithout_72 (v := 1) rfl (pc' := 73) rfl ?_
        refine st_iadd hR dX2_rowWithout_73 (pc' := 74) rfl ?_
        refine st_imul hR dX2_rowWithout_74 (pc' := 75) rfl ?_
        refine st_aload_n hR dX2_rowWithout_75 0 rfl rfl (pc' := 76) rfl ?_
        refine st_get hR dX2_rowWithout_76 fg_X2_15_2_11 0 0 rfl rfl rfl (pc' := 79) rfl ?_
        refine st_iload hR dX2_rowWithout_79 5 rfl (pc' := 81) rfl ?_
        obtain ⟨hin_, hM⟩ := g_in_e hM
        refine st_iald hR dX2_rowWithout_81 0 5 rfl rfl hin_ (v := jo_renumbered (ix l5)) rfl (pc' := 82) rfl ?_
        refine st_iadd hR dX2_rowWithout_82 (pc' := 83) rfl ?_
        refine st_topi (fun l2_1 e_ => ?_)
        have hM := lt_e e_ hM
        refine st_istore_n hR dX2_rowWithout_83 rfl (Nat.le_of_ble_eq_true rfl) [1, 2, 0, 3, 4, 5] (lv' := [(0, .ref (q_jo 0)), (1, .int l1), (2, .int l2_1), (3, .int l3), (4, .int l4), (5, .int l5)]) rfl (pc' := 84) rfl ?_
        obtain ⟨l4_1, e_⟩ : ∃ y : Int32, y = l4 + 1 := ⟨_, rfl⟩
        refine st_iinc hR dX2_rowWithout_84 (Nat.le_of_ble_eq_true rfl) 4 [1, 2, 3, 4, 0, 5] (v := l4_1) rfl (by rw [e_]; rfl) (lv' := [(0, .ref (q_jo 0)), (1, .int l1), (2, .int l2_1), (3, .int l3), (4, .int l4_1), (5, .int l5)]) rfl (pc' := 87) rfl ?_
        have hM := lt_e e_ hM
        refine st_goto hR dX2_rowWithout_87 (tgt := 15) (by decide) ?_
        exact st_lv hR [0, 1, 2, 3, 4] rfl (ih15 _ _ _ _ _ hM)
      have J45 : ∀ (jo_renumbered : Nat → Int32) (l1 : Int32) (l2 : Int32) (l3 : Int32) (l4 : Int32) (s0 : Int32), f_X2_rowWithout_B45  (f_X2_rowWithout_L15  jo_farms jo_groups n15) jo_farms jo_groups jo_renumbered l1 l2 l3 l4 s0 = some (o_r, o_jo_renumbered) → K [wX2 G q_jo jo_now jo_ahead jo_scrap jo_mostFarms jo_losses jo_known jo_found jo_foundMany jo_nights jo_farms jo_groups jo_renumbered] [(0, .ref (q_jo 0)), (1, .int l1), (2, .int l2), (3, .int l3), (4, .int l4)] 45 [.int s0] := by
        intro jo_renumbered l1 l2 l3 l4 s0 hM
        refine st_istore hR dX2_rowWithout_45 (Nat.le_of_ble_eq_true rfl) [1, 2, 3, 4, 5, 0] (lv' := [(0, .ref (q_jo 0)), (1, .int l1), (2, .int l2), (3, .int l3), (4, .int l4), (5, .int s0)]) rfl (pc' := 47) rfl ?_
        refine st_aload_n hR dX2_rowWithout_47 0 rfl rfl (pc' := 48) rfl ?_
        refine st_get hR dX2_rowWithout_48 fg_X2_15_2_11 0 0 rfl rfl rfl (pc' := 51) rfl ?_
        refine st_iload hR dX2_rowWithout_51 5 rfl (pc' := 53) rfl ?_
        obtain ⟨hin_, hM⟩ := g_in_e hM
        refine st_iald hR dX2_rowWithout_53 0 5 rfl rfl hin_ (v := jo_renumbered (ix s0)) rfl (pc' := 54) rfl ?_
        refine st_iconst hR dX2_rowWithout_54 (v := (-1)) (by decide) (pc' := 55) rfl ?_
        refine st_icmp_ne hR dX2_rowWithout_55 (tgt := 69) (by decide) (pc' := 58) rfl (fun c_ => ?_) (fun c_ => ?_)
        · have hM := it_f c_ hM
          exact J69 _ _ _ _ _ _ hM
        · have hM := it_t c_ hM
          refine st_aload_n hR dX2_rowWithout_58 0 rfl rfl (pc' := 59) rfl ?_
          refine st_get hR dX2_rowWithout_59 fg_X2_15_2_11 0 0 rfl rfl rfl (pc' := 62) rfl ?_
          refine st_iload hR dX2_rowWithout_62 5 rfl (pc' := 64) rfl ?_
          refine st_iload_n hR dX2_rowWithout_64 3 rfl rfl (pc' := 65) rfl ?_
          obtain ⟨hin_, hM⟩ := g_in_e hM
          refine st_iast hR dX2_rowWithout_65 0 5 rfl rfl hin_ (ix := (ix s0)) rfl (pc' := 66) rfl (fun jo_renumbered_1 => [wX2 G q_jo jo_now jo_ahead jo_scrap jo_mostFarms jo_losses jo_known jo_found jo_foundMany jo_nights jo_farms jo_groups jo_renumbered_1]) (fun _ => rfl) (fun jo_renumbered_1 e_ => ?_)
          have hM := lt_e e_ hM
          obtain ⟨l3_1, e_⟩ : ∃ y : Int32, y = l3 + 1 := ⟨_, rfl⟩
          refine st_iinc hR dX2_rowWithout_66 (Nat.le_of_ble_eq_true rfl) 3 [1, 2, 3, 0, 4, 5] (v := l3_1) rfl (by rw [e_]; rfl) (lv' := [(0, .ref (q_jo 0)), (1, .int l1), (2, .int l2), (3, .int l3_1), (4, .int l4), (5, .int s0)]) rfl (pc' := 69) rfl ?_
          have hM := lt_e e_ hM
          exact J69 _ _ _ _ _ _ hM
      intro jo_renumbered l1 l2 l3 l4 hM
      have hM : f_X2_rowWithout_L15b  (f_X2_rowWithout_L15  jo_farms jo_groups n15) jo_farms jo_groups jo_renumbered l1 l2 l3 l4 = some (o_r, o_jo_renumbered) := hM
      refine st_iload hR dX2_rowWithout_15 4 rfl (pc' := 17) rfl ?_
      refine st_aload_n hR dX2_rowWithout_17 0 rfl rfl (pc' := 18) rfl ?_
      obtain ⟨r_1, hc_, hM⟩ := bd_e hM
      refine st_callU hR (k_X6_farms_j hc_) cu_X2_18_X2 (rm_le (Nat.le_of_ble_eq_true rfl) (Nat.le_of_ble_eq_true rfl)) [0] rfl rfl rfl 0 0 2 12 rfl rfl rfl rfl (rest := [.int l4]) rfl (Nat.le_of_ble_eq_true rfl) dX2_rowWithout_18 (pc' := 21) rfl (Wn := [wX2 G q_jo jo_now jo_ahead jo_scrap jo_mostFarms jo_losses jo_known jo_found jo_foundMany jo_nights jo_farms jo_groups jo_renumbered]) rfl ?_
      refine st_icmp_ge hR dX2_rowWithout_21 (tgt := 90) (by decide) (pc' := 24) rfl (fun c_ => ?_) (fun c_ => ?_)
      · have hM := it_t c_ hM
        refine st_iload_n hR dX2_rowWithout_90 2 rfl rfl (pc' := 91) rfl ?_
        cases hM
        exact hret _ _ dX2_rowWithout_91 (ro_i _)
      · have hM := it_f c_ hM
        refine st_iload_n hR dX2_rowWithout_24 1 rfl rfl (pc' := 25) rfl ?_
        refine st_iload hR dX2_rowWithout_25 4 rfl (pc' := 27) rfl ?_
        refine st_ishr hR dX2_rowWithout_27 (pc' := 28) rfl ?_
        refine st_iconst hR dX2_rowWithout_28 (v := 1) rfl (pc' := 29) rfl ?_
        refine st_iand hR dX2_rowWithout_29 (pc' := 30) rfl ?_
        refine st_iconst hR dX2_rowWithout_30 (v := 1) rfl (pc' := 31) rfl ?_
        refine st_icmp_ne hR dX2_rowWithout_31 (tgt := 38) (by decide) (pc' := 34) rfl (fun c_ => ?_) (fun c_ => ?_)
        · have hM := it_f c_ hM
          refine st_aload_n hR dX2_rowWithout_38 0 rfl rfl (pc' := 39) rfl ?_
          refine st_get hR dX2_rowWithout_39 fg_X2_11_2_10 0 0 rfl rfl rfl (pc' := 42) rfl ?_
          refine st_iload hR dX2_rowWithout_42 4 rfl (pc' := 44) rfl ?_
          obtain ⟨hin_, hM⟩ := g_in_e hM
          refine st_iald hR dX2_rowWithout_44 0 4 rfl rfl hin_ (v := jo_groups (ix l4)) rfl (pc' := 45) rfl ?_
          exact J45 _ _ _ _ _ _ hM
        · have hM := it_t c_ hM
          refine st_iconst hR dX2_rowWithout_34 (v := 5) rfl (pc' := 35) rfl ?_
          refine st_goto hR dX2_rowWithout_35 (tgt := 45) (by decide) ?_
          exact J45 _ _ _ _ _ _ hM
  refine st_aload_n hR dX2_rowWithout_0 0 rfl rfl (pc' := 1) rfl ?_
  refine st_get hR dX2_rowWithout_1 fg_X2_15_2_11 0 0 rfl rfl rfl (pc' := 4) rfl ?_
  refine st_iconst hR dX2_rowWithout_4 (v := (-1)) (by decide) (pc' := 5) rfl ?_
  refine st_fill hR dX2_rowWithout_5 ff_X2_43 (Nat.le_of_ble_eq_true rfl) (Nat.le_of_ble_eq_true rfl) 0 5 rfl rfl (Nat.le_of_ble_eq_true rfl) (rest := []) (Nat.le_of_ble_eq_true rfl) (pc' := 8) rfl (fun jo_renumbered_1 => [wX2 G q_jo jo_now jo_ahead jo_scrap jo_mostFarms jo_losses jo_known jo_found jo_foundMany jo_nights jo_farms jo_groups jo_renumbered_1]) (fun _ => rfl) (fun jo_renumbered_1 e_ => ?_)
  have hM := lt_e e_ hM
  refine st_iconst hR dX2_rowWithout_8 (v := 0) rfl (pc' := 9) rfl ?_
  refine st_istore_n hR dX2_rowWithout_9 rfl (Nat.le_of_ble_eq_true rfl) [1, 2, 0] (lv' := [(0, .ref (q_jo 0)), (1, .int l1), (2, .int 0)]) rfl (pc' := 10) rfl ?_
  refine st_iconst hR dX2_rowWithout_10 (v := 0) rfl (pc' := 11) rfl ?_
  refine st_istore_n hR dX2_rowWithout_11 rfl (Nat.le_of_ble_eq_true rfl) [1, 2, 3, 0] (lv' := [(0, .ref (q_jo 0)), (1, .int l1), (2, .int 0), (3, .int 0)]) rfl (pc' := 12) rfl ?_
  refine st_iconst hR dX2_rowWithout_12 (v := 0) rfl (pc' := 13) rfl ?_
  refine st_istore hR dX2_rowWithout_13 (Nat.le_of_ble_eq_true rfl) [1, 2, 3, 4, 0] (lv' := [(0, .ref (q_jo 0)), (1, .int l1), (2, .int 0), (3, .int 0), (4, .int 0)]) rfl (pc' := 15) rfl ?_
  exact L15 FU _ _ _ _ _ hM
set_option maxHeartbeats 16000000 in
set_option maxRecDepth 100000 in
theorem k_X2_wouldLeave {l : Launch} {G : GG} {q_jo : Nat → Nat} {jo_mostFarms jo_foundMany jo_nights jo_farms : Int32} {jo_losses jo_known jo_found jo_groups jo_renumbered : Nat → Int32} {jo_now jo_ahead jo_scrap : Nat} {l1 l2 : Int32} {o_r : Int32} {o_jo_renumbered : Nat → Int32} (hM : f_X2_wouldLeave jo_losses jo_farms jo_groups jo_renumbered l1 l2 = some (o_r, o_jo_renumbered)) : MC l G yX2_wouldLeave cX2_wouldLeave 6 (some .boolean) (RM 2) [.ref (q_jo 0), .int l1, .int l2] [wX2 G q_jo jo_now jo_ahead jo_scrap jo_mostFarms jo_losses jo_known jo_found jo_foundMany jo_nights jo_farms jo_groups jo_renumbered] (some (.int o_r)) [wX2 G q_jo jo_now jo_ahead jo_scrap jo_mostFarms jo_losses jo_known jo_found jo_foundMany jo_nights jo_farms jo_groups o_jo_renumbered] := by
  refine MC.of pn_X2 (Nat.le_of_ble_eq_true rfl) (fun K hR hret => ?_)
  have hR : Rl l G RX2 cX2_wouldLeave 6 (RM 2) K := hR
  show K [wX2 G q_jo jo_now jo_ahead jo_scrap jo_mostFarms jo_losses jo_known jo_found jo_foundMany jo_nights jo_farms jo_groups jo_renumbered] [(0, .ref (q_jo 0)), (1, .int l1), (2, .int l2)] 0 []
  have L9 : ∀ (n9 : Nat) (jo_renumbered : Nat → Int32) (l1 : Int32) (l2 : Int32) (l3 : Int32) (l4 : Int32), f_X2_wouldLeave_L9  jo_losses jo_farms jo_groups n9 jo_renumbered l1 l2 l3 l4 = some (o_r, o_jo_renumbered) → K [wX2 G q_jo jo_now jo_ahead jo_scrap jo_mostFarms jo_losses jo_known jo_found jo_foundMany jo_nights jo_farms jo_groups jo_renumbered] [(0, .ref (q_jo 0)), (1, .int l1), (2, .int l2), (3, .int l3), (4, .int l4)] 9 [] := by
    intro n9
    induction n9 with
    | zero => intro jo_renumbered l1 l2 l3 l4 hM; exact no_some hM
    | succ n9 ih9 =>
      have J59 : ∀ (jo_renumbered : Nat → Int32) (l1 : Int32) (l2 : Int32) (l3 : Int32) (l4 : Int32), f_X2_wouldLeave_B59  (f_X2_wouldLeave_L9  jo_losses jo_farms jo_groups n9) jo_losses jo_farms jo_groups jo_renumbered l1 l2 l3 l4 = some (o_r, o_jo_renumbered) → K [wX2 G q_jo jo_now jo_ahead jo_scrap jo_mostFarms jo_losses jo_known jo_found jo_foundMany jo_nights jo_farms jo_groups jo_renumbered] [(0, .ref (q_jo 0)), (1, .int l1), (2, .int l2), (3, .int l3), (4, .int l4)] 59 [] := by
        intro jo_renumbered l1 l2 l3 l4 hM
        obtain ⟨l4_1, e_⟩ : ∃ y : Int32, y = l4 + 1 := ⟨_, rfl⟩
        refine st_iinc hR dX2_wouldLeave_59 (Nat.le_of_ble_eq_true rfl) 4 [1, 2, 3, 4, 0] (v := l4_1) rfl (by rw [e_]; rfl) (lv' := [(0, .ref (q_jo 0)), (1, .int l1), (2, .int l2), (3, .int l3), (4, .int l4_1)]) rfl (pc' := 62) rfl ?_
        have hM := lt_e e_ hM
        refine st_goto hR dX2_wouldLeave_62 (tgt := 9) (by decide) ?_
        exact ih9 _ _ _ _ _ hM
      have J33 : ∀ (jo_renumbered : Nat → Int32) (l1 : Int32) (l2 : Int32) (l3 : Int32) (l4 : Int32) (s0 : Int32), f_X2_wouldLeave_B33  (f_X2_wouldLeave_L9  jo_losses jo_farms jo_groups n9) jo_losses jo_farms jo_groups jo_renumbered l1 l2 l3 l4 s0 = some (o_r, o_jo_renumbered) → K [wX2 G q_jo jo_now jo_ahead jo_scrap jo_mostFarms jo_losses jo_known jo_found jo_foundMany jo_nights jo_farms jo_groups jo_renumbered] [(0, .ref (q_jo 0)), (1, .int l1), (2, .int l2), (3, .int l3), (4, .int l4)] 33 [.int s0] := by
        intro jo_renumbered l1 l2 l3 l4 s0 hM
        refine st_istore hR dX2_wouldLeave_33 (Nat.le_of_ble_eq_true rfl) [1, 2, 3, 4, 5, 0] (lv' := [(0, .ref (q_jo 0)), (1, .int l1), (2, .int l2), (3, .int l3), (4, .int l4), (5, .int s0)]) rfl (pc' := 35) rfl ?_
        refine st_iload hR dX2_wouldLeave_35 5 rfl (pc' := 37) rfl ?_
        refine st_if_eq hR dX2_wouldLeave_37 (tgt := 59) (by decide) (pc' := 40) rfl (fun c_ => ?_) (fun c_ => ?_)
        · have hM := it_t c_ hM
          exact st_lv hR [0, 1, 2, 3, 4] rfl (J59 _ _ _ _ _ hM)
        · have hM := it_f c_ hM
          refine st_aload_n hR dX2_wouldLeave_40 0 rfl rfl (pc' := 41) rfl ?_
          refine st_iload_n hR dX2_wouldLeave_41 3 rfl rfl (pc' := 42) rfl ?_
          refine st_iload hR dX2_wouldLeave_42 4 rfl (pc' := 44) rfl ?_
          obtain ⟨r_1, hc_, hM⟩ := bd_e hM
          refine st_callU hR (k_X6_lossIn_j hc_) cu_X2_39_X2 (rm_le (Nat.le_of_ble_eq_true rfl) (Nat.le_of_ble_eq_true rfl)) [0] rfl rfl rfl 0 0 2 12 rfl rfl rfl rfl (rest := []) rfl (Nat.le_of_ble_eq_true rfl) dX2_wouldLeave_44 (pc' := 47) rfl (Wn := [wX2 G q_jo jo_now jo_ahead jo_scrap jo_mostFarms jo_losses jo_known jo_found jo_foundMany jo_nights jo_farms jo_groups jo_renumbered]) rfl ?_
          refine st_aload_n hR dX2_wouldLeave_47 0 rfl rfl (pc' := 48) rfl ?_
          refine st_iload_n hR dX2_wouldLeave_48 1 rfl rfl (pc' := 49) rfl ?_
          refine st_iload hR dX2_wouldLeave_49 4 rfl (pc' := 51) rfl ?_
          obtain ⟨r_2, hc_, hM⟩ := bd_e hM
          refine st_callU hR (k_X6_lossIn_j hc_) cu_X2_39_X2 (rm_le (Nat.le_of_ble_eq_true rfl) (Nat.le_of_ble_eq_true rfl)) [0] rfl rfl rfl 0 0 2 12 rfl rfl rfl rfl (rest := [.int r_1]) rfl (Nat.le_of_ble_eq_true rfl) dX2_wouldLeave_51 (pc' := 54) rfl (Wn := [wX2 G q_jo jo_now jo_ahead jo_scrap jo_mostFarms jo_losses jo_known jo_found jo_foundMany jo_nights jo_farms jo_groups jo_renumbered]) rfl ?_
          refine st_icmp_lt hR dX2_wouldLeave_54 (tgt := 59) (by decide) (pc' := 57) rfl (fun c_ => ?_) (fun c_ => ?_)
          · have hM := it_t c_ hM
            exact st_lv hR [0, 1, 2, 3, 4] rfl (J59 _ _ _ _ _ hM)
          · have hM := it_f c_ hM
            refine st_iconst hR dX2_wouldLeave_57 (v := 0) rfl (pc' := 58) rfl ?_
            cases hM
            exact hret _ _ dX2_wouldLeave_58 (ro_z (Or.inl rfl))
      intro jo_renumbered l1 l2 l3 l4 hM
      have hM : f_X2_wouldLeave_L9b  (f_X2_wouldLeave_L9  jo_losses jo_farms jo_groups n9) jo_losses jo_farms jo_groups jo_renumbered l1 l2 l3 l4 = some (o_r, o_jo_renumbered) := hM
      refine st_iload hR dX2_wouldLeave_9 4 rfl (pc' := 11) rfl ?_
      refine st_aload_n hR dX2_wouldLeave_11 0 rfl rfl (pc' := 12) rfl ?_
      obtain ⟨r_1, hc_, hM⟩ := bd_e hM
      refine st_callU hR (k_X6_farms_j hc_) cu_X2_18_X2 (rm_le (Nat.le_of_ble_eq_true rfl) (Nat.le_of_ble_eq_true rfl)) [0] rfl rfl rfl 0 0 2 12 rfl rfl rfl rfl (rest := [.int l4]) rfl (Nat.le_of_ble_eq_true rfl) dX2_wouldLeave_12 (pc' := 15) rfl (Wn := [wX2 G q_jo jo_now jo_ahead jo_scrap jo_mostFarms jo_losses jo_known jo_found jo_foundMany jo_nights jo_farms jo_groups jo_renumbered]) rfl ?_
      refine st_icmp_ge hR dX2_wouldLeave_15 (tgt := 65) (by decide) (pc' := 18) rfl (fun c_ => ?_) (fun c_ => ?_)
      · have hM := it_t c_ hM
        refine st_iconst hR dX2_wouldLeave_65 (v := 1) rfl (pc' := 66) rfl ?_
        cases hM
        exact hret _ _ dX2_wouldLeave_66 (ro_z (Or.inr rfl))
      · have hM := it_f c_ hM
        refine st_iload_n hR dX2_wouldLeave_18 2 rfl rfl (pc' := 19) rfl ?_
        refine st_iload hR dX2_wouldLeave_19 4 rfl (pc' := 21) rfl ?_
        refine st_ishr hR dX2_wouldLeave_21 (pc' := 22) rfl ?_
        refine st_iconst hR dX2_wouldLeave_22 (v := 1) rfl (pc' := 23) rfl ?_
        refine st_iand hR dX2_wouldLeave_23 (pc' := 24) rfl ?_
        refine st_iconst hR dX2_wouldLeave_24 (v := 1) rfl (pc' := 25) rfl ?_
        refine st_icmp_ne hR dX2_wouldLeave_25 (tgt := 32) (by decide) (pc' := 28) rfl (fun c_ => ?_) (fun c_ => ?_)
        · have hM := it_f c_ hM
          refine st_iconst hR dX2_wouldLeave_32 (v := 0) rfl (pc' := 33) rfl ?_
          exact J33 _ _ _ _ _ _ hM
        · have hM := it_t c_ hM
          refine st_iconst hR dX2_wouldLeave_28 (v := 1) rfl (pc' := 29) rfl ?_
          refine st_goto hR dX2_wouldLeave_29 (tgt := 33) (by decide) ?_
          exact J33 _ _ _ _ _ _ hM
  refine st_aload_n hR dX2_wouldLeave_0 0 rfl rfl (pc' := 1) rfl ?_
  refine st_iload_n hR dX2_wouldLeave_1 2 rfl rfl (pc' := 2) rfl ?_
  obtain ⟨⟨r_1, jo_renumbered_1⟩, hc_, hM⟩ := bd_e hM
  refine st_callV hR (k_X2_rowWithout hc_) cf_X2_35 (rm_le (Nat.le_of_ble_eq_true rfl) (Nat.le_of_ble_eq_true rfl)) [0] rfl rfl rfl 0 0 2 12 rfl rfl rfl rfl (rest := []) rfl (Nat.le_of_ble_eq_true rfl) dX2_wouldLeave_2 (pc' := 5) rfl (Wn := [wX2 G q_jo jo_now jo_ahead jo_scrap jo_mostFarms jo_losses jo_known jo_found jo_foundMany jo_nights jo_farms jo_groups jo_renumbered_1]) rfl ?_
  refine st_istore_n hR dX2_wouldLeave_5 rfl (Nat.le_of_ble_eq_true rfl) [1, 2, 3, 0] (lv' := [(0, .ref (q_jo 0)), (1, .int l1), (2, .int l2), (3, .int r_1)]) rfl (pc' := 6) rfl ?_
  refine st_iconst hR dX2_wouldLeave_6 (v := 0) rfl (pc' := 7) rfl ?_
  refine st_istore hR dX2_wouldLeave_7 (Nat.le_of_ble_eq_true rfl) [1, 2, 3, 4, 0] (lv' := [(0, .ref (q_jo 0)), (1, .int l1), (2, .int l2), (3, .int r_1), (4, .int 0)]) rfl (pc' := 9) rfl ?_
  exact L9 FU _ _ _ _ _ hM
