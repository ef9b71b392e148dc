set_option maxHeartbeats 16000000 in
set_option maxRecDepth 100000 in
theorem k_X11_thrown {l : Launch} {G : GG} {q_m : Nat → Nat} {m_thrown m_taped m_size m_at m_fault m_codes m_ofFeed m_teeth m_levels m_groupMany : Int32} {m_tape m_sort m_place m_rows m_op m_arg m_feedWords m_goWords m_facts m_pile m_best m_losses m_lossOf m_wasThere m_groupRow m_groupLoss m_isMarked : Nat → Int32} {m_value m_words m_names : Nat → Int64}  {o_r : Int32} (hM : f_X11_thrown m_thrown = some o_r) : MC l G yX11_thrown cX11_thrown 1 (some .int) (RM 0) [.ref (q_m 0)] [wX11 G q_m m_thrown m_tape m_taped m_size m_sort m_place m_value m_at m_fault m_words m_rows m_op m_arg m_codes m_names m_ofFeed m_teeth m_feedWords m_goWords m_facts m_pile m_levels m_best m_losses m_lossOf m_wasThere m_groupMany m_groupRow m_groupLoss m_isMarked] (some (.int o_r)) [wX11 G q_m m_thrown m_tape m_taped m_size m_sort m_place m_value m_at m_fault m_words m_rows m_op m_arg m_codes m_names m_ofFeed m_teeth m_feedWords m_goWords m_facts m_pile m_levels m_best m_losses m_lossOf m_wasThere m_groupMany m_groupRow m_groupLoss m_isMarked] := by
  refine MC.of pn_X11 (Nat.le_of_ble_eq_true rfl) (fun K hR hret => ?_)
  have hR : Rl l G RX11 cX11_thrown 1 (RM 0) K := hR
  show K [wX11 G q_m m_thrown m_tape m_taped m_size m_sort m_place m_value m_at m_fault m_words m_rows m_op m_arg m_codes m_names m_ofFeed m_teeth m_feedWords m_goWords m_facts m_pile m_levels m_best m_losses m_lossOf m_wasThere m_groupMany m_groupRow m_groupLoss m_isMarked] [(0, .ref (q_m 0))] 0 []
  refine st_aload_n hR dX11_thrown_0 0 rfl rfl (pc' := 1) rfl ?_
  refine st_get hR dX11_thrown_1 fg_X11_1_10_0 0 0 rfl rfl rfl (pc' := 4) rfl ?_
  cases hM
  exact hret _ _ dX11_thrown_4 (ro_i _)
set_option maxHeartbeats 16000000 in
set_option maxRecDepth 100000 in
theorem k_X11_lay {l : Launch} {G : GG} {q_m : Nat → Nat} {m_thrown m_taped m_size m_at m_fault m_codes m_ofFeed m_teeth m_levels m_groupMany : Int32} {m_tape m_sort m_place m_rows m_op m_arg m_feedWords m_goWords m_facts m_pile m_best m_losses m_lossOf m_wasThere m_groupRow m_groupLoss m_isMarked : Nat → Int32} {m_value m_words m_names : Nat → Int64} {l1 : Int64} {o_m_tape : Nat → Int32} {o_m_taped : Int32} (hM : f_X11_lay m_tape m_taped l1 = some (o_m_tape, o_m_taped)) : MC l G yX11_lay cX11_lay 5 none (RM 0) [.ref (q_m 0), .long l1] [wX11 G q_m m_thrown m_tape m_taped m_size m_sort m_place m_value m_at m_fault m_words m_rows m_op m_arg m_codes m_names m_ofFeed m_teeth m_feedWords m_goWords m_facts m_pile m_levels m_best m_losses m_lossOf m_wasThere m_groupMany m_groupRow m_groupLoss m_isMarked] none [wX11 G q_m m_thrown o_m_tape o_m_taped m_size m_sort m_place m_value m_at m_fault m_words m_rows m_op m_arg m_codes m_names m_ofFeed m_teeth m_feedWords m_goWords m_facts m_pile m_levels m_best m_losses m_lossOf m_wasThere m_groupMany m_groupRow m_groupLoss m_isMarked] := by
  refine MC.of pn_X11 (Nat.le_of_ble_eq_true rfl) (fun K hR hret => ?_)
  have hR : Rl l G RX11 cX11_lay 5 (RM 0) K := hR
  show K [wX11 G q_m m_thrown m_tape m_taped m_size m_sort m_place m_value m_at m_fault m_words m_rows m_op m_arg m_codes m_names m_ofFeed m_teeth m_feedWords m_goWords m_facts m_pile m_levels m_best m_losses m_lossOf m_wasThere m_groupMany m_groupRow m_groupLoss m_isMarked] [(0, .ref (q_m 0)), (1, .long l1)] 0 []
  have L3 : ∀ (n3 : Nat) (m_tape : Nat → Int32) (m_taped : Int32) (l1 : Int64) (l3 : Int32), f_X11_lay_L3   n3 m_tape m_taped l1 l3 = some (o_m_tape, o_m_taped) → K [wX11 G q_m m_thrown m_tape m_taped m_size m_sort m_place m_value m_at m_fault m_words m_rows m_op m_arg m_codes m_names m_ofFeed m_teeth m_feedWords m_goWords m_facts m_pile m_levels m_best m_losses m_lossOf m_wasThere m_groupMany m_groupRow m_groupLoss m_isMarked] [(0, .ref (q_m 0)), (1, .long l1), (3, .int l3)] 3 [] := by
    intro n3
    induction n3 with
    | zero => intro m_tape m_taped l1 l3 hM; exact no_some hM
    | succ n3 ih3 =>
      have J69 : ∀ (m_tape : Nat → Int32) (m_taped : Int32) (l1 : Int64) (l3 : Int32), f_X11_lay_B69  (f_X11_lay_L3   n3)  m_tape m_taped l1 l3 = some (o_m_tape, o_m_taped) → K [wX11 G q_m m_thrown m_tape m_taped m_size m_sort m_place m_value m_at m_fault m_words m_rows m_op m_arg m_codes m_names m_ofFeed m_teeth m_feedWords m_goWords m_facts m_pile m_levels m_best m_losses m_lossOf m_wasThere m_groupMany m_groupRow m_groupLoss m_isMarked] [(0, .ref (q_m 0)), (1, .long l1), (3, .int l3)] 69 [] := by
        intro m_tape m_taped l1 l3 hM
        obtain ⟨l3_1, e_⟩ : ∃ y : Int32, y = l3 + (-8) := ⟨_, rfl⟩
        refine st_iinc hR dX11_lay_69 (Nat.le_of_ble_eq_true rfl) 2 [1, 2, 0] (v := l3_1) rfl (by rw [e_]; rfl) (lv' := [(0, .ref (q_m 0)), (1, .long l1), (3, .int l3_1)]) rfl (pc' := 72) rfl ?_
        have hM := lt_e e_ hM
        refine st_goto hR dX11_lay_72 (tgt := 3) (by decide) ?_
        exact ih3 _ _ _ _ hM
      have J38 : ∀ (m_tape : Nat → Int32) (m_taped : Int32) (l1 : Int64) (l3 : Int32) (l4 : Int32), f_X11_lay_B38  (f_X11_lay_L3   n3)  m_tape m_taped l1 l3 l4 = some (o_m_tape, o_m_taped) → K [wX11 G q_m m_thrown m_tape m_taped m_size m_sort m_place m_value m_at m_fault m_words m_rows m_op m_arg m_codes m_names m_ofFeed m_teeth m_feedWords m_goWords m_facts m_pile m_levels m_best m_losses m_lossOf m_wasThere m_groupMany m_groupRow m_groupLoss m_isMarked] [(0, .ref (q_m 0)), (1, .long l1), (3, .int l3), (4, .int l4)] 38 [] := by
        intro m_tape m_taped l1 l3 l4 hM
        refine st_aload_n hR dX11_lay_38 0 rfl rfl (pc' := 39) rfl ?_
        refine st_get hR dX11_lay_39 fg_X11_11_10_2 0 0 rfl rfl rfl (pc' := 42) rfl ?_
        refine st_sipush hR dX11_lay_42 (v := 1000) rfl (pc' := 45) rfl ?_
        refine st_icmp_ge hR dX11_lay_45 (tgt := 69) (by decide) (pc' := 48) rfl (fun c_ => ?_) (fun c_ => ?_)
        · have hM := it_t c_ hM
          exact st_lv hR [0, 1, 2] rfl (J69 _ _ _ _ hM)
        · have hM := it_f c_ hM
          refine st_aload_n hR dX11_lay_48 0 rfl rfl (pc' := 49) rfl ?_
          refine st_get hR dX11_lay_49 fg_X11_14_10_1 0 0 rfl rfl rfl (pc' := 52) rfl ?_
          refine st_aload_n hR dX11_lay_52 0 rfl rfl (pc' := 53) rfl ?_
          refine st_get hR dX11_lay_53 fg_X11_11_10_2 0 0 rfl rfl rfl (pc' := 56) rfl ?_
          refine st_iload hR dX11_lay_56 3 rfl (pc' := 58) rfl ?_
          obtain ⟨hin_, hM⟩ := g_in_e hM
          refine st_iast hR dX11_lay_58 0 1 rfl rfl hin_ (ix := (ix m_taped)) rfl (pc' := 59) rfl (fun m_tape_1 => [wX11 G q_m m_thrown m_tape_1 m_taped m_size m_sort m_place m_value m_at m_fault m_words m_rows m_op m_arg m_codes m_names m_ofFeed m_teeth m_feedWords m_goWords m_facts m_pile m_levels m_best m_losses m_lossOf m_wasThere m_groupMany m_groupRow m_groupLoss m_isMarked]) (fun _ => rfl) (fun m_tape_1 e_ => ?_)
          have hM := lt_e e_ hM
          refine st_aload_n hR dX11_lay_59 0 rfl rfl (pc' := 60) rfl ?_
          refine st_dup hR dX11_lay_60 (pc' := 61) rfl rfl ?_
          refine st_get hR dX11_lay_61 fg_X11_11_10_2 0 0 rfl rfl rfl (pc' := 64) rfl ?_
          refine st_iconst hR dX11_lay_64 (v := 1) rfl (pc' := 65) rfl ?_
          refine st_iadd hR dX11_lay_65 (pc' := 66) rfl ?_
          refine st_topi (fun m_taped_1 e_ => ?_)
          have hM := lt_e e_ hM
          refine st_put hR dX11_lay_66 fp_X11_11_10_2 0 0 rfl rfl (Nat.le_of_ble_eq_true rfl) rfl rfl (pc' := 69) rfl (W' := [wX11 G q_m m_thrown m_tape_1 m_taped_1 m_size m_sort m_place m_value m_at m_fault m_words m_rows m_op m_arg m_codes m_names m_ofFeed m_teeth m_feedWords m_goWords m_facts m_pile m_levels m_best m_losses m_lossOf m_wasThere m_groupMany m_groupRow m_groupLoss m_isMarked]) rfl ?_
          exact st_lv hR [0, 1, 2] rfl (J69 _ _ _ _ hM)
      intro m_tape m_taped l1 l3 hM
      have hM : f_X11_lay_L3b  (f_X11_lay_L3   n3)  m_tape m_taped l1 l3 = some (o_m_tape, o_m_taped) := hM
      refine st_iload_n hR dX11_lay_3 2 rfl rfl (pc' := 4) rfl ?_
      refine st_if_lt hR dX11_lay_4 (tgt := 75) (by decide) (pc' := 7) rfl (fun c_ => ?_) (fun c_ => ?_)
      · have hM := it_t c_ hM
        cases hM
        exact hret _ _ dX11_lay_75 ro_v
      · have hM := it_f c_ hM
        refine st_lload_n hR dX11_lay_7 1 rfl rfl (pc' := 8) rfl ?_
        refine st_iload_n hR dX11_lay_8 2 rfl rfl (pc' := 9) rfl ?_
        refine st_lshr hR dX11_lay_9 (pc' := 10) rfl ?_
        refine st_l2i hR dX11_lay_10 (pc' := 11) rfl ?_
        refine st_sipush hR dX11_lay_11 (v := 255) rfl (pc' := 14) rfl ?_
        refine st_iand hR dX11_lay_14 (pc' := 15) rfl ?_
        refine st_topi (fun l4_1 e_ => ?_)
        have hM := lt_e e_ hM
        refine st_istore hR dX11_lay_15 (Nat.le_of_ble_eq_true rfl) [1, 2, 3, 0] (lv' := [(0, .ref (q_m 0)), (1, .long l1), (3, .int l3), (4, .int l4_1)]) rfl (pc' := 17) rfl ?_
        refine st_iload hR dX11_lay_17 3 rfl (pc' := 19) rfl ?_
        refine st_bipush hR dX11_lay_19 (v := 10) rfl (pc' := 21) rfl ?_
        refine st_icmp_eq hR dX11_lay_21 (tgt := 38) (by decide) (pc' := 24) rfl (fun c_ => ?_) (fun c_ => ?_)
        · have hM := it_t c_ hM
          exact J38 _ _ _ _ _ hM
        · have hM := it_f c_ hM
          refine st_iload hR dX11_lay_24 3 rfl (pc' := 26) rfl ?_
          refine st_bipush hR dX11_lay_26 (v := 32) rfl (pc' := 28) rfl ?_
          refine st_icmp_lt hR dX11_lay_28 (tgt := 69) (by decide) (pc' := 31) rfl (fun c_ => ?_) (fun c_ => ?_)
          · have hM := it_t c_ hM
            exact st_lv hR [0, 1, 2] rfl (J69 _ _ _ _ hM)
          · have hM := it_f c_ hM
            refine st_iload hR dX11_lay_31 3 rfl (pc' := 33) rfl ?_
            refine st_bipush hR dX11_lay_33 (v := 126) rfl (pc' := 35) rfl ?_
            refine st_icmp_gt hR dX11_lay_35 (tgt := 69) (by decide) (pc' := 38) rfl (fun c_ => ?_) (fun c_ => ?_)
            · have hM := it_t c_ hM
              exact st_lv hR [0, 1, 2] rfl (J69 _ _ _ _ hM)
            · have hM := it_f c_ hM
              exact J38 _ _ _ _ _ hM
  refine st_bipush hR dX11_lay_0 (v := 56) rfl (pc' := 2) rfl ?_
  refine st_istore_n hR dX11_lay_2 rfl (Nat.le_of_ble_eq_true rfl) [1, 2, 0] (lv' := [(0, .ref (q_m 0)), (1, .long l1), (3, .int 56)]) rfl (pc' := 3) rfl ?_
  exact L3 FU _ _ _ _ hM
set_option maxHeartbeats 16000000 in
set_option maxRecDepth 100000 in
theorem k_X11_feed {l : Launch} {G : GG} {q_m : Nat → Nat} {m_thrown m_taped m_size m_at m_fault m_codes m_ofFeed m_teeth m_levels m_groupMany : Int32} {m_tape m_sort m_place m_rows m_op m_arg m_feedWords m_goWords m_facts m_pile m_best m_losses m_lossOf m_wasThere m_groupRow m_groupLoss m_isMarked : Nat → Int32} {m_value m_words m_names : Nat → Int64} {l1 l3 l5 : Int64} {o_r : Int32} {o_m_thrown : Int32} {o_m_tape : Nat → Int32} {o_m_taped : Int32} (hM : f_X11_feed m_thrown m_tape m_taped l1 l3 l5 = some (o_r, o_m_thrown, o_m_tape, o_m_taped)) : MC l G yX11_feed cX11_feed 7 (some .int) (RM 1) [.ref (q_m 0), .long l1, .long l3, .long l5] [wX11 G q_m m_thrown m_tape m_taped m_size m_sort m_place m_value m_at m_fault m_words m_rows m_op m_arg m_codes m_names m_ofFeed m_teeth m_feedWords m_goWords m_facts m_pile m_levels m_best m_losses m_lossOf m_wasThere m_groupMany m_groupRow m_groupLoss m_isMarked] (some (.int o_r)) [wX11 G q_m o_m_thrown o_m_tape o_m_taped m_size m_sort m_place m_value m_at m_fault m_words m_rows m_op m_arg m_codes m_names m_ofFeed m_teeth m_feedWords m_goWords m_facts m_pile m_levels m_best m_losses m_lossOf m_wasThere m_groupMany m_groupRow m_groupLoss m_isMarked] := by
  refine MC.of pn_X11 (Nat.le_of_ble_eq_true rfl) (fun K hR hret => ?_)
  have hR : Rl l G RX11 cX11_feed 7 (RM 1) K := hR
  show K [wX11 G q_m m_thrown m_tape m_taped m_size m_sort m_place m_value m_at m_fault m_words m_rows m_op m_arg m_codes m_names m_ofFeed m_teeth m_feedWords m_goWords m_facts m_pile m_levels m_best m_losses m_lossOf m_wasThere m_groupMany m_groupRow m_groupLoss m_isMarked] [(0, .ref (q_m 0)), (1, .long l1), (3, .long l3), (5, .long l5)] 0 []
  refine st_aload_n hR dX11_feed_0 0 rfl rfl (pc' := 1) rfl ?_
  refine st_iconst hR dX11_feed_1 (v := 0) rfl (pc' := 2) rfl ?_
  refine st_put hR dX11_feed_2 fp_X11_1_10_0 0 0 rfl rfl (Nat.le_of_ble_eq_true rfl) rfl rfl (pc' := 5) rfl (W' := [wX11 G q_m 0 m_tape m_taped m_size m_sort m_place m_value m_at m_fault m_words m_rows m_op m_arg m_codes m_names m_ofFeed m_teeth m_feedWords m_goWords m_facts m_pile m_levels m_best m_losses m_lossOf m_wasThere m_groupMany m_groupRow m_groupLoss m_isMarked]) rfl ?_
  refine st_aload_n hR dX11_feed_5 0 rfl rfl (pc' := 6) rfl ?_
  refine st_lload_n hR dX11_feed_6 1 rfl rfl (pc' := 7) rfl ?_
  obtain ⟨⟨m_tape_1, m_taped_1⟩, hc_, hM⟩ := bd_e hM
  refine st_callV hR (k_X11_lay hc_) cf_X11_7 (rm_le (Nat.le_of_ble_eq_true rfl) (Nat.le_of_ble_eq_true rfl)) [0] rfl rfl rfl 0 0 10 30 rfl rfl rfl rfl (rest := []) rfl (Nat.le_of_ble_eq_true rfl) dX11_feed_7 (pc' := 10) rfl (Wn := [wX11 G q_m 0 m_tape_1 m_taped_1 m_size m_sort m_place m_value m_at m_fault m_words m_rows m_op m_arg m_codes m_names m_ofFeed m_teeth m_feedWords m_goWords m_facts m_pile m_levels m_best m_losses m_lossOf m_wasThere m_groupMany m_groupRow m_groupLoss m_isMarked]) rfl ?_
  refine st_aload_n hR dX11_feed_10 0 rfl rfl (pc' := 11) rfl ?_
  refine st_lload_n hR dX11_feed_11 2 rfl rfl (pc' := 12) rfl ?_
  obtain ⟨⟨m_tape_2, m_taped_2⟩, hc_, hM⟩ := bd_e hM
  refine st_callV hR (k_X11_lay hc_) cf_X11_7 (rm_le (Nat.le_of_ble_eq_true rfl) (Nat.le_of_ble_eq_true rfl)) [0] rfl rfl rfl 0 0 10 30 rfl rfl rfl rfl (rest := []) rfl (Nat.le_of_ble_eq_true rfl) dX11_feed_12 (pc' := 15) rfl (Wn := [wX11 G q_m 0 m_tape_2 m_taped_2 m_size m_sort m_place m_value m_at m_fault m_words m_rows m_op m_arg m_codes m_names m_ofFeed m_teeth m_feedWords m_goWords m_facts m_pile m_levels m_best m_losses m_lossOf m_wasThere m_groupMany m_groupRow m_groupLoss m_isMarked]) rfl ?_
  refine st_aload_n hR dX11_feed_15 0 rfl rfl (pc' := 16) rfl ?_
  refine st_lload hR dX11_feed_16 3 rfl (pc' := 18) rfl ?_
  obtain ⟨⟨m_tape_3, m_taped_3⟩, hc_, hM⟩ := bd_e hM
  refine st_callV hR (k_X11_lay hc_) cf_X11_7 (rm_le (Nat.le_of_ble_eq_true rfl) (Nat.le_of_ble_eq_true rfl)) [0] rfl rfl rfl 0 0 10 30 rfl rfl rfl rfl (rest := []) rfl (Nat.le_of_ble_eq_true rfl) dX11_feed_18 (pc' := 21) rfl (Wn := [wX11 G q_m 0 m_tape_3 m_taped_3 m_size m_sort m_place m_value m_at m_fault m_words m_rows m_op m_arg m_codes m_names m_ofFeed m_teeth m_feedWords m_goWords m_facts m_pile m_levels m_best m_losses m_lossOf m_wasThere m_groupMany m_groupRow m_groupLoss m_isMarked]) rfl ?_
  refine st_aload_n hR dX11_feed_21 0 rfl rfl (pc' := 22) rfl ?_
  refine st_get hR dX11_feed_22 fg_X11_11_10_2 0 0 rfl rfl rfl (pc' := 25) rfl ?_
  cases hM
  exact hret _ _ dX11_feed_25 (ro_i _)
set_option maxHeartbeats 16000000 in
set_option maxRecDepth 100000 in
theorem k_X11_isLetter {l : Launch} {G : GG}  {l0 : Int32} {o_r : Int32} (hM : f_X11_isLetter l0 = some o_r) : MC l G yX11_isLetter cX11_isLetter 1 (some .boolean) (RM 0) [.int l0] [] (some (.int o_r)) [] := by
  refine MC.of pn_X11 (Nat.le_of_ble_eq_true rfl) (fun K hR hret => ?_)
  have hR : Rl l G RX11 cX11_isLetter 1 (RM 0) K := hR
  show K [] [(0, .int l0)] 0 []
  refine st_iload_n hR dX11_isLetter_0 0 rfl rfl (pc' := 1) rfl ?_
  refine st_bipush hR dX11_isLetter_1 (v := 97) rfl (pc' := 3) rfl ?_
  refine st_icmp_lt hR dX11_isLetter_3 (tgt := 16) (by decide) (pc' := 6) rfl (fun c_ => ?_) (fun c_ => ?_)
  · have hM := it_t c_ hM
    refine st_iconst hR dX11_isLetter_16 (v := 0) rfl (pc' := 17) rfl ?_
    cases hM
    exact hret _ _ dX11_isLetter_17 (ro_z (Or.inl rfl))
  · have hM := it_f c_ hM
    refine st_iload_n hR dX11_isLetter_6 0 rfl rfl (pc' := 7) rfl ?_
    refine st_bipush hR dX11_isLetter_7 (v := 122) rfl (pc' := 9) rfl ?_
    refine st_icmp_gt hR dX11_isLetter_9 (tgt := 16) (by decide) (pc' := 12) rfl (fun c_ => ?_) (fun c_ => ?_)
    · have hM := it_t c_ hM
      refine st_iconst hR dX11_isLetter_16 (v := 0) rfl (pc' := 17) rfl ?_
      cases hM
      exact hret _ _ dX11_isLetter_17 (ro_z (Or.inl rfl))
    · have hM := it_f c_ hM
      refine st_iconst hR dX11_isLetter_12 (v := 1) rfl (pc' := 13) rfl ?_
      refine st_goto hR dX11_isLetter_13 (tgt := 17) (by decide) ?_
      cases hM
      exact hret _ _ dX11_isLetter_17 (ro_z (Or.inr rfl))
set_option maxHeartbeats 16000000 in
set_option maxRecDepth 100000 in
theorem k_X11_isDigit {l : Launch} {G : GG}  {l0 : Int32} {o_r : Int32} (hM : f_X11_isDigit l0 = some o_r) : MC l G yX11_isDigit cX11_isDigit 1 (some .boolean) (RM 0) [.int l0] [] (some (.int o_r)) [] := by
  refine MC.of pn_X11 (Nat.le_of_ble_eq_true rfl) (fun K hR hret => ?_)
  have hR : Rl l G RX11 cX11_isDigit 1 (RM 0) K := hR
  show K [] [(0, .int l0)] 0 []
  refine st_iload_n hR dX11_isDigit_0 0 rfl rfl (pc' := 1) rfl ?_
  refine st_bipush hR dX11_isDigit_1 (v := 48) rfl (pc' := 3) rfl ?_
  refine st_icmp_lt hR dX11_isDigit_3 (tgt := 16) (by decide) (pc' := 6) rfl (fun c_ => ?_) (fun c_ => ?_)
  · have hM := it_t c_ hM
    refine st_iconst hR dX11_isDigit_16 (v := 0) rfl (pc' := 17) rfl ?_
    cases hM
    exact hret _ _ dX11_isDigit_17 (ro_z (Or.inl rfl))
  · have hM := it_f c_ hM
    refine st_iload_n hR dX11_isDigit_6 0 rfl rfl (pc' := 7) rfl ?_
    refine st_bipush hR dX11_isDigit_7 (v := 57) rfl (pc' := 9) rfl ?_
    refine st_icmp_gt hR dX11_isDigit_9 (tgt := 16) (by decide) (pc' := 12) rfl (fun c_ => ?_) (fun c_ => ?_)
    · have hM := it_t c_ hM
      refine st_iconst hR dX11_isDigit_16 (v := 0) rfl (pc' := 17) rfl ?_
      cases hM
      exact hret _ _ dX11_isDigit_17 (ro_z (Or.inl rfl))
    · have hM := it_f c_ hM
      refine st_iconst hR dX11_isDigit_12 (v := 1) rfl (pc' := 13) rfl ?_
      refine st_goto hR dX11_isDigit_13 (tgt := 17) (by decide) ?_
      cases hM
      exact hret _ _ dX11_isDigit_17 (ro_z (Or.inr rfl))
set_option maxHeartbeats 16000000 in
set_option maxRecDepth 100000 in
theorem k_X11_rank {l : Launch} {G : GG}  {l0 : Int32} {o_r : Int32} (hM : f_X11_rank l0 = some o_r) : MC l G yX11_rank cX11_rank 1 (some .int) (RM 1) [.int l0] [] (some (.int o_r)) [] := by
  refine MC.of pn_X11 (Nat.le_of_ble_eq_true rfl) (fun K hR hret => ?_)
  have hR : Rl l G RX11 cX11_rank 1 (RM 1) K := hR
  show K [] [(0, .int l0)] 0 []
  refine st_iload_n hR dX11_rank_0 0 rfl rfl (pc' := 1) rfl ?_
  obtain ⟨r_1, hc_, hM⟩ := bd_e hM
  refine st_callS hR (k_X11_isLetter hc_) cf_X11_118 (rm_le (Nat.le_of_ble_eq_true rfl) (Nat.le_of_ble_eq_true rfl)) [] rfl rfl rfl rfl (rest := []) rfl (Nat.le_of_ble_eq_true rfl) dX11_rank_1 (pc' := 4) rfl (Wn := []) rfl ?_
  refine st_if_eq hR dX11_rank_4 (tgt := 14) (by decide) (pc' := 7) rfl (fun c_ => ?_) (fun c_ => ?_)
  · have hM := it_t c_ hM
    refine st_iload_n hR dX11_rank_14 0 rfl rfl (pc' := 15) rfl ?_
    refine st_bipush hR dX11_rank_15 (v := 21) rfl (pc' := 17) rfl ?_
    refine st_isub hR dX11_rank_17 (pc' := 18) rfl ?_
    cases hM
    exact hret _ _ dX11_rank_18 (ro_i _)
  · have hM := it_f c_ hM
    refine st_iload_n hR dX11_rank_7 0 rfl rfl (pc' := 8) rfl ?_
    refine st_bipush hR dX11_rank_8 (v := 96) rfl (pc' := 10) rfl ?_
    refine st_isub hR dX11_rank_10 (pc' := 11) rfl ?_
    refine st_goto hR dX11_rank_11 (tgt := 18) (by decide) ?_
    cases hM
    exact hret _ _ dX11_rank_18 (ro_i _)
set_option maxHeartbeats 16000000 in
set_option maxRecDepth 100000 in
theorem k_X11_isSignOf {l : Launch} {G : GG}  {l0 : Int32} {o_r : Int32} (hM : f_X11_isSignOf l0 = some o_r) : MC l G yX11_isSignOf cX11_isSignOf 1 (some .boolean) (RM 0) [.int l0] [] (some (.int o_r)) [] := by
  refine MC.of pn_X11 (Nat.le_of_ble_eq_true rfl) (fun K hR hret => ?_)
  have hR : Rl l G RX11 cX11_isSignOf 1 (RM 0) K := hR
  show K [] [(0, .int l0)] 0 []
  have J48 : f_X11_isSignOf_B48   = some o_r → K [] [] 48 [] := by
    intro  hM
    refine st_iconst hR dX11_isSignOf_48 (v := 1) rfl (pc' := 49) rfl ?_
    refine st_goto hR dX11_isSignOf_49 (tgt := 53) (by decide) ?_
    cases hM
    exact hret _ _ dX11_isSignOf_53 (ro_z (Or.inr rfl))
  refine st_iload_n hR dX11_isSignOf_0 0 rfl rfl (pc' := 1) rfl ?_
  refine st_bipush hR dX11_isSignOf_1 (v := 40) rfl (pc' := 3) rfl ?_
  refine st_icmp_eq hR dX11_isSignOf_3 (tgt := 48) (by decide) (pc' := 6) rfl (fun c_ => ?_) (fun c_ => ?_)
  · have hM := it_t c_ hM
    exact st_lv hR [] rfl (J48  hM)
  · have hM := it_f c_ hM
    refine st_iload_n hR dX11_isSignOf_6 0 rfl rfl (pc' := 7) rfl ?_
    refine st_bipush hR dX11_isSignOf_7 (v := 41) rfl (pc' := 9) rfl ?_
    refine st_icmp_eq hR dX11_isSignOf_9 (tgt := 48) (by decide) (pc' := 12) rfl (fun c_ => ?_) (fun c_ => ?_)
    · have hM := it_t c_ hM
      exact st_lv hR [] rfl (J48  hM)
    · have hM := it_f c_ hM
      refine st_iload_n hR dX11_isSignOf_12 0 rfl rfl (pc' := 13) rfl ?_
      refine st_bipush hR dX11_isSignOf_13 (v := 59) rfl (pc' := 15) rfl ?_
      refine st_icmp_eq hR dX11_isSignOf_15 (tgt := 48) (by decide) (pc' := 18) rfl (fun c_ => ?_) (fun c_ => ?_)
      · have hM := it_t c_ hM
        exact st_lv hR [] rfl (J48  hM)
      · have hM := it_f c_ hM
        refine st_iload_n hR dX11_isSignOf_18 0 rfl rfl (pc' := 19) rfl ?_
        refine st_bipush hR dX11_isSignOf_19 (v := 61) rfl (pc' := 21) rfl ?_
        refine st_icmp_eq hR dX11_isSignOf_21 (tgt := 48) (by decide) (pc' := 24) rfl (fun c_ => ?_) (fun c_ => ?_)
        · have hM := it_t c_ hM
          exact st_lv hR [] rfl (J48  hM)
        · have hM := it_f c_ hM
          refine st_iload_n hR dX11_isSignOf_24 0 rfl rfl (pc' := 25) rfl ?_
          refine st_bipush hR dX11_isSignOf_25 (v := 60) rfl (pc' := 27) rfl ?_
          refine st_icmp_eq hR dX11_isSignOf_27 (tgt := 48) (by decide) (pc' := 30) rfl (fun c_ => ?_) (fun c_ => ?_)
          · have hM := it_t c_ hM
            exact st_lv hR [] rfl (J48  hM)
          · have hM := it_f c_ hM
            refine st_iload_n hR dX11_isSignOf_30 0 rfl rfl (pc' := 31) rfl ?_
            refine st_bipush hR dX11_isSignOf_31 (v := 43) rfl (pc' := 33) rfl ?_
            refine st_icmp_eq hR dX11_isSignOf_33 (tgt := 48) (by decide) (pc' := 36) rfl (fun c_ => ?_) (fun c_ => ?_)
            · have hM := it_t c_ hM
              exact st_lv hR [] rfl (J48  hM)
            · have hM := it_f c_ hM
              refine st_iload_n hR dX11_isSignOf_36 0 rfl rfl (pc' := 37) rfl ?_
              refine st_bipush hR dX11_isSignOf_37 (v := 45) rfl (pc' := 39) rfl ?_
              refine st_icmp_eq hR dX11_isSignOf_39 (tgt := 48) (by decide) (pc' := 42) rfl (fun c_ => ?_) (fun c_ => ?_)
              · have hM := it_t c_ hM
                exact st_lv hR [] rfl (J48  hM)
              · have hM := it_f c_ hM
                refine st_iload_n hR dX11_isSignOf_42 0 rfl rfl (pc' := 43) rfl ?_
                refine st_bipush hR dX11_isSignOf_43 (v := 42) rfl (pc' := 45) rfl ?_
                refine st_icmp_ne hR dX11_isSignOf_45 (tgt := 52) (by decide) (pc' := 48) rfl (fun c_ => ?_) (fun c_ => ?_)
                · have hM := it_f c_ hM
                  refine st_iconst hR dX11_isSignOf_52 (v := 0) rfl (pc' := 53) rfl ?_
                  cases hM
                  exact hret _ _ dX11_isSignOf_53 (ro_z (Or.inl rfl))
                · have hM := it_t c_ hM
                  exact st_lv hR [] rfl (J48  hM)
set_option maxHeartbeats 16000000 in
set_option maxRecDepth 100000 in
theorem k_X11_cutAll {l : Launch} {G : GG} {q_m : Nat → Nat} {m_thrown m_taped m_size m_at m_fault m_codes m_ofFeed m_teeth m_levels m_groupMany : Int32} {m_tape m_sort m_place m_rows m_op m_arg m_feedWords m_goWords m_facts m_pile m_best m_losses m_lossOf m_wasThere m_groupRow m_groupLoss m_isMarked : Nat → Int32} {m_value m_words m_names : Nat → Int64}  {o_m_taped : Int32} {o_m_size : Int32} {o_m_sort : Nat → Int32} {o_m_place : Nat → Int32} {o_m_value : Nat → Int64} {o_m_at : Int32} {o_m_fault : Int32} (hM : f_X11_cutAll m_tape m_taped m_size m_sort m_place m_value m_at m_fault = some (o_m_taped, o_m_size, o_m_sort, o_m_place, o_m_value, o_m_at, o_m_fault)) : MC l G yX11_cutAll cX11_cutAll 7 none (RM 2) [.ref (q_m 0)] [wX11 G q_m m_thrown m_tape m_taped m_size m_sort m_place m_value m_at m_fault m_words m_rows m_op m_arg m_codes m_names m_ofFeed m_teeth m_feedWords m_goWords m_facts m_pile m_levels m_best m_losses m_lossOf m_wasThere m_groupMany m_groupRow m_groupLoss m_isMarked] none [wX11 G q_m m_thrown m_tape o_m_taped o_m_size o_m_sort o_m_place o_m_value o_m_at o_m_fault m_words m_rows m_op m_arg m_codes m_names m_ofFeed m_teeth m_feedWords m_goWords m_facts m_pile m_levels m_best m_losses m_lossOf m_wasThere m_groupMany m_groupRow m_groupLoss m_isMarked] := by
  refine MC.of pn_X11 (Nat.le_of_ble_eq_true rfl) (fun K hR hret => ?_)
  have hR : Rl l G RX11 cX11_cutAll 7 (RM 2) K := hR
  show K [wX11 G q_m m_thrown m_tape m_taped m_size m_sort m_place m_value m_at m_fault m_words m_rows m_op m_arg m_codes m_names m_ofFeed m_teeth m_feedWords m_goWords m_facts m_pile m_levels m_best m_losses m_lossOf m_wasThere m_groupMany m_groupRow m_groupLoss m_isMarked] [(0, .ref (q_m 0))] 0 []
  have L17 : ∀ (n17 : Nat) (m_taped : Int32) (m_size : Int32) (m_sort : Nat → Int32) (m_place : Nat → Int32) (m_value : Nat → Int64) (m_at : Int32) (m_fault : Int32) (l1 : Int32) (l2 : Int32), f_X11_cutAll_L17  m_tape n17 m_taped m_size m_sort m_place m_value m_at m_fault l1 l2 = some (o_m_taped, o_m_size, o_m_sort, o_m_place, o_m_value, o_m_at, o_m_fault) → K [wX11 G q_m m_thrown m_tape m_taped m_size m_sort m_place m_value m_at m_fault m_words m_rows m_op m_arg m_codes m_names m_ofFeed m_teeth m_feedWords m_goWords m_facts m_pile m_levels m_best m_losses m_lossOf m_wasThere m_groupMany m_groupRow m_groupLoss m_isMarked] [(0, .ref (q_m 0)), (1, .int l1), (2, .int l2)] 17 [] := by
    intro n17
    induction n17 with
    | zero => intro m_taped m_size m_sort m_place m_value m_at m_fault l1 l2 hM; exact no_some hM
    | succ n17 ih17 =>
      have J44 : ∀ (m_taped : Int32) (m_size : Int32) (m_sort : Nat → Int32) (m_place : Nat → Int32) (m_value : Nat → Int64) (m_at : Int32) (m_fault : Int32) (l1 : Int32) (l2 : Int32), f_X11_cutAll_B44  (f_X11_cutAll_L17  m_tape n17) m_tape m_taped m_size m_sort m_place m_value m_at m_fault l1 l2 = some (o_m_taped, o_m_size, o_m_sort, o_m_place, o_m_value, o_m_at, o_m_fault) → K [wX11 G q_m m_thrown m_tape m_taped m_size m_sort m_place m_value m_at m_fault m_words m_rows m_op m_arg m_codes m_names m_ofFeed m_teeth m_feedWords m_goWords m_facts m_pile m_levels m_best m_losses m_lossOf m_wasThere m_groupMany m_groupRow m_groupLoss m_isMarked] [(0, .ref (q_m 0)), (1, .int l1), (2, .int l2)] 44 [] := by
        intro m_taped m_size m_sort m_place m_value m_at m_fault l1 l2 hM
        obtain ⟨l2_1, e_⟩ : ∃ y : Int32, y = l2 + 1 := ⟨_, rfl⟩
        refine st_iinc hR dX11_cutAll_44 (Nat.le_of_ble_eq_true rfl) 2 [1, 2, 0] (v := l2_1) rfl (by rw [e_]; rfl) (lv' := [(0, .ref (q_m 0)), (1, .int l1), (2, .int l2_1)]) rfl (pc' := 47) rfl ?_
        have hM := lt_e e_ hM
        refine st_goto hR dX11_cutAll_47 (tgt := 17) (by decide) ?_
        exact ih17 _ _ _ _ _ _ _ _ _ hM
      have J265 : ∀ (m_taped : Int32) (m_size : Int32) (m_sort : Nat → Int32) (m_place : Nat → Int32) (m_value : Nat → Int64) (m_at : Int32) (m_fault : Int32) (l1 : Int32) (l2 : Int32) (l5 : Int64), f_X11_cutAll_B265  (f_X11_cutAll_L17  m_tape n17) m_tape m_taped m_size m_sort m_place m_value m_at m_fault l1 l2 l5 = some (o_m_taped, o_m_size, o_m_sort, o_m_place, o_m_value, o_m_at, o_m_fault) → K [wX11 G q_m m_thrown m_tape m_taped m_size m_sort m_place m_value m_at m_fault m_words m_rows m_op m_arg m_codes m_names m_ofFeed m_teeth m_feedWords m_goWords m_facts m_pile m_levels m_best m_losses m_lossOf m_wasThere m_groupMany m_groupRow m_groupLoss m_isMarked] [(0, .ref (q_m 0)), (1, .int l1), (2, .int l2), (5, .long l5)] 265 [] := by
        intro m_taped m_size m_sort m_place m_value m_at m_fault l1 l2 l5 hM
        refine st_aload_n hR dX11_cutAll_265 0 rfl rfl (pc' := 266) rfl ?_
        refine st_get hR dX11_cutAll_266 fg_X11_30_10_6 0 0 rfl rfl rfl (pc' := 269) rfl ?_
        refine st_iload_n hR dX11_cutAll_269 1 rfl rfl (pc' := 270) rfl ?_
        refine st_lload hR dX11_cutAll_270 3 rfl (pc' := 272) rfl ?_
        obtain ⟨hin_, hM⟩ := g_in_e hM
        refine st_last hR dX11_cutAll_272 0 4 rfl rfl hin_ (ix := (ix l1)) rfl (pc' := 273) rfl (fun m_value_1 => [wX11 G q_m m_thrown m_tape m_taped m_size m_sort m_place m_value_1 m_at m_fault m_words m_rows m_op m_arg m_codes m_names m_ofFeed m_teeth m_feedWords m_goWords m_facts m_pile m_levels m_best m_losses m_lossOf m_wasThere m_groupMany m_groupRow m_groupLoss m_isMarked]) (fun _ => rfl) (fun m_value_1 e_ => ?_)
        have hM := lt_e e_ hM
        obtain ⟨l1_1, e_⟩ : ∃ y : Int32, y = l1 + 1 := ⟨_, rfl⟩
        refine st_iinc hR dX11_cutAll_273 (Nat.le_of_ble_eq_true rfl) 1 [1, 0, 2, 3] (v := l1_1) rfl (by rw [e_]; rfl) (lv' := [(0, .ref (q_m 0)), (1, .int l1_1), (2, .int l2), (5, .long l5)]) rfl (pc' := 276) rfl ?_
        have hM := lt_e e_ hM
        refine st_goto hR dX11_cutAll_276 (tgt := 17) (by decide) ?_
        exact st_lv hR [0, 1, 2] rfl (ih17 _ _ _ _ _ _ _ _ _ hM)
      have J261 : ∀ (m_taped : Int32) (m_size : Int32) (m_sort : Nat → Int32) (m_place : Nat → Int32) (m_value : Nat → Int64) (m_at : Int32) (m_fault : Int32) (l1 : Int32) (l2 : Int32) (l5 : Int64) (s0 : Int32) (s1 : Int32), f_X11_cutAll_B261  (f_X11_cutAll_L17  m_tape n17) m_tape m_taped m_size m_sort m_place m_value m_at m_fault l1 l2 l5 s0 s1 = some (o_m_taped, o_m_size, o_m_sort, o_m_place, o_m_value, o_m_at, o_m_fault) → K [wX11 G q_m m_thrown m_tape m_taped m_size m_sort m_place m_value m_at m_fault m_words m_rows m_op m_arg m_codes m_names m_ofFeed m_teeth m_feedWords m_goWords m_facts m_pile m_levels m_best m_losses m_lossOf m_wasThere m_groupMany m_groupRow m_groupLoss m_isMarked] [(0, .ref (q_m 0)), (1, .int l1), (2, .int l2), (5, .long l5)] 261 [.int s0, .int s1, .ref (q_m 2)] := by
        intro m_taped m_size m_sort m_place m_value m_at m_fault l1 l2 l5 s0 s1 hM
        obtain ⟨hin_, hM⟩ := g_in_e hM
        refine st_iast hR dX11_cutAll_261 0 2 rfl rfl hin_ (ix := (ix s1)) rfl (pc' := 262) rfl (fun m_sort_1 => [wX11 G q_m m_thrown m_tape m_taped m_size m_sort_1 m_place m_value m_at m_fault m_words m_rows m_op m_arg m_codes m_names m_ofFeed m_teeth m_feedWords m_goWords m_facts m_pile m_levels m_best m_losses m_lossOf m_wasThere m_groupMany m_groupRow m_groupLoss m_isMarked]) (fun _ => rfl) (fun m_sort_1 e_ => ?_)
        have hM := lt_e e_ hM
        obtain ⟨l2_1, e_⟩ : ∃ y : Int32, y = l2 + 1 := ⟨_, rfl⟩
        refine st_iinc hR dX11_cutAll_262 (Nat.le_of_ble_eq_true rfl) 2 [1, 2, 0, 3] (v := l2_1) rfl (by rw [e_]; rfl) (lv' := [(0, .ref (q_m 0)), (1, .int l1), (2, .int l2_1), (5, .long l5)]) rfl (pc' := 265) rfl ?_
        have hM := lt_e e_ hM
        exact J265 _ _ _ _ _ _ _ _ _ _ hM
      have J236 : ∀ (m_taped : Int32) (m_size : Int32) (m_sort : Nat → Int32) (m_place : Nat → Int32) (m_value : Nat → Int64) (m_at : Int32) (m_fault : Int32) (l1 : Int32) (l2 : Int32) (l5 : Int64) (s0 : Int32) (s1 : Int32), f_X11_cutAll_B236  (f_X11_cutAll_L17  m_tape n17) m_tape m_taped m_size m_sort m_place m_value m_at m_fault l1 l2 l5 s0 s1 = some (o_m_taped, o_m_size, o_m_sort, o_m_place, o_m_value, o_m_at, o_m_fault) → K [wX11 G q_m m_thrown m_tape m_taped m_size m_sort m_place m_value m_at m_fault m_words m_rows m_op m_arg m_codes m_names m_ofFeed m_teeth m_feedWords m_goWords m_facts m_pile m_levels m_best m_losses m_lossOf m_wasThere m_groupMany m_groupRow m_groupLoss m_isMarked] [(0, .ref (q_m 0)), (1, .int l1), (2, .int l2), (5, .long l5)] 236 [.int s0, .int s1, .ref (q_m 2)] := by
        intro m_taped m_size m_sort m_place m_value m_at m_fault l1 l2 l5 s0 s1 hM
        obtain ⟨hin_, hM⟩ := g_in_e hM
        refine st_iast hR dX11_cutAll_236 0 2 rfl rfl hin_ (ix := (ix s1)) rfl (pc' := 237) rfl (fun m_sort_1 => [wX11 G q_m m_thrown m_tape m_taped m_size m_sort_1 m_place m_value m_at m_fault m_words m_rows m_op m_arg m_codes m_names m_ofFeed m_teeth m_feedWords m_goWords m_facts m_pile m_levels m_best m_losses m_lossOf m_wasThere m_groupMany m_groupRow m_groupLoss m_isMarked]) (fun _ => rfl) (fun m_sort_1 e_ => ?_)
        have hM := lt_e e_ hM
        refine st_goto hR dX11_cutAll_237 (tgt := 265) (by decide) ?_
        exact J265 _ _ _ _ _ _ _ _ _ _ hM
      have J218 : ∀ (m_taped : Int32) (m_size : Int32) (m_sort : Nat → Int32) (m_place : Nat → Int32) (m_value : Nat → Int64) (m_at : Int32) (m_fault : Int32) (l1 : Int32) (l2 : Int32) (l4 : Int32) (l5 : Int64), f_X11_cutAll_B218  (f_X11_cutAll_L17  m_tape n17) m_tape m_taped m_size m_sort m_place m_value m_at m_fault l1 l2 l4 l5 = some (o_m_taped, o_m_size, o_m_sort, o_m_place, o_m_value, o_m_at, o_m_fault) → K [wX11 G q_m m_thrown m_tape m_taped m_size m_sort m_place m_value m_at m_fault m_words m_rows m_op m_arg m_codes m_names m_ofFeed m_teeth m_feedWords m_goWords m_facts m_pile m_levels m_best m_losses m_lossOf m_wasThere m_groupMany m_groupRow m_groupLoss m_isMarked] [(0, .ref (q_m 0)), (1, .int l1), (2, .int l2), (4, .int l4), (5, .long l5)] 218 [] := by
        intro m_taped m_size m_sort m_place m_value m_at m_fault l1 l2 l4 l5 hM
        refine st_aload_n hR dX11_cutAll_218 0 rfl rfl (pc' := 219) rfl ?_
        refine st_get hR dX11_cutAll_219 fg_X11_24_10_4 0 0 rfl rfl rfl (pc' := 222) rfl ?_
        refine st_iload_n hR dX11_cutAll_222 1 rfl rfl (pc' := 223) rfl ?_
        refine st_iload_n hR dX11_cutAll_223 2 rfl rfl (pc' := 224) rfl ?_
        refine st_iload hR dX11_cutAll_224 3 rfl (pc' := 226) rfl ?_
        refine st_isub hR dX11_cutAll_226 (pc' := 227) rfl ?_
        refine st_iconst hR dX11_cutAll_227 (v := 4) rfl (pc' := 228) rfl ?_
        refine st_icmp_le hR dX11_cutAll_228 (tgt := 235) (by decide) (pc' := 231) rfl (fun c_ => ?_) (fun c_ => ?_)
        · have hM := it_t c_ hM
          refine st_iconst hR dX11_cutAll_235 (v := 2) rfl (pc' := 236) rfl ?_
          exact st_lv hR [0, 1, 2, 4] rfl (J236 _ _ _ _ _ _ _ _ _ _ _ _ hM)
        · have hM := it_f c_ hM
          refine st_iconst hR dX11_cutAll_231 (v := 4) rfl (pc' := 232) rfl ?_
          refine st_goto hR dX11_cutAll_232 (tgt := 236) (by decide) ?_
          exact st_lv hR [0, 1, 2, 4] rfl (J236 _ _ _ _ _ _ _ _ _ _ _ _ hM)
      have L159 : ∀ (n159 : Nat) (m_taped : Int32) (m_size : Int32) (m_sort : Nat → Int32) (m_place : Nat → Int32) (m_value : Nat → Int64) (m_at : Int32) (m_fault : Int32) (l1 : Int32) (l2 : Int32) (l4 : Int32) (l5 : Int64), f_X11_cutAll_L159  (f_X11_cutAll_L17  m_tape n17) m_tape n159 m_taped m_size m_sort m_place m_value m_at m_fault l1 l2 l4 l5 = some (o_m_taped, o_m_size, o_m_sort, o_m_place, o_m_value, o_m_at, o_m_fault) → K [wX11 G q_m m_thrown m_tape m_taped m_size m_sort m_place m_value m_at m_fault m_words m_rows m_op m_arg m_codes m_names m_ofFeed m_teeth m_feedWords m_goWords m_facts m_pile m_levels m_best m_losses m_lossOf m_wasThere m_groupMany m_groupRow m_groupLoss m_isMarked] [(0, .ref (q_m 0)), (1, .int l1), (2, .int l2), (4, .int l4), (5, .long l5)] 159 [] := by
        intro n159
        induction n159 with
        | zero => intro m_taped m_size m_sort m_place m_value m_at m_fault l1 l2 l4 l5 hM; exact no_some hM
        | succ n159 ih159 =>
          have J210 : ∀ (m_taped : Int32) (m_size : Int32) (m_sort : Nat → Int32) (m_place : Nat → Int32) (m_value : Nat → Int64) (m_at : Int32) (m_fault : Int32) (l1 : Int32) (l2 : Int32) (l4 : Int32) (s0 : Int64), f_X11_cutAll_B210  (f_X11_cutAll_L17  m_tape n17) (f_X11_cutAll_L159  (f_X11_cutAll_L17  m_tape n17) m_tape n159) m_tape m_taped m_size m_sort m_place m_value m_at m_fault l1 l2 l4 s0 = some (o_m_taped, o_m_size, o_m_sort, o_m_place, o_m_value, o_m_at, o_m_fault) → K [wX11 G q_m m_thrown m_tape m_taped m_size m_sort m_place m_value m_at m_fault m_words m_rows m_op m_arg m_codes m_names m_ofFeed m_teeth m_feedWords m_goWords m_facts m_pile m_levels m_best m_losses m_lossOf m_wasThere m_groupMany m_groupRow m_groupLoss m_isMarked] [(0, .ref (q_m 0)), (1, .int l1), (2, .int l2), (4, .int l4)] 210 [.long s0] := by
            intro m_taped m_size m_sort m_place m_value m_at m_fault l1 l2 l4 s0 hM
            refine st_lstore hR dX11_cutAll_210 (Nat.le_of_ble_eq_true rfl) [1, 2, 3, 4, 0] (lv' := [(0, .ref (q_m 0)), (1, .int l1), (2, .int l2), (4, .int l4), (5, .long s0)]) rfl (pc' := 212) rfl ?_
            obtain ⟨l2_1, e_⟩ : ∃ y : Int32, y = l2 + 1 := ⟨_, rfl⟩
            refine st_iinc hR dX11_cutAll_212 (Nat.le_of_ble_eq_true rfl) 2 [1, 2, 0, 3, 4] (v := l2_1) rfl (by rw [e_]; rfl) (lv' := [(0, .ref (q_m 0)), (1, .int l1), (2, .int l2_1), (4, .int l4), (5, .long s0)]) rfl (pc' := 215) rfl ?_
            have hM := lt_e e_ hM
            refine st_goto hR dX11_cutAll_215 (tgt := 159) (by decide) ?_
            exact ih159 _ _ _ _ _ _ _ _ _ _ _ hM
          intro m_taped m_size m_sort m_place m_value m_at m_fault l1 l2 l4 l5 hM
          have hM : f_X11_cutAll_L159b  (f_X11_cutAll_L17  m_tape n17) (f_X11_cutAll_L159  (f_X11_cutAll_L17  m_tape n17) m_tape n159) m_tape m_taped m_size m_sort m_place m_value m_at m_fault l1 l2 l4 l5 = some (o_m_taped, o_m_size, o_m_sort, o_m_place, o_m_value, o_m_at, o_m_fault) := hM
          refine st_iload_n hR dX11_cutAll_159 2 rfl rfl (pc' := 160) rfl ?_
          refine st_aload_n hR dX11_cutAll_160 0 rfl rfl (pc' := 161) rfl ?_
          refine st_get hR dX11_cutAll_161 fg_X11_122_10_3 0 0 rfl rfl rfl (pc' := 164) rfl ?_
          refine st_icmp_ge hR dX11_cutAll_164 (tgt := 218) (by decide) (pc' := 167) rfl (fun c_ => ?_) (fun c_ => ?_)
          · have hM := it_t c_ hM
            exact J218 _ _ _ _ _ _ _ _ _ _ _ hM
          · have hM := it_f c_ hM
            refine st_aload_n hR dX11_cutAll_167 0 rfl rfl (pc' := 168) rfl ?_
            refine st_get hR dX11_cutAll_168 fg_X11_14_10_1 0 0 rfl rfl rfl (pc' := 171) rfl ?_
            refine st_iload_n hR dX11_cutAll_171 2 rfl rfl (pc' := 172) rfl ?_
            obtain ⟨hin_, hM⟩ := g_in_e hM
            refine st_iald hR dX11_cutAll_172 0 1 rfl rfl hin_ (v := m_tape (ix l2)) rfl (pc' := 173) rfl ?_
            obtain ⟨r_1, hc_, hM⟩ := bd_e hM
            refine st_callS hR (k_X11_isDigit hc_) cf_X11_131 (rm_le (Nat.le_of_ble_eq_true rfl) (Nat.le_of_ble_eq_true rfl)) [] rfl rfl rfl rfl (rest := []) rfl (Nat.le_of_ble_eq_true rfl) dX11_cutAll_173 (pc' := 176) rfl (Wn := [wX11 G q_m m_thrown m_tape m_taped m_size m_sort m_place m_value m_at m_fault m_words m_rows m_op m_arg m_codes m_names m_ofFeed m_teeth m_feedWords m_goWords m_facts m_pile m_levels m_best m_losses m_lossOf m_wasThere m_groupMany m_groupRow m_groupLoss m_isMarked]) rfl ?_
            refine st_if_eq hR dX11_cutAll_176 (tgt := 218) (by decide) (pc' := 179) rfl (fun c_ => ?_) (fun c_ => ?_)
            · have hM := it_t c_ hM
              exact J218 _ _ _ _ _ _ _ _ _ _ _ hM
            · have hM := it_f c_ hM
              refine st_iload_n hR dX11_cutAll_179 2 rfl rfl (pc' := 180) rfl ?_
              refine st_iload hR dX11_cutAll_180 3 rfl (pc' := 182) rfl ?_
              refine st_isub hR dX11_cutAll_182 (pc' := 183) rfl ?_
              refine st_iconst hR dX11_cutAll_183 (v := 4) rfl (pc' := 184) rfl ?_
              refine st_icmp_ge hR dX11_cutAll_184 (tgt := 208) (by decide) (pc' := 187) rfl (fun c_ => ?_) (fun c_ => ?_)
              · have hM := it_t c_ hM
                refine st_lload hR dX11_cutAll_208 4 rfl (pc' := 210) rfl ?_
                exact st_lv hR [0, 1, 2, 3] rfl (J210 _ _ _ _ _ _ _ _ _ _ _ hM)
              · have hM := it_f c_ hM
                refine st_ldc2 hR (v := 10) cl_X11_134 dX11_cutAll_187 (pc' := 190) rfl ?_
                refine st_lload hR dX11_cutAll_190 4 rfl (pc' := 192) rfl ?_
                refine st_lmul hR dX11_cutAll_192 (pc' := 193) rfl ?_
                refine st_aload_n hR dX11_cutAll_193 0 rfl rfl (pc' := 194) rfl ?_
                refine st_get hR dX11_cutAll_194 fg_X11_14_10_1 0 0 rfl rfl rfl (pc' := 197) rfl ?_
                refine st_iload_n hR dX11_cutAll_197 2 rfl rfl (pc' := 198) rfl ?_
                obtain ⟨hin_, hM⟩ := g_in_e hM
                refine st_iald hR dX11_cutAll_198 0 1 rfl rfl hin_ (v := m_tape (ix l2)) rfl (pc' := 199) rfl ?_
                refine st_i2l hR dX11_cutAll_199 (pc' := 200) rfl ?_
                refine st_ladd hR dX11_cutAll_200 (pc' := 201) rfl ?_
                refine st_ldc2 hR (v := 48) cl_X11_136 dX11_cutAll_201 (pc' := 204) rfl ?_
                refine st_lsub hR dX11_cutAll_204 (pc' := 205) rfl ?_
                refine st_goto hR dX11_cutAll_205 (tgt := 210) (by decide) ?_
                exact st_lv hR [0, 1, 2, 3] rfl (J210 _ _ _ _ _ _ _ _ _ _ _ hM)
      have J148 : ∀ (m_taped : Int32) (m_size : Int32) (m_sort : Nat → Int32) (m_place : Nat → Int32) (m_value : Nat → Int64) (m_at : Int32) (m_fault : Int32) (l1 : Int32) (l2 : Int32) (l5 : Int64) (s0 : Int32) (s1 : Int32), f_X11_cutAll_B148  (f_X11_cutAll_L17  m_tape n17) m_tape m_taped m_size m_sort m_place m_value m_at m_fault l1 l2 l5 s0 s1 = some (o_m_taped, o_m_size, o_m_sort, o_m_place, o_m_value, o_m_at, o_m_fault) → K [wX11 G q_m m_thrown m_tape m_taped m_size m_sort m_place m_value m_at m_fault m_words m_rows m_op m_arg m_codes m_names m_ofFeed m_teeth m_feedWords m_goWords m_facts m_pile m_levels m_best m_losses m_lossOf m_wasThere m_groupMany m_groupRow m_groupLoss m_isMarked] [(0, .ref (q_m 0)), (1, .int l1), (2, .int l2), (5, .long l5)] 148 [.int s0, .int s1, .ref (q_m 2)] := by
        intro m_taped m_size m_sort m_place m_value m_at m_fault l1 l2 l5 s0 s1 hM
        obtain ⟨hin_, hM⟩ := g_in_e hM
        refine st_iast hR dX11_cutAll_148 0 2 rfl rfl hin_ (ix := (ix s1)) rfl (pc' := 149) rfl (fun m_sort_1 => [wX11 G q_m m_thrown m_tape m_taped m_size m_sort_1 m_place m_value m_at m_fault m_words m_rows m_op m_arg m_codes m_names m_ofFeed m_teeth m_feedWords m_goWords m_facts m_pile m_levels m_best m_losses m_lossOf m_wasThere m_groupMany m_groupRow m_groupLoss m_isMarked]) (fun _ => rfl) (fun m_sort_1 e_ => ?_)
        have hM := lt_e e_ hM
        refine st_goto hR dX11_cutAll_149 (tgt := 265) (by decide) ?_
        exact J265 _ _ _ _ _ _ _ _ _ _ hM
      have J129 : ∀ (m_taped : Int32) (m_size : Int32) (m_sort : Nat → Int32) (m_place : Nat → Int32) (m_value : Nat → Int64) (m_at : Int32) (m_fault : Int32) (l1 : Int32) (l2 : Int32) (l4 : Int32) (l5 : Int64), f_X11_cutAll_B129  (f_X11_cutAll_L17  m_tape n17) m_tape m_taped m_size m_sort m_place m_value m_at m_fault l1 l2 l4 l5 = some (o_m_taped, o_m_size, o_m_sort, o_m_place, o_m_value, o_m_at, o_m_fault) → K [wX11 G q_m m_thrown m_tape m_taped m_size m_sort m_place m_value m_at m_fault m_words m_rows m_op m_arg m_codes m_names m_ofFeed m_teeth m_feedWords m_goWords m_facts m_pile m_levels m_best m_losses m_lossOf m_wasThere m_groupMany m_groupRow m_groupLoss m_isMarked] [(0, .ref (q_m 0)), (1, .int l1), (2, .int l2), (4, .int l4), (5, .long l5)] 129 [] := by
        intro m_taped m_size m_sort m_place m_value m_at m_fault l1 l2 l4 l5 hM
        refine st_aload_n hR dX11_cutAll_129 0 rfl rfl (pc' := 130) rfl ?_
        refine st_get hR dX11_cutAll_130 fg_X11_24_10_4 0 0 rfl rfl rfl (pc' := 133) rfl ?_
        refine st_iload_n hR dX11_cutAll_133 1 rfl rfl (pc' := 134) rfl ?_
        refine st_iload_n hR dX11_cutAll_134 2 rfl rfl (pc' := 135) rfl ?_
        refine st_iload hR dX11_cutAll_135 3 rfl (pc' := 137) rfl ?_
        refine st_isub hR dX11_cutAll_137 (pc' := 138) rfl ?_
        refine st_bipush hR dX11_cutAll_138 (v := 8) rfl (pc' := 140) rfl ?_
        refine st_icmp_le hR dX11_cutAll_140 (tgt := 147) (by decide) (pc' := 143) rfl (fun c_ => ?_) (fun c_ => ?_)
        · have hM := it_t c_ hM
          refine st_iconst hR dX11_cutAll_147 (v := 1) rfl (pc' := 148) rfl ?_
          exact st_lv hR [0, 1, 2, 4] rfl (J148 _ _ _ _ _ _ _ _ _ _ _ _ hM)
        · have hM := it_f c_ hM
          refine st_iconst hR dX11_cutAll_143 (v := 4) rfl (pc' := 144) rfl ?_
          refine st_goto hR dX11_cutAll_144 (tgt := 148) (by decide) ?_
          exact st_lv hR [0, 1, 2, 4] rfl (J148 _ _ _ _ _ _ _ _ _ _ _ _ hM)
      have L70 : ∀ (n70 : Nat) (m_taped : Int32) (m_size : Int32) (m_sort : Nat → Int32) (m_place : Nat → Int32) (m_value : Nat → Int64) (m_at : Int32) (m_fault : Int32) (l1 : Int32) (l2 : Int32) (l4 : Int32) (l5 : Int64), f_X11_cutAll_L70  (f_X11_cutAll_L17  m_tape n17) m_tape n70 m_taped m_size m_sort m_place m_value m_at m_fault l1 l2 l4 l5 = some (o_m_taped, o_m_size, o_m_sort, o_m_place, o_m_value, o_m_at, o_m_fault) → K [wX11 G q_m m_thrown m_tape m_taped m_size m_sort m_place m_value m_at m_fault m_words m_rows m_op m_arg m_codes m_names m_ofFeed m_teeth m_feedWords m_goWords m_facts m_pile m_levels m_best m_losses m_lossOf m_wasThere m_groupMany m_groupRow m_groupLoss m_isMarked] [(0, .ref (q_m 0)), (1, .int l1), (2, .int l2), (4, .int l4), (5, .long l5)] 70 [] := by
        intro n70
        induction n70 with
        | zero => intro m_taped m_size m_sort m_place m_value m_at m_fault l1 l2 l4 l5 hM; exact no_some hM
        | succ n70 ih70 =>
          have J121 : ∀ (m_taped : Int32) (m_size : Int32) (m_sort : Nat → Int32) (m_place : Nat → Int32) (m_value : Nat → Int64) (m_at : Int32) (m_fault : Int32) (l1 : Int32) (l2 : Int32) (l4 : Int32) (s0 : Int64), f_X11_cutAll_B121  (f_X11_cutAll_L17  m_tape n17) (f_X11_cutAll_L70  (f_X11_cutAll_L17  m_tape n17) m_tape n70) m_tape m_taped m_size m_sort m_place m_value m_at m_fault l1 l2 l4 s0 = some (o_m_taped, o_m_size, o_m_sort, o_m_place, o_m_value, o_m_at, o_m_fault) → K [wX11 G q_m m_thrown m_tape m_taped m_size m_sort m_place m_value m_at m_fault m_words m_rows m_op m_arg m_codes m_names m_ofFeed m_teeth m_feedWords m_goWords m_facts m_pile m_levels m_best m_losses m_lossOf m_wasThere m_groupMany m_groupRow m_groupLoss m_isMarked] [(0, .ref (q_m 0)), (1, .int l1), (2, .int l2), (4, .int l4)] 121 [.long s0] := by
            intro m_taped m_size m_sort m_place m_value m_at m_fault l1 l2 l4 s0 hM
            refine st_lstore hR dX11_cutAll_121 (Nat.le_of_ble_eq_true rfl) [1, 2, 3, 4, 0] (lv' := [(0, .ref (q_m 0)), (1, .int l1), (2, .int l2), (4, .int l4), (5, .long s0)]) rfl (pc' := 123) rfl ?_
            obtain ⟨l2_1, e_⟩ : ∃ y : Int32, y = l2 + 1 := ⟨_, rfl⟩
            refine st_iinc hR dX11_cutAll_123 (Nat.le_of_ble_eq_true rfl) 2 [1, 2, 0, 3, 4] (v := l2_1) rfl (by rw [e_]; rfl) (lv' := [(0, .ref (q_m 0)), (1, .int l1), (2, .int l2_1), (4, .int l4), (5, .long s0)]) rfl (pc' := 126) rfl ?_
            have hM := lt_e e_ hM
            refine st_goto hR dX11_cutAll_126 (tgt := 70) (by decide) ?_
            exact ih70 _ _ _ _ _ _ _ _ _ _ _ hM
          intro m_taped m_size m_sort m_place m_value m_at m_fault l1 l2 l4 l5 hM
          have hM : f_X11_cutAll_L70b  (f_X11_cutAll_L17  m_tape n17) (f_X11_cutAll_L70  (f_X11_cutAll_L17  m_tape n17) m_tape n70) m_tape m_taped m_size m_sort m_place m_value m_at m_fault l1 l2 l4 l5 = some (o_m_taped, o_m_size, o_m_sort, o_m_place, o_m_value, o_m_at, o_m_fault) := hM
          refine st_iload_n hR dX11_cutAll_70 2 rfl rfl (pc' := 71) rfl ?_
          refine st_aload_n hR dX11_cutAll_71 0 rfl rfl (pc' := 72) rfl ?_
          refine st_get hR dX11_cutAll_72 fg_X11_122_10_3 0 0 rfl rfl rfl (pc' := 75) rfl ?_
          refine st_icmp_ge hR dX11_cutAll_75 (tgt := 129) (by decide) (pc' := 78) rfl (fun c_ => ?_) (fun c_ => ?_)
          · have hM := it_t c_ hM
            exact J129 _ _ _ _ _ _ _ _ _ _ _ hM
          · have hM := it_f c_ hM
            refine st_aload_n hR dX11_cutAll_78 0 rfl rfl (pc' := 79) rfl ?_
            refine st_get hR dX11_cutAll_79 fg_X11_14_10_1 0 0 rfl rfl rfl (pc' := 82) rfl ?_
            refine st_iload_n hR dX11_cutAll_82 2 rfl rfl (pc' := 83) rfl ?_
            obtain ⟨hin_, hM⟩ := g_in_e hM
            refine st_iald hR dX11_cutAll_83 0 1 rfl rfl hin_ (v := m_tape (ix l2)) rfl (pc' := 84) rfl ?_
            obtain ⟨r_1, hc_, hM⟩ := bd_e hM
            refine st_callS hR (k_X11_isLetter hc_) cf_X11_118 (rm_le (Nat.le_of_ble_eq_true rfl) (Nat.le_of_ble_eq_true rfl)) [] rfl rfl rfl rfl (rest := []) rfl (Nat.le_of_ble_eq_true rfl) dX11_cutAll_84 (pc' := 87) rfl (Wn := [wX11 G q_m m_thrown m_tape m_taped m_size m_sort m_place m_value m_at m_fault m_words m_rows m_op m_arg m_codes m_names m_ofFeed m_teeth m_feedWords m_goWords m_facts m_pile m_levels m_best m_losses m_lossOf m_wasThere m_groupMany m_groupRow m_groupLoss m_isMarked]) rfl ?_
            refine st_if_eq hR dX11_cutAll_87 (tgt := 129) (by decide) (pc' := 90) rfl (fun c_ => ?_) (fun c_ => ?_)
            · have hM := it_t c_ hM
              exact J129 _ _ _ _ _ _ _ _ _ _ _ hM
            · have hM := it_f c_ hM
              refine st_iload_n hR dX11_cutAll_90 2 rfl rfl (pc' := 91) rfl ?_
              refine st_iload hR dX11_cutAll_91 3 rfl (pc' := 93) rfl ?_
              refine st_isub hR dX11_cutAll_93 (pc' := 94) rfl ?_
              refine st_bipush hR dX11_cutAll_94 (v := 8) rfl (pc' := 96) rfl ?_
              refine st_icmp_ge hR dX11_cutAll_96 (tgt := 119) (by decide) (pc' := 99) rfl (fun c_ => ?_) (fun c_ => ?_)
              · have hM := it_t c_ hM
                refine st_lload hR dX11_cutAll_119 4 rfl (pc' := 121) rfl ?_
                exact st_lv hR [0, 1, 2, 3] rfl (J121 _ _ _ _ _ _ _ _ _ _ _ hM)
              · have hM := it_f c_ hM
                refine st_ldc2 hR (v := 37) cl_X11_125 dX11_cutAll_99 (pc' := 102) rfl ?_
                refine st_lload hR dX11_cutAll_102 4 rfl (pc' := 104) rfl ?_
                refine st_lmul hR dX11_cutAll_104 (pc' := 105) rfl ?_
                refine st_aload_n hR dX11_cutAll_105 0 rfl rfl (pc' := 106) rfl ?_
                refine st_get hR dX11_cutAll_106 fg_X11_14_10_1 0 0 rfl rfl rfl (pc' := 109) rfl ?_
                refine st_iload_n hR dX11_cutAll_109 2 rfl rfl (pc' := 110) rfl ?_
                obtain ⟨hin_, hM⟩ := g_in_e hM
                refine st_iald hR dX11_cutAll_110 0 1 rfl rfl hin_ (v := m_tape (ix l2)) rfl (pc' := 111) rfl ?_
                obtain ⟨r_2, hc_, hM⟩ := bd_e hM
                refine st_callS hR (k_X11_rank hc_) cf_X11_127 (rm_le (Nat.le_of_ble_eq_true rfl) (Nat.le_of_ble_eq_true rfl)) [] rfl rfl rfl rfl (rest := [.long (37 * l5)]) rfl (Nat.le_of_ble_eq_true rfl) dX11_cutAll_111 (pc' := 114) rfl (Wn := [wX11 G q_m m_thrown m_tape m_taped m_size m_sort m_place m_value m_at m_fault m_words m_rows m_op m_arg m_codes m_names m_ofFeed m_teeth m_feedWords m_goWords m_facts m_pile m_levels m_best m_losses m_lossOf m_wasThere m_groupMany m_groupRow m_groupLoss m_isMarked]) rfl ?_
                refine st_i2l hR dX11_cutAll_114 (pc' := 115) rfl ?_
                refine st_ladd hR dX11_cutAll_115 (pc' := 116) rfl ?_
                refine st_goto hR dX11_cutAll_116 (tgt := 121) (by decide) ?_
                exact st_lv hR [0, 1, 2, 3] rfl (J121 _ _ _ _ _ _ _ _ _ _ _ hM)
      intro m_taped m_size m_sort m_place m_value m_at m_fault l1 l2 hM
      have hM : f_X11_cutAll_L17b  (f_X11_cutAll_L17  m_tape n17) m_tape m_taped m_size m_sort m_place m_value m_at m_fault l1 l2 = some (o_m_taped, o_m_size, o_m_sort, o_m_place, o_m_value, o_m_at, o_m_fault) := hM
      refine st_iload_n hR dX11_cutAll_17 2 rfl rfl (pc' := 18) rfl ?_
      refine st_aload_n hR dX11_cutAll_18 0 rfl rfl (pc' := 19) rfl ?_
      refine st_get hR dX11_cutAll_19 fg_X11_122_10_3 0 0 rfl rfl rfl (pc' := 22) rfl ?_
      refine st_icmp_ge hR dX11_cutAll_22 (tgt := 279) (by decide) (pc' := 25) rfl (fun c_ => ?_) (fun c_ => ?_)
      · have hM := it_t c_ hM
        refine st_aload_n hR dX11_cutAll_279 0 rfl rfl (pc' := 280) rfl ?_
        refine st_get hR dX11_cutAll_280 fg_X11_24_10_4 0 0 rfl rfl rfl (pc' := 283) rfl ?_
        refine st_iload_n hR dX11_cutAll_283 1 rfl rfl (pc' := 284) rfl ?_
        refine st_iconst hR dX11_cutAll_284 (v := 0) rfl (pc' := 285) rfl ?_
        obtain ⟨hin_, hM⟩ := g_in_e hM
        refine st_iast hR dX11_cutAll_285 0 2 rfl rfl hin_ (ix := (ix l1)) rfl (pc' := 286) rfl (fun m_sort_1 => [wX11 G q_m m_thrown m_tape m_taped m_size m_sort_1 m_place m_value m_at m_fault m_words m_rows m_op m_arg m_codes m_names m_ofFeed m_teeth m_feedWords m_goWords m_facts m_pile m_levels m_best m_losses m_lossOf m_wasThere m_groupMany m_groupRow m_groupLoss m_isMarked]) (fun _ => rfl) (fun m_sort_1 e_ => ?_)
        have hM := lt_e e_ hM
        refine st_aload_n hR dX11_cutAll_286 0 rfl rfl (pc' := 287) rfl ?_
        refine st_get hR dX11_cutAll_287 fg_X11_27_10_5 0 0 rfl rfl rfl (pc' := 290) rfl ?_
        refine st_iload_n hR dX11_cutAll_290 1 rfl rfl (pc' := 291) rfl ?_
        refine st_aload_n hR dX11_cutAll_291 0 rfl rfl (pc' := 292) rfl ?_
        refine st_get hR dX11_cutAll_292 fg_X11_122_10_3 0 0 rfl rfl rfl (pc' := 295) rfl ?_
        obtain ⟨hin_, hM⟩ := g_in_e hM
        refine st_iast hR dX11_cutAll_295 0 3 rfl rfl hin_ (ix := (ix l1)) rfl (pc' := 296) rfl (fun m_place_1 => [wX11 G q_m m_thrown m_tape m_taped m_size m_sort_1 m_place_1 m_value m_at m_fault m_words m_rows m_op m_arg m_codes m_names m_ofFeed m_teeth m_feedWords m_goWords m_facts m_pile m_levels m_best m_losses m_lossOf m_wasThere m_groupMany m_groupRow m_groupLoss m_isMarked]) (fun _ => rfl) (fun m_place_1 e_ => ?_)
        have hM := lt_e e_ hM
        refine st_aload_n hR dX11_cutAll_296 0 rfl rfl (pc' := 297) rfl ?_
        refine st_iconst hR dX11_cutAll_297 (v := 0) rfl (pc' := 298) rfl ?_
        refine st_put hR dX11_cutAll_298 fp_X11_141_10_7 0 0 rfl rfl (Nat.le_of_ble_eq_true rfl) rfl rfl (pc' := 301) rfl (W' := [wX11 G q_m m_thrown m_tape m_taped m_size m_sort_1 m_place_1 m_value 0 m_fault m_words m_rows m_op m_arg m_codes m_names m_ofFeed m_teeth m_feedWords m_goWords m_facts m_pile m_levels m_best m_losses m_lossOf m_wasThere m_groupMany m_groupRow m_groupLoss m_isMarked]) rfl ?_
        refine st_aload_n hR dX11_cutAll_301 0 rfl rfl (pc' := 302) rfl ?_
        refine st_iconst hR dX11_cutAll_302 (v := 0) rfl (pc' := 303) rfl ?_
        refine st_put hR dX11_cutAll_303 fp_X11_144_10_8 0 0 rfl rfl (Nat.le_of_ble_eq_true rfl) rfl rfl (pc' := 306) rfl (W' := [wX11 G q_m m_thrown m_tape m_taped m_size m_sort_1 m_place_1 m_value 0 0 m_words m_rows m_op m_arg m_codes m_names m_ofFeed m_teeth m_feedWords m_goWords m_facts m_pile m_levels m_best m_losses m_lossOf m_wasThere m_groupMany m_groupRow m_groupLoss m_isMarked]) rfl ?_
        cases hM
        exact hret _ _ dX11_cutAll_306 ro_v
      · have hM := it_f c_ hM
        refine st_aload_n hR dX11_cutAll_25 0 rfl rfl (pc' := 26) rfl ?_
        refine st_get hR dX11_cutAll_26 fg_X11_14_10_1 0 0 rfl rfl rfl (pc' := 29) rfl ?_
        refine st_iload_n hR dX11_cutAll_29 2 rfl rfl (pc' := 30) rfl ?_
        obtain ⟨hin_, hM⟩ := g_in_e hM
        refine st_iald hR dX11_cutAll_30 0 1 rfl rfl hin_ (v := m_tape (ix l2)) rfl (pc' := 31) rfl ?_
        refine st_topi (fun l3_1 e_ => ?_)
        have hM := lt_e e_ hM
        refine st_istore_n hR dX11_cutAll_31 rfl (Nat.le_of_ble_eq_true rfl) [1, 2, 3, 0] (lv' := [(0, .ref (q_m 0)), (1, .int l1), (2, .int l2), (3, .int l3_1)]) rfl (pc' := 32) rfl ?_
        refine st_iload_n hR dX11_cutAll_32 3 rfl rfl (pc' := 33) rfl ?_
        refine st_bipush hR dX11_cutAll_33 (v := 10) rfl (pc' := 35) rfl ?_
        refine st_icmp_eq hR dX11_cutAll_35 (tgt := 44) (by decide) (pc' := 38) rfl (fun c_ => ?_) (fun c_ => ?_)
        · have hM := it_t c_ hM
          exact st_lv hR [0, 1, 2] rfl (J44 _ _ _ _ _ _ _ _ _ hM)
        · have hM := it_f c_ hM
          refine st_iload_n hR dX11_cutAll_38 3 rfl rfl (pc' := 39) rfl ?_
          refine st_bipush hR dX11_cutAll_39 (v := 32) rfl (pc' := 41) rfl ?_
          refine st_icmp_ne hR dX11_cutAll_41 (tgt := 50) (by decide) (pc' := 44) rfl (fun c_ => ?_) (fun c_ => ?_)
          · have hM := it_f c_ hM
            refine st_iload_n hR dX11_cutAll_50 2 rfl rfl (pc' := 51) rfl ?_
            refine st_istore hR dX11_cutAll_51 (Nat.le_of_ble_eq_true rfl) [1, 2, 3, 4, 0] (lv' := [(0, .ref (q_m 0)), (1, .int l1), (2, .int l2), (3, .int l3_1), (4, .int l2)]) rfl (pc' := 53) rfl ?_
            refine st_lconst hR dX11_cutAll_53 (v := 0) rfl (pc' := 54) rfl ?_
            refine st_lstore hR dX11_cutAll_54 (Nat.le_of_ble_eq_true rfl) [1, 2, 3, 4, 5, 0] (lv' := [(0, .ref (q_m 0)), (1, .int l1), (2, .int l2), (3, .int l3_1), (4, .int l2), (5, .long 0)]) rfl (pc' := 56) rfl ?_
            refine st_aload_n hR dX11_cutAll_56 0 rfl rfl (pc' := 57) rfl ?_
            refine st_get hR dX11_cutAll_57 fg_X11_27_10_5 0 0 rfl rfl rfl (pc' := 60) rfl ?_
            refine st_iload_n hR dX11_cutAll_60 1 rfl rfl (pc' := 61) rfl ?_
            refine st_iload_n hR dX11_cutAll_61 2 rfl rfl (pc' := 62) rfl ?_
            obtain ⟨hin_, hM⟩ := g_in_e hM
            refine st_iast hR dX11_cutAll_62 0 3 rfl rfl hin_ (ix := (ix l1)) rfl (pc' := 63) rfl (fun m_place_2 => [wX11 G q_m m_thrown m_tape m_taped m_size m_sort m_place_2 m_value m_at m_fault m_words m_rows m_op m_arg m_codes m_names m_ofFeed m_teeth m_feedWords m_goWords m_facts m_pile m_levels m_best m_losses m_lossOf m_wasThere m_groupMany m_groupRow m_groupLoss m_isMarked]) (fun _ => rfl) (fun m_place_2 e_ => ?_)
            have hM := lt_e e_ hM
            refine st_iload_n hR dX11_cutAll_63 3 rfl rfl (pc' := 64) rfl ?_
            obtain ⟨r_1, hc_, hM⟩ := bd_e hM
            refine st_callS hR (k_X11_isLetter hc_) cf_X11_118 (rm_le (Nat.le_of_ble_eq_true rfl) (Nat.le_of_ble_eq_true rfl)) [] rfl rfl rfl rfl (rest := []) rfl (Nat.le_of_ble_eq_true rfl) dX11_cutAll_64 (pc' := 67) rfl (Wn := [wX11 G q_m m_thrown m_tape m_taped m_size m_sort m_place_2 m_value m_at m_fault m_words m_rows m_op m_arg m_codes m_names m_ofFeed m_teeth m_feedWords m_goWords m_facts m_pile m_levels m_best m_losses m_lossOf m_wasThere m_groupMany m_groupRow m_groupLoss m_isMarked]) rfl ?_
            refine st_if_eq hR dX11_cutAll_67 (tgt := 152) (by decide) (pc' := 70) rfl (fun c_ => ?_) (fun c_ => ?_)
            · have hM := it_t c_ hM
              refine st_iload_n hR dX11_cutAll_152 3 rfl rfl (pc' := 153) rfl ?_
              obtain ⟨r_2, hc_, hM⟩ := bd_e hM
              refine st_callS hR (k_X11_isDigit hc_) cf_X11_131 (rm_le (Nat.le_of_ble_eq_true rfl) (Nat.le_of_ble_eq_true rfl)) [] rfl rfl rfl rfl (rest := []) rfl (Nat.le_of_ble_eq_true rfl) dX11_cutAll_153 (pc' := 156) rfl (Wn := [wX11 G q_m m_thrown m_tape m_taped m_size m_sort m_place_2 m_value m_at m_fault m_words m_rows m_op m_arg m_codes m_names m_ofFeed m_teeth m_feedWords m_goWords m_facts m_pile m_levels m_best m_losses m_lossOf m_wasThere m_groupMany m_groupRow m_groupLoss m_isMarked]) rfl ?_
              refine st_if_eq hR dX11_cutAll_156 (tgt := 240) (by decide) (pc' := 159) rfl (fun c_ => ?_) (fun c_ => ?_)
              · have hM := it_t c_ hM
                refine st_iload_n hR dX11_cutAll_240 3 rfl rfl (pc' := 241) rfl ?_
                refine st_i2l hR dX11_cutAll_241 (pc' := 242) rfl ?_
                refine st_topl (fun l5_1 e_ => ?_)
                have hM := lt_e e_ hM
                refine st_lstore hR dX11_cutAll_242 (Nat.le_of_ble_eq_true rfl) [1, 2, 3, 4, 5, 0] (lv' := [(0, .ref (q_m 0)), (1, .int l1), (2, .int l2), (3, .int l3_1), (4, .int l2), (5, .long l5_1)]) rfl (pc' := 244) rfl ?_
                refine st_aload_n hR dX11_cutAll_244 0 rfl rfl (pc' := 245) rfl ?_
                refine st_get hR dX11_cutAll_245 fg_X11_24_10_4 0 0 rfl rfl rfl (pc' := 248) rfl ?_
                refine st_iload_n hR dX11_cutAll_248 1 rfl rfl (pc' := 249) rfl ?_
                refine st_iload_n hR dX11_cutAll_249 3 rfl rfl (pc' := 250) rfl ?_
                obtain ⟨r_3, hc_, hM⟩ := bd_e hM
                refine st_callS hR (k_X11_isSignOf hc_) cf_X11_138 (rm_le (Nat.le_of_ble_eq_true rfl) (Nat.le_of_ble_eq_true rfl)) [] rfl rfl rfl rfl (rest := [.int l1, .ref (q_m 2)]) rfl (Nat.le_of_ble_eq_true rfl) dX11_cutAll_250 (pc' := 253) rfl (Wn := [wX11 G q_m m_thrown m_tape m_taped m_size m_sort m_place_2 m_value m_at m_fault m_words m_rows m_op m_arg m_codes m_names m_ofFeed m_teeth m_feedWords m_goWords m_facts m_pile m_levels m_best m_losses m_lossOf m_wasThere m_groupMany m_groupRow m_groupLoss m_isMarked]) rfl ?_
                refine st_if_eq hR dX11_cutAll_253 (tgt := 260) (by decide) (pc' := 256) rfl (fun c_ => ?_) (fun c_ => ?_)
                · have hM := it_t c_ hM
                  refine st_iconst hR dX11_cutAll_260 (v := 4) rfl (pc' := 261) rfl ?_
                  exact st_lv hR [0, 1, 2, 5] rfl (J261 _ _ _ _ _ _ _ _ _ _ _ _ hM)
                · have hM := it_f c_ hM
                  refine st_iconst hR dX11_cutAll_256 (v := 3) rfl (pc' := 257) rfl ?_
                  refine st_goto hR dX11_cutAll_257 (tgt := 261) (by decide) ?_
                  exact st_lv hR [0, 1, 2, 5] rfl (J261 _ _ _ _ _ _ _ _ _ _ _ _ hM)
              · have hM := it_f c_ hM
                exact st_lv hR [0, 1, 2, 4, 5] rfl (L159 FU _ _ _ _ _ _ _ _ _ _ _ hM)
            · have hM := it_f c_ hM
              exact st_lv hR [0, 1, 2, 4, 5] rfl (L70 FU _ _ _ _ _ _ _ _ _ _ _ hM)
          · have hM := it_t c_ hM
            exact st_lv hR [0, 1, 2] rfl (J44 _ _ _ _ _ _ _ _ _ hM)
  refine st_aload_n hR dX11_cutAll_0 0 rfl rfl (pc' := 1) rfl ?_
  refine st_aload_n hR dX11_cutAll_1 0 rfl rfl (pc' := 2) rfl ?_
  refine st_get hR dX11_cutAll_2 fg_X11_11_10_2 0 0 rfl rfl rfl (pc' := 5) rfl ?_
  refine st_put hR dX11_cutAll_5 fp_X11_122_10_3 0 0 rfl rfl (Nat.le_of_ble_eq_true rfl) rfl rfl (pc' := 8) rfl (W' := [wX11 G q_m m_thrown m_tape m_taped m_taped m_sort m_place m_value m_at m_fault m_words m_rows m_op m_arg m_codes m_names m_ofFeed m_teeth m_feedWords m_goWords m_facts m_pile m_levels m_best m_losses m_lossOf m_wasThere m_groupMany m_groupRow m_groupLoss m_isMarked]) rfl ?_
  refine st_aload_n hR dX11_cutAll_8 0 rfl rfl (pc' := 9) rfl ?_
  refine st_iconst hR dX11_cutAll_9 (v := 0) rfl (pc' := 10) rfl ?_
  refine st_put hR dX11_cutAll_10 fp_X11_11_10_2 0 0 rfl rfl (Nat.le_of_ble_eq_true rfl) rfl rfl (pc' := 13) rfl (W' := [wX11 G q_m m_thrown m_tape 0 m_taped m_sort m_place m_value m_at m_fault m_words m_rows m_op m_arg m_codes m_names m_ofFeed m_teeth m_feedWords m_goWords m_facts m_pile m_levels m_best m_losses m_lossOf m_wasThere m_groupMany m_groupRow m_groupLoss m_isMarked]) rfl ?_
  refine st_iconst hR dX11_cutAll_13 (v := 0) rfl (pc' := 14) rfl ?_
  refine st_istore_n hR dX11_cutAll_14 rfl (Nat.le_of_ble_eq_true rfl) [1, 0] (lv' := [(0, .ref (q_m 0)), (1, .int 0)]) rfl (pc' := 15) rfl ?_
  refine st_iconst hR dX11_cutAll_15 (v := 0) rfl (pc' := 16) rfl ?_
  refine st_istore_n hR dX11_cutAll_16 rfl (Nat.le_of_ble_eq_true rfl) [1, 2, 0] (lv' := [(0, .ref (q_m 0)), (1, .int 0), (2, .int 0)]) rfl (pc' := 17) rfl ?_
  exact L17 FU _ _ _ _ _ _ _ _ _ hM
set_option maxHeartbeats 16000000 in
set_option maxRecDepth 100000 in
theorem k_X11_wrong {l : Launch} {G : GG} {q_m : Nat → Nat} {m_thrown m_taped m_size m_at m_fault m_codes m_ofFeed m_teeth m_levels m_groupMany : Int32} {m_tape m_sort m_place m_rows m_op m_arg m_feedWords m_goWords m_facts m_pile m_best m_losses m_lossOf m_wasThere m_groupRow m_groupLoss m_isMarked : Nat → Int32} {m_value m_words m_names : Nat → Int64} {l1 : Int32} {o_m_fault : Int32} (hM : f_X11_wrong m_place m_at m_fault l1 = some o_m_fault) : MC l G yX11_wrong cX11_wrong 2 none (RM 0) [.ref (q_m 0), .int l1] [wX11 G q_m m_thrown m_tape m_taped m_size m_sort m_place m_value m_at m_fault m_words m_rows m_op m_arg m_codes m_names m_ofFeed m_teeth m_feedWords m_goWords m_facts m_pile m_levels m_best m_losses m_lossOf m_wasThere m_groupMany m_groupRow m_groupLoss m_isMarked] none [wX11 G q_m m_thrown m_tape m_taped m_size m_sort m_place m_value m_at o_m_fault m_words m_rows m_op m_arg m_codes m_names m_ofFeed m_teeth m_feedWords m_goWords m_facts m_pile m_levels m_best m_losses m_lossOf m_wasThere m_groupMany m_groupRow m_groupLoss m_isMarked] := by
  refine MC.of pn_X11 (Nat.le_of_ble_eq_true rfl) (fun K hR hret => ?_)
  have hR : Rl l G RX11 cX11_wrong 2 (RM 0) K := hR
  show K [wX11 G q_m m_thrown m_tape m_taped m_size m_sort m_place m_value m_at m_fault m_words m_rows m_op m_arg m_codes m_names m_ofFeed m_teeth m_feedWords m_goWords m_facts m_pile m_levels m_best m_losses m_lossOf m_wasThere m_groupMany m_groupRow m_groupLoss m_isMarked] [(0, .ref (q_m 0)), (1, .int l1)] 0 []
  refine st_aload_n hR dX11_wrong_0 0 rfl rfl (pc' := 1) rfl ?_
  refine st_get hR dX11_wrong_1 fg_X11_144_10_8 0 0 rfl rfl rfl (pc' := 4) rfl ?_
  refine st_if_ne hR dX11_wrong_4 (tgt := 25) (by decide) (pc' := 7) rfl (fun c_ => ?_) (fun c_ => ?_)
  · have hM := it_f c_ hM
    cases hM
    exact hret _ _ dX11_wrong_25 ro_v
  · have hM := it_t c_ hM
    refine st_aload_n hR dX11_wrong_7 0 rfl rfl (pc' := 8) rfl ?_
    refine st_iload_n hR dX11_wrong_8 1 rfl rfl (pc' := 9) rfl ?_
    refine st_bipush hR dX11_wrong_9 (v := 16) rfl (pc' := 11) rfl ?_
    refine st_aload_n hR dX11_wrong_11 0 rfl rfl (pc' := 12) rfl ?_
    refine st_get hR dX11_wrong_12 fg_X11_27_10_5 0 0 rfl rfl rfl (pc' := 15) rfl ?_
    refine st_aload_n hR dX11_wrong_15 0 rfl rfl (pc' := 16) rfl ?_
    refine st_get hR dX11_wrong_16 fg_X11_141_10_7 0 0 rfl rfl rfl (pc' := 19) rfl ?_
    obtain ⟨hin_, hM⟩ := g_in_e hM
    refine st_iald hR dX11_wrong_19 0 3 rfl rfl hin_ (v := m_place (ix m_at)) rfl (pc' := 20) rfl ?_
    refine st_imul hR dX11_wrong_20 (pc' := 21) rfl ?_
    refine st_iadd hR dX11_wrong_21 (pc' := 22) rfl ?_
    refine st_topi (fun m_fault_1 e_ => ?_)
    have hM := lt_e e_ hM
    refine st_put hR dX11_wrong_22 fp_X11_144_10_8 0 0 rfl rfl (Nat.le_of_ble_eq_true rfl) rfl rfl (pc' := 25) rfl (W' := [wX11 G q_m m_thrown m_tape m_taped m_size m_sort m_place m_value m_at m_fault_1 m_words m_rows m_op m_arg m_codes m_names m_ofFeed m_teeth m_feedWords m_goWords m_facts m_pile m_levels m_best m_losses m_lossOf m_wasThere m_groupMany m_groupRow m_groupLoss m_isMarked]) rfl ?_
    cases hM
    exact hret _ _ dX11_wrong_25 ro_v
set_option maxHeartbeats 16000000 in
set_option maxRecDepth 100000 in
theorem k_X11_isSign {l : Launch} {G : GG} {q_m : Nat → Nat} {m_thrown m_taped m_size m_at m_fault m_codes m_ofFeed m_teeth m_levels m_groupMany : Int32} {m_tape m_sort m_place m_rows m_op m_arg m_feedWords m_goWords m_facts m_pile m_best m_losses m_lossOf m_wasThere m_groupRow m_groupLoss m_isMarked : Nat → Int32} {m_value m_words m_names : Nat → Int64} {l1 : Int32} {o_r : Int32} (hM : f_X11_isSign m_sort m_value m_at m_fault l1 = some o_r) : MC l G yX11_isSign cX11_isSign 2 (some .boolean) (RM 0) [.ref (q_m 0), .int l1] [wX11 G q_m m_thrown m_tape m_taped m_size m_sort m_place m_value m_at m_fault m_words m_rows m_op m_arg m_codes m_names m_ofFeed m_teeth m_feedWords m_goWords m_facts m_pile m_levels m_best m_losses m_lossOf m_wasThere m_groupMany m_groupRow m_groupLoss m_isMarked] (some (.int o_r)) [wX11 G q_m m_thrown m_tape m_taped m_size m_sort m_place m_value m_at m_fault m_words m_rows m_op m_arg m_codes m_names m_ofFeed m_teeth m_feedWords m_goWords m_facts m_pile m_levels m_best m_losses m_lossOf m_wasThere m_groupMany m_groupRow m_groupLoss m_isMarked] := by
  refine MC.of pn_X11 (Nat.le_of_ble_eq_true rfl) (fun K hR hret => ?_)
  have hR : Rl l G RX11 cX11_isSign 2 (RM 0) K := hR
  show K [wX11 G q_m m_thrown m_tape m_taped m_size m_sort m_place m_value m_at m_fault m_words m_rows m_op m_arg m_codes m_names m_ofFeed m_teeth m_feedWords m_goWords m_facts m_pile m_levels m_best m_losses m_lossOf m_wasThere m_groupMany m_groupRow m_groupLoss m_isMarked] [(0, .ref (q_m 0)), (1, .int l1)] 0 []
  refine st_aload_n hR dX11_isSign_0 0 rfl rfl (pc' := 1) rfl ?_
  refine st_get hR dX11_isSign_1 fg_X11_144_10_8 0 0 rfl rfl rfl (pc' := 4) rfl ?_
  refine st_if_ne hR dX11_isSign_4 (tgt := 39) (by decide) (pc' := 7) rfl (fun c_ => ?_) (fun c_ => ?_)
  · have hM := it_f c_ hM
    refine st_iconst hR dX11_isSign_39 (v := 0) rfl (pc' := 40) rfl ?_
    cases hM
    exact hret _ _ dX11_isSign_40 (ro_z (Or.inl rfl))
  · have hM := it_t c_ hM
    refine st_aload_n hR dX11_isSign_7 0 rfl rfl (pc' := 8) rfl ?_
    refine st_get hR dX11_isSign_8 fg_X11_24_10_4 0 0 rfl rfl rfl (pc' := 11) rfl ?_
    refine st_aload_n hR dX11_isSign_11 0 rfl rfl (pc' := 12) rfl ?_
    refine st_get hR dX11_isSign_12 fg_X11_141_10_7 0 0 rfl rfl rfl (pc' := 15) rfl ?_
    obtain ⟨hin_, hM⟩ := g_in_e hM
    refine st_iald hR dX11_isSign_15 0 2 rfl rfl hin_ (v := m_sort (ix m_at)) rfl (pc' := 16) rfl ?_
    refine st_iconst hR dX11_isSign_16 (v := 3) rfl (pc' := 17) rfl ?_
    refine st_icmp_ne hR dX11_isSign_17 (tgt := 39) (by decide) (pc' := 20) rfl (fun c_ => ?_) (fun c_ => ?_)
    · have hM := it_f c_ hM
      refine st_iconst hR dX11_isSign_39 (v := 0) rfl (pc' := 40) rfl ?_
      cases hM
      exact hret _ _ dX11_isSign_40 (ro_z (Or.inl rfl))
    · have hM := it_t c_ hM
      refine st_aload_n hR dX11_isSign_20 0 rfl rfl (pc' := 21) rfl ?_
      refine st_get hR dX11_isSign_21 fg_X11_30_10_6 0 0 rfl rfl rfl (pc' := 24) rfl ?_
      refine st_aload_n hR dX11_isSign_24 0 rfl rfl (pc' := 25) rfl ?_
      refine st_get hR dX11_isSign_25 fg_X11_141_10_7 0 0 rfl rfl rfl (pc' := 28) rfl ?_
      obtain ⟨hin_, hM⟩ := g_in_e hM
      refine st_lald hR dX11_isSign_28 0 4 rfl rfl hin_ (v := m_value (ix m_at)) rfl (pc' := 29) rfl ?_
      refine st_iload_n hR dX11_isSign_29 1 rfl rfl (pc' := 30) rfl ?_
      refine st_i2l hR dX11_isSign_30 (pc' := 31) rfl ?_
      refine st_lcmp hR dX11_isSign_31 (pc' := 32) rfl ?_
      refine st_if_ne hR dX11_isSign_32 (tgt := 39) (by decide) (pc' := 35) rfl (fun c_ => ?_) (fun c_ => ?_)
      · have hM := it_f c_ hM
        refine st_iconst hR dX11_isSign_39 (v := 0) rfl (pc' := 40) rfl ?_
        cases hM
        exact hret _ _ dX11_isSign_40 (ro_z (Or.inl rfl))
      · have hM := it_t c_ hM
        refine st_iconst hR dX11_isSign_35 (v := 1) rfl (pc' := 36) rfl ?_
        refine st_goto hR dX11_isSign_36 (tgt := 40) (by decide) ?_
        cases hM
        exact hret _ _ dX11_isSign_40 (ro_z (Or.inr rfl))
set_option maxHeartbeats 16000000 in
set_option maxRecDepth 100000 in
theorem k_X11_isWord {l : Launch} {G : GG} {q_m : Nat → Nat} {m_thrown m_taped m_size m_at m_fault m_codes m_ofFeed m_teeth m_levels m_groupMany : Int32} {m_tape m_sort m_place m_rows m_op m_arg m_feedWords m_goWords m_facts m_pile m_best m_losses m_lossOf m_wasThere m_groupRow m_groupLoss m_isMarked : Nat → Int32} {m_value m_words m_names : Nat → Int64} {l1 : Int32} {o_r : Int32} (hM : f_X11_isWord m_sort m_value m_at m_fault m_words l1 = some o_r) : MC l G yX11_isWord cX11_isWord 2 (some .boolean) (RM 0) [.ref (q_m 0), .int l1] [wX11 G q_m m_thrown m_tape m_taped m_size m_sort m_place m_value m_at m_fault m_words m_rows m_op m_arg m_codes m_names m_ofFeed m_teeth m_feedWords m_goWords m_facts m_pile m_levels m_best m_losses m_lossOf m_wasThere m_groupMany m_groupRow m_groupLoss m_isMarked] (some (.int o_r)) [wX11 G q_m m_thrown m_tape m_taped m_size m_sort m_place m_value m_at m_fault m_words m_rows m_op m_arg m_codes m_names m_ofFeed m_teeth m_feedWords m_goWords m_facts m_pile m_levels m_best m_losses m_lossOf m_wasThere m_groupMany m_groupRow m_groupLoss m_isMarked] := by
  refine MC.of pn_X11 (Nat.le_of_ble_eq_true rfl) (fun K hR hret => ?_)
  have hR : Rl l G RX11 cX11_isWord 2 (RM 0) K := hR
  show K [wX11 G q_m m_thrown m_tape m_taped m_size m_sort m_place m_value m_at m_fault m_words m_rows m_op m_arg m_codes m_names m_ofFeed m_teeth m_feedWords m_goWords m_facts m_pile m_levels m_best m_losses m_lossOf m_wasThere m_groupMany m_groupRow m_groupLoss m_isMarked] [(0, .ref (q_m 0)), (1, .int l1)] 0 []
  refine st_aload_n hR dX11_isWord_0 0 rfl rfl (pc' := 1) rfl ?_
  refine st_get hR dX11_isWord_1 fg_X11_144_10_8 0 0 rfl rfl rfl (pc' := 4) rfl ?_
  refine st_if_ne hR dX11_isWord_4 (tgt := 43) (by decide) (pc' := 7) rfl (fun c_ => ?_) (fun c_ => ?_)
  · have hM := it_f c_ hM
    refine st_iconst hR dX11_isWord_43 (v := 0) rfl (pc' := 44) rfl ?_
    cases hM
    exact hret _ _ dX11_isWord_44 (ro_z (Or.inl rfl))
  · have hM := it_t c_ hM
    refine st_aload_n hR dX11_isWord_7 0 rfl rfl (pc' := 8) rfl ?_
    refine st_get hR dX11_isWord_8 fg_X11_24_10_4 0 0 rfl rfl rfl (pc' := 11) rfl ?_
    refine st_aload_n hR dX11_isWord_11 0 rfl rfl (pc' := 12) rfl ?_
    refine st_get hR dX11_isWord_12 fg_X11_141_10_7 0 0 rfl rfl rfl (pc' := 15) rfl ?_
    obtain ⟨hin_, hM⟩ := g_in_e hM
    refine st_iald hR dX11_isWord_15 0 2 rfl rfl hin_ (v := m_sort (ix m_at)) rfl (pc' := 16) rfl ?_
    refine st_iconst hR dX11_isWord_16 (v := 1) rfl (pc' := 17) rfl ?_
    refine st_icmp_ne hR dX11_isWord_17 (tgt := 43) (by decide) (pc' := 20) rfl (fun c_ => ?_) (fun c_ => ?_)
    · have hM := it_f c_ hM
      refine st_iconst hR dX11_isWord_43 (v := 0) rfl (pc' := 44) rfl ?_
      cases hM
      exact hret _ _ dX11_isWord_44 (ro_z (Or.inl rfl))
    · have hM := it_t c_ hM
      refine st_aload_n hR dX11_isWord_20 0 rfl rfl (pc' := 21) rfl ?_
      refine st_get hR dX11_isWord_21 fg_X11_30_10_6 0 0 rfl rfl rfl (pc' := 24) rfl ?_
      refine st_aload_n hR dX11_isWord_24 0 rfl rfl (pc' := 25) rfl ?_
      refine st_get hR dX11_isWord_25 fg_X11_141_10_7 0 0 rfl rfl rfl (pc' := 28) rfl ?_
      obtain ⟨hin_, hM⟩ := g_in_e hM
      refine st_lald hR dX11_isWord_28 0 4 rfl rfl hin_ (v := m_value (ix m_at)) rfl (pc' := 29) rfl ?_
      refine st_aload_n hR dX11_isWord_29 0 rfl rfl (pc' := 30) rfl ?_
      refine st_get hR dX11_isWord_30 fg_X11_66_10_9 0 0 rfl rfl rfl (pc' := 33) rfl ?_
      refine st_iload_n hR dX11_isWord_33 1 rfl rfl (pc' := 34) rfl ?_
      obtain ⟨hin_, hM⟩ := g_in_e hM
      refine st_lald hR dX11_isWord_34 0 5 rfl rfl hin_ (v := m_words (ix l1)) rfl (pc' := 35) rfl ?_
      refine st_lcmp hR dX11_isWord_35 (pc' := 36) rfl ?_
      refine st_if_ne hR dX11_isWord_36 (tgt := 43) (by decide) (pc' := 39) rfl (fun c_ => ?_) (fun c_ => ?_)
      · have hM := it_f c_ hM
        refine st_iconst hR dX11_isWord_43 (v := 0) rfl (pc' := 44) rfl ?_
        cases hM
        exact hret _ _ dX11_isWord_44 (ro_z (Or.inl rfl))
      · have hM := it_t c_ hM
        refine st_iconst hR dX11_isWord_39 (v := 1) rfl (pc' := 40) rfl ?_
        refine st_goto hR dX11_isWord_40 (tgt := 44) (by decide) ?_
        cases hM
        exact hret _ _ dX11_isWord_44 (ro_z (Or.inr rfl))
set_option maxHeartbeats 16000000 in
set_option maxRecDepth 100000 in
theorem k_X11_takeSign {l : Launch} {G : GG} {q_m : Nat → Nat} {m_thrown m_taped m_size m_at m_fault m_codes m_ofFeed m_teeth m_levels m_groupMany : Int32} {m_tape m_sort m_place m_rows m_op m_arg m_feedWords m_goWords m_facts m_pile m_best m_losses m_lossOf m_wasThere m_groupRow m_groupLoss m_isMarked : Nat → Int32} {m_value m_words m_names : Nat → Int64} {l1 : Int32} {o_m_at : Int32} {o_m_fault : Int32} (hM : f_X11_takeSign m_sort m_place m_value m_at m_fault l1 = some (o_m_at, o_m_fault)) : MC l G yX11_takeSign cX11_takeSign 2 none (RM 1) [.ref (q_m 0), .int l1] [wX11 G q_m m_thrown m_tape m_taped m_size m_sort m_place m_value m_at m_fault m_words m_rows m_op m_arg m_codes m_names m_ofFeed m_teeth m_feedWords m_goWords m_facts m_pile m_levels m_best m_losses m_lossOf m_wasThere m_groupMany m_groupRow m_groupLoss m_isMarked] none [wX11 G q_m m_thrown m_tape m_taped m_size m_sort m_place m_value o_m_at o_m_fault m_words m_rows m_op m_arg m_codes m_names m_ofFeed m_teeth m_feedWords m_goWords m_facts m_pile m_levels m_best m_losses m_lossOf m_wasThere m_groupMany m_groupRow m_groupLoss m_isMarked] := by
  refine MC.of pn_X11 (Nat.le_of_ble_eq_true rfl) (fun K hR hret => ?_)
  have hR : Rl l G RX11 cX11_takeSign 2 (RM 1) K := hR
  show K [wX11 G q_m m_thrown m_tape m_taped m_size m_sort m_place m_value m_at m_fault m_words m_rows m_op m_arg m_codes m_names m_ofFeed m_teeth m_feedWords m_goWords m_facts m_pile m_levels m_best m_losses m_lossOf m_wasThere m_groupMany m_groupRow m_groupLoss m_isMarked] [(0, .ref (q_m 0)), (1, .int l1)] 0 []
  refine st_aload_n hR dX11_takeSign_0 0 rfl rfl (pc' := 1) rfl ?_
  refine st_iload_n hR dX11_takeSign_1 1 rfl rfl (pc' := 2) rfl ?_
  obtain ⟨r_1, hc_, hM⟩ := bd_e hM
  refine st_callV hR (k_X11_isSign hc_) cf_X11_147 (rm_le (Nat.le_of_ble_eq_true rfl) (Nat.le_of_ble_eq_true rfl)) [0] rfl rfl rfl 0 0 10 30 rfl rfl rfl rfl (rest := []) rfl (Nat.le_of_ble_eq_true rfl) dX11_takeSign_2 (pc' := 5) rfl (Wn := [wX11 G q_m m_thrown m_tape m_taped m_size m_sort m_place m_value m_at m_fault m_words m_rows m_op m_arg m_codes m_names m_ofFeed m_teeth m_feedWords m_goWords m_facts m_pile m_levels m_best m_losses m_lossOf m_wasThere m_groupMany m_groupRow m_groupLoss m_isMarked]) rfl ?_
  refine st_if_eq hR dX11_takeSign_5 (tgt := 21) (by decide) (pc' := 8) rfl (fun c_ => ?_) (fun c_ => ?_)
  · have hM := it_t c_ hM
    refine st_aload_n hR dX11_takeSign_21 0 rfl rfl (pc' := 22) rfl ?_
    refine st_iconst hR dX11_takeSign_22 (v := 1) rfl (pc' := 23) rfl ?_
    obtain ⟨m_fault_1, hc_, hM⟩ := bd_e hM
    refine st_callV hR (k_X11_wrong hc_) cf_X11_150 (rm_le (Nat.le_of_ble_eq_true rfl) (Nat.le_of_ble_eq_true rfl)) [0] rfl rfl rfl 0 0 10 30 rfl rfl rfl rfl (rest := []) rfl (Nat.le_of_ble_eq_true rfl) dX11_takeSign_23 (pc' := 26) rfl (Wn := [wX11 G q_m m_thrown m_tape m_taped m_size m_sort m_place m_value m_at m_fault_1 m_words m_rows m_op m_arg m_codes m_names m_ofFeed m_teeth m_feedWords m_goWords m_facts m_pile m_levels m_best m_losses m_lossOf m_wasThere m_groupMany m_groupRow m_groupLoss m_isMarked]) rfl ?_
    cases hM
    exact hret _ _ dX11_takeSign_26 ro_v
  · have hM := it_f c_ hM
    refine st_aload_n hR dX11_takeSign_8 0 rfl rfl (pc' := 9) rfl ?_
    refine st_dup hR dX11_takeSign_9 (pc' := 10) rfl rfl ?_
    refine st_get hR dX11_takeSign_10 fg_X11_141_10_7 0 0 rfl rfl rfl (pc' := 13) rfl ?_
    refine st_iconst hR dX11_takeSign_13 (v := 1) rfl (pc' := 14) rfl ?_
    refine st_iadd hR dX11_takeSign_14 (pc' := 15) rfl ?_
    refine st_topi (fun m_at_1 e_ => ?_)
    have hM := lt_e e_ hM
    refine st_put hR dX11_takeSign_15 fp_X11_141_10_7 0 0 rfl rfl (Nat.le_of_ble_eq_true rfl) rfl rfl (pc' := 18) rfl (W' := [wX11 G q_m m_thrown m_tape m_taped m_size m_sort m_place m_value m_at_1 m_fault m_words m_rows m_op m_arg m_codes m_names m_ofFeed m_teeth m_feedWords m_goWords m_facts m_pile m_levels m_best m_losses m_lossOf m_wasThere m_groupMany m_groupRow m_groupLoss m_isMarked]) rfl ?_
    refine st_goto hR dX11_takeSign_18 (tgt := 26) (by decide) ?_
    cases hM
    exact hret _ _ dX11_takeSign_26 ro_v
set_option maxHeartbeats 16000000 in
set_option maxRecDepth 100000 in
theorem k_X11_hasSign {l : Launch} {G : GG} {q_m : Nat → Nat} {m_thrown m_taped m_size m_at m_fault m_codes m_ofFeed m_teeth m_levels m_groupMany : Int32} {m_tape m_sort m_place m_rows m_op m_arg m_feedWords m_goWords m_facts m_pile m_best m_losses m_lossOf m_wasThere m_groupRow m_groupLoss m_isMarked : Nat → Int32} {m_value m_words m_names : Nat → Int64} {l1 : Int32} {o_r : Int32} {o_m_at : Int32} (hM : f_X11_hasSign m_sort m_value m_fault m_at l1 = some (o_r, o_m_at)) : MC l G yX11_hasSign cX11_hasSign 3 (some .boolean) (RM 1) [.ref (q_m 0), .int l1] [wX11 G q_m m_thrown m_tape m_taped m_size m_sort m_place m_value m_at m_fault m_words m_rows m_op m_arg m_codes m_names m_ofFeed m_teeth m_feedWords m_goWords m_facts m_pile m_levels m_best m_losses m_lossOf m_wasThere m_groupMany m_groupRow m_groupLoss m_isMarked] (some (.int o_r)) [wX11 G q_m m_thrown m_tape m_taped m_size m_sort m_place m_value o_m_at m_fault m_words m_rows m_op m_arg m_codes m_names m_ofFeed m_teeth m_feedWords m_goWords m_facts m_pile m_levels m_best m_losses m_lossOf m_wasThere m_groupMany m_groupRow m_groupLoss m_isMarked] := by
  refine MC.of pn_X11 (Nat.le_of_ble_eq_true rfl) (fun K hR hret => ?_)
  have hR : Rl l G RX11 cX11_hasSign 3 (RM 1) K := hR
  show K [wX11 G q_m m_thrown m_tape m_taped m_size m_sort m_place m_value m_at m_fault m_words m_rows m_op m_arg m_codes m_names m_ofFeed m_teeth m_feedWords m_goWords m_facts m_pile m_levels m_best m_losses m_lossOf m_wasThere m_groupMany m_groupRow m_groupLoss m_isMarked] [(0, .ref (q_m 0)), (1, .int l1)] 0 []
  refine st_aload_n hR dX11_hasSign_0 0 rfl rfl (pc' := 1) rfl ?_
  refine st_iload_n hR dX11_hasSign_1 1 rfl rfl (pc' := 2) rfl ?_
  obtain ⟨r_1, hc_, hM⟩ := bd_e hM
  refine st_callV hR (k_X11_isSign hc_) cf_X11_147 (rm_le (Nat.le_of_ble_eq_true rfl) (Nat.le_of_ble_eq_true rfl)) [0] rfl rfl rfl 0 0 10 30 rfl rfl rfl rfl (rest := []) rfl (Nat.le_of_ble_eq_true rfl) dX11_hasSign_2 (pc' := 5) rfl (Wn := [wX11 G q_m m_thrown m_tape m_taped m_size m_sort m_place m_value m_at m_fault m_words m_rows m_op m_arg m_codes m_names m_ofFeed m_teeth m_feedWords m_goWords m_facts m_pile m_levels m_best m_losses m_lossOf m_wasThere m_groupMany m_groupRow m_groupLoss m_isMarked]) rfl ?_
  refine st_istore_n hR dX11_hasSign_5 rfl (Nat.le_of_ble_eq_true rfl) [1, 2, 0] (lv' := [(0, .ref (q_m 0)), (1, .int l1), (2, .int r_1)]) rfl (pc' := 6) rfl ?_
  refine st_aload_n hR dX11_hasSign_6 0 rfl rfl (pc' := 7) rfl ?_
  refine st_dup hR dX11_hasSign_7 (pc' := 8) rfl rfl ?_
  refine st_get hR dX11_hasSign_8 fg_X11_141_10_7 0 0 rfl rfl rfl (pc' := 11) rfl ?_
  refine st_iload_n hR dX11_hasSign_11 2 rfl rfl (pc' := 12) rfl ?_
  refine st_if_eq hR dX11_hasSign_12 (tgt := 19) (by decide) (pc' := 15) rfl (fun c_ => ?_) (fun c_ => ?_)
  · have hM := it_t c_ hM
    refine st_iconst hR dX11_hasSign_19 (v := 0) rfl (pc' := 20) rfl ?_
    refine st_iadd hR dX11_hasSign_20 (pc' := 21) rfl ?_
    refine st_topi (fun m_at_1 e_ => ?_)
    have hM := lt_e e_ hM
    refine st_put hR dX11_hasSign_21 fp_X11_141_10_7 0 0 rfl rfl (Nat.le_of_ble_eq_true rfl) rfl rfl (pc' := 24) rfl (W' := [wX11 G q_m m_thrown m_tape m_taped m_size m_sort m_place m_value m_at_1 m_fault m_words m_rows m_op m_arg m_codes m_names m_ofFeed m_teeth m_feedWords m_goWords m_facts m_pile m_levels m_best m_losses m_lossOf m_wasThere m_groupMany m_groupRow m_groupLoss m_isMarked]) rfl ?_
    refine st_iload_n hR dX11_hasSign_24 2 rfl rfl (pc' := 25) rfl ?_
    obtain ⟨hz_, hM⟩ := g_z_e hM
    cases hM
    exact hret _ _ dX11_hasSign_25 (ro_z hz_)
  · have hM := it_f c_ hM
    refine st_iconst hR dX11_hasSign_15 (v := 1) rfl (pc' := 16) rfl ?_
    refine st_goto hR dX11_hasSign_16 (tgt := 20) (by decide) ?_
    refine st_iadd hR dX11_hasSign_20 (pc' := 21) rfl ?_
    refine st_topi (fun m_at_2 e_ => ?_)
    have hM := lt_e e_ hM
    refine st_put hR dX11_hasSign_21 fp_X11_141_10_7 0 0 rfl rfl (Nat.le_of_ble_eq_true rfl) rfl rfl (pc' := 24) rfl (W' := [wX11 G q_m m_thrown m_tape m_taped m_size m_sort m_place m_value m_at_2 m_fault m_words m_rows m_op m_arg m_codes m_names m_ofFeed m_teeth m_feedWords m_goWords m_facts m_pile m_levels m_best m_losses m_lossOf m_wasThere m_groupMany m_groupRow m_groupLoss m_isMarked]) rfl ?_
    refine st_iload_n hR dX11_hasSign_24 2 rfl rfl (pc' := 25) rfl ?_
    obtain ⟨hz_, hM⟩ := g_z_e hM
    cases hM
    exact hret _ _ dX11_hasSign_25 (ro_z hz_)
set_option maxHeartbeats 16000000 in
set_option maxRecDepth 100000 in
theorem k_X11_hasWord {l : Launch} {G : GG} {q_m : Nat → Nat} {m_thrown m_taped m_size m_at m_fault m_codes m_ofFeed m_teeth m_levels m_groupMany : Int32} {m_tape m_sort m_place m_rows m_op m_arg m_feedWords m_goWords m_facts m_pile m_best m_losses m_lossOf m_wasThere m_groupRow m_groupLoss m_isMarked : Nat → Int32} {m_value m_words m_names : Nat → Int64} {l1 : Int32} {o_r : Int32} {o_m_at : Int32} (hM : f_X11_hasWord m_sort m_value m_fault m_words m_at l1 = some (o_r, o_m_at)) : MC l G yX11_hasWord cX11_hasWord 3 (some .boolean) (RM 1) [.ref (q_m 0), .int l1] [wX11 G q_m m_thrown m_tape m_taped m_size m_sort m_place m_value m_at m_fault m_words m_rows m_op m_arg m_codes m_names m_ofFeed m_teeth m_feedWords m_goWords m_facts m_pile m_levels m_best m_losses m_lossOf m_wasThere m_groupMany m_groupRow m_groupLoss m_isMarked] (some (.int o_r)) [wX11 G q_m m_thrown m_tape m_taped m_size m_sort m_place m_value o_m_at m_fault m_words m_rows m_op m_arg m_codes m_names m_ofFeed m_teeth m_feedWords m_goWords m_facts m_pile m_levels m_best m_losses m_lossOf m_wasThere m_groupMany m_groupRow m_groupLoss m_isMarked] := by
  refine MC.of pn_X11 (Nat.le_of_ble_eq_true rfl) (fun K hR hret => ?_)
  have hR : Rl l G RX11 cX11_hasWord 3 (RM 1) K := hR
  show K [wX11 G q_m m_thrown m_tape m_taped m_size m_sort m_place m_value m_at m_fault m_words m_rows m_op m_arg m_codes m_names m_ofFeed m_teeth m_feedWords m_goWords m_facts m_pile m_levels m_best m_losses m_lossOf m_wasThere m_groupMany m_groupRow m_groupLoss m_isMarked] [(0, .ref (q_m 0)), (1, .int l1)] 0 []
  refine st_aload_n hR dX11_hasWord_0 0 rfl rfl (pc' := 1) rfl ?_
  refine st_iload_n hR dX11_hasWord_1 1 rfl rfl (pc' := 2) rfl ?_
  obtain ⟨r_1, hc_, hM⟩ := bd_e hM
  refine st_callV hR (k_X11_isWord hc_) cf_X11_154 (rm_le (Nat.le_of_ble_eq_true rfl) (Nat.le_of_ble_eq_true rfl)) [0] rfl rfl rfl 0 0 10 30 rfl rfl rfl rfl (rest := []) rfl (Nat.le_of_ble_eq_true rfl) dX11_hasWord_2 (pc' := 5) rfl (Wn := [wX11 G q_m m_thrown m_tape m_taped m_size m_sort m_place m_value m_at m_fault m_words m_rows m_op m_arg m_codes m_names m_ofFeed m_teeth m_feedWords m_goWords m_facts m_pile m_levels m_best m_losses m_lossOf m_wasThere m_groupMany m_groupRow m_groupLoss m_isMarked]) rfl ?_
  refine st_istore_n hR dX11_hasWord_5 rfl (Nat.le_of_ble_eq_true rfl) [1, 2, 0] (lv' := [(0, .ref (q_m 0)), (1, .int l1), (2, .int r_1)]) rfl (pc' := 6) rfl ?_
  refine st_aload_n hR dX11_hasWord_6 0 rfl rfl (pc' := 7) rfl ?_
  refine st_dup hR dX11_hasWord_7 (pc' := 8) rfl rfl ?_
  refine st_get hR dX11_hasWord_8 fg_X11_141_10_7 0 0 rfl rfl rfl (pc' := 11) rfl ?_
  refine st_iload_n hR dX11_hasWord_11 2 rfl rfl (pc' := 12) rfl ?_
  refine st_if_eq hR dX11_hasWord_12 (tgt := 19) (by decide) (pc' := 15) rfl (fun c_ => ?_) (fun c_ => ?_)
  · have hM := it_t c_ hM
    refine st_iconst hR dX11_hasWord_19 (v := 0) rfl (pc' := 20) rfl ?_
    refine st_iadd hR dX11_hasWord_20 (pc' := 21) rfl ?_
    refine st_topi (fun m_at_1 e_ => ?_)
    have hM := lt_e e_ hM
    refine st_put hR dX11_hasWord_21 fp_X11_141_10_7 0 0 rfl rfl (Nat.le_of_ble_eq_true rfl) rfl rfl (pc' := 24) rfl (W' := [wX11 G q_m m_thrown m_tape m_taped m_size m_sort m_place m_value m_at_1 m_fault m_words m_rows m_op m_arg m_codes m_names m_ofFeed m_teeth m_feedWords m_goWords m_facts m_pile m_levels m_best m_losses m_lossOf m_wasThere m_groupMany m_groupRow m_groupLoss m_isMarked]) rfl ?_
    refine st_iload_n hR dX11_hasWord_24 2 rfl rfl (pc' := 25) rfl ?_
    obtain ⟨hz_, hM⟩ := g_z_e hM
    cases hM
    exact hret _ _ dX11_hasWord_25 (ro_z hz_)
  · have hM := it_f c_ hM
    refine st_iconst hR dX11_hasWord_15 (v := 1) rfl (pc' := 16) rfl ?_
    refine st_goto hR dX11_hasWord_16 (tgt := 20) (by decide) ?_
    refine st_iadd hR dX11_hasWord_20 (pc' := 21) rfl ?_
    refine st_topi (fun m_at_2 e_ => ?_)
    have hM := lt_e e_ hM
    refine st_put hR dX11_hasWord_21 fp_X11_141_10_7 0 0 rfl rfl (Nat.le_of_ble_eq_true rfl) rfl rfl (pc' := 24) rfl (W' := [wX11 G q_m m_thrown m_tape m_taped m_size m_sort m_place m_value m_at_2 m_fault m_words m_rows m_op m_arg m_codes m_names m_ofFeed m_teeth m_feedWords m_goWords m_facts m_pile m_levels m_best m_losses m_lossOf m_wasThere m_groupMany m_groupRow m_groupLoss m_isMarked]) rfl ?_
    refine st_iload_n hR dX11_hasWord_24 2 rfl rfl (pc' := 25) rfl ?_
    obtain ⟨hz_, hM⟩ := g_z_e hM
    cases hM
    exact hret _ _ dX11_hasWord_25 (ro_z hz_)
set_option maxHeartbeats 16000000 in
set_option maxRecDepth 100000 in
theorem k_X11_takeWord {l : Launch} {G : GG} {q_m : Nat → Nat} {m_thrown m_taped m_size m_at m_fault m_codes m_ofFeed m_teeth m_levels m_groupMany : Int32} {m_tape m_sort m_place m_rows m_op m_arg m_feedWords m_goWords m_facts m_pile m_best m_losses m_lossOf m_wasThere m_groupRow m_groupLoss m_isMarked : Nat → Int32} {m_value m_words m_names : Nat → Int64} {l1 : Int32} {o_m_at : Int32} {o_m_fault : Int32} (hM : f_X11_takeWord m_sort m_place m_value m_words m_at m_fault l1 = some (o_m_at, o_m_fault)) : MC l G yX11_takeWord cX11_takeWord 2 none (RM 2) [.ref (q_m 0), .int l1] [wX11 G q_m m_thrown m_tape m_taped m_size m_sort m_place m_value m_at m_fault m_words m_rows m_op m_arg m_codes m_names m_ofFeed m_teeth m_feedWords m_goWords m_facts m_pile m_levels m_best m_losses m_lossOf m_wasThere m_groupMany m_groupRow m_groupLoss m_isMarked] none [wX11 G q_m m_thrown m_tape m_taped m_size m_sort m_place m_value o_m_at o_m_fault m_words m_rows m_op m_arg m_codes m_names m_ofFeed m_teeth m_feedWords m_goWords m_facts m_pile m_levels m_best m_losses m_lossOf m_wasThere m_groupMany m_groupRow m_groupLoss m_isMarked] := by
  refine MC.of pn_X11 (Nat.le_of_ble_eq_true rfl) (fun K hR hret => ?_)
  have hR : Rl l G RX11 cX11_takeWord 2 (RM 2) K := hR
  show K [wX11 G q_m m_thrown m_tape m_taped m_size m_sort m_place m_value m_at m_fault m_words m_rows m_op m_arg m_codes m_names m_ofFeed m_teeth m_feedWords m_goWords m_facts m_pile m_levels m_best m_losses m_lossOf m_wasThere m_groupMany m_groupRow m_groupLoss m_isMarked] [(0, .ref (q_m 0)), (1, .int l1)] 0 []
  refine st_aload_n hR dX11_takeWord_0 0 rfl rfl (pc' := 1) rfl ?_
  refine st_iload_n hR dX11_takeWord_1 1 rfl rfl (pc' := 2) rfl ?_
  obtain ⟨⟨r_1, m_at_1⟩, hc_, hM⟩ := bd_e hM
  refine st_callV hR (k_X11_hasWord hc_) cf_X11_157 (rm_le (Nat.le_of_ble_eq_true rfl) (Nat.le_of_ble_eq_true rfl)) [0] rfl rfl rfl 0 0 10 30 rfl rfl rfl rfl (rest := []) rfl (Nat.le_of_ble_eq_true rfl) dX11_takeWord_2 (pc' := 5) rfl (Wn := [wX11 G q_m m_thrown m_tape m_taped m_size m_sort m_place m_value m_at_1 m_fault m_words m_rows m_op m_arg m_codes m_names m_ofFeed m_teeth m_feedWords m_goWords m_facts m_pile m_levels m_best m_losses m_lossOf m_wasThere m_groupMany m_groupRow m_groupLoss m_isMarked]) rfl ?_
  refine st_if_ne hR dX11_takeWord_5 (tgt := 13) (by decide) (pc' := 8) rfl (fun c_ => ?_) (fun c_ => ?_)
  · have hM := it_f c_ hM
    cases hM
    exact hret _ _ dX11_takeWord_13 ro_v
  · have hM := it_t c_ hM
    refine st_aload_n hR dX11_takeWord_8 0 rfl rfl (pc' := 9) rfl ?_
    refine st_iconst hR dX11_takeWord_9 (v := 1) rfl (pc' := 10) rfl ?_
    obtain ⟨m_fault_1, hc_, hM⟩ := bd_e hM
    refine st_callV hR (k_X11_wrong hc_) cf_X11_150 (rm_le (Nat.le_of_ble_eq_true rfl) (Nat.le_of_ble_eq_true rfl)) [0] rfl rfl rfl 0 0 10 30 rfl rfl rfl rfl (rest := []) rfl (Nat.le_of_ble_eq_true rfl) dX11_takeWord_10 (pc' := 13) rfl (Wn := [wX11 G q_m m_thrown m_tape m_taped m_size m_sort m_place m_value m_at_1 m_fault_1 m_words m_rows m_op m_arg m_codes m_names m_ofFeed m_teeth m_feedWords m_goWords m_facts m_pile m_levels m_best m_losses m_lossOf m_wasThere m_groupMany m_groupRow m_groupLoss m_isMarked]) rfl ?_
    cases hM
    exact hret _ _ dX11_takeWord_13 ro_v
set_option maxHeartbeats 16000000 in
set_option maxRecDepth 100000 in
theorem k_X11_within {l : Launch} {G : GG}  {l0 l1 l2 : Int32} {o_r : Int32} (hM : f_X11_within l0 l1 l2 = some o_r) : MC l G yX11_within cX11_within 3 (some .boolean) (RM 0) [.int l0, .int l1, .int l2] [] (some (.int o_r)) [] := by
  refine MC.of pn_X11 (Nat.le_of_ble_eq_true rfl) (fun K hR hret => ?_)
  have hR : Rl l G RX11 cX11_within 3 (RM 0) K := hR
  show K [] [(0, .int l0), (1, .int l1), (2, .int l2)] 0 []
  refine st_iload_n hR dX11_within_0 0 rfl rfl (pc' := 1) rfl ?_
  refine st_iload_n hR dX11_within_1 1 rfl rfl (pc' := 2) rfl ?_
  refine st_icmp_lt hR dX11_within_2 (tgt := 14) (by decide) (pc' := 5) rfl (fun c_ => ?_) (fun c_ => ?_)
  · have hM := it_t c_ hM
    refine st_iconst hR dX11_within_14 (v := 0) rfl (pc' := 15) rfl ?_
    cases hM
    exact hret _ _ dX11_within_15 (ro_z (Or.inl rfl))
  · have hM := it_f c_ hM
    refine st_iload_n hR dX11_within_5 0 rfl rfl (pc' := 6) rfl ?_
    refine st_iload_n hR dX11_within_6 2 rfl rfl (pc' := 7) rfl ?_
    refine st_icmp_gt hR dX11_within_7 (tgt := 14) (by decide) (pc' := 10) rfl (fun c_ => ?_) (fun c_ => ?_)
    · have hM := it_t c_ hM
      refine st_iconst hR dX11_within_14 (v := 0) rfl (pc' := 15) rfl ?_
      cases hM
      exact hret _ _ dX11_within_15 (ro_z (Or.inl rfl))
    · have hM := it_f c_ hM
      refine st_iconst hR dX11_within_10 (v := 1) rfl (pc' := 11) rfl ?_
      refine st_goto hR dX11_within_11 (tgt := 15) (by decide) ?_
      cases hM
      exact hret _ _ dX11_within_15 (ro_z (Or.inr rfl))
set_option maxHeartbeats 16000000 in
set_option maxRecDepth 100000 in
theorem k_X11_takeNumber {l : Launch} {G : GG} {q_m : Nat → Nat} {m_thrown m_taped m_size m_at m_fault m_codes m_ofFeed m_teeth m_levels m_groupMany : Int32} {m_tape m_sort m_place m_rows m_op m_arg m_feedWords m_goWords m_facts m_pile m_best m_losses m_lossOf m_wasThere m_groupRow m_groupLoss m_isMarked : Nat → Int32} {m_value m_words m_names : Nat → Int64} {l1 l2 : Int32} {o_r : Int32} {o_m_at : Int32} {o_m_fault : Int32} (hM : f_X11_takeNumber m_sort m_place m_value m_at m_fault l1 l2 = some (o_r, o_m_at, o_m_fault)) : MC l G yX11_takeNumber cX11_takeNumber 3 (some .int) (RM 1) [.ref (q_m 0), .int l1, .int l2] [wX11 G q_m m_thrown m_tape m_taped m_size m_sort m_place m_value m_at m_fault m_words m_rows m_op m_arg m_codes m_names m_ofFeed m_teeth m_feedWords m_goWords m_facts m_pile m_levels m_best m_losses m_lossOf m_wasThere m_groupMany m_groupRow m_groupLoss m_isMarked] (some (.int o_r)) [wX11 G q_m m_thrown m_tape m_taped m_size m_sort m_place m_value o_m_at o_m_fault m_words m_rows m_op m_arg m_codes m_names m_ofFeed m_teeth m_feedWords m_goWords m_facts m_pile m_levels m_best m_losses m_lossOf m_wasThere m_groupMany m_groupRow m_groupLoss m_isMarked] := by
  refine MC.of pn_X11 (Nat.le_of_ble_eq_true rfl) (fun K hR hret => ?_)
  have hR : Rl l G RX11 cX11_takeNumber 3 (RM 1) K := hR
  show K [wX11 G q_m m_thrown m_tape m_taped m_size m_sort m_place m_value m_at m_fault m_words m_rows m_op m_arg m_codes m_names m_ofFeed m_teeth m_feedWords m_goWords m_facts m_pile m_levels m_best m_losses m_lossOf m_wasThere m_groupMany m_groupRow m_groupLoss m_isMarked] [(0, .ref (q_m 0)), (1, .int l1), (2, .int l2)] 0 []
  have J70 : ∀ (m_at : Int32) (m_fault : Int32), f_X11_takeNumber_B70  m_sort m_place m_value m_at m_fault = some (o_r, o_m_at, o_m_fault) → K [wX11 G q_m m_thrown m_tape m_taped m_size m_sort m_place m_value m_at m_fault m_words m_rows m_op m_arg m_codes m_names m_ofFeed m_teeth m_feedWords m_goWords m_facts m_pile m_levels m_best m_losses m_lossOf m_wasThere m_groupMany m_groupRow m_groupLoss m_isMarked] [(0, .ref (q_m 0))] 70 [] := by
    intro m_at m_fault hM
    refine st_aload_n hR dX11_takeNumber_70 0 rfl rfl (pc' := 71) rfl ?_
    refine st_get hR dX11_takeNumber_71 fg_X11_144_10_8 0 0 rfl rfl rfl (pc' := 74) rfl ?_
    refine st_if_le hR dX11_takeNumber_74 (tgt := 79) (by decide) (pc' := 77) rfl (fun c_ => ?_) (fun c_ => ?_)
    · have hM := it_t c_ hM
      refine st_aload_n hR dX11_takeNumber_79 0 rfl rfl (pc' := 80) rfl ?_
      refine st_dup hR dX11_takeNumber_80 (pc' := 81) rfl rfl ?_
      refine st_get hR dX11_takeNumber_81 fg_X11_141_10_7 0 0 rfl rfl rfl (pc' := 84) rfl ?_
      refine st_iconst hR dX11_takeNumber_84 (v := 1) rfl (pc' := 85) rfl ?_
      refine st_iadd hR dX11_takeNumber_85 (pc' := 86) rfl ?_
      refine st_topi (fun m_at_1 e_ => ?_)
      have hM := lt_e e_ hM
      refine st_put hR dX11_takeNumber_86 fp_X11_141_10_7 0 0 rfl rfl (Nat.le_of_ble_eq_true rfl) rfl rfl (pc' := 89) rfl (W' := [wX11 G q_m m_thrown m_tape m_taped m_size m_sort m_place m_value m_at_1 m_fault m_words m_rows m_op m_arg m_codes m_names m_ofFeed m_teeth m_feedWords m_goWords m_facts m_pile m_levels m_best m_losses m_lossOf m_wasThere m_groupMany m_groupRow m_groupLoss m_isMarked]) rfl ?_
      refine st_aload_n hR dX11_takeNumber_89 0 rfl rfl (pc' := 90) rfl ?_
      refine st_get hR dX11_takeNumber_90 fg_X11_30_10_6 0 0 rfl rfl rfl (pc' := 93) rfl ?_
      refine st_aload_n hR dX11_takeNumber_93 0 rfl rfl (pc' := 94) rfl ?_
      refine st_get hR dX11_takeNumber_94 fg_X11_141_10_7 0 0 rfl rfl rfl (pc' := 97) rfl ?_
      refine st_iconst hR dX11_takeNumber_97 (v := 1) rfl (pc' := 98) rfl ?_
      refine st_isub hR dX11_takeNumber_98 (pc' := 99) rfl ?_
      obtain ⟨hin_, hM⟩ := g_in_e hM
      refine st_lald hR dX11_takeNumber_99 0 4 rfl rfl hin_ (v := m_value (ix (m_at_1 - 1))) rfl (pc' := 100) rfl ?_
      refine st_l2i hR dX11_takeNumber_100 (pc' := 101) rfl ?_
      cases hM
      exact hret _ _ dX11_takeNumber_101 (ro_i _)
    · have hM := it_f c_ hM
      refine st_iconst hR dX11_takeNumber_77 (v := 0) rfl (pc' := 78) rfl ?_
      cases hM
      exact hret _ _ dX11_takeNumber_78 (ro_i _)
  have J65 : ∀ (m_at : Int32) (m_fault : Int32), f_X11_takeNumber_B65  m_sort m_place m_value m_at m_fault = some (o_r, o_m_at, o_m_fault) → K [wX11 G q_m m_thrown m_tape m_taped m_size m_sort m_place m_value m_at m_fault m_words m_rows m_op m_arg m_codes m_names m_ofFeed m_teeth m_feedWords m_goWords m_facts m_pile m_levels m_best m_losses m_lossOf m_wasThere m_groupMany m_groupRow m_groupLoss m_isMarked] [(0, .ref (q_m 0))] 65 [] := by
    intro m_at m_fault hM
    refine st_aload_n hR dX11_takeNumber_65 0 rfl rfl (pc' := 66) rfl ?_
    refine st_iconst hR dX11_takeNumber_66 (v := 4) rfl (pc' := 67) rfl ?_
    obtain ⟨m_fault_1, hc_, hM⟩ := bd_e hM
    refine st_callV hR (k_X11_wrong hc_) cf_X11_150 (rm_le (Nat.le_of_ble_eq_true rfl) (Nat.le_of_ble_eq_true rfl)) [0] rfl rfl rfl 0 0 10 30 rfl rfl rfl rfl (rest := []) rfl (Nat.le_of_ble_eq_true rfl) dX11_takeNumber_67 (pc' := 70) rfl (Wn := [wX11 G q_m m_thrown m_tape m_taped m_size m_sort m_place m_value m_at m_fault_1 m_words m_rows m_op m_arg m_codes m_names m_ofFeed m_teeth m_feedWords m_goWords m_facts m_pile m_levels m_best m_losses m_lossOf m_wasThere m_groupMany m_groupRow m_groupLoss m_isMarked]) rfl ?_
    exact J70 _ _ hM
  have J28 : ∀ (m_at : Int32) (m_fault : Int32) (l1 : Int32) (l2 : Int32), f_X11_takeNumber_B28  m_sort m_place m_value m_at m_fault l1 l2 = some (o_r, o_m_at, o_m_fault) → K [wX11 G q_m m_thrown m_tape m_taped m_size m_sort m_place m_value m_at m_fault m_words m_rows m_op m_arg m_codes m_names m_ofFeed m_teeth m_feedWords m_goWords m_facts m_pile m_levels m_best m_losses m_lossOf m_wasThere m_groupMany m_groupRow m_groupLoss m_isMarked] [(0, .ref (q_m 0)), (1, .int l1), (2, .int l2)] 28 [] := by
    intro m_at m_fault l1 l2 hM
    refine st_aload_n hR dX11_takeNumber_28 0 rfl rfl (pc' := 29) rfl ?_
    refine st_get hR dX11_takeNumber_29 fg_X11_144_10_8 0 0 rfl rfl rfl (pc' := 32) rfl ?_
    refine st_if_ne hR dX11_takeNumber_32 (tgt := 70) (by decide) (pc' := 35) rfl (fun c_ => ?_) (fun c_ => ?_)
    · have hM := it_f c_ hM
      exact st_lv hR [0] rfl (J70 _ _ hM)
    · have hM := it_t c_ hM
      refine st_aload_n hR dX11_takeNumber_35 0 rfl rfl (pc' := 36) rfl ?_
      refine st_get hR dX11_takeNumber_36 fg_X11_30_10_6 0 0 rfl rfl rfl (pc' := 39) rfl ?_
      refine st_aload_n hR dX11_takeNumber_39 0 rfl rfl (pc' := 40) rfl ?_
      refine st_get hR dX11_takeNumber_40 fg_X11_141_10_7 0 0 rfl rfl rfl (pc' := 43) rfl ?_
      obtain ⟨hin_, hM⟩ := g_in_e hM
      refine st_lald hR dX11_takeNumber_43 0 4 rfl rfl hin_ (v := m_value (ix m_at)) rfl (pc' := 44) rfl ?_
      refine st_iload_n hR dX11_takeNumber_44 1 rfl rfl (pc' := 45) rfl ?_
      refine st_i2l hR dX11_takeNumber_45 (pc' := 46) rfl ?_
      refine st_lcmp hR dX11_takeNumber_46 (pc' := 47) rfl ?_
      refine st_if_lt hR dX11_takeNumber_47 (tgt := 65) (by decide) (pc' := 50) rfl (fun c_ => ?_) (fun c_ => ?_)
      · have hM := it_t c_ hM
        exact st_lv hR [0] rfl (J65 _ _ hM)
      · have hM := it_f c_ hM
        refine st_aload_n hR dX11_takeNumber_50 0 rfl rfl (pc' := 51) rfl ?_
        refine st_get hR dX11_takeNumber_51 fg_X11_30_10_6 0 0 rfl rfl rfl (pc' := 54) rfl ?_
        refine st_aload_n hR dX11_takeNumber_54 0 rfl rfl (pc' := 55) rfl ?_
        refine st_get hR dX11_takeNumber_55 fg_X11_141_10_7 0 0 rfl rfl rfl (pc' := 58) rfl ?_
        obtain ⟨hin_, hM⟩ := g_in_e hM
        refine st_lald hR dX11_takeNumber_58 0 4 rfl rfl hin_ (v := m_value (ix m_at)) rfl (pc' := 59) rfl ?_
        refine st_iload_n hR dX11_takeNumber_59 2 rfl rfl (pc' := 60) rfl ?_
        refine st_i2l hR dX11_takeNumber_60 (pc' := 61) rfl ?_
        refine st_lcmp hR dX11_takeNumber_61 (pc' := 62) rfl ?_
        refine st_if_le hR dX11_takeNumber_62 (tgt := 70) (by decide) (pc' := 65) rfl (fun c_ => ?_) (fun c_ => ?_)
        · have hM := it_t c_ hM
          exact st_lv hR [0] rfl (J70 _ _ hM)
        · have hM := it_f c_ hM
          exact st_lv hR [0] rfl (J65 _ _ hM)
  refine st_aload_n hR dX11_takeNumber_0 0 rfl rfl (pc' := 1) rfl ?_
  refine st_get hR dX11_takeNumber_1 fg_X11_144_10_8 0 0 rfl rfl rfl (pc' := 4) rfl ?_
  refine st_if_ne hR dX11_takeNumber_4 (tgt := 28) (by decide) (pc' := 7) rfl (fun c_ => ?_) (fun c_ => ?_)
  · have hM := it_f c_ hM
    exact J28 _ _ _ _ hM
  · have hM := it_t c_ hM
    refine st_aload_n hR dX11_takeNumber_7 0 rfl rfl (pc' := 8) rfl ?_
    refine st_get hR dX11_takeNumber_8 fg_X11_24_10_4 0 0 rfl rfl rfl (pc' := 11) rfl ?_
    refine st_aload_n hR dX11_takeNumber_11 0 rfl rfl (pc' := 12) rfl ?_
    refine st_get hR dX11_takeNumber_12 fg_X11_141_10_7 0 0 rfl rfl rfl (pc' := 15) rfl ?_
    obtain ⟨hin_, hM⟩ := g_in_e hM
    refine st_iald hR dX11_takeNumber_15 0 2 rfl rfl hin_ (v := m_sort (ix m_at)) rfl (pc' := 16) rfl ?_
    refine st_iconst hR dX11_takeNumber_16 (v := 2) rfl (pc' := 17) rfl ?_
    refine st_icmp_eq hR dX11_takeNumber_17 (tgt := 28) (by decide) (pc' := 20) rfl (fun c_ => ?_) (fun c_ => ?_)
    · have hM := it_t c_ hM
      exact J28 _ _ _ _ hM
    · have hM := it_f c_ hM
      refine st_aload_n hR dX11_takeNumber_20 0 rfl rfl (pc' := 21) rfl ?_
      refine st_iconst hR dX11_takeNumber_21 (v := 1) rfl (pc' := 22) rfl ?_
      obtain ⟨m_fault_1, hc_, hM⟩ := bd_e hM
      refine st_callV hR (k_X11_wrong hc_) cf_X11_150 (rm_le (Nat.le_of_ble_eq_true rfl) (Nat.le_of_ble_eq_true rfl)) [0] rfl rfl rfl 0 0 10 30 rfl rfl rfl rfl (rest := []) rfl (Nat.le_of_ble_eq_true rfl) dX11_takeNumber_22 (pc' := 25) rfl (Wn := [wX11 G q_m m_thrown m_tape m_taped m_size m_sort m_place m_value m_at m_fault_1 m_words m_rows m_op m_arg m_codes m_names m_ofFeed m_teeth m_feedWords m_goWords m_facts m_pile m_levels m_best m_losses m_lossOf m_wasThere m_groupMany m_groupRow m_groupLoss m_isMarked]) rfl ?_
      refine st_goto hR dX11_takeNumber_25 (tgt := 70) (by decide) ?_
      exact st_lv hR [0] rfl (J70 _ _ hM)
set_option maxHeartbeats 16000000 in
set_option maxRecDepth 100000 in
theorem k_X11_takeAfter {l : Launch} {G : GG} {q_m : Nat → Nat} {m_thrown m_taped m_size m_at m_fault m_codes m_ofFeed m_teeth m_levels m_groupMany : Int32} {m_tape m_sort m_place m_rows m_op m_arg m_feedWords m_goWords m_facts m_pile m_best m_losses m_lossOf m_wasThere m_groupRow m_groupLoss m_isMarked : Nat → Int32} {m_value m_words m_names : Nat → Int64} {l1 l2 l3 : Int32} {o_r : Int32} {o_m_at : Int32} {o_m_fault : Int32} (hM : f_X11_takeAfter m_sort m_place m_value m_words m_at m_fault l1 l2 l3 = some (o_r, o_m_at, o_m_fault)) : MC l G yX11_takeAfter cX11_takeAfter 4 (some .int) (RM 3) [.ref (q_m 0), .int l1, .int l2, .int l3] [wX11 G q_m m_thrown m_tape m_taped m_size m_sort m_place m_value m_at m_fault m_words m_rows m_op m_arg m_codes m_names m_ofFeed m_teeth m_feedWords m_goWords m_facts m_pile m_levels m_best m_losses m_lossOf m_wasThere m_groupMany m_groupRow m_groupLoss m_isMarked] (some (.int o_r)) [wX11 G q_m m_thrown m_tape m_taped m_size m_sort m_place m_value o_m_at o_m_fault m_words m_rows m_op m_arg m_codes m_names m_ofFeed m_teeth m_feedWords m_goWords m_facts m_pile m_levels m_best m_losses m_lossOf m_wasThere m_groupMany m_groupRow m_groupLoss m_isMarked] := by
  refine MC.of pn_X11 (Nat.le_of_ble_eq_true rfl) (fun K hR hret => ?_)
  have hR : Rl l G RX11 cX11_takeAfter 4 (RM 3) K := hR
  show K [wX11 G q_m m_thrown m_tape m_taped m_size m_sort m_place m_value m_at m_fault m_words m_rows m_op m_arg m_codes m_names m_ofFeed m_teeth m_feedWords m_goWords m_facts m_pile m_levels m_best m_losses m_lossOf m_wasThere m_groupMany m_groupRow m_groupLoss m_isMarked] [(0, .ref (q_m 0)), (1, .int l1), (2, .int l2), (3, .int l3)] 0 []
  refine st_aload_n hR dX11_takeAfter_0 0 rfl rfl (pc' := 1) rfl ?_
  refine st_iload_n hR dX11_takeAfter_1 1 rfl rfl (pc' := 2) rfl ?_
  obtain ⟨⟨m_at_1, m_fault_1⟩, hc_, hM⟩ := bd_e hM
  refine st_callV hR (k_X11_takeWord hc_) cf_X11_160 (rm_le (Nat.le_of_ble_eq_true rfl) (Nat.le_of_ble_eq_true rfl)) [0] rfl rfl rfl 0 0 10 30 rfl rfl rfl rfl (rest := []) rfl (Nat.le_of_ble_eq_true rfl) dX11_takeAfter_2 (pc' := 5) rfl (Wn := [wX11 G q_m m_thrown m_tape m_taped m_size m_sort m_place m_value m_at_1 m_fault_1 m_words m_rows m_op m_arg m_codes m_names m_ofFeed m_teeth m_feedWords m_goWords m_facts m_pile m_levels m_best m_losses m_lossOf m_wasThere m_groupMany m_groupRow m_groupLoss m_isMarked]) rfl ?_
  refine st_aload_n hR dX11_takeAfter_5 0 rfl rfl (pc' := 6) rfl ?_
  refine st_iload_n hR dX11_takeAfter_6 2 rfl rfl (pc' := 7) rfl ?_
  refine st_iload_n hR dX11_takeAfter_7 3 rfl rfl (pc' := 8) rfl ?_
  obtain ⟨⟨r_1, m_at_2, m_fault_2⟩, hc_, hM⟩ := bd_e hM
  refine st_callV hR (k_X11_takeNumber hc_) cf_X11_163 (rm_le (Nat.le_of_ble_eq_true rfl) (Nat.le_of_ble_eq_true rfl)) [0] rfl rfl rfl 0 0 10 30 rfl rfl rfl rfl (rest := []) rfl (Nat.le_of_ble_eq_true rfl) dX11_takeAfter_8 (pc' := 11) rfl (Wn := [wX11 G q_m m_thrown m_tape m_taped m_size m_sort m_place m_value m_at_2 m_fault_2 m_words m_rows m_op m_arg m_codes m_names m_ofFeed m_teeth m_feedWords m_goWords m_facts m_pile m_levels m_best m_losses m_lossOf m_wasThere m_groupMany m_groupRow m_groupLoss m_isMarked]) rfl ?_
  cases hM
  exact hret _ _ dX11_takeAfter_11 (ro_i _)
set_option maxHeartbeats 16000000 in
set_option maxRecDepth 100000 in
theorem k_X11_isName {l : Launch} {G : GG} {q_m : Nat → Nat} {m_thrown m_taped m_size m_at m_fault m_codes m_ofFeed m_teeth m_levels m_groupMany : Int32} {m_tape m_sort m_place m_rows m_op m_arg m_feedWords m_goWords m_facts m_pile m_best m_losses m_lossOf m_wasThere m_groupRow m_groupLoss m_isMarked : Nat → Int32} {m_value m_words m_names : Nat → Int64}  {o_r : Int32} (hM : f_X11_isName m_sort m_value m_at m_fault m_words = some o_r) : MC l G yX11_isName cX11_isName 3 (some .boolean) (RM 0) [.ref (q_m 0)] [wX11 G q_m m_thrown m_tape m_taped m_size m_sort m_place m_value m_at m_fault m_words m_rows m_op m_arg m_codes m_names m_ofFeed m_teeth m_feedWords m_goWords m_facts m_pile m_levels m_best m_losses m_lossOf m_wasThere m_groupMany m_groupRow m_groupLoss m_isMarked] (some (.int o_r)) [wX11 G q_m m_thrown m_tape m_taped m_size m_sort m_place m_value m_at m_fault m_words m_rows m_op m_arg m_codes m_names m_ofFeed m_teeth m_feedWords m_goWords m_facts m_pile m_levels m_best m_losses m_lossOf m_wasThere m_groupMany m_groupRow m_groupLoss m_isMarked] := by
  refine MC.of pn_X11 (Nat.le_of_ble_eq_true rfl) (fun K hR hret => ?_)
  have hR : Rl l G RX11 cX11_isName 3 (RM 0) K := hR
  show K [wX11 G q_m m_thrown m_tape m_taped m_size m_sort m_place m_value m_at m_fault m_words m_rows m_op m_arg m_codes m_names m_ofFeed m_teeth m_feedWords m_goWords m_facts m_pile m_levels m_best m_losses m_lossOf m_wasThere m_groupMany m_groupRow m_groupLoss m_isMarked] [(0, .ref (q_m 0))] 0 []
  have L28 : ∀ (n28 : Nat) (l1 : Int32) (l2 : Int32), f_X11_isName_L28  m_sort m_value m_at m_fault m_words n28 l1 l2 = some o_r → K [wX11 G q_m m_thrown m_tape m_taped m_size m_sort m_place m_value m_at m_fault m_words m_rows m_op m_arg m_codes m_names m_ofFeed m_teeth m_feedWords m_goWords m_facts m_pile m_levels m_best m_losses m_lossOf m_wasThere m_groupMany m_groupRow m_groupLoss m_isMarked] [(0, .ref (q_m 0)), (1, .int l1), (2, .int l2)] 28 [] := by
    intro n28
    induction n28 with
    | zero => intro l1 l2 hM; exact no_some hM
    | succ n28 ih28 =>
      have J62 : ∀ (l2 : Int32) (s0 : Int32), f_X11_isName_B62  (f_X11_isName_L28  m_sort m_value m_at m_fault m_words n28) m_sort m_value m_at m_fault m_words l2 s0 = some o_r → K [wX11 G q_m m_thrown m_tape m_taped m_size m_sort m_place m_value m_at m_fault m_words m_rows m_op m_arg m_codes m_names m_ofFeed m_teeth m_feedWords m_goWords m_facts m_pile m_levels m_best m_losses m_lossOf m_wasThere m_groupMany m_groupRow m_groupLoss m_isMarked] [(0, .ref (q_m 0)), (2, .int l2)] 62 [.int s0] := by
        intro l2 s0 hM
        refine st_istore_n hR dX11_isName_62 rfl (Nat.le_of_ble_eq_true rfl) [1, 0, 2] (lv' := [(0, .ref (q_m 0)), (1, .int s0), (2, .int l2)]) rfl (pc' := 63) rfl ?_
        obtain ⟨l2_1, e_⟩ : ∃ y : Int32, y = l2 + 1 := ⟨_, rfl⟩
        refine st_iinc hR dX11_isName_63 (Nat.le_of_ble_eq_true rfl) 2 [1, 2, 0] (v := l2_1) rfl (by rw [e_]; rfl) (lv' := [(0, .ref (q_m 0)), (1, .int s0), (2, .int l2_1)]) rfl (pc' := 66) rfl ?_
        have hM := lt_e e_ hM
        refine st_goto hR dX11_isName_66 (tgt := 28) (by decide) ?_
        exact ih28 _ _ hM
      have J61 : ∀ (l2 : Int32), f_X11_isName_B61  (f_X11_isName_L28  m_sort m_value m_at m_fault m_words n28) m_sort m_value m_at m_fault m_words l2 = some o_r → K [wX11 G q_m m_thrown m_tape m_taped m_size m_sort m_place m_value m_at m_fault m_words m_rows m_op m_arg m_codes m_names m_ofFeed m_teeth m_feedWords m_goWords m_facts m_pile m_levels m_best m_losses m_lossOf m_wasThere m_groupMany m_groupRow m_groupLoss m_isMarked] [(0, .ref (q_m 0)), (2, .int l2)] 61 [] := by
        intro l2 hM
        refine st_iconst hR dX11_isName_61 (v := 0) rfl (pc' := 62) rfl ?_
        exact J62 _ _ hM
      intro l1 l2 hM
      have hM : f_X11_isName_L28b  (f_X11_isName_L28  m_sort m_value m_at m_fault m_words n28) m_sort m_value m_at m_fault m_words l1 l2 = some o_r := hM
      refine st_iload_n hR dX11_isName_28 2 rfl rfl (pc' := 29) rfl ?_
      refine st_bipush hR dX11_isName_29 (v := 13) rfl (pc' := 31) rfl ?_
      refine st_icmp_ge hR dX11_isName_31 (tgt := 69) (by decide) (pc' := 34) rfl (fun c_ => ?_) (fun c_ => ?_)
      · have hM := it_t c_ hM
        refine st_iload_n hR dX11_isName_69 1 rfl rfl (pc' := 70) rfl ?_
        obtain ⟨hz_, hM⟩ := g_z_e hM
        cases hM
        exact hret _ _ dX11_isName_70 (ro_z hz_)
      · have hM := it_f c_ hM
        refine st_iload_n hR dX11_isName_34 1 rfl rfl (pc' := 35) rfl ?_
        refine st_if_eq hR dX11_isName_35 (tgt := 61) (by decide) (pc' := 38) rfl (fun c_ => ?_) (fun c_ => ?_)
        · have hM := it_t c_ hM
          exact st_lv hR [0, 2] rfl (J61 _ hM)
        · have hM := it_f c_ hM
          refine st_aload_n hR dX11_isName_38 0 rfl rfl (pc' := 39) rfl ?_
          refine st_get hR dX11_isName_39 fg_X11_30_10_6 0 0 rfl rfl rfl (pc' := 42) rfl ?_
          refine st_aload_n hR dX11_isName_42 0 rfl rfl (pc' := 43) rfl ?_
          refine st_get hR dX11_isName_43 fg_X11_141_10_7 0 0 rfl rfl rfl (pc' := 46) rfl ?_
          obtain ⟨hin_, hM⟩ := g_in_e hM
          refine st_lald hR dX11_isName_46 0 4 rfl rfl hin_ (v := m_value (ix m_at)) rfl (pc' := 47) rfl ?_
          refine st_aload_n hR dX11_isName_47 0 rfl rfl (pc' := 48) rfl ?_
          refine st_get hR dX11_isName_48 fg_X11_66_10_9 0 0 rfl rfl rfl (pc' := 51) rfl ?_
          refine st_iload_n hR dX11_isName_51 2 rfl rfl (pc' := 52) rfl ?_
          obtain ⟨hin_, hM⟩ := g_in_e hM
          refine st_lald hR dX11_isName_52 0 5 rfl rfl hin_ (v := m_words (ix l2)) rfl (pc' := 53) rfl ?_
          refine st_lcmp hR dX11_isName_53 (pc' := 54) rfl ?_
          refine st_if_eq hR dX11_isName_54 (tgt := 61) (by decide) (pc' := 57) rfl (fun c_ => ?_) (fun c_ => ?_)
          · have hM := it_t c_ hM
            exact st_lv hR [0, 2] rfl (J61 _ hM)
          · have hM := it_f c_ hM
            refine st_iconst hR dX11_isName_57 (v := 1) rfl (pc' := 58) rfl ?_
            refine st_goto hR dX11_isName_58 (tgt := 62) (by decide) ?_
            exact st_lv hR [0, 2] rfl (J62 _ _ hM)
  have J25 : ∀ (s0 : Int32), f_X11_isName_B25  m_sort m_value m_at m_fault m_words s0 = some o_r → K [wX11 G q_m m_thrown m_tape m_taped m_size m_sort m_place m_value m_at m_fault m_words m_rows m_op m_arg m_codes m_names m_ofFeed m_teeth m_feedWords m_goWords m_facts m_pile m_levels m_best m_losses m_lossOf m_wasThere m_groupMany m_groupRow m_groupLoss m_isMarked] [(0, .ref (q_m 0))] 25 [.int s0] := by
    intro s0 hM
    refine st_istore_n hR dX11_isName_25 rfl (Nat.le_of_ble_eq_true rfl) [1, 0] (lv' := [(0, .ref (q_m 0)), (1, .int s0)]) rfl (pc' := 26) rfl ?_
    refine st_iconst hR dX11_isName_26 (v := 0) rfl (pc' := 27) rfl ?_
    refine st_istore_n hR dX11_isName_27 rfl (Nat.le_of_ble_eq_true rfl) [1, 2, 0] (lv' := [(0, .ref (q_m 0)), (1, .int s0), (2, .int 0)]) rfl (pc' := 28) rfl ?_
    exact L28 FU _ _ hM
  have J24 : f_X11_isName_B24  m_sort m_value m_at m_fault m_words = some o_r → K [wX11 G q_m m_thrown m_tape m_taped m_size m_sort m_place m_value m_at m_fault m_words m_rows m_op m_arg m_codes m_names m_ofFeed m_teeth m_feedWords m_goWords m_facts m_pile m_levels m_best m_losses m_lossOf m_wasThere m_groupMany m_groupRow m_groupLoss m_isMarked] [(0, .ref (q_m 0))] 24 [] := by
    intro  hM
    refine st_iconst hR dX11_isName_24 (v := 0) rfl (pc' := 25) rfl ?_
    exact J25 _ hM
  refine st_aload_n hR dX11_isName_0 0 rfl rfl (pc' := 1) rfl ?_
  refine st_get hR dX11_isName_1 fg_X11_144_10_8 0 0 rfl rfl rfl (pc' := 4) rfl ?_
  refine st_if_ne hR dX11_isName_4 (tgt := 24) (by decide) (pc' := 7) rfl (fun c_ => ?_) (fun c_ => ?_)
  · have hM := it_f c_ hM
    exact J24  hM
  · have hM := it_t c_ hM
    refine st_aload_n hR dX11_isName_7 0 rfl rfl (pc' := 8) rfl ?_
    refine st_get hR dX11_isName_8 fg_X11_24_10_4 0 0 rfl rfl rfl (pc' := 11) rfl ?_
    refine st_aload_n hR dX11_isName_11 0 rfl rfl (pc' := 12) rfl ?_
    refine st_get hR dX11_isName_12 fg_X11_141_10_7 0 0 rfl rfl rfl (pc' := 15) rfl ?_
    obtain ⟨hin_, hM⟩ := g_in_e hM
    refine st_iald hR dX11_isName_15 0 2 rfl rfl hin_ (v := m_sort (ix m_at)) rfl (pc' := 16) rfl ?_
    refine st_iconst hR dX11_isName_16 (v := 1) rfl (pc' := 17) rfl ?_
    refine st_icmp_ne hR dX11_isName_17 (tgt := 24) (by decide) (pc' := 20) rfl (fun c_ => ?_) (fun c_ => ?_)
    · have hM := it_f c_ hM
      exact J24  hM
    · have hM := it_t c_ hM
      refine st_iconst hR dX11_isName_20 (v := 1) rfl (pc' := 21) rfl ?_
      refine st_goto hR dX11_isName_21 (tgt := 25) (by decide) ?_
      exact J25 _ hM
set_option maxHeartbeats 16000000 in
set_option maxRecDepth 100000 in
theorem k_X11_carry {l : Launch} {G : GG} {q_m : Nat → Nat} {m_thrown m_taped m_size m_at m_fault m_codes m_ofFeed m_teeth m_levels m_groupMany : Int32} {m_tape m_sort m_place m_rows m_op m_arg m_feedWords m_goWords m_facts m_pile m_best m_losses m_lossOf m_wasThere m_groupRow m_groupLoss m_isMarked : Nat → Int32} {m_value m_words m_names : Nat → Int64} {l1 l2 : Int32} {o_m_rows : Nat → Int32} (hM : f_X11_carry m_rows l1 l2 = some o_m_rows) : MC l G yX11_carry cX11_carry 4 none (RM 0) [.ref (q_m 0), .int l1, .int l2] [wX11 G q_m m_thrown m_tape m_taped m_size m_sort m_place m_value m_at m_fault m_words m_rows m_op m_arg m_codes m_names m_ofFeed m_teeth m_feedWords m_goWords m_facts m_pile m_levels m_best m_losses m_lossOf m_wasThere m_groupMany m_groupRow m_groupLoss m_isMarked] none [wX11 G q_m m_thrown m_tape m_taped m_size m_sort m_place m_value m_at m_fault m_words o_m_rows m_op m_arg m_codes m_names m_ofFeed m_teeth m_feedWords m_goWords m_facts m_pile m_levels m_best m_losses m_lossOf m_wasThere m_groupMany m_groupRow m_groupLoss m_isMarked] := by
  refine MC.of pn_X11 (Nat.le_of_ble_eq_true rfl) (fun K hR hret => ?_)
  have hR : Rl l G RX11 cX11_carry 4 (RM 0) K := hR
  show K [wX11 G q_m m_thrown m_tape m_taped m_size m_sort m_place m_value m_at m_fault m_words m_rows m_op m_arg m_codes m_names m_ofFeed m_teeth m_feedWords m_goWords m_facts m_pile m_levels m_best m_losses m_lossOf m_wasThere m_groupMany m_groupRow m_groupLoss m_isMarked] [(0, .ref (q_m 0)), (1, .int l1), (2, .int l2)] 0 []
  have L2 : ∀ (n2 : Nat) (m_rows : Nat → Int32) (l1 : Int32) (l2 : Int32) (l3 : Int32), f_X11_carry_L2   n2 m_rows l1 l2 l3 = some o_m_rows → K [wX11 G q_m m_thrown m_tape m_taped m_size m_sort m_place m_value m_at m_fault m_words m_rows m_op m_arg m_codes m_names m_ofFeed m_teeth m_feedWords m_goWords m_facts m_pile m_levels m_best m_losses m_lossOf m_wasThere m_groupMany m_groupRow m_groupLoss m_isMarked] [(0, .ref (q_m 0)), (1, .int l1), (2, .int l2), (3, .int l3)] 2 [] := by
    intro n2
    induction n2 with
    | zero => intro m_rows l1 l2 l3 hM; exact no_some hM
    | succ n2 ih2 =>
      intro m_rows l1 l2 l3 hM
      have hM : f_X11_carry_L2b  (f_X11_carry_L2   n2)  m_rows l1 l2 l3 = some o_m_rows := hM
      refine st_iload_n hR dX11_carry_2 3 rfl rfl (pc' := 3) rfl ?_
      refine st_sipush hR dX11_carry_3 (v := 1000) rfl (pc' := 6) rfl ?_
      refine st_icmp_ge hR dX11_carry_6 (tgt := 39) (by decide) (pc' := 9) rfl (fun c_ => ?_) (fun c_ => ?_)
      · have hM := it_t c_ hM
        cases hM
        exact hret _ _ dX11_carry_39 ro_v
      · have hM := it_f c_ hM
        refine st_aload_n hR dX11_carry_9 0 rfl rfl (pc' := 10) rfl ?_
        refine st_get hR dX11_carry_10 fg_X11_69_10_10 0 0 rfl rfl rfl (pc' := 13) rfl ?_
        refine st_sipush hR dX11_carry_13 (v := 1000) rfl (pc' := 16) rfl ?_
        refine st_iload_n hR dX11_carry_16 2 rfl rfl (pc' := 17) rfl ?_
        refine st_imul hR dX11_carry_17 (pc' := 18) rfl ?_
        refine st_iload_n hR dX11_carry_18 3 rfl rfl (pc' := 19) rfl ?_
        refine st_iadd hR dX11_carry_19 (pc' := 20) rfl ?_
        refine st_aload_n hR dX11_carry_20 0 rfl rfl (pc' := 21) rfl ?_
        refine st_get hR dX11_carry_21 fg_X11_69_10_10 0 0 rfl rfl rfl (pc' := 24) rfl ?_
        refine st_sipush hR dX11_carry_24 (v := 1000) rfl (pc' := 27) rfl ?_
        refine st_iload_n hR dX11_carry_27 1 rfl rfl (pc' := 28) rfl ?_
        refine st_imul hR dX11_carry_28 (pc' := 29) rfl ?_
        refine st_iload_n hR dX11_carry_29 3 rfl rfl (pc' := 30) rfl ?_
        refine st_iadd hR dX11_carry_30 (pc' := 31) rfl ?_
        obtain ⟨hin_, hM⟩ := g_in_e hM
        refine st_iald hR dX11_carry_31 0 6 rfl rfl hin_ (v := m_rows (ix ((1000 * l1) + l3))) rfl (pc' := 32) rfl ?_
        obtain ⟨hin_, hM⟩ := g_in_e hM
        refine st_iast hR dX11_carry_32 0 6 rfl rfl hin_ (ix := (ix ((1000 * l2) + l3))) rfl (pc' := 33) rfl (fun m_rows_1 => [wX11 G q_m m_thrown m_tape m_taped m_size m_sort m_place m_value m_at m_fault m_words m_rows_1 m_op m_arg m_codes m_names m_ofFeed m_teeth m_feedWords m_goWords m_facts m_pile m_levels m_best m_losses m_lossOf m_wasThere m_groupMany m_groupRow m_groupLoss m_isMarked]) (fun _ => rfl) (fun m_rows_1 e_ => ?_)
        have hM := lt_e e_ hM
        obtain ⟨l3_1, e_⟩ : ∃ y : Int32, y = l3 + 1 := ⟨_, rfl⟩
        refine st_iinc hR dX11_carry_33 (Nat.le_of_ble_eq_true rfl) 3 [1, 2, 3, 0] (v := l3_1) rfl (by rw [e_]; rfl) (lv' := [(0, .ref (q_m 0)), (1, .int l1), (2, .int l2), (3, .int l3_1)]) rfl (pc' := 36) rfl ?_
        have hM := lt_e e_ hM
        refine st_goto hR dX11_carry_36 (tgt := 2) (by decide) ?_
        exact ih2 _ _ _ _ hM
  refine st_iconst hR dX11_carry_0 (v := 0) rfl (pc' := 1) rfl ?_
  refine st_istore_n hR dX11_carry_1 rfl (Nat.le_of_ble_eq_true rfl) [1, 2, 3, 0] (lv' := [(0, .ref (q_m 0)), (1, .int l1), (2, .int l2), (3, .int 0)]) rfl (pc' := 2) rfl ?_
  exact L2 FU _ _ _ _ hM
set_option maxHeartbeats 16000000 in
set_option maxRecDepth 100000 in
theorem k_X11_farmHere {l : Launch} {G : GG} {q_m : Nat → Nat} {m_thrown m_taped m_size m_at m_fault m_codes m_ofFeed m_teeth m_levels m_groupMany : Int32} {m_tape m_sort m_place m_rows m_op m_arg m_feedWords m_goWords m_facts m_pile m_best m_losses m_lossOf m_wasThere m_groupRow m_groupLoss m_isMarked : Nat → Int32} {m_value m_words m_names : Nat → Int64}  {o_r : Int32} {o_m_fault : Int32} (hM : f_X11_farmHere m_sort m_place m_value m_at m_words m_rows m_names m_fault = some (o_r, o_m_fault)) : MC l G yX11_farmHere cX11_farmHere 2 (some .int) (RM 1) [.ref (q_m 0)] [wX11 G q_m m_thrown m_tape m_taped m_size m_sort m_place m_value m_at m_fault m_words m_rows m_op m_arg m_codes m_names m_ofFeed m_teeth m_feedWords m_goWords m_facts m_pile m_levels m_best m_losses m_lossOf m_wasThere m_groupMany m_groupRow m_groupLoss m_isMarked] (some (.int o_r)) [wX11 G q_m m_thrown m_tape m_taped m_size m_sort m_place m_value m_at o_m_fault m_words m_rows m_op m_arg m_codes m_names m_ofFeed m_teeth m_feedWords m_goWords m_facts m_pile m_levels m_best m_losses m_lossOf m_wasThere m_groupMany m_groupRow m_groupLoss m_isMarked] := by
  refine MC.of pn_X11 (Nat.le_of_ble_eq_true rfl) (fun K hR hret => ?_)
  have hR : Rl l G RX11 cX11_farmHere 2 (RM 1) K := hR
  show K [wX11 G q_m m_thrown m_tape m_taped m_size m_sort m_place m_value m_at m_fault m_words m_rows m_op m_arg m_codes m_names m_ofFeed m_teeth m_feedWords m_goWords m_facts m_pile m_levels m_best m_losses m_lossOf m_wasThere m_groupMany m_groupRow m_groupLoss m_isMarked] [(0, .ref (q_m 0))] 0 []
  have L16 : ∀ (n16 : Nat) (m_fault : Int32) (l1 : Int32), f_X11_farmHere_L16  m_sort m_place m_value m_at m_words m_rows m_names n16 m_fault l1 = some (o_r, o_m_fault) → K [wX11 G q_m m_thrown m_tape m_taped m_size m_sort m_place m_value m_at m_fault m_words m_rows m_op m_arg m_codes m_names m_ofFeed m_teeth m_feedWords m_goWords m_facts m_pile m_levels m_best m_losses m_lossOf m_wasThere m_groupMany m_groupRow m_groupLoss m_isMarked] [(0, .ref (q_m 0)), (1, .int l1)] 16 [] := by
    intro n16
    induction n16 with
    | zero => intro m_fault l1 hM; exact no_some hM
    | succ n16 ih16 =>
      intro m_fault l1 hM
      have hM : f_X11_farmHere_L16b  (f_X11_farmHere_L16  m_sort m_place m_value m_at m_words m_rows m_names n16) m_sort m_place m_value m_at m_words m_rows m_names m_fault l1 = some (o_r, o_m_fault) := hM
      refine st_iload_n hR dX11_farmHere_16 1 rfl rfl (pc' := 17) rfl ?_
      refine st_aload_n hR dX11_farmHere_17 0 rfl rfl (pc' := 18) rfl ?_
      refine st_get hR dX11_farmHere_18 fg_X11_69_10_10 0 0 rfl rfl rfl (pc' := 21) rfl ?_
      refine st_sipush hR dX11_farmHere_21 (v := 1000) rfl (pc' := 24) rfl ?_
      refine st_iald hR dX11_farmHere_24 0 6 rfl rfl (vp_lit 1000 rfl rfl rfl) (v := m_rows 1000) (congrArg m_rows (cl_lit 1000 rfl rfl)) (pc' := 25) rfl ?_
      refine st_icmp_ge hR dX11_farmHere_25 (tgt := 55) (by decide) (pc' := 28) rfl (fun c_ => ?_) (fun c_ => ?_)
      · have hM := it_t c_ hM
        refine st_aload_n hR dX11_farmHere_55 0 rfl rfl (pc' := 56) rfl ?_
        refine st_iconst hR dX11_farmHere_56 (v := 2) rfl (pc' := 57) rfl ?_
        obtain ⟨m_fault_1, hc_, hM⟩ := bd_e hM
        refine st_callV hR (k_X11_wrong hc_) cf_X11_150 (rm_le (Nat.le_of_ble_eq_true rfl) (Nat.le_of_ble_eq_true rfl)) [0] rfl rfl rfl 0 0 10 30 rfl rfl rfl rfl (rest := []) rfl (Nat.le_of_ble_eq_true rfl) dX11_farmHere_57 (pc' := 60) rfl (Wn := [wX11 G q_m m_thrown m_tape m_taped m_size m_sort m_place m_value m_at m_fault_1 m_words m_rows m_op m_arg m_codes m_names m_ofFeed m_teeth m_feedWords m_goWords m_facts m_pile m_levels m_best m_losses m_lossOf m_wasThere m_groupMany m_groupRow m_groupLoss m_isMarked]) rfl ?_
        refine st_iconst hR dX11_farmHere_60 (v := (-1)) (by decide) (pc' := 61) rfl ?_
        cases hM
        exact hret _ _ dX11_farmHere_61 (ro_i _)
      · have hM := it_f c_ hM
        refine st_aload_n hR dX11_farmHere_28 0 rfl rfl (pc' := 29) rfl ?_
        refine st_get hR dX11_farmHere_29 fg_X11_78_10_14 0 0 rfl rfl rfl (pc' := 32) rfl ?_
        refine st_iload_n hR dX11_farmHere_32 1 rfl rfl (pc' := 33) rfl ?_
        obtain ⟨hin_, hM⟩ := g_in_e hM
        refine st_lald hR dX11_farmHere_33 0 9 rfl rfl hin_ (v := m_names (ix l1)) rfl (pc' := 34) rfl ?_
        refine st_aload_n hR dX11_farmHere_34 0 rfl rfl (pc' := 35) rfl ?_
        refine st_get hR dX11_farmHere_35 fg_X11_30_10_6 0 0 rfl rfl rfl (pc' := 38) rfl ?_
        refine st_aload_n hR dX11_farmHere_38 0 rfl rfl (pc' := 39) rfl ?_
        refine st_get hR dX11_farmHere_39 fg_X11_141_10_7 0 0 rfl rfl rfl (pc' := 42) rfl ?_
        obtain ⟨hin_, hM⟩ := g_in_e hM
        refine st_lald hR dX11_farmHere_42 0 4 rfl rfl hin_ (v := m_value (ix m_at)) rfl (pc' := 43) rfl ?_
        refine st_lcmp hR dX11_farmHere_43 (pc' := 44) rfl ?_
        refine st_if_ne hR dX11_farmHere_44 (tgt := 49) (by decide) (pc' := 47) rfl (fun c_ => ?_) (fun c_ => ?_)
        · have hM := it_f c_ hM
          obtain ⟨l1_1, e_⟩ : ∃ y : Int32, y = l1 + 1 := ⟨_, rfl⟩
          refine st_iinc hR dX11_farmHere_49 (Nat.le_of_ble_eq_true rfl) 1 [1, 0] (v := l1_1) rfl (by rw [e_]; rfl) (lv' := [(0, .ref (q_m 0)), (1, .int l1_1)]) rfl (pc' := 52) rfl ?_
          have hM := lt_e e_ hM
          refine st_goto hR dX11_farmHere_52 (tgt := 16) (by decide) ?_
          exact ih16 _ _ hM
        · have hM := it_t c_ hM
          refine st_iload_n hR dX11_farmHere_47 1 rfl rfl (pc' := 48) rfl ?_
          cases hM
          exact hret _ _ dX11_farmHere_48 (ro_i _)
  refine st_aload_n hR dX11_farmHere_0 0 rfl rfl (pc' := 1) rfl ?_
  obtain ⟨r_1, hc_, hM⟩ := bd_e hM
  refine st_callV hR (k_X11_isName hc_) cf_X11_201 (rm_le (Nat.le_of_ble_eq_true rfl) (Nat.le_of_ble_eq_true rfl)) [0] rfl rfl rfl 0 0 10 30 rfl rfl rfl rfl (rest := []) rfl (Nat.le_of_ble_eq_true rfl) dX11_farmHere_1 (pc' := 4) rfl (Wn := [wX11 G q_m m_thrown m_tape m_taped m_size m_sort m_place m_value m_at m_fault m_words m_rows m_op m_arg m_codes m_names m_ofFeed m_teeth m_feedWords m_goWords m_facts m_pile m_levels m_best m_losses m_lossOf m_wasThere m_groupMany m_groupRow m_groupLoss m_isMarked]) rfl ?_
  refine st_if_ne hR dX11_farmHere_4 (tgt := 14) (by decide) (pc' := 7) rfl (fun c_ => ?_) (fun c_ => ?_)
  · have hM := it_f c_ hM
    refine st_iconst hR dX11_farmHere_14 (v := 0) rfl (pc' := 15) rfl ?_
    refine st_istore_n hR dX11_farmHere_15 rfl (Nat.le_of_ble_eq_true rfl) [1, 0] (lv' := [(0, .ref (q_m 0)), (1, .int 0)]) rfl (pc' := 16) rfl ?_
    exact L16 FU _ _ hM
  · have hM := it_t c_ hM
    refine st_aload_n hR dX11_farmHere_7 0 rfl rfl (pc' := 8) rfl ?_
    refine st_iconst hR dX11_farmHere_8 (v := 1) rfl (pc' := 9) rfl ?_
    obtain ⟨m_fault_1, hc_, hM⟩ := bd_e hM
    refine st_callV hR (k_X11_wrong hc_) cf_X11_150 (rm_le (Nat.le_of_ble_eq_true rfl) (Nat.le_of_ble_eq_true rfl)) [0] rfl rfl rfl 0 0 10 30 rfl rfl rfl rfl (rest := []) rfl (Nat.le_of_ble_eq_true rfl) dX11_farmHere_9 (pc' := 12) rfl (Wn := [wX11 G q_m m_thrown m_tape m_taped m_size m_sort m_place m_value m_at m_fault_1 m_words m_rows m_op m_arg m_codes m_names m_ofFeed m_teeth m_feedWords m_goWords m_facts m_pile m_levels m_best m_losses m_lossOf m_wasThere m_groupMany m_groupRow m_groupLoss m_isMarked]) rfl ?_
    refine st_iconst hR dX11_farmHere_12 (v := (-1)) (by decide) (pc' := 13) rfl ?_
    cases hM
    exact hret _ _ dX11_farmHere_13 (ro_i _)
set_option maxHeartbeats 16000000 in
set_option maxRecDepth 100000 in
theorem k_X11_readTooth {l : Launch} {G : GG} {q_m : Nat → Nat} {m_thrown m_taped m_size m_at m_fault m_codes m_ofFeed m_teeth m_levels m_groupMany : Int32} {m_tape m_sort m_place m_rows m_op m_arg m_feedWords m_goWords m_facts m_pile m_best m_losses m_lossOf m_wasThere m_groupRow m_groupLoss m_isMarked : Nat → Int32} {m_value m_words m_names : Nat → Int64}  {o_m_at : Int32} {o_m_fault : Int32} {o_m_rows : Nat → Int32} {o_m_teeth : Int32} (hM : f_X11_readTooth m_sort m_place m_value m_words m_names m_at m_fault m_rows m_teeth = some (o_m_at, o_m_fault, o_m_rows, o_m_teeth)) : MC l G yX11_readTooth cX11_readTooth 4 none (RM 2) [.ref (q_m 0)] [wX11 G q_m m_thrown m_tape m_taped m_size m_sort m_place m_value m_at m_fault m_words m_rows m_op m_arg m_codes m_names m_ofFeed m_teeth m_feedWords m_goWords m_facts m_pile m_levels m_best m_losses m_lossOf m_wasThere m_groupMany m_groupRow m_groupLoss m_isMarked] none [wX11 G q_m m_thrown m_tape m_taped m_size m_sort m_place m_value o_m_at o_m_fault m_words o_m_rows m_op m_arg m_codes m_names m_ofFeed o_m_teeth m_feedWords m_goWords m_facts m_pile m_levels m_best m_losses m_lossOf m_wasThere m_groupMany m_groupRow m_groupLoss m_isMarked] := by
  refine MC.of pn_X11 (Nat.le_of_ble_eq_true rfl) (fun K hR hret => ?_)
  have hR : Rl l G RX11 cX11_readTooth 4 (RM 2) K := hR
  show K [wX11 G q_m m_thrown m_tape m_taped m_size m_sort m_place m_value m_at m_fault m_words m_rows m_op m_arg m_codes m_names m_ofFeed m_teeth m_feedWords m_goWords m_facts m_pile m_levels m_best m_losses m_lossOf m_wasThere m_groupMany m_groupRow m_groupLoss m_isMarked] [(0, .ref (q_m 0))] 0 []
  have J161 : ∀ (m_at : Int32) (m_fault : Int32) (m_rows : Nat → Int32) (m_teeth : Int32) (l1 : Int32), f_X11_readTooth_B161  m_sort m_place m_value m_words m_names m_at m_fault m_rows m_teeth l1 = some (o_m_at, o_m_fault, o_m_rows, o_m_teeth) → K [wX11 G q_m m_thrown m_tape m_taped m_size m_sort m_place m_value m_at m_fault m_words m_rows m_op m_arg m_codes m_names m_ofFeed m_teeth m_feedWords m_goWords m_facts m_pile m_levels m_best m_losses m_lossOf m_wasThere m_groupMany m_groupRow m_groupLoss m_isMarked] [(0, .ref (q_m 0)), (1, .int l1)] 161 [] := by
    intro m_at m_fault m_rows m_teeth l1 hM
    refine st_aload_n hR dX11_readTooth_161 0 rfl rfl (pc' := 162) rfl ?_
    refine st_dup hR dX11_readTooth_162 (pc' := 163) rfl rfl ?_
    refine st_get hR dX11_readTooth_163 fg_X11_173_10_16 0 0 rfl rfl rfl (pc' := 166) rfl ?_
    refine st_aload_n hR dX11_readTooth_166 0 rfl rfl (pc' := 167) rfl ?_
    refine st_get hR dX11_readTooth_167 fg_X11_144_10_8 0 0 rfl rfl rfl (pc' := 170) rfl ?_
    refine st_if_le hR dX11_readTooth_170 (tgt := 177) (by decide) (pc' := 173) rfl (fun c_ => ?_) (fun c_ => ?_)
    · have hM := it_t c_ hM
      refine st_iconst hR dX11_readTooth_177 (v := 1) rfl (pc' := 178) rfl ?_
      refine st_iload_n hR dX11_readTooth_178 1 rfl rfl (pc' := 179) rfl ?_
      refine st_ishl hR dX11_readTooth_179 (pc' := 180) rfl ?_
      refine st_ior hR dX11_readTooth_180 (pc' := 181) rfl ?_
      refine st_topi (fun m_teeth_1 e_ => ?_)
      have hM := lt_e e_ hM
      refine st_put hR dX11_readTooth_181 fp_X11_173_10_16 0 0 rfl rfl (Nat.le_of_ble_eq_true rfl) rfl rfl (pc' := 184) rfl (W' := [wX11 G q_m m_thrown m_tape m_taped m_size m_sort m_place m_value m_at m_fault m_words m_rows m_op m_arg m_codes m_names m_ofFeed m_teeth_1 m_feedWords m_goWords m_facts m_pile m_levels m_best m_losses m_lossOf m_wasThere m_groupMany m_groupRow m_groupLoss m_isMarked]) rfl ?_
      cases hM
      exact hret _ _ dX11_readTooth_184 ro_v
    · have hM := it_f c_ hM
      refine st_iconst hR dX11_readTooth_173 (v := 0) rfl (pc' := 174) rfl ?_
      refine st_goto hR dX11_readTooth_174 (tgt := 180) (by decide) ?_
      refine st_ior hR dX11_readTooth_180 (pc' := 181) rfl ?_
      refine st_topi (fun m_teeth_2 e_ => ?_)
      have hM := lt_e e_ hM
      refine st_put hR dX11_readTooth_181 fp_X11_173_10_16 0 0 rfl rfl (Nat.le_of_ble_eq_true rfl) rfl rfl (pc' := 184) rfl (W' := [wX11 G q_m m_thrown m_tape m_taped m_size m_sort m_place m_value m_at m_fault m_words m_rows m_op m_arg m_codes m_names m_ofFeed m_teeth_2 m_feedWords m_goWords m_facts m_pile m_levels m_best m_losses m_lossOf m_wasThere m_groupMany m_groupRow m_groupLoss m_isMarked]) rfl ?_
      cases hM
      exact hret _ _ dX11_readTooth_184 ro_v
  have L64 : ∀ (n64 : Nat) (m_at : Int32) (m_fault : Int32) (m_rows : Nat → Int32) (m_teeth : Int32) (l1 : Int32) (l2 : Int32) (l3 : Int32), f_X11_readTooth_L64  m_sort m_place m_value m_words m_names n64 m_at m_fault m_rows m_teeth l1 l2 l3 = some (o_m_at, o_m_fault, o_m_rows, o_m_teeth) → K [wX11 G q_m m_thrown m_tape m_taped m_size m_sort m_place m_value m_at m_fault m_words m_rows m_op m_arg m_codes m_names m_ofFeed m_teeth m_feedWords m_goWords m_facts m_pile m_levels m_best m_losses m_lossOf m_wasThere m_groupMany m_groupRow m_groupLoss m_isMarked] [(0, .ref (q_m 0)), (1, .int l1), (2, .int l2), (3, .int l3)] 64 [] := by
    intro n64
    induction n64 with
    | zero => intro m_at m_fault m_rows m_teeth l1 l2 l3 hM; exact no_some hM
    | succ n64 ih64 =>
      have J117 : ∀ (m_at : Int32) (m_fault : Int32) (m_rows : Nat → Int32) (m_teeth : Int32) (l1 : Int32) (l2 : Int32) (l3 : Int32), f_X11_readTooth_B117  (f_X11_readTooth_L64  m_sort m_place m_value m_words m_names n64) m_sort m_place m_value m_words m_names m_at m_fault m_rows m_teeth l1 l2 l3 = some (o_m_at, o_m_fault, o_m_rows, o_m_teeth) → K [wX11 G q_m m_thrown m_tape m_taped m_size m_sort m_place m_value m_at m_fault m_words m_rows m_op m_arg m_codes m_names m_ofFeed m_teeth m_feedWords m_goWords m_facts m_pile m_levels m_best m_losses m_lossOf m_wasThere m_groupMany m_groupRow m_groupLoss m_isMarked] [(0, .ref (q_m 0)), (1, .int l1), (2, .int l2), (3, .int l3)] 117 [] := by
        intro m_at m_fault m_rows m_teeth l1 l2 l3 hM
        refine st_aload_n hR dX11_readTooth_117 0 rfl rfl (pc' := 118) rfl ?_
        refine st_get hR dX11_readTooth_118 fg_X11_69_10_10 0 0 rfl rfl rfl (pc' := 121) rfl ?_
        refine st_sipush hR dX11_readTooth_121 (v := 1050) rfl (pc' := 124) rfl ?_
        refine st_iconst hR dX11_readTooth_124 (v := 4) rfl (pc' := 125) rfl ?_
        refine st_iload_n hR dX11_readTooth_125 1 rfl rfl (pc' := 126) rfl ?_
        refine st_imul hR dX11_readTooth_126 (pc' := 127) rfl ?_
        refine st_iadd hR dX11_readTooth_127 (pc' := 128) rfl ?_
        refine st_iload_n hR dX11_readTooth_128 3 rfl rfl (pc' := 129) rfl ?_
        refine st_iadd hR dX11_readTooth_129 (pc' := 130) rfl ?_
        refine st_aload_n hR dX11_readTooth_130 0 rfl rfl (pc' := 131) rfl ?_
        refine st_iconst hR dX11_readTooth_131 (v := 0) rfl (pc' := 132) rfl ?_
        refine st_bipush hR dX11_readTooth_132 (v := 9) rfl (pc' := 134) rfl ?_
        obtain ⟨⟨r_1, m_at_1, m_fault_1⟩, hc_, hM⟩ := bd_e hM
        refine st_callV hR (k_X11_takeNumber hc_) cf_X11_163 (rm_le (Nat.le_of_ble_eq_true rfl) (Nat.le_of_ble_eq_true rfl)) [0] rfl rfl rfl 0 0 10 30 rfl rfl rfl rfl (rest := [.int ((1050 + (4 * l1)) + l3), .ref (q_m 6)]) rfl (Nat.le_of_ble_eq_true rfl) dX11_readTooth_134 (pc' := 137) rfl (Wn := [wX11 G q_m m_thrown m_tape m_taped m_size m_sort m_place m_value m_at_1 m_fault_1 m_words m_rows m_op m_arg m_codes m_names m_ofFeed m_teeth m_feedWords m_goWords m_facts m_pile m_levels m_best m_losses m_lossOf m_wasThere m_groupMany m_groupRow m_groupLoss m_isMarked]) rfl ?_
        obtain ⟨hin_, hM⟩ := g_in_e hM
        refine st_iast hR dX11_readTooth_137 0 6 rfl rfl hin_ (ix := (ix ((1050 + (4 * l1)) + l3))) rfl (pc' := 138) rfl (fun m_rows_1 => [wX11 G q_m m_thrown m_tape m_taped m_size m_sort m_place m_value m_at_1 m_fault_1 m_words m_rows_1 m_op m_arg m_codes m_names m_ofFeed m_teeth m_feedWords m_goWords m_facts m_pile m_levels m_best m_losses m_lossOf m_wasThere m_groupMany m_groupRow m_groupLoss m_isMarked]) (fun _ => rfl) (fun m_rows_1 e_ => ?_)
        have hM := lt_e e_ hM
        refine st_iload_n hR dX11_readTooth_138 2 rfl rfl (pc' := 139) rfl ?_
        refine st_aload_n hR dX11_readTooth_139 0 rfl rfl (pc' := 140) rfl ?_
        refine st_get hR dX11_readTooth_140 fg_X11_69_10_10 0 0 rfl rfl rfl (pc' := 143) rfl ?_
        refine st_sipush hR dX11_readTooth_143 (v := 1050) rfl (pc' := 146) rfl ?_
        refine st_iconst hR dX11_readTooth_146 (v := 4) rfl (pc' := 147) rfl ?_
        refine st_iload_n hR dX11_readTooth_147 1 rfl rfl (pc' := 148) rfl ?_
        refine st_imul hR dX11_readTooth_148 (pc' := 149) rfl ?_
        refine st_iadd hR dX11_readTooth_149 (pc' := 150) rfl ?_
        refine st_iload_n hR dX11_readTooth_150 3 rfl rfl (pc' := 151) rfl ?_
        refine st_iadd hR dX11_readTooth_151 (pc' := 152) rfl ?_
        obtain ⟨hin_, hM⟩ := g_in_e hM
        refine st_iald hR dX11_readTooth_152 0 6 rfl rfl hin_ (v := m_rows_1 (ix ((1050 + (4 * l1)) + l3))) rfl (pc' := 153) rfl ?_
        refine st_iadd hR dX11_readTooth_153 (pc' := 154) rfl ?_
        refine st_topi (fun l2_1 e_ => ?_)
        have hM := lt_e e_ hM
        refine st_istore_n hR dX11_readTooth_154 rfl (Nat.le_of_ble_eq_true rfl) [1, 2, 0, 3] (lv' := [(0, .ref (q_m 0)), (1, .int l1), (2, .int l2_1), (3, .int l3)]) rfl (pc' := 155) rfl ?_
        obtain ⟨l3_1, e_⟩ : ∃ y : Int32, y = l3 + 1 := ⟨_, rfl⟩
        refine st_iinc hR dX11_readTooth_155 (Nat.le_of_ble_eq_true rfl) 3 [1, 2, 3, 0] (v := l3_1) rfl (by rw [e_]; rfl) (lv' := [(0, .ref (q_m 0)), (1, .int l1), (2, .int l2_1), (3, .int l3_1)]) rfl (pc' := 158) rfl ?_
        have hM := lt_e e_ hM
        refine st_goto hR dX11_readTooth_158 (tgt := 64) (by decide) ?_
        exact ih64 _ _ _ _ _ _ _ hM
      intro m_at m_fault m_rows m_teeth l1 l2 l3 hM
      have hM : f_X11_readTooth_L64b  (f_X11_readTooth_L64  m_sort m_place m_value m_words m_names n64) m_sort m_place m_value m_words m_names m_at m_fault m_rows m_teeth l1 l2 l3 = some (o_m_at, o_m_fault, o_m_rows, o_m_teeth) := hM
      refine st_iload_n hR dX11_readTooth_64 3 rfl rfl (pc' := 65) rfl ?_
      refine st_iconst hR dX11_readTooth_65 (v := 4) rfl (pc' := 66) rfl ?_
      refine st_icmp_ge hR dX11_readTooth_66 (tgt := 161) (by decide) (pc' := 69) rfl (fun c_ => ?_) (fun c_ => ?_)
      · have hM := it_t c_ hM
        exact st_lv hR [0, 1] rfl (J161 _ _ _ _ _ hM)
      · have hM := it_f c_ hM
        refine st_aload_n hR dX11_readTooth_69 0 rfl rfl (pc' := 70) rfl ?_
        refine st_get hR dX11_readTooth_70 fg_X11_144_10_8 0 0 rfl rfl rfl (pc' := 73) rfl ?_
        refine st_if_ne hR dX11_readTooth_73 (tgt := 161) (by decide) (pc' := 76) rfl (fun c_ => ?_) (fun c_ => ?_)
        · have hM := it_f c_ hM
          exact st_lv hR [0, 1] rfl (J161 _ _ _ _ _ hM)
        · have hM := it_t c_ hM
          refine st_iload_n hR dX11_readTooth_76 3 rfl rfl (pc' := 77) rfl ?_
          refine st_iconst hR dX11_readTooth_77 (v := 3) rfl (pc' := 78) rfl ?_
          refine st_icmp_ne hR dX11_readTooth_78 (tgt := 117) (by decide) (pc' := 81) rfl (fun c_ => ?_) (fun c_ => ?_)
          · have hM := it_f c_ hM
            exact J117 _ _ _ _ _ _ _ hM
          · have hM := it_t c_ hM
            refine st_iload_n hR dX11_readTooth_81 2 rfl rfl (pc' := 82) rfl ?_
            refine st_if_ne hR dX11_readTooth_82 (tgt := 117) (by decide) (pc' := 85) rfl (fun c_ => ?_) (fun c_ => ?_)
            · have hM := it_f c_ hM
              exact J117 _ _ _ _ _ _ _ hM
            · have hM := it_t c_ hM
              refine st_aload_n hR dX11_readTooth_85 0 rfl rfl (pc' := 86) rfl ?_
              refine st_get hR dX11_readTooth_86 fg_X11_24_10_4 0 0 rfl rfl rfl (pc' := 89) rfl ?_
              refine st_aload_n hR dX11_readTooth_89 0 rfl rfl (pc' := 90) rfl ?_
              refine st_get hR dX11_readTooth_90 fg_X11_141_10_7 0 0 rfl rfl rfl (pc' := 93) rfl ?_
              obtain ⟨hin_, hM⟩ := g_in_e hM
              refine st_iald hR dX11_readTooth_93 0 2 rfl rfl hin_ (v := m_sort (ix m_at)) rfl (pc' := 94) rfl ?_
              refine st_iconst hR dX11_readTooth_94 (v := 2) rfl (pc' := 95) rfl ?_
              refine st_icmp_ne hR dX11_readTooth_95 (tgt := 117) (by decide) (pc' := 98) rfl (fun c_ => ?_) (fun c_ => ?_)
              · have hM := it_f c_ hM
                exact J117 _ _ _ _ _ _ _ hM
              · have hM := it_t c_ hM
                refine st_aload_n hR dX11_readTooth_98 0 rfl rfl (pc' := 99) rfl ?_
                refine st_get hR dX11_readTooth_99 fg_X11_30_10_6 0 0 rfl rfl rfl (pc' := 102) rfl ?_
                refine st_aload_n hR dX11_readTooth_102 0 rfl rfl (pc' := 103) rfl ?_
                refine st_get hR dX11_readTooth_103 fg_X11_141_10_7 0 0 rfl rfl rfl (pc' := 106) rfl ?_
                obtain ⟨hin_, hM⟩ := g_in_e hM
                refine st_lald hR dX11_readTooth_106 0 4 rfl rfl hin_ (v := m_value (ix m_at)) rfl (pc' := 107) rfl ?_
                refine st_lconst hR dX11_readTooth_107 (v := 0) rfl (pc' := 108) rfl ?_
                refine st_lcmp hR dX11_readTooth_108 (pc' := 109) rfl ?_
                refine st_if_ne hR dX11_readTooth_109 (tgt := 117) (by decide) (pc' := 112) rfl (fun c_ => ?_) (fun c_ => ?_)
                · have hM := it_f c_ hM
                  exact J117 _ _ _ _ _ _ _ hM
                · have hM := it_t c_ hM
                  refine st_aload_n hR dX11_readTooth_112 0 rfl rfl (pc' := 113) rfl ?_
                  refine st_iconst hR dX11_readTooth_113 (v := 4) rfl (pc' := 114) rfl ?_
                  obtain ⟨m_fault_1, hc_, hM⟩ := bd_e hM
                  refine st_callV hR (k_X11_wrong hc_) cf_X11_150 (rm_le (Nat.le_of_ble_eq_true rfl) (Nat.le_of_ble_eq_true rfl)) [0] rfl rfl rfl 0 0 10 30 rfl rfl rfl rfl (rest := []) rfl (Nat.le_of_ble_eq_true rfl) dX11_readTooth_114 (pc' := 117) rfl (Wn := [wX11 G q_m m_thrown m_tape m_taped m_size m_sort m_place m_value m_at m_fault_1 m_words m_rows m_op m_arg m_codes m_names m_ofFeed m_teeth m_feedWords m_goWords m_facts m_pile m_levels m_best m_losses m_lossOf m_wasThere m_groupMany m_groupRow m_groupLoss m_isMarked]) rfl ?_
                  exact J117 _ _ _ _ _ _ _ hM
  have J56 : ∀ (m_at : Int32) (m_fault : Int32) (m_rows : Nat → Int32) (m_teeth : Int32) (l1 : Int32) (s0 : Int32) (s1 : Int32), f_X11_readTooth_B56  m_sort m_place m_value m_words m_names m_at m_fault m_rows m_teeth l1 s0 s1 = some (o_m_at, o_m_fault, o_m_rows, o_m_teeth) → K [wX11 G q_m m_thrown m_tape m_taped m_size m_sort m_place m_value m_at m_fault m_words m_rows m_op m_arg m_codes m_names m_ofFeed m_teeth m_feedWords m_goWords m_facts m_pile m_levels m_best m_losses m_lossOf m_wasThere m_groupMany m_groupRow m_groupLoss m_isMarked] [(0, .ref (q_m 0)), (1, .int l1)] 56 [.int s0, .int s1, .ref (q_m 0)] := by
    intro m_at m_fault m_rows m_teeth l1 s0 s1 hM
    refine st_iadd hR dX11_readTooth_56 (pc' := 57) rfl ?_
    refine st_topi (fun m_at_1 e_ => ?_)
    have hM := lt_e e_ hM
    refine st_put hR dX11_readTooth_57 fp_X11_141_10_7 0 0 rfl rfl (Nat.le_of_ble_eq_true rfl) rfl rfl (pc' := 60) rfl (W' := [wX11 G q_m m_thrown m_tape m_taped m_size m_sort m_place m_value m_at_1 m_fault m_words m_rows m_op m_arg m_codes m_names m_ofFeed m_teeth m_feedWords m_goWords m_facts m_pile m_levels m_best m_losses m_lossOf m_wasThere m_groupMany m_groupRow m_groupLoss m_isMarked]) rfl ?_
    refine st_iconst hR dX11_readTooth_60 (v := 0) rfl (pc' := 61) rfl ?_
    refine st_istore_n hR dX11_readTooth_61 rfl (Nat.le_of_ble_eq_true rfl) [1, 2, 0] (lv' := [(0, .ref (q_m 0)), (1, .int l1), (2, .int 0)]) rfl (pc' := 62) rfl ?_
    refine st_iconst hR dX11_readTooth_62 (v := 0) rfl (pc' := 63) rfl ?_
    refine st_istore_n hR dX11_readTooth_63 rfl (Nat.le_of_ble_eq_true rfl) [1, 2, 3, 0] (lv' := [(0, .ref (q_m 0)), (1, .int l1), (2, .int 0), (3, .int 0)]) rfl (pc' := 64) rfl ?_
    exact L64 FU _ _ _ _ _ _ _ hM
  have J39 : ∀ (m_at : Int32) (m_fault : Int32) (m_rows : Nat → Int32) (m_teeth : Int32) (l1 : Int32), f_X11_readTooth_B39  m_sort m_place m_value m_words m_names m_at m_fault m_rows m_teeth l1 = some (o_m_at, o_m_fault, o_m_rows, o_m_teeth) → K [wX11 G q_m m_thrown m_tape m_taped m_size m_sort m_place m_value m_at m_fault m_words m_rows m_op m_arg m_codes m_names m_ofFeed m_teeth m_feedWords m_goWords m_facts m_pile m_levels m_best m_losses m_lossOf m_wasThere m_groupMany m_groupRow m_groupLoss m_isMarked] [(0, .ref (q_m 0)), (1, .int l1)] 39 [] := by
    intro m_at m_fault m_rows m_teeth l1 hM
    refine st_aload_n hR dX11_readTooth_39 0 rfl rfl (pc' := 40) rfl ?_
    refine st_dup hR dX11_readTooth_40 (pc' := 41) rfl rfl ?_
    refine st_get hR dX11_readTooth_41 fg_X11_141_10_7 0 0 rfl rfl rfl (pc' := 44) rfl ?_
    refine st_aload_n hR dX11_readTooth_44 0 rfl rfl (pc' := 45) rfl ?_
    refine st_get hR dX11_readTooth_45 fg_X11_144_10_8 0 0 rfl rfl rfl (pc' := 48) rfl ?_
    refine st_if_le hR dX11_readTooth_48 (tgt := 55) (by decide) (pc' := 51) rfl (fun c_ => ?_) (fun c_ => ?_)
    · have hM := it_t c_ hM
      refine st_iconst hR dX11_readTooth_55 (v := 1) rfl (pc' := 56) rfl ?_
      exact J56 _ _ _ _ _ _ _ hM
    · have hM := it_f c_ hM
      refine st_iconst hR dX11_readTooth_51 (v := 0) rfl (pc' := 52) rfl ?_
      refine st_goto hR dX11_readTooth_52 (tgt := 56) (by decide) ?_
      exact J56 _ _ _ _ _ _ _ hM
  refine st_aload_n hR dX11_readTooth_0 0 rfl rfl (pc' := 1) rfl ?_
  refine st_dup hR dX11_readTooth_1 (pc' := 2) rfl rfl ?_
  refine st_get hR dX11_readTooth_2 fg_X11_141_10_7 0 0 rfl rfl rfl (pc' := 5) rfl ?_
  refine st_iconst hR dX11_readTooth_5 (v := 1) rfl (pc' := 6) rfl ?_
  refine st_iadd hR dX11_readTooth_6 (pc' := 7) rfl ?_
  refine st_topi (fun m_at_1 e_ => ?_)
  have hM := lt_e e_ hM
  refine st_put hR dX11_readTooth_7 fp_X11_141_10_7 0 0 rfl rfl (Nat.le_of_ble_eq_true rfl) rfl rfl (pc' := 10) rfl (W' := [wX11 G q_m m_thrown m_tape m_taped m_size m_sort m_place m_value m_at_1 m_fault m_words m_rows m_op m_arg m_codes m_names m_ofFeed m_teeth m_feedWords m_goWords m_facts m_pile m_levels m_best m_losses m_lossOf m_wasThere m_groupMany m_groupRow m_groupLoss m_isMarked]) rfl ?_
  refine st_aload_n hR dX11_readTooth_10 0 rfl rfl (pc' := 11) rfl ?_
  obtain ⟨⟨r_1, m_fault_1⟩, hc_, hM⟩ := bd_e hM
  refine st_callV hR (k_X11_farmHere hc_) cf_X11_209 (rm_le (Nat.le_of_ble_eq_true rfl) (Nat.le_of_ble_eq_true rfl)) [0] rfl rfl rfl 0 0 10 30 rfl rfl rfl rfl (rest := []) rfl (Nat.le_of_ble_eq_true rfl) dX11_readTooth_11 (pc' := 14) rfl (Wn := [wX11 G q_m m_thrown m_tape m_taped m_size m_sort m_place m_value m_at_1 m_fault_1 m_words m_rows m_op m_arg m_codes m_names m_ofFeed m_teeth m_feedWords m_goWords m_facts m_pile m_levels m_best m_losses m_lossOf m_wasThere m_groupMany m_groupRow m_groupLoss m_isMarked]) rfl ?_
  refine st_istore_n hR dX11_readTooth_14 rfl (Nat.le_of_ble_eq_true rfl) [1, 0] (lv' := [(0, .ref (q_m 0)), (1, .int r_1)]) rfl (pc' := 15) rfl ?_
  refine st_aload_n hR dX11_readTooth_15 0 rfl rfl (pc' := 16) rfl ?_
  refine st_get hR dX11_readTooth_16 fg_X11_144_10_8 0 0 rfl rfl rfl (pc' := 19) rfl ?_
  refine st_if_ne hR dX11_readTooth_19 (tgt := 39) (by decide) (pc' := 22) rfl (fun c_ => ?_) (fun c_ => ?_)
  · have hM := it_f c_ hM
    exact J39 _ _ _ _ _ hM
  · have hM := it_t c_ hM
    refine st_aload_n hR dX11_readTooth_22 0 rfl rfl (pc' := 23) rfl ?_
    refine st_get hR dX11_readTooth_23 fg_X11_173_10_16 0 0 rfl rfl rfl (pc' := 26) rfl ?_
    refine st_iload_n hR dX11_readTooth_26 1 rfl rfl (pc' := 27) rfl ?_
    refine st_ishr hR dX11_readTooth_27 (pc' := 28) rfl ?_
    refine st_iconst hR dX11_readTooth_28 (v := 1) rfl (pc' := 29) rfl ?_
    refine st_iand hR dX11_readTooth_29 (pc' := 30) rfl ?_
    refine st_iconst hR dX11_readTooth_30 (v := 1) rfl (pc' := 31) rfl ?_
    refine st_icmp_ne hR dX11_readTooth_31 (tgt := 39) (by decide) (pc' := 34) rfl (fun c_ => ?_) (fun c_ => ?_)
    · have hM := it_f c_ hM
      exact J39 _ _ _ _ _ hM
    · have hM := it_t c_ hM
      refine st_aload_n hR dX11_readTooth_34 0 rfl rfl (pc' := 35) rfl ?_
      refine st_iconst hR dX11_readTooth_35 (v := 3) rfl (pc' := 36) rfl ?_
      obtain ⟨m_fault_2, hc_, hM⟩ := bd_e hM
      refine st_callV hR (k_X11_wrong hc_) cf_X11_150 (rm_le (Nat.le_of_ble_eq_true rfl) (Nat.le_of_ble_eq_true rfl)) [0] rfl rfl rfl 0 0 10 30 rfl rfl rfl rfl (rest := []) rfl (Nat.le_of_ble_eq_true rfl) dX11_readTooth_36 (pc' := 39) rfl (Wn := [wX11 G q_m m_thrown m_tape m_taped m_size m_sort m_place m_value m_at_1 m_fault_2 m_words m_rows m_op m_arg m_codes m_names m_ofFeed m_teeth m_feedWords m_goWords m_facts m_pile m_levels m_best m_losses m_lossOf m_wasThere m_groupMany m_groupRow m_groupLoss m_isMarked]) rfl ?_
      exact J39 _ _ _ _ _ hM
set_option maxHeartbeats 16000000 in
set_option maxRecDepth 100000 in
theorem k_X11_takeTwo {l : Launch} {G : GG} {q_m : Nat → Nat} {m_thrown m_taped m_size m_at m_fault m_codes m_ofFeed m_teeth m_levels m_groupMany : Int32} {m_tape m_sort m_place m_rows m_op m_arg m_feedWords m_goWords m_facts m_pile m_best m_losses m_lossOf m_wasThere m_groupRow m_groupLoss m_isMarked : Nat → Int32} {m_value m_words m_names : Nat → Int64} {l1 l2 : Int32} {o_r : Int32} {o_m_at : Int32} {o_m_fault : Int32} (hM : f_X11_takeTwo m_sort m_place m_value m_words m_rows m_names m_at m_fault l1 l2 = some (o_r, o_m_at, o_m_fault)) : MC l G yX11_takeTwo cX11_takeTwo 5 (some .int) (RM 2) [.ref (q_m 0), .int l1, .int l2] [wX11 G q_m m_thrown m_tape m_taped m_size m_sort m_place m_value m_at m_fault m_words m_rows m_op m_arg m_codes m_names m_ofFeed m_teeth m_feedWords m_goWords m_facts m_pile m_levels m_best m_losses m_lossOf m_wasThere m_groupMany m_groupRow m_groupLoss m_isMarked] (some (.int o_r)) [wX11 G q_m m_thrown m_tape m_taped m_size m_sort m_place m_value o_m_at o_m_fault m_words m_rows m_op m_arg m_codes m_names m_ofFeed m_teeth m_feedWords m_goWords m_facts m_pile m_levels m_best m_losses m_lossOf m_wasThere m_groupMany m_groupRow m_groupLoss m_isMarked] := by
  refine MC.of pn_X11 (Nat.le_of_ble_eq_true rfl) (fun K hR hret => ?_)
  have hR : Rl l G RX11 cX11_takeTwo 5 (RM 2) K := hR
  show K [wX11 G q_m m_thrown m_tape m_taped m_size m_sort m_place m_value m_at m_fault m_words m_rows m_op m_arg m_codes m_names m_ofFeed m_teeth m_feedWords m_goWords m_facts m_pile m_levels m_best m_losses m_lossOf m_wasThere m_groupMany m_groupRow m_groupLoss m_isMarked] [(0, .ref (q_m 0)), (1, .int l1), (2, .int l2)] 0 []
  have J148 : ∀ (m_at : Int32) (m_fault : Int32) (l3 : Int32) (l4 : Int32) (s0 : Int32) (s1 : Int32), f_X11_takeTwo_B148  m_sort m_place m_value m_words m_rows m_names m_at m_fault l3 l4 s0 s1 = some (o_r, o_m_at, o_m_fault) → K [wX11 G q_m m_thrown m_tape m_taped m_size m_sort m_place m_value m_at m_fault m_words m_rows m_op m_arg m_codes m_names m_ofFeed m_teeth m_feedWords m_goWords m_facts m_pile m_levels m_best m_losses m_lossOf m_wasThere m_groupMany m_groupRow m_groupLoss m_isMarked] [(3, .int l3), (4, .int l4)] 148 [.int s0, .int s1, .ref (q_m 0)] := by
    intro m_at m_fault l3 l4 s0 s1 hM
    refine st_iadd hR dX11_takeTwo_148 (pc' := 149) rfl ?_
    refine st_topi (fun m_at_1 e_ => ?_)
    have hM := lt_e e_ hM
    refine st_put hR dX11_takeTwo_149 fp_X11_141_10_7 0 0 rfl rfl (Nat.le_of_ble_eq_true rfl) rfl rfl (pc' := 152) rfl (W' := [wX11 G q_m m_thrown m_tape m_taped m_size m_sort m_place m_value m_at_1 m_fault m_words m_rows m_op m_arg m_codes m_names m_ofFeed m_teeth m_feedWords m_goWords m_facts m_pile m_levels m_best m_losses m_lossOf m_wasThere m_groupMany m_groupRow m_groupLoss m_isMarked]) rfl ?_
    refine st_bipush hR dX11_takeTwo_152 (v := 6) rfl (pc' := 154) rfl ?_
    refine st_iload_n hR dX11_takeTwo_154 0 rfl rfl (pc' := 155) rfl ?_
    refine st_imul hR dX11_takeTwo_155 (pc' := 156) rfl ?_
    refine st_iload hR dX11_takeTwo_156 1 rfl (pc' := 158) rfl ?_
    refine st_iadd hR dX11_takeTwo_158 (pc' := 159) rfl ?_
    cases hM
    exact hret _ _ dX11_takeTwo_159 (ro_i _)
  have J131 : ∀ (m_at : Int32) (m_fault : Int32) (l3 : Int32) (l4 : Int32), f_X11_takeTwo_B131  m_sort m_place m_value m_words m_rows m_names m_at m_fault l3 l4 = some (o_r, o_m_at, o_m_fault) → K [wX11 G q_m m_thrown m_tape m_taped m_size m_sort m_place m_value m_at m_fault m_words m_rows m_op m_arg m_codes m_names m_ofFeed m_teeth m_feedWords m_goWords m_facts m_pile m_levels m_best m_losses m_lossOf m_wasThere m_groupMany m_groupRow m_groupLoss m_isMarked] [(0, .ref (q_m 0)), (3, .int l3), (4, .int l4)] 131 [] := by
    intro m_at m_fault l3 l4 hM
    refine st_aload_n hR dX11_takeTwo_131 0 rfl rfl (pc' := 132) rfl ?_
    refine st_dup hR dX11_takeTwo_132 (pc' := 133) rfl rfl ?_
    refine st_get hR dX11_takeTwo_133 fg_X11_141_10_7 0 0 rfl rfl rfl (pc' := 136) rfl ?_
    refine st_aload_n hR dX11_takeTwo_136 0 rfl rfl (pc' := 137) rfl ?_
    refine st_get hR dX11_takeTwo_137 fg_X11_144_10_8 0 0 rfl rfl rfl (pc' := 140) rfl ?_
    refine st_if_le hR dX11_takeTwo_140 (tgt := 147) (by decide) (pc' := 143) rfl (fun c_ => ?_) (fun c_ => ?_)
    · have hM := it_t c_ hM
      refine st_iconst hR dX11_takeTwo_147 (v := 1) rfl (pc' := 148) rfl ?_
      exact st_lv hR [1, 2] rfl (J148 _ _ _ _ _ _ hM)
    · have hM := it_f c_ hM
      refine st_iconst hR dX11_takeTwo_143 (v := 0) rfl (pc' := 144) rfl ?_
      refine st_goto hR dX11_takeTwo_144 (tgt := 148) (by decide) ?_
      exact st_lv hR [1, 2] rfl (J148 _ _ _ _ _ _ hM)
  have J126 : ∀ (m_at : Int32) (m_fault : Int32) (l3 : Int32) (l4 : Int32), f_X11_takeTwo_B126  m_sort m_place m_value m_words m_rows m_names m_at m_fault l3 l4 = some (o_r, o_m_at, o_m_fault) → K [wX11 G q_m m_thrown m_tape m_taped m_size m_sort m_place m_value m_at m_fault m_words m_rows m_op m_arg m_codes m_names m_ofFeed m_teeth m_feedWords m_goWords m_facts m_pile m_levels m_best m_losses m_lossOf m_wasThere m_groupMany m_groupRow m_groupLoss m_isMarked] [(0, .ref (q_m 0)), (3, .int l3), (4, .int l4)] 126 [] := by
    intro m_at m_fault l3 l4 hM
    refine st_aload_n hR dX11_takeTwo_126 0 rfl rfl (pc' := 127) rfl ?_
    refine st_iconst hR dX11_takeTwo_127 (v := 3) rfl (pc' := 128) rfl ?_
    obtain ⟨m_fault_1, hc_, hM⟩ := bd_e hM
    refine st_callV hR (k_X11_wrong hc_) cf_X11_150 (rm_le (Nat.le_of_ble_eq_true rfl) (Nat.le_of_ble_eq_true rfl)) [0] rfl rfl rfl 0 0 10 30 rfl rfl rfl rfl (rest := []) rfl (Nat.le_of_ble_eq_true rfl) dX11_takeTwo_128 (pc' := 131) rfl (Wn := [wX11 G q_m m_thrown m_tape m_taped m_size m_sort m_place m_value m_at m_fault_1 m_words m_rows m_op m_arg m_codes m_names m_ofFeed m_teeth m_feedWords m_goWords m_facts m_pile m_levels m_best m_losses m_lossOf m_wasThere m_groupMany m_groupRow m_groupLoss m_isMarked]) rfl ?_
    exact J131 _ _ _ _ hM
  have J86 : ∀ (m_at : Int32) (m_fault : Int32) (l1 : Int32) (l2 : Int32) (l3 : Int32) (s0 : Int32), f_X11_takeTwo_B86  m_sort m_place m_value m_words m_rows m_names m_at m_fault l1 l2 l3 s0 = some (o_r, o_m_at, o_m_fault) → K [wX11 G q_m m_thrown m_tape m_taped m_size m_sort m_place m_value m_at m_fault m_words m_rows m_op m_arg m_codes m_names m_ofFeed m_teeth m_feedWords m_goWords m_facts m_pile m_levels m_best m_losses m_lossOf m_wasThere m_groupMany m_groupRow m_groupLoss m_isMarked] [(0, .ref (q_m 0)), (1, .int l1), (2, .int l2), (3, .int l3)] 86 [.int s0] := by
    intro m_at m_fault l1 l2 l3 s0 hM
    refine st_istore hR dX11_takeTwo_86 (Nat.le_of_ble_eq_true rfl) [1, 2, 3, 4, 0] (lv' := [(0, .ref (q_m 0)), (1, .int l1), (2, .int l2), (3, .int l3), (4, .int s0)]) rfl (pc' := 88) rfl ?_
    refine st_aload_n hR dX11_takeTwo_88 0 rfl rfl (pc' := 89) rfl ?_
    refine st_get hR dX11_takeTwo_89 fg_X11_144_10_8 0 0 rfl rfl rfl (pc' := 92) rfl ?_
    refine st_if_ne hR dX11_takeTwo_92 (tgt := 131) (by decide) (pc' := 95) rfl (fun c_ => ?_) (fun c_ => ?_)
    · have hM := it_f c_ hM
      exact st_lv hR [0, 3, 4] rfl (J131 _ _ _ _ hM)
    · have hM := it_t c_ hM
      refine st_iload_n hR dX11_takeTwo_95 3 rfl rfl (pc' := 96) rfl ?_
      refine st_iload hR dX11_takeTwo_96 4 rfl (pc' := 98) rfl ?_
      refine st_icmp_eq hR dX11_takeTwo_98 (tgt := 126) (by decide) (pc' := 101) rfl (fun c_ => ?_) (fun c_ => ?_)
      · have hM := it_t c_ hM
        exact st_lv hR [0, 3, 4] rfl (J126 _ _ _ _ hM)
      · have hM := it_f c_ hM
        refine st_iload_n hR dX11_takeTwo_101 2 rfl rfl (pc' := 102) rfl ?_
        refine st_if_eq hR dX11_takeTwo_102 (tgt := 131) (by decide) (pc' := 105) rfl (fun c_ => ?_) (fun c_ => ?_)
        · have hM := it_t c_ hM
          exact st_lv hR [0, 3, 4] rfl (J131 _ _ _ _ hM)
        · have hM := it_f c_ hM
          refine st_aload_n hR dX11_takeTwo_105 0 rfl rfl (pc' := 106) rfl ?_
          refine st_get hR dX11_takeTwo_106 fg_X11_69_10_10 0 0 rfl rfl rfl (pc' := 109) rfl ?_
          refine st_sipush hR dX11_takeTwo_109 (v := 1000) rfl (pc' := 112) rfl ?_
          refine st_iload_n hR dX11_takeTwo_112 1 rfl rfl (pc' := 113) rfl ?_
          refine st_iadd hR dX11_takeTwo_113 (pc' := 114) rfl ?_
          refine st_bipush hR dX11_takeTwo_114 (v := 6) rfl (pc' := 116) rfl ?_
          refine st_iload_n hR dX11_takeTwo_116 3 rfl rfl (pc' := 117) rfl ?_
          refine st_imul hR dX11_takeTwo_117 (pc' := 118) rfl ?_
          refine st_iadd hR dX11_takeTwo_118 (pc' := 119) rfl ?_
          refine st_iload hR dX11_takeTwo_119 4 rfl (pc' := 121) rfl ?_
          refine st_iadd hR dX11_takeTwo_121 (pc' := 122) rfl ?_
          obtain ⟨hin_, hM⟩ := g_in_e hM
          refine st_iald hR dX11_takeTwo_122 0 6 rfl rfl hin_ (v := m_rows (ix (((1000 + l1) + (6 * l3)) + s0))) rfl (pc' := 123) rfl ?_
          refine st_if_le hR dX11_takeTwo_123 (tgt := 131) (by decide) (pc' := 126) rfl (fun c_ => ?_) (fun c_ => ?_)
          · have hM := it_t c_ hM
            exact st_lv hR [0, 3, 4] rfl (J131 _ _ _ _ hM)
          · have hM := it_f c_ hM
            exact st_lv hR [0, 3, 4] rfl (J126 _ _ _ _ hM)
  have J67 : ∀ (m_at : Int32) (m_fault : Int32) (l1 : Int32) (l2 : Int32) (l3 : Int32) (s0 : Int32) (s1 : Int32), f_X11_takeTwo_B67  m_sort m_place m_value m_words m_rows m_names m_at m_fault l1 l2 l3 s0 s1 = some (o_r, o_m_at, o_m_fault) → K [wX11 G q_m m_thrown m_tape m_taped m_size m_sort m_place m_value m_at m_fault m_words m_rows m_op m_arg m_codes m_names m_ofFeed m_teeth m_feedWords m_goWords m_facts m_pile m_levels m_best m_losses m_lossOf m_wasThere m_groupMany m_groupRow m_groupLoss m_isMarked] [(0, .ref (q_m 0)), (1, .int l1), (2, .int l2), (3, .int l3)] 67 [.int s0, .int s1, .ref (q_m 0)] := by
    intro m_at m_fault l1 l2 l3 s0 s1 hM
    refine st_iadd hR dX11_takeTwo_67 (pc' := 68) rfl ?_
    refine st_topi (fun m_at_1 e_ => ?_)
    have hM := lt_e e_ hM
    refine st_put hR dX11_takeTwo_68 fp_X11_141_10_7 0 0 rfl rfl (Nat.le_of_ble_eq_true rfl) rfl rfl (pc' := 71) rfl (W' := [wX11 G q_m m_thrown m_tape m_taped m_size m_sort m_place m_value m_at_1 m_fault m_words m_rows m_op m_arg m_codes m_names m_ofFeed m_teeth m_feedWords m_goWords m_facts m_pile m_levels m_best m_losses m_lossOf m_wasThere m_groupMany m_groupRow m_groupLoss m_isMarked]) rfl ?_
    refine st_aload_n hR dX11_takeTwo_71 0 rfl rfl (pc' := 72) rfl ?_
    refine st_get hR dX11_takeTwo_72 fg_X11_144_10_8 0 0 rfl rfl rfl (pc' := 75) rfl ?_
    refine st_if_le hR dX11_takeTwo_75 (tgt := 82) (by decide) (pc' := 78) rfl (fun c_ => ?_) (fun c_ => ?_)
    · have hM := it_t c_ hM
      refine st_aload_n hR dX11_takeTwo_82 0 rfl rfl (pc' := 83) rfl ?_
      obtain ⟨⟨r_1, m_fault_1⟩, hc_, hM⟩ := bd_e hM
      refine st_callV hR (k_X11_farmHere hc_) cf_X11_209 (rm_le (Nat.le_of_ble_eq_true rfl) (Nat.le_of_ble_eq_true rfl)) [0] rfl rfl rfl 0 0 10 30 rfl rfl rfl rfl (rest := []) rfl (Nat.le_of_ble_eq_true rfl) dX11_takeTwo_83 (pc' := 86) rfl (Wn := [wX11 G q_m m_thrown m_tape m_taped m_size m_sort m_place m_value m_at_1 m_fault_1 m_words m_rows m_op m_arg m_codes m_names m_ofFeed m_teeth m_feedWords m_goWords m_facts m_pile m_levels m_best m_losses m_lossOf m_wasThere m_groupMany m_groupRow m_groupLoss m_isMarked]) rfl ?_
      exact J86 _ _ _ _ _ _ hM
    · have hM := it_f c_ hM
      refine st_iconst hR dX11_takeTwo_78 (v := (-1)) (by decide) (pc' := 79) rfl ?_
      refine st_goto hR dX11_takeTwo_79 (tgt := 86) (by decide) ?_
      exact J86 _ _ _ _ _ _ hM
  have J50 : ∀ (m_at : Int32) (m_fault : Int32) (l1 : Int32) (l2 : Int32) (l3 : Int32), f_X11_takeTwo_B50  m_sort m_place m_value m_words m_rows m_names m_at m_fault l1 l2 l3 = some (o_r, o_m_at, o_m_fault) → K [wX11 G q_m m_thrown m_tape m_taped m_size m_sort m_place m_value m_at m_fault m_words m_rows m_op m_arg m_codes m_names m_ofFeed m_teeth m_feedWords m_goWords m_facts m_pile m_levels m_best m_losses m_lossOf m_wasThere m_groupMany m_groupRow m_groupLoss m_isMarked] [(0, .ref (q_m 0)), (1, .int l1), (2, .int l2), (3, .int l3)] 50 [] := by
    intro m_at m_fault l1 l2 l3 hM
    refine st_aload_n hR dX11_takeTwo_50 0 rfl rfl (pc' := 51) rfl ?_
    refine st_dup hR dX11_takeTwo_51 (pc' := 52) rfl rfl ?_
    refine st_get hR dX11_takeTwo_52 fg_X11_141_10_7 0 0 rfl rfl rfl (pc' := 55) rfl ?_
    refine st_aload_n hR dX11_takeTwo_55 0 rfl rfl (pc' := 56) rfl ?_
    refine st_get hR dX11_takeTwo_56 fg_X11_144_10_8 0 0 rfl rfl rfl (pc' := 59) rfl ?_
    refine st_if_le hR dX11_takeTwo_59 (tgt := 66) (by decide) (pc' := 62) rfl (fun c_ => ?_) (fun c_ => ?_)
    · have hM := it_t c_ hM
      refine st_iconst hR dX11_takeTwo_66 (v := 1) rfl (pc' := 67) rfl ?_
      exact J67 _ _ _ _ _ _ _ hM
    · have hM := it_f c_ hM
      refine st_iconst hR dX11_takeTwo_62 (v := 0) rfl (pc' := 63) rfl ?_
      refine st_goto hR dX11_takeTwo_63 (tgt := 67) (by decide) ?_
      exact J67 _ _ _ _ _ _ _ hM
  refine st_aload_n hR dX11_takeTwo_0 0 rfl rfl (pc' := 1) rfl ?_
  refine st_dup hR dX11_takeTwo_1 (pc' := 2) rfl rfl ?_
  refine st_get hR dX11_takeTwo_2 fg_X11_141_10_7 0 0 rfl rfl rfl (pc' := 5) rfl ?_
  refine st_iconst hR dX11_takeTwo_5 (v := 1) rfl (pc' := 6) rfl ?_
  refine st_iadd hR dX11_takeTwo_6 (pc' := 7) rfl ?_
  refine st_topi (fun m_at_1 e_ => ?_)
  have hM := lt_e e_ hM
  refine st_put hR dX11_takeTwo_7 fp_X11_141_10_7 0 0 rfl rfl (Nat.le_of_ble_eq_true rfl) rfl rfl (pc' := 10) rfl (W' := [wX11 G q_m m_thrown m_tape m_taped m_size m_sort m_place m_value m_at_1 m_fault m_words m_rows m_op m_arg m_codes m_names m_ofFeed m_teeth m_feedWords m_goWords m_facts m_pile m_levels m_best m_losses m_lossOf m_wasThere m_groupMany m_groupRow m_groupLoss m_isMarked]) rfl ?_
  refine st_aload_n hR dX11_takeTwo_10 0 rfl rfl (pc' := 11) rfl ?_
  obtain ⟨⟨r_1, m_fault_1⟩, hc_, hM⟩ := bd_e hM
  refine st_callV hR (k_X11_farmHere hc_) cf_X11_209 (rm_le (Nat.le_of_ble_eq_true rfl) (Nat.le_of_ble_eq_true rfl)) [0] rfl rfl rfl 0 0 10 30 rfl rfl rfl rfl (rest := []) rfl (Nat.le_of_ble_eq_true rfl) dX11_takeTwo_11 (pc' := 14) rfl (Wn := [wX11 G q_m m_thrown m_tape m_taped m_size m_sort m_place m_value m_at_1 m_fault_1 m_words m_rows m_op m_arg m_codes m_names m_ofFeed m_teeth m_feedWords m_goWords m_facts m_pile m_levels m_best m_losses m_lossOf m_wasThere m_groupMany m_groupRow m_groupLoss m_isMarked]) rfl ?_
  refine st_istore_n hR dX11_takeTwo_14 rfl (Nat.le_of_ble_eq_true rfl) [1, 2, 3, 0] (lv' := [(0, .ref (q_m 0)), (1, .int l1), (2, .int l2), (3, .int r_1)]) rfl (pc' := 15) rfl ?_
  refine st_aload_n hR dX11_takeTwo_15 0 rfl rfl (pc' := 16) rfl ?_
  refine st_get hR dX11_takeTwo_16 fg_X11_144_10_8 0 0 rfl rfl rfl (pc' := 19) rfl ?_
  refine st_if_ne hR dX11_takeTwo_19 (tgt := 50) (by decide) (pc' := 22) rfl (fun c_ => ?_) (fun c_ => ?_)
  · have hM := it_f c_ hM
    exact J50 _ _ _ _ _ hM
  · have hM := it_t c_ hM
    refine st_iload_n hR dX11_takeTwo_22 2 rfl rfl (pc' := 23) rfl ?_
    refine st_if_ne hR dX11_takeTwo_23 (tgt := 50) (by decide) (pc' := 26) rfl (fun c_ => ?_) (fun c_ => ?_)
    · have hM := it_f c_ hM
      exact J50 _ _ _ _ _ hM
    · have hM := it_t c_ hM
      refine st_aload_n hR dX11_takeTwo_26 0 rfl rfl (pc' := 27) rfl ?_
      refine st_get hR dX11_takeTwo_27 fg_X11_69_10_10 0 0 rfl rfl rfl (pc' := 30) rfl ?_
      refine st_sipush hR dX11_takeTwo_30 (v := 1008) rfl (pc' := 33) rfl ?_
      refine st_bipush hR dX11_takeTwo_33 (v := 7) rfl (pc' := 35) rfl ?_
      refine st_iload_n hR dX11_takeTwo_35 3 rfl rfl (pc' := 36) rfl ?_
      refine st_imul hR dX11_takeTwo_36 (pc' := 37) rfl ?_
      refine st_iadd hR dX11_takeTwo_37 (pc' := 38) rfl ?_
      refine st_bipush hR dX11_takeTwo_38 (v := 6) rfl (pc' := 40) rfl ?_
      refine st_iadd hR dX11_takeTwo_40 (pc' := 41) rfl ?_
      obtain ⟨hin_, hM⟩ := g_in_e hM
      refine st_iald hR dX11_takeTwo_41 0 6 rfl rfl hin_ (v := m_rows (ix ((1008 + (7 * r_1)) + 6))) rfl (pc' := 42) rfl ?_
      refine st_if_le hR dX11_takeTwo_42 (tgt := 50) (by decide) (pc' := 45) rfl (fun c_ => ?_) (fun c_ => ?_)
      · have hM := it_t c_ hM
        exact J50 _ _ _ _ _ hM
      · have hM := it_f c_ hM
        refine st_aload_n hR dX11_takeTwo_45 0 rfl rfl (pc' := 46) rfl ?_
        refine st_iconst hR dX11_takeTwo_46 (v := 3) rfl (pc' := 47) rfl ?_
        obtain ⟨m_fault_2, hc_, hM⟩ := bd_e hM
        refine st_callV hR (k_X11_wrong hc_) cf_X11_150 (rm_le (Nat.le_of_ble_eq_true rfl) (Nat.le_of_ble_eq_true rfl)) [0] rfl rfl rfl 0 0 10 30 rfl rfl rfl rfl (rest := []) rfl (Nat.le_of_ble_eq_true rfl) dX11_takeTwo_47 (pc' := 50) rfl (Wn := [wX11 G q_m m_thrown m_tape m_taped m_size m_sort m_place m_value m_at_1 m_fault_2 m_words m_rows m_op m_arg m_codes m_names m_ofFeed m_teeth m_feedWords m_goWords m_facts m_pile m_levels m_best m_losses m_lossOf m_wasThere m_groupMany m_groupRow m_groupLoss m_isMarked]) rfl ?_
        exact J50 _ _ _ _ _ hM
set_option maxHeartbeats 16000000 in
set_option maxRecDepth 100000 in
theorem k_X11_readShare {l : Launch} {G : GG} {q_m : Nat → Nat} {m_thrown m_taped m_size m_at m_fault m_codes m_ofFeed m_teeth m_levels m_groupMany : Int32} {m_tape m_sort m_place m_rows m_op m_arg m_feedWords m_goWords m_facts m_pile m_best m_losses m_lossOf m_wasThere m_groupRow m_groupLoss m_isMarked : Nat → Int32} {m_value m_words m_names : Nat → Int64}  {o_m_at : Int32} {o_m_fault : Int32} {o_m_rows : Nat → Int32} (hM : f_X11_readShare m_sort m_place m_value m_words m_names m_at m_fault m_rows = some (o_m_at, o_m_fault, o_m_rows)) : MC l G yX11_readShare cX11_readShare 2 none (RM 3) [.ref (q_m 0)] [wX11 G q_m m_thrown m_tape m_taped m_size m_sort m_place m_value m_at m_fault m_words m_rows m_op m_arg m_codes m_names m_ofFeed m_teeth m_feedWords m_goWords m_facts m_pile m_levels m_best m_losses m_lossOf m_wasThere m_groupMany m_groupRow m_groupLoss m_isMarked] none [wX11 G q_m m_thrown m_tape m_taped m_size m_sort m_place m_value o_m_at o_m_fault m_words o_m_rows m_op m_arg m_codes m_names m_ofFeed m_teeth m_feedWords m_goWords m_facts m_pile m_levels m_best m_losses m_lossOf m_wasThere m_groupMany m_groupRow m_groupLoss m_isMarked] := by
  refine MC.of pn_X11 (Nat.le_of_ble_eq_true rfl) (fun K hR hret => ?_)
  have hR : Rl l G RX11 cX11_readShare 2 (RM 3) K := hR
  show K [wX11 G q_m m_thrown m_tape m_taped m_size m_sort m_place m_value m_at m_fault m_words m_rows m_op m_arg m_codes m_names m_ofFeed m_teeth m_feedWords m_goWords m_facts m_pile m_levels m_best m_losses m_lossOf m_wasThere m_groupMany m_groupRow m_groupLoss m_isMarked] [(0, .ref (q_m 0))] 0 []
  refine st_aload_n hR dX11_readShare_0 0 rfl rfl (pc' := 1) rfl ?_
  refine st_iconst hR dX11_readShare_1 (v := (-1)) (by decide) (pc' := 2) rfl ?_
  refine st_iconst hR dX11_readShare_2 (v := 0) rfl (pc' := 3) rfl ?_
  obtain ⟨⟨r_1, m_at_1, m_fault_1⟩, hc_, hM⟩ := bd_e hM
  refine st_callV hR (k_X11_takeTwo hc_) cf_X11_213 (rm_le (Nat.le_of_ble_eq_true rfl) (Nat.le_of_ble_eq_true rfl)) [0] rfl rfl rfl 0 0 10 30 rfl rfl rfl rfl (rest := []) rfl (Nat.le_of_ble_eq_true rfl) dX11_readShare_3 (pc' := 6) rfl (Wn := [wX11 G q_m m_thrown m_tape m_taped m_size m_sort m_place m_value m_at_1 m_fault_1 m_words m_rows m_op m_arg m_codes m_names m_ofFeed m_teeth m_feedWords m_goWords m_facts m_pile m_levels m_best m_losses m_lossOf m_wasThere m_groupMany m_groupRow m_groupLoss m_isMarked]) rfl ?_
  refine st_istore_n hR dX11_readShare_6 rfl (Nat.le_of_ble_eq_true rfl) [1, 0] (lv' := [(0, .ref (q_m 0)), (1, .int r_1)]) rfl (pc' := 7) rfl ?_
  refine st_aload_n hR dX11_readShare_7 0 rfl rfl (pc' := 8) rfl ?_
  refine st_get hR dX11_readShare_8 fg_X11_144_10_8 0 0 rfl rfl rfl (pc' := 11) rfl ?_
  refine st_if_ne hR dX11_readShare_11 (tgt := 39) (by decide) (pc' := 14) rfl (fun c_ => ?_) (fun c_ => ?_)
  · have hM := it_f c_ hM
    cases hM
    exact hret _ _ dX11_readShare_39 ro_v
  · have hM := it_t c_ hM
    refine st_aload_n hR dX11_readShare_14 0 rfl rfl (pc' := 15) rfl ?_
    refine st_get hR dX11_readShare_15 fg_X11_69_10_10 0 0 rfl rfl rfl (pc' := 18) rfl ?_
    refine st_sipush hR dX11_readShare_18 (v := 1008) rfl (pc' := 21) rfl ?_
    refine st_bipush hR dX11_readShare_21 (v := 7) rfl (pc' := 23) rfl ?_
    refine st_iload_n hR dX11_readShare_23 1 rfl rfl (pc' := 24) rfl ?_
    refine st_bipush hR dX11_readShare_24 (v := 6) rfl (pc' := 26) rfl ?_
    refine st_idiv hR dX11_readShare_26 (pc' := 27) rfl (by decide) ?_
    refine st_imul hR dX11_readShare_27 (pc' := 28) rfl ?_
    refine st_iadd hR dX11_readShare_28 (pc' := 29) rfl ?_
    refine st_bipush hR dX11_readShare_29 (v := 6) rfl (pc' := 31) rfl ?_
    refine st_iadd hR dX11_readShare_31 (pc' := 32) rfl ?_
    refine st_iconst hR dX11_readShare_32 (v := 1) rfl (pc' := 33) rfl ?_
    refine st_iload_n hR dX11_readShare_33 1 rfl rfl (pc' := 34) rfl ?_
    refine st_bipush hR dX11_readShare_34 (v := 6) rfl (pc' := 36) rfl ?_
    refine st_irem hR dX11_readShare_36 (pc' := 37) rfl (by decide) ?_
    refine st_iadd hR dX11_readShare_37 (pc' := 38) rfl ?_
    obtain ⟨hin_, hM⟩ := g_in_e hM
    refine st_iast hR dX11_readShare_38 0 6 rfl rfl hin_ (ix := (ix ((1008 + (7 * (r_1 / 6))) + 6))) rfl (pc' := 39) rfl (fun m_rows_1 => [wX11 G q_m m_thrown m_tape m_taped m_size m_sort m_place m_value m_at_1 m_fault_1 m_words m_rows_1 m_op m_arg m_codes m_names m_ofFeed m_teeth m_feedWords m_goWords m_facts m_pile m_levels m_best m_losses m_lossOf m_wasThere m_groupMany m_groupRow m_groupLoss m_isMarked]) (fun _ => rfl) (fun m_rows_1 e_ => ?_)
    have hM := lt_e e_ hM
    cases hM
    exact hret _ _ dX11_readShare_39 ro_v
set_option maxHeartbeats 16000000 in
set_option maxRecDepth 100000 in
theorem k_X11_readFarm {l : Launch} {G : GG} {q_m : Nat → Nat} {m_thrown m_taped m_size m_at m_fault m_codes m_ofFeed m_teeth m_levels m_groupMany : Int32} {m_tape m_sort m_place m_rows m_op m_arg m_feedWords m_goWords m_facts m_pile m_best m_losses m_lossOf m_wasThere m_groupRow m_groupLoss m_isMarked : Nat → Int32} {m_value m_words m_names : Nat → Int64}  {o_m_at : Int32} {o_m_fault : Int32} {o_m_rows : Nat → Int32} {o_m_names : Nat → Int64} (hM : f_X11_readFarm m_sort m_place m_value m_words m_at m_fault m_rows m_names = some (o_m_at, o_m_fault, o_m_rows, o_m_names)) : MC l G yX11_readFarm cX11_readFarm 3 none (RM 4) [.ref (q_m 0)] [wX11 G q_m m_thrown m_tape m_taped m_size m_sort m_place m_value m_at m_fault m_words m_rows m_op m_arg m_codes m_names m_ofFeed m_teeth m_feedWords m_goWords m_facts m_pile m_levels m_best m_losses m_lossOf m_wasThere m_groupMany m_groupRow m_groupLoss m_isMarked] none [wX11 G q_m m_thrown m_tape m_taped m_size m_sort m_place m_value o_m_at o_m_fault m_words o_m_rows m_op m_arg m_codes o_m_names m_ofFeed m_teeth m_feedWords m_goWords m_facts m_pile m_levels m_best m_losses m_lossOf m_wasThere m_groupMany m_groupRow m_groupLoss m_isMarked] := by
  refine MC.of pn_X11 (Nat.le_of_ble_eq_true rfl) (fun K hR hret => ?_)
  have hR : Rl l G RX11 cX11_readFarm 3 (RM 4) K := hR
  show K [wX11 G q_m m_thrown m_tape m_taped m_size m_sort m_place m_value m_at m_fault m_words m_rows m_op m_arg m_codes m_names m_ofFeed m_teeth m_feedWords m_goWords m_facts m_pile m_levels m_best m_losses m_lossOf m_wasThere m_groupMany m_groupRow m_groupLoss m_isMarked] [(0, .ref (q_m 0))] 0 []
  have J87 : ∀ (m_at : Int32) (m_fault : Int32) (m_rows : Nat → Int32) (m_names : Nat → Int64) (l1 : Int32), f_X11_readFarm_B87  m_sort m_place m_value m_words m_at m_fault m_rows m_names l1 = some (o_m_at, o_m_fault, o_m_rows, o_m_names) → K [wX11 G q_m m_thrown m_tape m_taped m_size m_sort m_place m_value m_at m_fault m_words m_rows m_op m_arg m_codes m_names m_ofFeed m_teeth m_feedWords m_goWords m_facts m_pile m_levels m_best m_losses m_lossOf m_wasThere m_groupMany m_groupRow m_groupLoss m_isMarked] [(0, .ref (q_m 0)), (1, .int l1)] 87 [] := by
    intro m_at m_fault m_rows m_names l1 hM
    refine st_aload_n hR dX11_readFarm_87 0 rfl rfl (pc' := 88) rfl ?_
    refine st_get hR dX11_readFarm_88 fg_X11_144_10_8 0 0 rfl rfl rfl (pc' := 91) rfl ?_
    refine st_if_le hR dX11_readFarm_91 (tgt := 95) (by decide) (pc' := 94) rfl (fun c_ => ?_) (fun c_ => ?_)
    · have hM := it_t c_ hM
      refine st_aload_n hR dX11_readFarm_95 0 rfl rfl (pc' := 96) rfl ?_
      refine st_get hR dX11_readFarm_96 fg_X11_78_10_14 0 0 rfl rfl rfl (pc' := 99) rfl ?_
      refine st_iload_n hR dX11_readFarm_99 1 rfl rfl (pc' := 100) rfl ?_
      refine st_aload_n hR dX11_readFarm_100 0 rfl rfl (pc' := 101) rfl ?_
      refine st_get hR dX11_readFarm_101 fg_X11_30_10_6 0 0 rfl rfl rfl (pc' := 104) rfl ?_
      refine st_aload_n hR dX11_readFarm_104 0 rfl rfl (pc' := 105) rfl ?_
      refine st_get hR dX11_readFarm_105 fg_X11_141_10_7 0 0 rfl rfl rfl (pc' := 108) rfl ?_
      obtain ⟨hin_, hM⟩ := g_in_e hM
      refine st_lald hR dX11_readFarm_108 0 4 rfl rfl hin_ (v := m_value (ix m_at)) rfl (pc' := 109) rfl ?_
      obtain ⟨hin_, hM⟩ := g_in_e hM
      refine st_last hR dX11_readFarm_109 0 9 rfl rfl hin_ (ix := (ix l1)) rfl (pc' := 110) rfl (fun m_names_1 => [wX11 G q_m m_thrown m_tape m_taped m_size m_sort m_place m_value m_at m_fault m_words m_rows m_op m_arg m_codes m_names_1 m_ofFeed m_teeth m_feedWords m_goWords m_facts m_pile m_levels m_best m_losses m_lossOf m_wasThere m_groupMany m_groupRow m_groupLoss m_isMarked]) (fun _ => rfl) (fun m_names_1 e_ => ?_)
      have hM := lt_e e_ hM
      refine st_aload_n hR dX11_readFarm_110 0 rfl rfl (pc' := 111) rfl ?_
      refine st_dup hR dX11_readFarm_111 (pc' := 112) rfl rfl ?_
      refine st_get hR dX11_readFarm_112 fg_X11_141_10_7 0 0 rfl rfl rfl (pc' := 115) rfl ?_
      refine st_iconst hR dX11_readFarm_115 (v := 1) rfl (pc' := 116) rfl ?_
      refine st_iadd hR dX11_readFarm_116 (pc' := 117) rfl ?_
      refine st_topi (fun m_at_1 e_ => ?_)
      have hM := lt_e e_ hM
      refine st_put hR dX11_readFarm_117 fp_X11_141_10_7 0 0 rfl rfl (Nat.le_of_ble_eq_true rfl) rfl rfl (pc' := 120) rfl (W' := [wX11 G q_m m_thrown m_tape m_taped m_size m_sort m_place m_value m_at_1 m_fault m_words m_rows m_op m_arg m_codes m_names_1 m_ofFeed m_teeth m_feedWords m_goWords m_facts m_pile m_levels m_best m_losses m_lossOf m_wasThere m_groupMany m_groupRow m_groupLoss m_isMarked]) rfl ?_
      refine st_sipush hR dX11_readFarm_120 (v := 1008) rfl (pc' := 123) rfl ?_
      refine st_bipush hR dX11_readFarm_123 (v := 7) rfl (pc' := 125) rfl ?_
      refine st_iload_n hR dX11_readFarm_125 1 rfl rfl (pc' := 126) rfl ?_
      refine st_imul hR dX11_readFarm_126 (pc' := 127) rfl ?_
      refine st_iadd hR dX11_readFarm_127 (pc' := 128) rfl ?_
      refine st_topi (fun l2_1 e_ => ?_)
      have hM := lt_e e_ hM
      refine st_istore_n hR dX11_readFarm_128 rfl (Nat.le_of_ble_eq_true rfl) [1, 2, 0] (lv' := [(0, .ref (q_m 0)), (1, .int l1), (2, .int l2_1)]) rfl (pc' := 129) rfl ?_
      refine st_aload_n hR dX11_readFarm_129 0 rfl rfl (pc' := 130) rfl ?_
      refine st_get hR dX11_readFarm_130 fg_X11_69_10_10 0 0 rfl rfl rfl (pc' := 133) rfl ?_
      refine st_iload_n hR dX11_readFarm_133 2 rfl rfl (pc' := 134) rfl ?_
      refine st_iconst hR dX11_readFarm_134 (v := 0) rfl (pc' := 135) rfl ?_
      refine st_iadd hR dX11_readFarm_135 (pc' := 136) rfl ?_
      refine st_aload_n hR dX11_readFarm_136 0 rfl rfl (pc' := 137) rfl ?_
      refine st_iconst hR dX11_readFarm_137 (v := 1) rfl (pc' := 138) rfl ?_
      refine st_iconst hR dX11_readFarm_138 (v := 0) rfl (pc' := 139) rfl ?_
      refine st_sipush hR dX11_readFarm_139 (v := 9999) rfl (pc' := 142) rfl ?_
      obtain ⟨⟨r_1, m_at_2, m_fault_1⟩, hc_, hM⟩ := bd_e hM
      refine st_callV hR (k_X11_takeAfter hc_) cf_X11_205 (rm_le (Nat.le_of_ble_eq_true rfl) (Nat.le_of_ble_eq_true rfl)) [0] rfl rfl rfl 0 0 10 30 rfl rfl rfl rfl (rest := [.int (l2_1 + 0), .ref (q_m 6)]) rfl (Nat.le_of_ble_eq_true rfl) dX11_readFarm_142 (pc' := 145) rfl (Wn := [wX11 G q_m m_thrown m_tape m_taped m_size m_sort m_place m_value m_at_2 m_fault_1 m_words m_rows m_op m_arg m_codes m_names_1 m_ofFeed m_teeth m_feedWords m_goWords m_facts m_pile m_levels m_best m_losses m_lossOf m_wasThere m_groupMany m_groupRow m_groupLoss m_isMarked]) rfl ?_
      obtain ⟨hin_, hM⟩ := g_in_e hM
      refine st_iast hR dX11_readFarm_145 0 6 rfl rfl hin_ (ix := (ix (l2_1 + 0))) rfl (pc' := 146) rfl (fun m_rows_1 => [wX11 G q_m m_thrown m_tape m_taped m_size m_sort m_place m_value m_at_2 m_fault_1 m_words m_rows_1 m_op m_arg m_codes m_names_1 m_ofFeed m_teeth m_feedWords m_goWords m_facts m_pile m_levels m_best m_losses m_lossOf m_wasThere m_groupMany m_groupRow m_groupLoss m_isMarked]) (fun _ => rfl) (fun m_rows_1 e_ => ?_)
      have hM := lt_e e_ hM
      refine st_aload_n hR dX11_readFarm_146 0 rfl rfl (pc' := 147) rfl ?_
      refine st_get hR dX11_readFarm_147 fg_X11_69_10_10 0 0 rfl rfl rfl (pc' := 150) rfl ?_
      refine st_iload_n hR dX11_readFarm_150 2 rfl rfl (pc' := 151) rfl ?_
      refine st_iconst hR dX11_readFarm_151 (v := 1) rfl (pc' := 152) rfl ?_
      refine st_iadd hR dX11_readFarm_152 (pc' := 153) rfl ?_
      refine st_aload_n hR dX11_readFarm_153 0 rfl rfl (pc' := 154) rfl ?_
      refine st_iconst hR dX11_readFarm_154 (v := 2) rfl (pc' := 155) rfl ?_
      refine st_iconst hR dX11_readFarm_155 (v := 0) rfl (pc' := 156) rfl ?_
      refine st_bipush hR dX11_readFarm_156 (v := 9) rfl (pc' := 158) rfl ?_
      obtain ⟨⟨r_2, m_at_3, m_fault_2⟩, hc_, hM⟩ := bd_e hM
      refine st_callV hR (k_X11_takeAfter hc_) cf_X11_205 (rm_le (Nat.le_of_ble_eq_true rfl) (Nat.le_of_ble_eq_true rfl)) [0] rfl rfl rfl 0 0 10 30 rfl rfl rfl rfl (rest := [.int (l2_1 + 1), .ref (q_m 6)]) rfl (Nat.le_of_ble_eq_true rfl) dX11_readFarm_158 (pc' := 161) rfl (Wn := [wX11 G q_m m_thrown m_tape m_taped m_size m_sort m_place m_value m_at_3 m_fault_2 m_words m_rows_1 m_op m_arg m_codes m_names_1 m_ofFeed m_teeth m_feedWords m_goWords m_facts m_pile m_levels m_best m_losses m_lossOf m_wasThere m_groupMany m_groupRow m_groupLoss m_isMarked]) rfl ?_
      obtain ⟨hin_, hM⟩ := g_in_e hM
      refine st_iast hR dX11_readFarm_161 0 6 rfl rfl hin_ (ix := (ix (l2_1 + 1))) rfl (pc' := 162) rfl (fun m_rows_2 => [wX11 G q_m m_thrown m_tape m_taped m_size m_sort m_place m_value m_at_3 m_fault_2 m_words m_rows_2 m_op m_arg m_codes m_names_1 m_ofFeed m_teeth m_feedWords m_goWords m_facts m_pile m_levels m_best m_losses m_lossOf m_wasThere m_groupMany m_groupRow m_groupLoss m_isMarked]) (fun _ => rfl) (fun m_rows_2 e_ => ?_)
      have hM := lt_e e_ hM
      refine st_aload_n hR dX11_readFarm_162 0 rfl rfl (pc' := 163) rfl ?_
      refine st_get hR dX11_readFarm_163 fg_X11_69_10_10 0 0 rfl rfl rfl (pc' := 166) rfl ?_
      refine st_iload_n hR dX11_readFarm_166 2 rfl rfl (pc' := 167) rfl ?_
      refine st_iconst hR dX11_readFarm_167 (v := 2) rfl (pc' := 168) rfl ?_
      refine st_iadd hR dX11_readFarm_168 (pc' := 169) rfl ?_
      refine st_aload_n hR dX11_readFarm_169 0 rfl rfl (pc' := 170) rfl ?_
      refine st_iconst hR dX11_readFarm_170 (v := 3) rfl (pc' := 171) rfl ?_
      refine st_iconst hR dX11_readFarm_171 (v := 0) rfl (pc' := 172) rfl ?_
      refine st_bipush hR dX11_readFarm_172 (v := 99) rfl (pc' := 174) rfl ?_
      obtain ⟨⟨r_3, m_at_4, m_fault_3⟩, hc_, hM⟩ := bd_e hM
      refine st_callV hR (k_X11_takeAfter hc_) cf_X11_205 (rm_le (Nat.le_of_ble_eq_true rfl) (Nat.le_of_ble_eq_true rfl)) [0] rfl rfl rfl 0 0 10 30 rfl rfl rfl rfl (rest := [.int (l2_1 + 2), .ref (q_m 6)]) rfl (Nat.le_of_ble_eq_true rfl) dX11_readFarm_174 (pc' := 177) rfl (Wn := [wX11 G q_m m_thrown m_tape m_taped m_size m_sort m_place m_value m_at_4 m_fault_3 m_words m_rows_2 m_op m_arg m_codes m_names_1 m_ofFeed m_teeth m_feedWords m_goWords m_facts m_pile m_levels m_best m_losses m_lossOf m_wasThere m_groupMany m_groupRow m_groupLoss m_isMarked]) rfl ?_
      obtain ⟨hin_, hM⟩ := g_in_e hM
      refine st_iast hR dX11_readFarm_177 0 6 rfl rfl hin_ (ix := (ix (l2_1 + 2))) rfl (pc' := 178) rfl (fun m_rows_3 => [wX11 G q_m m_thrown m_tape m_taped m_size m_sort m_place m_value m_at_4 m_fault_3 m_words m_rows_3 m_op m_arg m_codes m_names_1 m_ofFeed m_teeth m_feedWords m_goWords m_facts m_pile m_levels m_best m_losses m_lossOf m_wasThere m_groupMany m_groupRow m_groupLoss m_isMarked]) (fun _ => rfl) (fun m_rows_3 e_ => ?_)
      have hM := lt_e e_ hM
      refine st_aload_n hR dX11_readFarm_178 0 rfl rfl (pc' := 179) rfl ?_
      refine st_get hR dX11_readFarm_179 fg_X11_69_10_10 0 0 rfl rfl rfl (pc' := 182) rfl ?_
      refine st_sipush hR dX11_readFarm_182 (v := 1000) rfl (pc' := 185) rfl ?_
      refine st_dup2 hR dX11_readFarm_185 (pc' := 186) rfl rfl rfl ?_
      refine st_iald hR dX11_readFarm_186 0 6 rfl rfl (vp_lit 1000 rfl rfl rfl) (v := m_rows_3 1000) (congrArg m_rows_3 (cl_lit 1000 rfl rfl)) (pc' := 187) rfl ?_
      refine st_iconst hR dX11_readFarm_187 (v := 1) rfl (pc' := 188) rfl ?_
      refine st_iadd hR dX11_readFarm_188 (pc' := 189) rfl ?_
      refine st_iast hR dX11_readFarm_189 0 6 rfl rfl (vp_lit 1000 rfl rfl rfl) (ix := 1000) (cl_lit 1000 rfl rfl) (pc' := 190) rfl (fun m_rows_4 => [wX11 G q_m m_thrown m_tape m_taped m_size m_sort m_place m_value m_at_4 m_fault_3 m_words m_rows_4 m_op m_arg m_codes m_names_1 m_ofFeed m_teeth m_feedWords m_goWords m_facts m_pile m_levels m_best m_losses m_lossOf m_wasThere m_groupMany m_groupRow m_groupLoss m_isMarked]) (fun _ => rfl) (fun m_rows_4 e_ => ?_)
      have hM := lt_e e_ hM
      cases hM
      exact hret _ _ dX11_readFarm_190 ro_v
    · have hM := it_f c_ hM
      cases hM
      exact hret _ _ dX11_readFarm_94 ro_v
  have L45 : ∀ (n45 : Nat) (m_at : Int32) (m_fault : Int32) (m_rows : Nat → Int32) (m_names : Nat → Int64) (l1 : Int32) (l2 : Int32), f_X11_readFarm_L45  m_sort m_place m_value m_words n45 m_at m_fault m_rows m_names l1 l2 = some (o_m_at, o_m_fault, o_m_rows, o_m_names) → K [wX11 G q_m m_thrown m_tape m_taped m_size m_sort m_place m_value m_at m_fault m_words m_rows m_op m_arg m_codes m_names m_ofFeed m_teeth m_feedWords m_goWords m_facts m_pile m_levels m_best m_losses m_lossOf m_wasThere m_groupMany m_groupRow m_groupLoss m_isMarked] [(0, .ref (q_m 0)), (1, .int l1), (2, .int l2)] 45 [] := by
    intro n45
    induction n45 with
    | zero => intro m_at m_fault m_rows m_names l1 l2 hM; exact no_some hM
    | succ n45 ih45 =>
      have J81 : ∀ (m_at : Int32) (m_fault : Int32) (m_rows : Nat → Int32) (m_names : Nat → Int64) (l1 : Int32) (l2 : Int32), f_X11_readFarm_B81  (f_X11_readFarm_L45  m_sort m_place m_value m_words n45) m_sort m_place m_value m_words m_at m_fault m_rows m_names l1 l2 = some (o_m_at, o_m_fault, o_m_rows, o_m_names) → K [wX11 G q_m m_thrown m_tape m_taped m_size m_sort m_place m_value m_at m_fault m_words m_rows m_op m_arg m_codes m_names m_ofFeed m_teeth m_feedWords m_goWords m_facts m_pile m_levels m_best m_losses m_lossOf m_wasThere m_groupMany m_groupRow m_groupLoss m_isMarked] [(0, .ref (q_m 0)), (1, .int l1), (2, .int l2)] 81 [] := by
        intro m_at m_fault m_rows m_names l1 l2 hM
        obtain ⟨l2_1, e_⟩ : ∃ y : Int32, y = l2 + 1 := ⟨_, rfl⟩
        refine st_iinc hR dX11_readFarm_81 (Nat.le_of_ble_eq_true rfl) 2 [1, 2, 0] (v := l2_1) rfl (by rw [e_]; rfl) (lv' := [(0, .ref (q_m 0)), (1, .int l1), (2, .int l2_1)]) rfl (pc' := 84) rfl ?_
        have hM := lt_e e_ hM
        refine st_goto hR dX11_readFarm_84 (tgt := 45) (by decide) ?_
        exact ih45 _ _ _ _ _ _ hM
      intro m_at m_fault m_rows m_names l1 l2 hM
      have hM : f_X11_readFarm_L45b  (f_X11_readFarm_L45  m_sort m_place m_value m_words n45) m_sort m_place m_value m_words m_at m_fault m_rows m_names l1 l2 = some (o_m_at, o_m_fault, o_m_rows, o_m_names) := hM
      refine st_iload_n hR dX11_readFarm_45 2 rfl rfl (pc' := 46) rfl ?_
      refine st_iload_n hR dX11_readFarm_46 1 rfl rfl (pc' := 47) rfl ?_
      refine st_icmp_ge hR dX11_readFarm_47 (tgt := 87) (by decide) (pc' := 50) rfl (fun c_ => ?_) (fun c_ => ?_)
      · have hM := it_t c_ hM
        exact st_lv hR [0, 1] rfl (J87 _ _ _ _ _ hM)
      · have hM := it_f c_ hM
        refine st_aload_n hR dX11_readFarm_50 0 rfl rfl (pc' := 51) rfl ?_
        refine st_get hR dX11_readFarm_51 fg_X11_144_10_8 0 0 rfl rfl rfl (pc' := 54) rfl ?_
        refine st_if_ne hR dX11_readFarm_54 (tgt := 87) (by decide) (pc' := 57) rfl (fun c_ => ?_) (fun c_ => ?_)
        · have hM := it_f c_ hM
          exact st_lv hR [0, 1] rfl (J87 _ _ _ _ _ hM)
        · have hM := it_t c_ hM
          refine st_aload_n hR dX11_readFarm_57 0 rfl rfl (pc' := 58) rfl ?_
          refine st_get hR dX11_readFarm_58 fg_X11_78_10_14 0 0 rfl rfl rfl (pc' := 61) rfl ?_
          refine st_iload_n hR dX11_readFarm_61 2 rfl rfl (pc' := 62) rfl ?_
          obtain ⟨hin_, hM⟩ := g_in_e hM
          refine st_lald hR dX11_readFarm_62 0 9 rfl rfl hin_ (v := m_names (ix l2)) rfl (pc' := 63) rfl ?_
          refine st_aload_n hR dX11_readFarm_63 0 rfl rfl (pc' := 64) rfl ?_
          refine st_get hR dX11_readFarm_64 fg_X11_30_10_6 0 0 rfl rfl rfl (pc' := 67) rfl ?_
          refine st_aload_n hR dX11_readFarm_67 0 rfl rfl (pc' := 68) rfl ?_
          refine st_get hR dX11_readFarm_68 fg_X11_141_10_7 0 0 rfl rfl rfl (pc' := 71) rfl ?_
          obtain ⟨hin_, hM⟩ := g_in_e hM
          refine st_lald hR dX11_readFarm_71 0 4 rfl rfl hin_ (v := m_value (ix m_at)) rfl (pc' := 72) rfl ?_
          refine st_lcmp hR dX11_readFarm_72 (pc' := 73) rfl ?_
          refine st_if_ne hR dX11_readFarm_73 (tgt := 81) (by decide) (pc' := 76) rfl (fun c_ => ?_) (fun c_ => ?_)
          · have hM := it_f c_ hM
            exact J81 _ _ _ _ _ _ hM
          · have hM := it_t c_ hM
            refine st_aload_n hR dX11_readFarm_76 0 rfl rfl (pc' := 77) rfl ?_
            refine st_iconst hR dX11_readFarm_77 (v := 3) rfl (pc' := 78) rfl ?_
            obtain ⟨m_fault_1, hc_, hM⟩ := bd_e hM
            refine st_callV hR (k_X11_wrong hc_) cf_X11_150 (rm_le (Nat.le_of_ble_eq_true rfl) (Nat.le_of_ble_eq_true rfl)) [0] rfl rfl rfl 0 0 10 30 rfl rfl rfl rfl (rest := []) rfl (Nat.le_of_ble_eq_true rfl) dX11_readFarm_78 (pc' := 81) rfl (Wn := [wX11 G q_m m_thrown m_tape m_taped m_size m_sort m_place m_value m_at m_fault_1 m_words m_rows m_op m_arg m_codes m_names m_ofFeed m_teeth m_feedWords m_goWords m_facts m_pile m_levels m_best m_losses m_lossOf m_wasThere m_groupMany m_groupRow m_groupLoss m_isMarked]) rfl ?_
            exact J81 _ _ _ _ _ _ hM
  have J43 : ∀ (m_at : Int32) (m_fault : Int32) (m_rows : Nat → Int32) (m_names : Nat → Int64) (l1 : Int32), f_X11_readFarm_B43  m_sort m_place m_value m_words m_at m_fault m_rows m_names l1 = some (o_m_at, o_m_fault, o_m_rows, o_m_names) → K [wX11 G q_m m_thrown m_tape m_taped m_size m_sort m_place m_value m_at m_fault m_words m_rows m_op m_arg m_codes m_names m_ofFeed m_teeth m_feedWords m_goWords m_facts m_pile m_levels m_best m_losses m_lossOf m_wasThere m_groupMany m_groupRow m_groupLoss m_isMarked] [(0, .ref (q_m 0)), (1, .int l1)] 43 [] := by
    intro m_at m_fault m_rows m_names l1 hM
    refine st_iconst hR dX11_readFarm_43 (v := 0) rfl (pc' := 44) rfl ?_
    refine st_istore_n hR dX11_readFarm_44 rfl (Nat.le_of_ble_eq_true rfl) [1, 2, 0] (lv' := [(0, .ref (q_m 0)), (1, .int l1), (2, .int 0)]) rfl (pc' := 45) rfl ?_
    exact L45 FU _ _ _ _ _ _ hM
  refine st_aload_n hR dX11_readFarm_0 0 rfl rfl (pc' := 1) rfl ?_
  refine st_get hR dX11_readFarm_1 fg_X11_69_10_10 0 0 rfl rfl rfl (pc' := 4) rfl ?_
  refine st_sipush hR dX11_readFarm_4 (v := 1000) rfl (pc' := 7) rfl ?_
  refine st_iald hR dX11_readFarm_7 0 6 rfl rfl (vp_lit 1000 rfl rfl rfl) (v := m_rows 1000) (congrArg m_rows (cl_lit 1000 rfl rfl)) (pc' := 8) rfl ?_
  refine st_topi (fun l1_1 e_ => ?_)
  have hM := lt_e e_ hM
  refine st_istore_n hR dX11_readFarm_8 rfl (Nat.le_of_ble_eq_true rfl) [1, 0] (lv' := [(0, .ref (q_m 0)), (1, .int l1_1)]) rfl (pc' := 9) rfl ?_
  refine st_iload_n hR dX11_readFarm_9 1 rfl rfl (pc' := 10) rfl ?_
  refine st_bipush hR dX11_readFarm_10 (v := 6) rfl (pc' := 12) rfl ?_
  refine st_icmp_ne hR dX11_readFarm_12 (tgt := 21) (by decide) (pc' := 15) rfl (fun c_ => ?_) (fun c_ => ?_)
  · have hM := it_f c_ hM
    refine st_aload_n hR dX11_readFarm_21 0 rfl rfl (pc' := 22) rfl ?_
    refine st_dup hR dX11_readFarm_22 (pc' := 23) rfl rfl ?_
    refine st_get hR dX11_readFarm_23 fg_X11_141_10_7 0 0 rfl rfl rfl (pc' := 26) rfl ?_
    refine st_iconst hR dX11_readFarm_26 (v := 1) rfl (pc' := 27) rfl ?_
    refine st_iadd hR dX11_readFarm_27 (pc' := 28) rfl ?_
    refine st_topi (fun m_at_1 e_ => ?_)
    have hM := lt_e e_ hM
    refine st_put hR dX11_readFarm_28 fp_X11_141_10_7 0 0 rfl rfl (Nat.le_of_ble_eq_true rfl) rfl rfl (pc' := 31) rfl (W' := [wX11 G q_m m_thrown m_tape m_taped m_size m_sort m_place m_value m_at_1 m_fault m_words m_rows m_op m_arg m_codes m_names m_ofFeed m_teeth m_feedWords m_goWords m_facts m_pile m_levels m_best m_losses m_lossOf m_wasThere m_groupMany m_groupRow m_groupLoss m_isMarked]) rfl ?_
    refine st_aload_n hR dX11_readFarm_31 0 rfl rfl (pc' := 32) rfl ?_
    obtain ⟨r_1, hc_, hM⟩ := bd_e hM
    refine st_callV hR (k_X11_isName hc_) cf_X11_201 (rm_le (Nat.le_of_ble_eq_true rfl) (Nat.le_of_ble_eq_true rfl)) [0] rfl rfl rfl 0 0 10 30 rfl rfl rfl rfl (rest := []) rfl (Nat.le_of_ble_eq_true rfl) dX11_readFarm_32 (pc' := 35) rfl (Wn := [wX11 G q_m m_thrown m_tape m_taped m_size m_sort m_place m_value m_at_1 m_fault m_words m_rows m_op m_arg m_codes m_names m_ofFeed m_teeth m_feedWords m_goWords m_facts m_pile m_levels m_best m_losses m_lossOf m_wasThere m_groupMany m_groupRow m_groupLoss m_isMarked]) rfl ?_
    refine st_if_ne hR dX11_readFarm_35 (tgt := 43) (by decide) (pc' := 38) rfl (fun c_ => ?_) (fun c_ => ?_)
    · have hM := it_f c_ hM
      exact J43 _ _ _ _ _ hM
    · have hM := it_t c_ hM
      refine st_aload_n hR dX11_readFarm_38 0 rfl rfl (pc' := 39) rfl ?_
      refine st_iconst hR dX11_readFarm_39 (v := 1) rfl (pc' := 40) rfl ?_
      obtain ⟨m_fault_1, hc_, hM⟩ := bd_e hM
      refine st_callV hR (k_X11_wrong hc_) cf_X11_150 (rm_le (Nat.le_of_ble_eq_true rfl) (Nat.le_of_ble_eq_true rfl)) [0] rfl rfl rfl 0 0 10 30 rfl rfl rfl rfl (rest := []) rfl (Nat.le_of_ble_eq_true rfl) dX11_readFarm_40 (pc' := 43) rfl (Wn := [wX11 G q_m m_thrown m_tape m_taped m_size m_sort m_place m_value m_at_1 m_fault_1 m_words m_rows m_op m_arg m_codes m_names m_ofFeed m_teeth m_feedWords m_goWords m_facts m_pile m_levels m_best m_losses m_lossOf m_wasThere m_groupMany m_groupRow m_groupLoss m_isMarked]) rfl ?_
      exact J43 _ _ _ _ _ hM
  · have hM := it_t c_ hM
    refine st_aload_n hR dX11_readFarm_15 0 rfl rfl (pc' := 16) rfl ?_
    refine st_iconst hR dX11_readFarm_16 (v := 5) rfl (pc' := 17) rfl ?_
    obtain ⟨m_fault_2, hc_, hM⟩ := bd_e hM
    refine st_callV hR (k_X11_wrong hc_) cf_X11_150 (rm_le (Nat.le_of_ble_eq_true rfl) (Nat.le_of_ble_eq_true rfl)) [0] rfl rfl rfl 0 0 10 30 rfl rfl rfl rfl (rest := []) rfl (Nat.le_of_ble_eq_true rfl) dX11_readFarm_17 (pc' := 20) rfl (Wn := [wX11 G q_m m_thrown m_tape m_taped m_size m_sort m_place m_value m_at m_fault_2 m_words m_rows m_op m_arg m_codes m_names m_ofFeed m_teeth m_feedWords m_goWords m_facts m_pile m_levels m_best m_losses m_lossOf m_wasThere m_groupMany m_groupRow m_groupLoss m_isMarked]) rfl ?_
    cases hM
    exact hret _ _ dX11_readFarm_20 ro_v
set_option maxHeartbeats 16000000 in
set_option maxRecDepth 100000 in
theorem k_X11_readPair {l : Launch} {G : GG} {q_m : Nat → Nat} {m_thrown m_taped m_size m_at m_fault m_codes m_ofFeed m_teeth m_levels m_groupMany : Int32} {m_tape m_sort m_place m_rows m_op m_arg m_feedWords m_goWords m_facts m_pile m_best m_losses m_lossOf m_wasThere m_groupRow m_groupLoss m_isMarked : Nat → Int32} {m_value m_words m_names : Nat → Int64}  {o_m_at : Int32} {o_m_fault : Int32} {o_m_rows : Nat → Int32} (hM : f_X11_readPair m_sort m_place m_value m_words m_names m_at m_fault m_rows = some (o_m_at, o_m_fault, o_m_rows)) : MC l G yX11_readPair cX11_readPair 5 none (RM 3) [.ref (q_m 0)] [wX11 G q_m m_thrown m_tape m_taped m_size m_sort m_place m_value m_at m_fault m_words m_rows m_op m_arg m_codes m_names m_ofFeed m_teeth m_feedWords m_goWords m_facts m_pile m_levels m_best m_losses m_lossOf m_wasThere m_groupMany m_groupRow m_groupLoss m_isMarked] none [wX11 G q_m m_thrown m_tape m_taped m_size m_sort m_place m_value o_m_at o_m_fault m_words o_m_rows m_op m_arg m_codes m_names m_ofFeed m_teeth m_feedWords m_goWords m_facts m_pile m_levels m_best m_losses m_lossOf m_wasThere m_groupMany m_groupRow m_groupLoss m_isMarked] := by
  refine MC.of pn_X11 (Nat.le_of_ble_eq_true rfl) (fun K hR hret => ?_)
  have hR : Rl l G RX11 cX11_readPair 5 (RM 3) K := hR
  show K [wX11 G q_m m_thrown m_tape m_taped m_size m_sort m_place m_value m_at m_fault m_words m_rows m_op m_arg m_codes m_names m_ofFeed m_teeth m_feedWords m_goWords m_facts m_pile m_levels m_best m_losses m_lossOf m_wasThere m_groupMany m_groupRow m_groupLoss m_isMarked] [(0, .ref (q_m 0))] 0 []
  have J42 : ∀ (m_at : Int32) (m_fault : Int32) (m_rows : Nat → Int32) (l2 : Int32) (l3 : Int32) (s0 : Int32), f_X11_readPair_B42  m_sort m_place m_value m_words m_names m_at m_fault m_rows l2 l3 s0 = some (o_m_at, o_m_fault, o_m_rows) → K [wX11 G q_m m_thrown m_tape m_taped m_size m_sort m_place m_value m_at m_fault m_words m_rows m_op m_arg m_codes m_names m_ofFeed m_teeth m_feedWords m_goWords m_facts m_pile m_levels m_best m_losses m_lossOf m_wasThere m_groupMany m_groupRow m_groupLoss m_isMarked] [(0, .ref (q_m 0)), (2, .int l2), (3, .int l3)] 42 [.int s0] := by
    intro m_at m_fault m_rows l2 l3 s0 hM
    refine st_istore hR dX11_readPair_42 (Nat.le_of_ble_eq_true rfl) [1, 2, 3, 0] (lv' := [(0, .ref (q_m 0)), (2, .int l2), (3, .int l3), (4, .int s0)]) rfl (pc' := 44) rfl ?_
    refine st_aload_n hR dX11_readPair_44 0 rfl rfl (pc' := 45) rfl ?_
    refine st_get hR dX11_readPair_45 fg_X11_144_10_8 0 0 rfl rfl rfl (pc' := 48) rfl ?_
    refine st_if_ne hR dX11_readPair_48 (tgt := 90) (by decide) (pc' := 51) rfl (fun c_ => ?_) (fun c_ => ?_)
    · have hM := it_f c_ hM
      cases hM
      exact hret _ _ dX11_readPair_90 ro_v
    · have hM := it_t c_ hM
      refine st_aload_n hR dX11_readPair_51 0 rfl rfl (pc' := 52) rfl ?_
      refine st_get hR dX11_readPair_52 fg_X11_69_10_10 0 0 rfl rfl rfl (pc' := 55) rfl ?_
      refine st_sipush hR dX11_readPair_55 (v := 1000) rfl (pc' := 58) rfl ?_
      refine st_iload_n hR dX11_readPair_58 1 rfl rfl (pc' := 59) rfl ?_
      refine st_iadd hR dX11_readPair_59 (pc' := 60) rfl ?_
      refine st_iload_n hR dX11_readPair_60 2 rfl rfl (pc' := 61) rfl ?_
      refine st_iadd hR dX11_readPair_61 (pc' := 62) rfl ?_
      refine st_iload hR dX11_readPair_62 3 rfl (pc' := 64) rfl ?_
      obtain ⟨hin_, hM⟩ := g_in_e hM
      refine st_iast hR dX11_readPair_64 0 6 rfl rfl hin_ (ix := (ix ((1000 + l2) + l3))) rfl (pc' := 65) rfl (fun m_rows_1 => [wX11 G q_m m_thrown m_tape m_taped m_size m_sort m_place m_value m_at m_fault m_words m_rows_1 m_op m_arg m_codes m_names m_ofFeed m_teeth m_feedWords m_goWords m_facts m_pile m_levels m_best m_losses m_lossOf m_wasThere m_groupMany m_groupRow m_groupLoss m_isMarked]) (fun _ => rfl) (fun m_rows_1 e_ => ?_)
      have hM := lt_e e_ hM
      refine st_aload_n hR dX11_readPair_65 0 rfl rfl (pc' := 66) rfl ?_
      refine st_get hR dX11_readPair_66 fg_X11_69_10_10 0 0 rfl rfl rfl (pc' := 69) rfl ?_
      refine st_sipush hR dX11_readPair_69 (v := 1000) rfl (pc' := 72) rfl ?_
      refine st_iload_n hR dX11_readPair_72 1 rfl rfl (pc' := 73) rfl ?_
      refine st_iadd hR dX11_readPair_73 (pc' := 74) rfl ?_
      refine st_bipush hR dX11_readPair_74 (v := 6) rfl (pc' := 76) rfl ?_
      refine st_iload_n hR dX11_readPair_76 2 rfl rfl (pc' := 77) rfl ?_
      refine st_bipush hR dX11_readPair_77 (v := 6) rfl (pc' := 79) rfl ?_
      refine st_irem hR dX11_readPair_79 (pc' := 80) rfl (by decide) ?_
      refine st_imul hR dX11_readPair_80 (pc' := 81) rfl ?_
      refine st_iadd hR dX11_readPair_81 (pc' := 82) rfl ?_
      refine st_iload_n hR dX11_readPair_82 2 rfl rfl (pc' := 83) rfl ?_
      refine st_bipush hR dX11_readPair_83 (v := 6) rfl (pc' := 85) rfl ?_
      refine st_idiv hR dX11_readPair_85 (pc' := 86) rfl (by decide) ?_
      refine st_iadd hR dX11_readPair_86 (pc' := 87) rfl ?_
      refine st_iload hR dX11_readPair_87 3 rfl (pc' := 89) rfl ?_
      obtain ⟨hin_, hM⟩ := g_in_e hM
      refine st_iast hR dX11_readPair_89 0 6 rfl rfl hin_ (ix := (ix (((1000 + l2) + (6 * (l3 - l3 / 6 * 6))) + (l3 / 6)))) rfl (pc' := 90) rfl (fun m_rows_2 => [wX11 G q_m m_thrown m_tape m_taped m_size m_sort m_place m_value m_at m_fault m_words m_rows_2 m_op m_arg m_codes m_names m_ofFeed m_teeth m_feedWords m_goWords m_facts m_pile m_levels m_best m_losses m_lossOf m_wasThere m_groupMany m_groupRow m_groupLoss m_isMarked]) (fun _ => rfl) (fun m_rows_2 e_ => ?_)
      have hM := lt_e e_ hM
      cases hM
      exact hret _ _ dX11_readPair_90 ro_v
  have J17 : ∀ (m_at : Int32) (m_fault : Int32) (m_rows : Nat → Int32) (l1 : Int32) (s0 : Int32), f_X11_readPair_B17  m_sort m_place m_value m_words m_names m_at m_fault m_rows l1 s0 = some (o_m_at, o_m_fault, o_m_rows) → K [wX11 G q_m m_thrown m_tape m_taped m_size m_sort m_place m_value m_at m_fault m_words m_rows m_op m_arg m_codes m_names m_ofFeed m_teeth m_feedWords m_goWords m_facts m_pile m_levels m_best m_losses m_lossOf m_wasThere m_groupMany m_groupRow m_groupLoss m_isMarked] [(0, .ref (q_m 0)), (1, .int l1)] 17 [.int s0] := by
    intro m_at m_fault m_rows l1 s0 hM
    refine st_istore_n hR dX11_readPair_17 rfl (Nat.le_of_ble_eq_true rfl) [1, 2, 0] (lv' := [(0, .ref (q_m 0)), (1, .int l1), (2, .int s0)]) rfl (pc' := 18) rfl ?_
    refine st_aload_n hR dX11_readPair_18 0 rfl rfl (pc' := 19) rfl ?_
    refine st_iload_n hR dX11_readPair_19 2 rfl rfl (pc' := 20) rfl ?_
    refine st_iconst hR dX11_readPair_20 (v := 1) rfl (pc' := 21) rfl ?_
    obtain ⟨⟨r_1, m_at_1, m_fault_1⟩, hc_, hM⟩ := bd_e hM
    refine st_callV hR (k_X11_takeTwo hc_) cf_X11_213 (rm_le (Nat.le_of_ble_eq_true rfl) (Nat.le_of_ble_eq_true rfl)) [0] rfl rfl rfl 0 0 10 30 rfl rfl rfl rfl (rest := []) rfl (Nat.le_of_ble_eq_true rfl) dX11_readPair_21 (pc' := 24) rfl (Wn := [wX11 G q_m m_thrown m_tape m_taped m_size m_sort m_place m_value m_at_1 m_fault_1 m_words m_rows m_op m_arg m_codes m_names m_ofFeed m_teeth m_feedWords m_goWords m_facts m_pile m_levels m_best m_losses m_lossOf m_wasThere m_groupMany m_groupRow m_groupLoss m_isMarked]) rfl ?_
    refine st_istore_n hR dX11_readPair_24 rfl (Nat.le_of_ble_eq_true rfl) [1, 2, 3, 0] (lv' := [(0, .ref (q_m 0)), (1, .int l1), (2, .int s0), (3, .int r_1)]) rfl (pc' := 25) rfl ?_
    refine st_iload_n hR dX11_readPair_25 1 rfl rfl (pc' := 26) rfl ?_
    refine st_if_eq hR dX11_readPair_26 (tgt := 41) (by decide) (pc' := 29) rfl (fun c_ => ?_) (fun c_ => ?_)
    · have hM := it_t c_ hM
      refine st_iconst hR dX11_readPair_41 (v := 1) rfl (pc' := 42) rfl ?_
      exact st_lv hR [0, 2, 3] rfl (J42 _ _ _ _ _ _ hM)
    · have hM := it_f c_ hM
      refine st_iconst hR dX11_readPair_29 (v := 1) rfl (pc' := 30) rfl ?_
      refine st_aload_n hR dX11_readPair_30 0 rfl rfl (pc' := 31) rfl ?_
      refine st_iconst hR dX11_readPair_31 (v := 0) rfl (pc' := 32) rfl ?_
      refine st_bipush hR dX11_readPair_32 (v := 99) rfl (pc' := 34) rfl ?_
      obtain ⟨⟨r_2, m_at_2, m_fault_2⟩, hc_, hM⟩ := bd_e hM
      refine st_callV hR (k_X11_takeNumber hc_) cf_X11_163 (rm_le (Nat.le_of_ble_eq_true rfl) (Nat.le_of_ble_eq_true rfl)) [0] rfl rfl rfl 0 0 10 30 rfl rfl rfl rfl (rest := [.int 1]) rfl (Nat.le_of_ble_eq_true rfl) dX11_readPair_34 (pc' := 37) rfl (Wn := [wX11 G q_m m_thrown m_tape m_taped m_size m_sort m_place m_value m_at_2 m_fault_2 m_words m_rows m_op m_arg m_codes m_names m_ofFeed m_teeth m_feedWords m_goWords m_facts m_pile m_levels m_best m_losses m_lossOf m_wasThere m_groupMany m_groupRow m_groupLoss m_isMarked]) rfl ?_
      refine st_iadd hR dX11_readPair_37 (pc' := 38) rfl ?_
      refine st_goto hR dX11_readPair_38 (tgt := 42) (by decide) ?_
      exact st_lv hR [0, 2, 3] rfl (J42 _ _ _ _ _ _ hM)
  refine st_aload_n hR dX11_readPair_0 0 rfl rfl (pc' := 1) rfl ?_
  refine st_iconst hR dX11_readPair_1 (v := 4) rfl (pc' := 2) rfl ?_
  obtain ⟨r_1, hc_, hM⟩ := bd_e hM
  refine st_callV hR (k_X11_isWord hc_) cf_X11_154 (rm_le (Nat.le_of_ble_eq_true rfl) (Nat.le_of_ble_eq_true rfl)) [0] rfl rfl rfl 0 0 10 30 rfl rfl rfl rfl (rest := []) rfl (Nat.le_of_ble_eq_true rfl) dX11_readPair_2 (pc' := 5) rfl (Wn := [wX11 G q_m m_thrown m_tape m_taped m_size m_sort m_place m_value m_at m_fault m_words m_rows m_op m_arg m_codes m_names m_ofFeed m_teeth m_feedWords m_goWords m_facts m_pile m_levels m_best m_losses m_lossOf m_wasThere m_groupMany m_groupRow m_groupLoss m_isMarked]) rfl ?_
  refine st_istore_n hR dX11_readPair_5 rfl (Nat.le_of_ble_eq_true rfl) [1, 0] (lv' := [(0, .ref (q_m 0)), (1, .int r_1)]) rfl (pc' := 6) rfl ?_
  refine st_iload_n hR dX11_readPair_6 1 rfl rfl (pc' := 7) rfl ?_
  refine st_if_eq hR dX11_readPair_7 (tgt := 15) (by decide) (pc' := 10) rfl (fun c_ => ?_) (fun c_ => ?_)
  · have hM := it_t c_ hM
    refine st_bipush hR dX11_readPair_15 (v := 110) rfl (pc' := 17) rfl ?_
    exact J17 _ _ _ _ _ hM
  · have hM := it_f c_ hM
    refine st_bipush hR dX11_readPair_10 (v := 74) rfl (pc' := 12) rfl ?_
    refine st_goto hR dX11_readPair_12 (tgt := 17) (by decide) ?_
    exact J17 _ _ _ _ _ hM
set_option maxHeartbeats 16000000 in
set_option maxRecDepth 100000 in
theorem k_X11_factHere {l : Launch} {G : GG} {q_m : Nat → Nat} {m_thrown m_taped m_size m_at m_fault m_codes m_ofFeed m_teeth m_levels m_groupMany : Int32} {m_tape m_sort m_place m_rows m_op m_arg m_feedWords m_goWords m_facts m_pile m_best m_losses m_lossOf m_wasThere m_groupRow m_groupLoss m_isMarked : Nat → Int32} {m_value m_words m_names : Nat → Int64}  {o_r : Int32} (hM : f_X11_factHere m_sort m_value m_at m_fault m_words m_ofFeed m_feedWords m_goWords = some o_r) : MC l G yX11_factHere cX11_factHere 3 (some .int) (RM 1) [.ref (q_m 0)] [wX11 G q_m m_thrown m_tape m_taped m_size m_sort m_place m_value m_at m_fault m_words m_rows m_op m_arg m_codes m_names m_ofFeed m_teeth m_feedWords m_goWords m_facts m_pile m_levels m_best m_losses m_lossOf m_wasThere m_groupMany m_groupRow m_groupLoss m_isMarked] (some (.int o_r)) [wX11 G q_m m_thrown m_tape m_taped m_size m_sort m_place m_value m_at m_fault m_words m_rows m_op m_arg m_codes m_names m_ofFeed m_teeth m_feedWords m_goWords m_facts m_pile m_levels m_best m_losses m_lossOf m_wasThere m_groupMany m_groupRow m_groupLoss m_isMarked] := by
  refine MC.of pn_X11 (Nat.le_of_ble_eq_true rfl) (fun K hR hret => ?_)
  have hR : Rl l G RX11 cX11_factHere 3 (RM 1) K := hR
  show K [wX11 G q_m m_thrown m_tape m_taped m_size m_sort m_place m_value m_at m_fault m_words m_rows m_op m_arg m_codes m_names m_ofFeed m_teeth m_feedWords m_goWords m_facts m_pile m_levels m_best m_losses m_lossOf m_wasThere m_groupMany m_groupRow m_groupLoss m_isMarked] [(0, .ref (q_m 0))] 0 []
  have L4 : ∀ (n4 : Nat) (l1 : Int32) (l2 : Int32), f_X11_factHere_L4  m_sort m_value m_at m_fault m_words m_ofFeed m_feedWords m_goWords n4 l1 l2 = some o_r → K [wX11 G q_m m_thrown m_tape m_taped m_size m_sort m_place m_value m_at m_fault m_words m_rows m_op m_arg m_codes m_names m_ofFeed m_teeth m_feedWords m_goWords m_facts m_pile m_levels m_best m_losses m_lossOf m_wasThere m_groupMany m_groupRow m_groupLoss m_isMarked] [(0, .ref (q_m 0)), (1, .int l1), (2, .int l2)] 4 [] := by
    intro n4
    induction n4 with
    | zero => intro l1 l2 hM; exact no_some hM
    | succ n4 ih4 =>
      have J54 : ∀ (l2 : Int32) (s0 : Int32), f_X11_factHere_B54  (f_X11_factHere_L4  m_sort m_value m_at m_fault m_words m_ofFeed m_feedWords m_goWords n4) m_sort m_value m_at m_fault m_words m_ofFeed m_feedWords m_goWords l2 s0 = some o_r → K [wX11 G q_m m_thrown m_tape m_taped m_size m_sort m_place m_value m_at m_fault m_words m_rows m_op m_arg m_codes m_names m_ofFeed m_teeth m_feedWords m_goWords m_facts m_pile m_levels m_best m_losses m_lossOf m_wasThere m_groupMany m_groupRow m_groupLoss m_isMarked] [(0, .ref (q_m 0)), (2, .int l2)] 54 [.int s0] := by
        intro l2 s0 hM
        refine st_istore_n hR dX11_factHere_54 rfl (Nat.le_of_ble_eq_true rfl) [1, 0, 2] (lv' := [(0, .ref (q_m 0)), (1, .int s0), (2, .int l2)]) rfl (pc' := 55) rfl ?_
        obtain ⟨l2_1, e_⟩ : ∃ y : Int32, y = l2 + 1 := ⟨_, rfl⟩
        refine st_iinc hR dX11_factHere_55 (Nat.le_of_ble_eq_true rfl) 2 [1, 2, 0] (v := l2_1) rfl (by rw [e_]; rfl) (lv' := [(0, .ref (q_m 0)), (1, .int s0), (2, .int l2_1)]) rfl (pc' := 58) rfl ?_
        have hM := lt_e e_ hM
        refine st_goto hR dX11_factHere_58 (tgt := 4) (by decide) ?_
        exact ih4 _ _ hM
      have J43 : ∀ (l1 : Int32) (l2 : Int32) (s0 : Int32), f_X11_factHere_B43  (f_X11_factHere_L4  m_sort m_value m_at m_fault m_words m_ofFeed m_feedWords m_goWords n4) m_sort m_value m_at m_fault m_words m_ofFeed m_feedWords m_goWords l1 l2 s0 = some o_r → K [wX11 G q_m m_thrown m_tape m_taped m_size m_sort m_place m_value m_at m_fault m_words m_rows m_op m_arg m_codes m_names m_ofFeed m_teeth m_feedWords m_goWords m_facts m_pile m_levels m_best m_losses m_lossOf m_wasThere m_groupMany m_groupRow m_groupLoss m_isMarked] [(0, .ref (q_m 0)), (1, .int l1), (2, .int l2)] 43 [.int s0, .ref (q_m 0)] := by
        intro l1 l2 s0 hM
        obtain ⟨r_1, hc_, hM⟩ := bd_e hM
        refine st_callV hR (k_X11_isWord hc_) cf_X11_154 (rm_le (Nat.le_of_ble_eq_true rfl) (Nat.le_of_ble_eq_true rfl)) [0] rfl rfl rfl 0 0 10 30 rfl rfl rfl rfl (rest := []) rfl (Nat.le_of_ble_eq_true rfl) dX11_factHere_43 (pc' := 46) rfl (Wn := [wX11 G q_m m_thrown m_tape m_taped m_size m_sort m_place m_value m_at m_fault m_words m_rows m_op m_arg m_codes m_names m_ofFeed m_teeth m_feedWords m_goWords m_facts m_pile m_levels m_best m_losses m_lossOf m_wasThere m_groupMany m_groupRow m_groupLoss m_isMarked]) rfl ?_
        refine st_if_eq hR dX11_factHere_46 (tgt := 53) (by decide) (pc' := 49) rfl (fun c_ => ?_) (fun c_ => ?_)
        · have hM := it_t c_ hM
          refine st_iload_n hR dX11_factHere_53 1 rfl rfl (pc' := 54) rfl ?_
          exact st_lv hR [0, 2] rfl (J54 _ _ hM)
        · have hM := it_f c_ hM
          refine st_iload_n hR dX11_factHere_49 2 rfl rfl (pc' := 50) rfl ?_
          refine st_goto hR dX11_factHere_50 (tgt := 54) (by decide) ?_
          exact st_lv hR [0, 2] rfl (J54 _ _ hM)
      have J17 : ∀ (l1 : Int32) (l2 : Int32) (s0 : Int32) (s1 : Int32), f_X11_factHere_B17  (f_X11_factHere_L4  m_sort m_value m_at m_fault m_words m_ofFeed m_feedWords m_goWords n4) m_sort m_value m_at m_fault m_words m_ofFeed m_feedWords m_goWords l1 l2 s0 s1 = some o_r → K [wX11 G q_m m_thrown m_tape m_taped m_size m_sort m_place m_value m_at m_fault m_words m_rows m_op m_arg m_codes m_names m_ofFeed m_teeth m_feedWords m_goWords m_facts m_pile m_levels m_best m_losses m_lossOf m_wasThere m_groupMany m_groupRow m_groupLoss m_isMarked] [(0, .ref (q_m 0)), (1, .int l1), (2, .int l2)] 17 [.int s0, .int s1] := by
        intro l1 l2 s0 s1 hM
        refine st_icmp_ge hR dX11_factHere_17 (tgt := 61) (by decide) (pc' := 20) rfl (fun c_ => ?_) (fun c_ => ?_)
        · have hM := it_t c_ hM
          refine st_iload_n hR dX11_factHere_61 1 rfl rfl (pc' := 62) rfl ?_
          cases hM
          exact hret _ _ dX11_factHere_62 (ro_i _)
        · have hM := it_f c_ hM
          refine st_aload_n hR dX11_factHere_20 0 rfl rfl (pc' := 21) rfl ?_
          refine st_aload_n hR dX11_factHere_21 0 rfl rfl (pc' := 22) rfl ?_
          refine st_get hR dX11_factHere_22 fg_X11_217_10_15 0 0 rfl rfl rfl (pc' := 25) rfl ?_
          refine st_if_eq hR dX11_factHere_25 (tgt := 37) (by decide) (pc' := 28) rfl (fun c_ => ?_) (fun c_ => ?_)
          · have hM := it_t c_ hM
            refine st_aload_n hR dX11_factHere_37 0 rfl rfl (pc' := 38) rfl ?_
            refine st_get hR dX11_factHere_38 fg_X11_84_10_18 0 0 rfl rfl rfl (pc' := 41) rfl ?_
            refine st_iload_n hR dX11_factHere_41 2 rfl rfl (pc' := 42) rfl ?_
            obtain ⟨hin_, hM⟩ := g_in_e hM
            refine st_iald hR dX11_factHere_42 0 11 rfl rfl hin_ (v := m_goWords (ix l2)) rfl (pc' := 43) rfl ?_
            exact J43 _ _ _ hM
          · have hM := it_f c_ hM
            refine st_aload_n hR dX11_factHere_28 0 rfl rfl (pc' := 29) rfl ?_
            refine st_get hR dX11_factHere_29 fg_X11_81_10_17 0 0 rfl rfl rfl (pc' := 32) rfl ?_
            refine st_iload_n hR dX11_factHere_32 2 rfl rfl (pc' := 33) rfl ?_
            obtain ⟨hin_, hM⟩ := g_in_e hM
            refine st_iald hR dX11_factHere_33 0 10 rfl rfl hin_ (v := m_feedWords (ix l2)) rfl (pc' := 34) rfl ?_
            refine st_goto hR dX11_factHere_34 (tgt := 43) (by decide) ?_
            exact J43 _ _ _ hM
      intro l1 l2 hM
      have hM : f_X11_factHere_L4b  (f_X11_factHere_L4  m_sort m_value m_at m_fault m_words m_ofFeed m_feedWords m_goWords n4) m_sort m_value m_at m_fault m_words m_ofFeed m_feedWords m_goWords l1 l2 = some o_r := hM
      refine st_iload_n hR dX11_factHere_4 2 rfl rfl (pc' := 5) rfl ?_
      refine st_aload_n hR dX11_factHere_5 0 rfl rfl (pc' := 6) rfl ?_
      refine st_get hR dX11_factHere_6 fg_X11_217_10_15 0 0 rfl rfl rfl (pc' := 9) rfl ?_
      refine st_if_eq hR dX11_factHere_9 (tgt := 16) (by decide) (pc' := 12) rfl (fun c_ => ?_) (fun c_ => ?_)
      · have hM := it_t c_ hM
        refine st_iconst hR dX11_factHere_16 (v := 5) rfl (pc' := 17) rfl ?_
        exact J17 _ _ _ _ hM
      · have hM := it_f c_ hM
        refine st_iconst hR dX11_factHere_12 (v := 4) rfl (pc' := 13) rfl ?_
        refine st_goto hR dX11_factHere_13 (tgt := 17) (by decide) ?_
        exact J17 _ _ _ _ hM
  refine st_iconst hR dX11_factHere_0 (v := (-1)) (by decide) (pc' := 1) rfl ?_
  refine st_istore_n hR dX11_factHere_1 rfl (Nat.le_of_ble_eq_true rfl) [1, 0] (lv' := [(0, .ref (q_m 0)), (1, .int (-1))]) rfl (pc' := 2) rfl ?_
  refine st_iconst hR dX11_factHere_2 (v := 0) rfl (pc' := 3) rfl ?_
  refine st_istore_n hR dX11_factHere_3 rfl (Nat.le_of_ble_eq_true rfl) [1, 2, 0] (lv' := [(0, .ref (q_m 0)), (1, .int (-1)), (2, .int 0)]) rfl (pc' := 4) rfl ?_
  exact L4 FU _ _ hM
set_option maxHeartbeats 16000000 in
set_option maxRecDepth 100000 in
theorem k_X11_emit {l : Launch} {G : GG} {q_m : Nat → Nat} {m_thrown m_taped m_size m_at m_fault m_codes m_ofFeed m_teeth m_levels m_groupMany : Int32} {m_tape m_sort m_place m_rows m_op m_arg m_feedWords m_goWords m_facts m_pile m_best m_losses m_lossOf m_wasThere m_groupRow m_groupLoss m_isMarked : Nat → Int32} {m_value m_words m_names : Nat → Int64} {l1 l2 : Int32} {o_m_op : Nat → Int32} {o_m_arg : Nat → Int32} {o_m_codes : Int32} (hM : f_X11_emit m_op m_arg m_codes l1 l2 = some (o_m_op, o_m_arg, o_m_codes)) : MC l G yX11_emit cX11_emit 3 none (RM 0) [.ref (q_m 0), .int l1, .int l2] [wX11 G q_m m_thrown m_tape m_taped m_size m_sort m_place m_value m_at m_fault m_words m_rows m_op m_arg m_codes m_names m_ofFeed m_teeth m_feedWords m_goWords m_facts m_pile m_levels m_best m_losses m_lossOf m_wasThere m_groupMany m_groupRow m_groupLoss m_isMarked] none [wX11 G q_m m_thrown m_tape m_taped m_size m_sort m_place m_value m_at m_fault m_words m_rows o_m_op o_m_arg o_m_codes m_names m_ofFeed m_teeth m_feedWords m_goWords m_facts m_pile m_levels m_best m_losses m_lossOf m_wasThere m_groupMany m_groupRow m_groupLoss m_isMarked] := by
  refine MC.of pn_X11 (Nat.le_of_ble_eq_true rfl) (fun K hR hret => ?_)
  have hR : Rl l G RX11 cX11_emit 3 (RM 0) K := hR
  show K [wX11 G q_m m_thrown m_tape m_taped m_size m_sort m_place m_value m_at m_fault m_words m_rows m_op m_arg m_codes m_names m_ofFeed m_teeth m_feedWords m_goWords m_facts m_pile m_levels m_best m_losses m_lossOf m_wasThere m_groupMany m_groupRow m_groupLoss m_isMarked] [(0, .ref (q_m 0)), (1, .int l1), (2, .int l2)] 0 []
  refine st_aload_n hR dX11_emit_0 0 rfl rfl (pc' := 1) rfl ?_
  refine st_get hR dX11_emit_1 fg_X11_72_10_11 0 0 rfl rfl rfl (pc' := 4) rfl ?_
  refine st_sipush hR dX11_emit_4 (v := 1100) rfl (pc' := 7) rfl ?_
  refine st_aload_n hR dX11_emit_7 0 rfl rfl (pc' := 8) rfl ?_
  refine st_get hR dX11_emit_8 fg_X11_170_10_13 0 0 rfl rfl rfl (pc' := 11) rfl ?_
  refine st_iadd hR dX11_emit_11 (pc' := 12) rfl ?_
  refine st_iload_n hR dX11_emit_12 1 rfl rfl (pc' := 13) rfl ?_
  obtain ⟨hin_, hM⟩ := g_in_e hM
  refine st_iast hR dX11_emit_13 0 7 rfl rfl hin_ (ix := (ix (1100 + m_codes))) rfl (pc' := 14) rfl (fun m_op_1 => [wX11 G q_m m_thrown m_tape m_taped m_size m_sort m_place m_value m_at m_fault m_words m_rows m_op_1 m_arg m_codes m_names m_ofFeed m_teeth m_feedWords m_goWords m_facts m_pile m_levels m_best m_losses m_lossOf m_wasThere m_groupMany m_groupRow m_groupLoss m_isMarked]) (fun _ => rfl) (fun m_op_1 e_ => ?_)
  have hM := lt_e e_ hM
  refine st_aload_n hR dX11_emit_14 0 rfl rfl (pc' := 15) rfl ?_
  refine st_get hR dX11_emit_15 fg_X11_75_10_12 0 0 rfl rfl rfl (pc' := 18) rfl ?_
  refine st_sipush hR dX11_emit_18 (v := 1100) rfl (pc' := 21) rfl ?_
  refine st_aload_n hR dX11_emit_21 0 rfl rfl (pc' := 22) rfl ?_
  refine st_get hR dX11_emit_22 fg_X11_170_10_13 0 0 rfl rfl rfl (pc' := 25) rfl ?_
  refine st_iadd hR dX11_emit_25 (pc' := 26) rfl ?_
  refine st_iload_n hR dX11_emit_26 2 rfl rfl (pc' := 27) rfl ?_
  obtain ⟨hin_, hM⟩ := g_in_e hM
  refine st_iast hR dX11_emit_27 0 8 rfl rfl hin_ (ix := (ix (1100 + m_codes))) rfl (pc' := 28) rfl (fun m_arg_1 => [wX11 G q_m m_thrown m_tape m_taped m_size m_sort m_place m_value m_at m_fault m_words m_rows m_op_1 m_arg_1 m_codes m_names m_ofFeed m_teeth m_feedWords m_goWords m_facts m_pile m_levels m_best m_losses m_lossOf m_wasThere m_groupMany m_groupRow m_groupLoss m_isMarked]) (fun _ => rfl) (fun m_arg_1 e_ => ?_)
  have hM := lt_e e_ hM
  refine st_aload_n hR dX11_emit_28 0 rfl rfl (pc' := 29) rfl ?_
  refine st_dup hR dX11_emit_29 (pc' := 30) rfl rfl ?_
  refine st_get hR dX11_emit_30 fg_X11_170_10_13 0 0 rfl rfl rfl (pc' := 33) rfl ?_
  refine st_iconst hR dX11_emit_33 (v := 1) rfl (pc' := 34) rfl ?_
  refine st_iadd hR dX11_emit_34 (pc' := 35) rfl ?_
  refine st_topi (fun m_codes_1 e_ => ?_)
  have hM := lt_e e_ hM
  refine st_put hR dX11_emit_35 fp_X11_170_10_13 0 0 rfl rfl (Nat.le_of_ble_eq_true rfl) rfl rfl (pc' := 38) rfl (W' := [wX11 G q_m m_thrown m_tape m_taped m_size m_sort m_place m_value m_at m_fault m_words m_rows m_op_1 m_arg_1 m_codes_1 m_names m_ofFeed m_teeth m_feedWords m_goWords m_facts m_pile m_levels m_best m_losses m_lossOf m_wasThere m_groupMany m_groupRow m_groupLoss m_isMarked]) rfl ?_
  cases hM
  exact hret _ _ dX11_emit_38 ro_v
def HR_X11_takePart (l : Launch) (G : GG) (n : Nat) : Prop := ∀ ⦃q_m : Nat → Nat⦄ ⦃m_thrown m_taped m_size m_at m_fault m_codes m_ofFeed m_teeth m_levels m_groupMany : Int32⦄ ⦃m_tape m_sort m_place m_rows m_op m_arg m_feedWords m_goWords m_facts m_pile m_best m_losses m_lossOf m_wasThere m_groupRow m_groupLoss m_isMarked : Nat → Int32⦄ ⦃m_value m_words m_names : Nat → Int64⦄ ⦃l1 : Int32⦄ ⦃o_m_at : Int32⦄ ⦃o_m_fault : Int32⦄ ⦃o_m_op : Nat → Int32⦄ ⦃o_m_arg : Nat → Int32⦄ ⦃o_m_codes : Int32⦄, f_X11_takePart n m_sort m_place m_value m_words m_ofFeed m_feedWords m_goWords m_at m_fault m_op m_arg m_codes l1 = some (o_m_at, o_m_fault, o_m_op, o_m_arg, o_m_codes) → MC l G yX11_takePart cX11_takePart 4 none (RM (6 * n + 10)) [.ref (q_m 0), .int l1] [wX11 G q_m m_thrown m_tape m_taped m_size m_sort m_place m_value m_at m_fault m_words m_rows m_op m_arg m_codes m_names m_ofFeed m_teeth m_feedWords m_goWords m_facts m_pile m_levels m_best m_losses m_lossOf m_wasThere m_groupMany m_groupRow m_groupLoss m_isMarked] none [wX11 G q_m m_thrown m_tape m_taped m_size m_sort m_place m_value o_m_at o_m_fault m_words m_rows o_m_op o_m_arg o_m_codes m_names m_ofFeed m_teeth m_feedWords m_goWords m_facts m_pile m_levels m_best m_losses m_lossOf m_wasThere m_groupMany m_groupRow m_groupLoss m_isMarked]
set_option maxHeartbeats 16000000 in
set_option maxRecDepth 100000 in
theorem k_X11_products {l : Launch} {G : GG} {q_m : Nat → Nat} {m_thrown m_taped m_size m_at m_fault m_codes m_ofFeed m_teeth m_levels m_groupMany : Int32} {m_tape m_sort m_place m_rows m_op m_arg m_feedWords m_goWords m_facts m_pile m_best m_losses m_lossOf m_wasThere m_groupRow m_groupLoss m_isMarked : Nat → Int32} {m_value m_words m_names : Nat → Int64} {l1 : Int32} {o_m_at : Int32} {o_m_fault : Int32} {o_m_op : Nat → Int32} {o_m_arg : Nat → Int32} {o_m_codes : Int32} {n : Nat} (hrec : HR_X11_takePart l G n) (hM : f_X11_products (f_X11_takePart n) m_sort m_place m_value m_words m_ofFeed m_feedWords m_goWords m_at m_fault m_op m_arg m_codes l1 = some (o_m_at, o_m_fault, o_m_op, o_m_arg, o_m_codes)) : MC l G yX11_products cX11_products 2 none (RM (6 * n + 11)) [.ref (q_m 0), .int l1] [wX11 G q_m m_thrown m_tape m_taped m_size m_sort m_place m_value m_at m_fault m_words m_rows m_op m_arg m_codes m_names m_ofFeed m_teeth m_feedWords m_goWords m_facts m_pile m_levels m_best m_losses m_lossOf m_wasThere m_groupMany m_groupRow m_groupLoss m_isMarked] none [wX11 G q_m m_thrown m_tape m_taped m_size m_sort m_place m_value o_m_at o_m_fault m_words m_rows o_m_op o_m_arg o_m_codes m_names m_ofFeed m_teeth m_feedWords m_goWords m_facts m_pile m_levels m_best m_losses m_lossOf m_wasThere m_groupMany m_groupRow m_groupLoss m_isMarked] := by
  refine MC.of pn_X11 (Nat.le_of_ble_eq_true rfl) (fun K hR hret => ?_)
  have hR : Rl l G RX11 cX11_products 2 (RM (6 * n + 11)) K := hR
  show K [wX11 G q_m m_thrown m_tape m_taped m_size m_sort m_place m_value m_at m_fault m_words m_rows m_op m_arg m_codes m_names m_ofFeed m_teeth m_feedWords m_goWords m_facts m_pile m_levels m_best m_losses m_lossOf m_wasThere m_groupMany m_groupRow m_groupLoss m_isMarked] [(0, .ref (q_m 0)), (1, .int l1)] 0 []
  have L5 : ∀ (n5 : Nat) (m_at : Int32) (m_fault : Int32) (m_op : Nat → Int32) (m_arg : Nat → Int32) (m_codes : Int32) (l1 : Int32), f_X11_products_L5 (f_X11_takePart n) m_sort m_place m_value m_words m_ofFeed m_feedWords m_goWords n5 m_at m_fault m_op m_arg m_codes l1 = some (o_m_at, o_m_fault, o_m_op, o_m_arg, o_m_codes) → K [wX11 G q_m m_thrown m_tape m_taped m_size m_sort m_place m_value m_at m_fault m_words m_rows m_op m_arg m_codes m_names m_ofFeed m_teeth m_feedWords m_goWords m_facts m_pile m_levels m_best m_losses m_lossOf m_wasThere m_groupMany m_groupRow m_groupLoss m_isMarked] [(0, .ref (q_m 0)), (1, .int l1)] 5 [] := by
    intro n5
    induction n5 with
    | zero => intro m_at m_fault m_op m_arg m_codes l1 hM; exact no_some hM
    | succ n5 ih5 =>
      intro m_at m_fault m_op m_arg m_codes l1 hM
      have hM : f_X11_products_L5b (f_X11_takePart n) (f_X11_products_L5 (f_X11_takePart n) m_sort m_place m_value m_words m_ofFeed m_feedWords m_goWords n5) m_sort m_place m_value m_words m_ofFeed m_feedWords m_goWords m_at m_fault m_op m_arg m_codes l1 = some (o_m_at, o_m_fault, o_m_op, o_m_arg, o_m_codes) := hM
      refine st_aload_n hR dX11_products_5 0 rfl rfl (pc' := 6) rfl ?_
      refine st_bipush hR dX11_products_6 (v := 42) rfl (pc' := 8) rfl ?_
      obtain ⟨⟨r_1, m_at_1⟩, hc_, hM⟩ := bd_e hM
      refine st_callV hR (k_X11_hasSign hc_) cf_X11_233 (rm_le (by omega) (by decide)) [0] rfl rfl rfl 0 0 10 30 rfl rfl rfl rfl (rest := []) rfl (Nat.le_of_ble_eq_true rfl) dX11_products_8 (pc' := 11) rfl (Wn := [wX11 G q_m m_thrown m_tape m_taped m_size m_sort m_place m_value m_at_1 m_fault m_words m_rows m_op m_arg m_codes m_names m_ofFeed m_teeth m_feedWords m_goWords m_facts m_pile m_levels m_best m_losses m_lossOf m_wasThere m_groupMany m_groupRow m_groupLoss m_isMarked]) rfl ?_
      refine st_if_eq hR dX11_products_11 (tgt := 29) (by decide) (pc' := 14) rfl (fun c_ => ?_) (fun c_ => ?_)
      · have hM := it_t c_ hM
        cases hM
        exact hret _ _ dX11_products_29 ro_v
      · have hM := it_f c_ hM
        refine st_aload_n hR dX11_products_14 0 rfl rfl (pc' := 15) rfl ?_
        refine st_iload_n hR dX11_products_15 1 rfl rfl (pc' := 16) rfl ?_
        obtain ⟨⟨m_at_2, m_fault_1, m_op_1, m_arg_1, m_codes_1⟩, hc_, hM⟩ := bd_e hM
        refine st_callV hR (hrec hc_) cf_X11_239 (rm_le (by omega) (by decide)) [0] rfl rfl rfl 0 0 10 30 rfl rfl rfl rfl (rest := []) rfl (Nat.le_of_ble_eq_true rfl) dX11_products_16 (pc' := 19) rfl (Wn := [wX11 G q_m m_thrown m_tape m_taped m_size m_sort m_place m_value m_at_2 m_fault_1 m_words m_rows m_op_1 m_arg_1 m_codes_1 m_names m_ofFeed m_teeth m_feedWords m_goWords m_facts m_pile m_levels m_best m_losses m_lossOf m_wasThere m_groupMany m_groupRow m_groupLoss m_isMarked]) rfl ?_
        refine st_aload_n hR dX11_products_19 0 rfl rfl (pc' := 20) rfl ?_
        refine st_bipush hR dX11_products_20 (v := 6) rfl (pc' := 22) rfl ?_
        refine st_iconst hR dX11_products_22 (v := 0) rfl (pc' := 23) rfl ?_
        obtain ⟨⟨m_op_2, m_arg_2, m_codes_2⟩, hc_, hM⟩ := bd_e hM
        refine st_callV hR (k_X11_emit hc_) cf_X11_224 (rm_le (by omega) (by decide)) [0] rfl rfl rfl 0 0 10 30 rfl rfl rfl rfl (rest := []) rfl (Nat.le_of_ble_eq_true rfl) dX11_products_23 (pc' := 26) rfl (Wn := [wX11 G q_m m_thrown m_tape m_taped m_size m_sort m_place m_value m_at_2 m_fault_1 m_words m_rows m_op_2 m_arg_2 m_codes_2 m_names m_ofFeed m_teeth m_feedWords m_goWords m_facts m_pile m_levels m_best m_losses m_lossOf m_wasThere m_groupMany m_groupRow m_groupLoss m_isMarked]) rfl ?_
        refine st_goto hR dX11_products_26 (tgt := 5) (by decide) ?_
        exact ih5 _ _ _ _ _ _ hM
  refine st_aload_n hR dX11_products_0 0 rfl rfl (pc' := 1) rfl ?_
  refine st_iload_n hR dX11_products_1 1 rfl rfl (pc' := 2) rfl ?_
  obtain ⟨⟨m_at_1, m_fault_1, m_op_1, m_arg_1, m_codes_1⟩, hc_, hM⟩ := bd_e hM
  refine st_callV hR (hrec hc_) cf_X11_239 (rm_le (by omega) (by decide)) [0] rfl rfl rfl 0 0 10 30 rfl rfl rfl rfl (rest := []) rfl (Nat.le_of_ble_eq_true rfl) dX11_products_2 (pc' := 5) rfl (Wn := [wX11 G q_m m_thrown m_tape m_taped m_size m_sort m_place m_value m_at_1 m_fault_1 m_words m_rows m_op_1 m_arg_1 m_codes_1 m_names m_ofFeed m_teeth m_feedWords m_goWords m_facts m_pile m_levels m_best m_losses m_lossOf m_wasThere m_groupMany m_groupRow m_groupLoss m_isMarked]) rfl ?_
  exact L5 FU _ _ _ _ _ _ hM
set_option maxHeartbeats 16000000 in
set_option maxRecDepth 100000 in
theorem k_X11_sums {l : Launch} {G : GG} {q_m : Nat → Nat} {m_thrown m_taped m_size m_at m_fault m_codes m_ofFeed m_teeth m_levels m_groupMany : Int32} {m_tape m_sort m_place m_rows m_op m_arg m_feedWords m_goWords m_facts m_pile m_best m_losses m_lossOf m_wasThere m_groupRow m_groupLoss m_isMarked : Nat → Int32} {m_value m_words m_names : Nat → Int64} {l1 : Int32} {o_m_at : Int32} {o_m_fault : Int32} {o_m_op : Nat → Int32} {o_m_arg : Nat → Int32} {o_m_codes : Int32} {n : Nat} (hrec : HR_X11_takePart l G n) (hM : f_X11_sums (f_X11_takePart n) m_sort m_place m_value m_words m_ofFeed m_feedWords m_goWords m_at m_fault m_op m_arg m_codes l1 = some (o_m_at, o_m_fault, o_m_op, o_m_arg, o_m_codes)) : MC l G yX11_sums cX11_sums 3 none (RM (6 * n + 12)) [.ref (q_m 0), .int l1] [wX11 G q_m m_thrown m_tape m_taped m_size m_sort m_place m_value m_at m_fault m_words m_rows m_op m_arg m_codes m_names m_ofFeed m_teeth m_feedWords m_goWords m_facts m_pile m_levels m_best m_losses m_lossOf m_wasThere m_groupMany m_groupRow m_groupLoss m_isMarked] none [wX11 G q_m m_thrown m_tape m_taped m_size m_sort m_place m_value o_m_at o_m_fault m_words m_rows o_m_op o_m_arg o_m_codes m_names m_ofFeed m_teeth m_feedWords m_goWords m_facts m_pile m_levels m_best m_losses m_lossOf m_wasThere m_groupMany m_groupRow m_groupLoss m_isMarked] := by
  refine MC.of pn_X11 (Nat.le_of_ble_eq_true rfl) (fun K hR hret => ?_)
  have hR : Rl l G RX11 cX11_sums 3 (RM (6 * n + 12)) K := hR
  show K [wX11 G q_m m_thrown m_tape m_taped m_size m_sort m_place m_value m_at m_fault m_words m_rows m_op m_arg m_codes m_names m_ofFeed m_teeth m_feedWords m_goWords m_facts m_pile m_levels m_best m_losses m_lossOf m_wasThere m_groupMany m_groupRow m_groupLoss m_isMarked] [(0, .ref (q_m 0)), (1, .int l1)] 0 []
  have L5 : ∀ (n5 : Nat) (m_at : Int32) (m_fault : Int32) (m_op : Nat → Int32) (m_arg : Nat → Int32) (m_codes : Int32) (l1 : Int32), f_X11_sums_L5 (f_X11_takePart n) m_sort m_place m_value m_words m_ofFeed m_feedWords m_goWords n5 m_at m_fault m_op m_arg m_codes l1 = some (o_m_at, o_m_fault, o_m_op, o_m_arg, o_m_codes) → K [wX11 G q_m m_thrown m_tape m_taped m_size m_sort m_place m_value m_at m_fault m_words m_rows m_op m_arg m_codes m_names m_ofFeed m_teeth m_feedWords m_goWords m_facts m_pile m_levels m_best m_losses m_lossOf m_wasThere m_groupMany m_groupRow m_groupLoss m_isMarked] [(0, .ref (q_m 0)), (1, .int l1)] 5 [] := by
    intro n5
    induction n5 with
    | zero => intro m_at m_fault m_op m_arg m_codes l1 hM; exact no_some hM
    | succ n5 ih5 =>
      have J55 : ∀ (m_at : Int32) (m_fault : Int32) (m_op : Nat → Int32) (m_arg : Nat → Int32) (m_codes : Int32) (l1 : Int32) (s0 : Int32), f_X11_sums_B55 (f_X11_takePart n) (f_X11_sums_L5 (f_X11_takePart n) m_sort m_place m_value m_words m_ofFeed m_feedWords m_goWords n5) m_sort m_place m_value m_words m_ofFeed m_feedWords m_goWords m_at m_fault m_op m_arg m_codes l1 s0 = some (o_m_at, o_m_fault, o_m_op, o_m_arg, o_m_codes) → K [wX11 G q_m m_thrown m_tape m_taped m_size m_sort m_place m_value m_at m_fault m_words m_rows m_op m_arg m_codes m_names m_ofFeed m_teeth m_feedWords m_goWords m_facts m_pile m_levels m_best m_losses m_lossOf m_wasThere m_groupMany m_groupRow m_groupLoss m_isMarked] [(0, .ref (q_m 0)), (1, .int l1)] 55 [.int s0, .ref (q_m 0)] := by
        intro m_at m_fault m_op m_arg m_codes l1 s0 hM
        refine st_iconst hR dX11_sums_55 (v := 0) rfl (pc' := 56) rfl ?_
        obtain ⟨⟨m_op_1, m_arg_1, m_codes_1⟩, hc_, hM⟩ := bd_e hM
        refine st_callV hR (k_X11_emit hc_) cf_X11_224 (rm_le (by omega) (by decide)) [0] rfl rfl rfl 0 0 10 30 rfl rfl rfl rfl (rest := []) rfl (Nat.le_of_ble_eq_true rfl) dX11_sums_56 (pc' := 59) rfl (Wn := [wX11 G q_m m_thrown m_tape m_taped m_size m_sort m_place m_value m_at m_fault m_words m_rows m_op_1 m_arg_1 m_codes_1 m_names m_ofFeed m_teeth m_feedWords m_goWords m_facts m_pile m_levels m_best m_losses m_lossOf m_wasThere m_groupMany m_groupRow m_groupLoss m_isMarked]) rfl ?_
        refine st_goto hR dX11_sums_59 (tgt := 5) (by decide) ?_
        exact ih5 _ _ _ _ _ _ hM
      have J23 : ∀ (m_at : Int32) (m_fault : Int32) (m_op : Nat → Int32) (m_arg : Nat → Int32) (m_codes : Int32) (l1 : Int32), f_X11_sums_B23 (f_X11_takePart n) (f_X11_sums_L5 (f_X11_takePart n) m_sort m_place m_value m_words m_ofFeed m_feedWords m_goWords n5) m_sort m_place m_value m_words m_ofFeed m_feedWords m_goWords m_at m_fault m_op m_arg m_codes l1 = some (o_m_at, o_m_fault, o_m_op, o_m_arg, o_m_codes) → K [wX11 G q_m m_thrown m_tape m_taped m_size m_sort m_place m_value m_at m_fault m_words m_rows m_op m_arg m_codes m_names m_ofFeed m_teeth m_feedWords m_goWords m_facts m_pile m_levels m_best m_losses m_lossOf m_wasThere m_groupMany m_groupRow m_groupLoss m_isMarked] [(0, .ref (q_m 0)), (1, .int l1)] 23 [] := by
        intro m_at m_fault m_op m_arg m_codes l1 hM
        refine st_aload_n hR dX11_sums_23 0 rfl rfl (pc' := 24) rfl ?_
        refine st_bipush hR dX11_sums_24 (v := 43) rfl (pc' := 26) rfl ?_
        obtain ⟨r_1, hc_, hM⟩ := bd_e hM
        refine st_callV hR (k_X11_isSign hc_) cf_X11_147 (rm_le (by omega) (by decide)) [0] rfl rfl rfl 0 0 10 30 rfl rfl rfl rfl (rest := []) rfl (Nat.le_of_ble_eq_true rfl) dX11_sums_26 (pc' := 29) rfl (Wn := [wX11 G q_m m_thrown m_tape m_taped m_size m_sort m_place m_value m_at m_fault m_words m_rows m_op m_arg m_codes m_names m_ofFeed m_teeth m_feedWords m_goWords m_facts m_pile m_levels m_best m_losses m_lossOf m_wasThere m_groupMany m_groupRow m_groupLoss m_isMarked]) rfl ?_
        refine st_istore_n hR dX11_sums_29 rfl (Nat.le_of_ble_eq_true rfl) [1, 2, 0] (lv' := [(0, .ref (q_m 0)), (1, .int l1), (2, .int r_1)]) rfl (pc' := 30) rfl ?_
        refine st_aload_n hR dX11_sums_30 0 rfl rfl (pc' := 31) rfl ?_
        refine st_dup hR dX11_sums_31 (pc' := 32) rfl rfl ?_
        refine st_get hR dX11_sums_32 fg_X11_141_10_7 0 0 rfl rfl rfl (pc' := 35) rfl ?_
        refine st_iconst hR dX11_sums_35 (v := 1) rfl (pc' := 36) rfl ?_
        refine st_iadd hR dX11_sums_36 (pc' := 37) rfl ?_
        refine st_topi (fun m_at_1 e_ => ?_)
        have hM := lt_e e_ hM
        refine st_put hR dX11_sums_37 fp_X11_141_10_7 0 0 rfl rfl (Nat.le_of_ble_eq_true rfl) rfl rfl (pc' := 40) rfl (W' := [wX11 G q_m m_thrown m_tape m_taped m_size m_sort m_place m_value m_at_1 m_fault m_words m_rows m_op m_arg m_codes m_names m_ofFeed m_teeth m_feedWords m_goWords m_facts m_pile m_levels m_best m_losses m_lossOf m_wasThere m_groupMany m_groupRow m_groupLoss m_isMarked]) rfl ?_
        refine st_aload_n hR dX11_sums_40 0 rfl rfl (pc' := 41) rfl ?_
        refine st_iload_n hR dX11_sums_41 1 rfl rfl (pc' := 42) rfl ?_
        obtain ⟨⟨m_at_2, m_fault_1, m_op_1, m_arg_1, m_codes_1⟩, hc_, hM⟩ := bd_e hM
        refine st_callV hR (k_X11_products hrec hc_) cf_X11_236 (rm_le (by omega) (by decide)) [0] rfl rfl rfl 0 0 10 30 rfl rfl rfl rfl (rest := []) rfl (Nat.le_of_ble_eq_true rfl) dX11_sums_42 (pc' := 45) rfl (Wn := [wX11 G q_m m_thrown m_tape m_taped m_size m_sort m_place m_value m_at_2 m_fault_1 m_words m_rows m_op_1 m_arg_1 m_codes_1 m_names m_ofFeed m_teeth m_feedWords m_goWords m_facts m_pile m_levels m_best m_losses m_lossOf m_wasThere m_groupMany m_groupRow m_groupLoss m_isMarked]) rfl ?_
        refine st_aload_n hR dX11_sums_45 0 rfl rfl (pc' := 46) rfl ?_
        refine st_iload_n hR dX11_sums_46 2 rfl rfl (pc' := 47) rfl ?_
        refine st_if_eq hR dX11_sums_47 (tgt := 54) (by decide) (pc' := 50) rfl (fun c_ => ?_) (fun c_ => ?_)
        · have hM := it_t c_ hM
          refine st_iconst hR dX11_sums_54 (v := 5) rfl (pc' := 55) rfl ?_
          exact st_lv hR [0, 1] rfl (J55 _ _ _ _ _ _ _ hM)
        · have hM := it_f c_ hM
          refine st_iconst hR dX11_sums_50 (v := 4) rfl (pc' := 51) rfl ?_
          refine st_goto hR dX11_sums_51 (tgt := 55) (by decide) ?_
          exact st_lv hR [0, 1] rfl (J55 _ _ _ _ _ _ _ hM)
      intro m_at m_fault m_op m_arg m_codes l1 hM
      have hM : f_X11_sums_L5b (f_X11_takePart n) (f_X11_sums_L5 (f_X11_takePart n) m_sort m_place m_value m_words m_ofFeed m_feedWords m_goWords n5) m_sort m_place m_value m_words m_ofFeed m_feedWords m_goWords m_at m_fault m_op m_arg m_codes l1 = some (o_m_at, o_m_fault, o_m_op, o_m_arg, o_m_codes) := hM
      refine st_aload_n hR dX11_sums_5 0 rfl rfl (pc' := 6) rfl ?_
      refine st_bipush hR dX11_sums_6 (v := 43) rfl (pc' := 8) rfl ?_
      obtain ⟨r_1, hc_, hM⟩ := bd_e hM
      refine st_callV hR (k_X11_isSign hc_) cf_X11_147 (rm_le (by omega) (by decide)) [0] rfl rfl rfl 0 0 10 30 rfl rfl rfl rfl (rest := []) rfl (Nat.le_of_ble_eq_true rfl) dX11_sums_8 (pc' := 11) rfl (Wn := [wX11 G q_m m_thrown m_tape m_taped m_size m_sort m_place m_value m_at m_fault m_words m_rows m_op m_arg m_codes m_names m_ofFeed m_teeth m_feedWords m_goWords m_facts m_pile m_levels m_best m_losses m_lossOf m_wasThere m_groupMany m_groupRow m_groupLoss m_isMarked]) rfl ?_
      refine st_if_ne hR dX11_sums_11 (tgt := 23) (by decide) (pc' := 14) rfl (fun c_ => ?_) (fun c_ => ?_)
      · have hM := it_f c_ hM
        exact J23 _ _ _ _ _ _ hM
      · have hM := it_t c_ hM
        refine st_aload_n hR dX11_sums_14 0 rfl rfl (pc' := 15) rfl ?_
        refine st_bipush hR dX11_sums_15 (v := 45) rfl (pc' := 17) rfl ?_
        obtain ⟨r_2, hc_, hM⟩ := bd_e hM
        refine st_callV hR (k_X11_isSign hc_) cf_X11_147 (rm_le (by omega) (by decide)) [0] rfl rfl rfl 0 0 10 30 rfl rfl rfl rfl (rest := []) rfl (Nat.le_of_ble_eq_true rfl) dX11_sums_17 (pc' := 20) rfl (Wn := [wX11 G q_m m_thrown m_tape m_taped m_size m_sort m_place m_value m_at m_fault m_words m_rows m_op m_arg m_codes m_names m_ofFeed m_teeth m_feedWords m_goWords m_facts m_pile m_levels m_best m_losses m_lossOf m_wasThere m_groupMany m_groupRow m_groupLoss m_isMarked]) rfl ?_
        refine st_if_eq hR dX11_sums_20 (tgt := 62) (by decide) (pc' := 23) rfl (fun c_ => ?_) (fun c_ => ?_)
        · have hM := it_t c_ hM
          cases hM
          exact hret _ _ dX11_sums_62 ro_v
        · have hM := it_f c_ hM
          exact J23 _ _ _ _ _ _ hM
  refine st_aload_n hR dX11_sums_0 0 rfl rfl (pc' := 1) rfl ?_
  refine st_iload_n hR dX11_sums_1 1 rfl rfl (pc' := 2) rfl ?_
  obtain ⟨⟨m_at_1, m_fault_1, m_op_1, m_arg_1, m_codes_1⟩, hc_, hM⟩ := bd_e hM
  refine st_callV hR (k_X11_products hrec hc_) cf_X11_236 (rm_le (by omega) (by decide)) [0] rfl rfl rfl 0 0 10 30 rfl rfl rfl rfl (rest := []) rfl (Nat.le_of_ble_eq_true rfl) dX11_sums_2 (pc' := 5) rfl (Wn := [wX11 G q_m m_thrown m_tape m_taped m_size m_sort m_place m_value m_at_1 m_fault_1 m_words m_rows m_op_1 m_arg_1 m_codes_1 m_names m_ofFeed m_teeth m_feedWords m_goWords m_facts m_pile m_levels m_best m_losses m_lossOf m_wasThere m_groupMany m_groupRow m_groupLoss m_isMarked]) rfl ?_
  exact L5 FU _ _ _ _ _ _ hM
set_option maxHeartbeats 16000000 in
set_option maxRecDepth 100000 in
theorem k_X11_test {l : Launch} {G : GG} {q_m : Nat → Nat} {m_thrown m_taped m_size m_at m_fault m_codes m_ofFeed m_teeth m_levels m_groupMany : Int32} {m_tape m_sort m_place m_rows m_op m_arg m_feedWords m_goWords m_facts m_pile m_best m_losses m_lossOf m_wasThere m_groupRow m_groupLoss m_isMarked : Nat → Int32} {m_value m_words m_names : Nat → Int64} {l1 : Int32} {o_m_at : Int32} {o_m_fault : Int32} {o_m_op : Nat → Int32} {o_m_arg : Nat → Int32} {o_m_codes : Int32} {n : Nat} (hrec : HR_X11_takePart l G n) (hM : f_X11_test (f_X11_takePart n) m_sort m_place m_value m_words m_ofFeed m_feedWords m_goWords m_at m_fault m_op m_arg m_codes l1 = some (o_m_at, o_m_fault, o_m_op, o_m_arg, o_m_codes)) : MC l G yX11_test cX11_test 3 none (RM (6 * n + 13)) [.ref (q_m 0), .int l1] [wX11 G q_m m_thrown m_tape m_taped m_size m_sort m_place m_value m_at m_fault m_words m_rows m_op m_arg m_codes m_names m_ofFeed m_teeth m_feedWords m_goWords m_facts m_pile m_levels m_best m_losses m_lossOf m_wasThere m_groupMany m_groupRow m_groupLoss m_isMarked] none [wX11 G q_m m_thrown m_tape m_taped m_size m_sort m_place m_value o_m_at o_m_fault m_words m_rows o_m_op o_m_arg o_m_codes m_names m_ofFeed m_teeth m_feedWords m_goWords m_facts m_pile m_levels m_best m_losses m_lossOf m_wasThere m_groupMany m_groupRow m_groupLoss m_isMarked] := by
  refine MC.of pn_X11 (Nat.le_of_ble_eq_true rfl) (fun K hR hret => ?_)
  have hR : Rl l G RX11 cX11_test 3 (RM (6 * n + 13)) K := hR
  show K [wX11 G q_m m_thrown m_tape m_taped m_size m_sort m_place m_value m_at m_fault m_words m_rows m_op m_arg m_codes m_names m_ofFeed m_teeth m_feedWords m_goWords m_facts m_pile m_levels m_best m_losses m_lossOf m_wasThere m_groupMany m_groupRow m_groupLoss m_isMarked] [(0, .ref (q_m 0)), (1, .int l1)] 0 []
  have J47 : ∀ (m_at : Int32) (m_fault : Int32) (m_op : Nat → Int32) (m_arg : Nat → Int32) (m_codes : Int32) (s0 : Int32), f_X11_test_B47 (f_X11_takePart n) m_sort m_place m_value m_words m_ofFeed m_feedWords m_goWords m_at m_fault m_op m_arg m_codes s0 = some (o_m_at, o_m_fault, o_m_op, o_m_arg, o_m_codes) → K [wX11 G q_m m_thrown m_tape m_taped m_size m_sort m_place m_value m_at m_fault m_words m_rows m_op m_arg m_codes m_names m_ofFeed m_teeth m_feedWords m_goWords m_facts m_pile m_levels m_best m_losses m_lossOf m_wasThere m_groupMany m_groupRow m_groupLoss m_isMarked] [] 47 [.int s0, .ref (q_m 0)] := by
    intro m_at m_fault m_op m_arg m_codes s0 hM
    refine st_iconst hR dX11_test_47 (v := 0) rfl (pc' := 48) rfl ?_
    obtain ⟨⟨m_op_1, m_arg_1, m_codes_1⟩, hc_, hM⟩ := bd_e hM
    refine st_callV hR (k_X11_emit hc_) cf_X11_224 (rm_le (by omega) (by decide)) [0] rfl rfl rfl 0 0 10 30 rfl rfl rfl rfl (rest := []) rfl (Nat.le_of_ble_eq_true rfl) dX11_test_48 (pc' := 51) rfl (Wn := [wX11 G q_m m_thrown m_tape m_taped m_size m_sort m_place m_value m_at m_fault m_words m_rows m_op_1 m_arg_1 m_codes_1 m_names m_ofFeed m_teeth m_feedWords m_goWords m_facts m_pile m_levels m_best m_losses m_lossOf m_wasThere m_groupMany m_groupRow m_groupLoss m_isMarked]) rfl ?_
    cases hM
    exact hret _ _ dX11_test_51 ro_v
  have J30 : ∀ (m_at : Int32) (m_fault : Int32) (m_op : Nat → Int32) (m_arg : Nat → Int32) (m_codes : Int32) (l1 : Int32) (l2 : Int32), f_X11_test_B30 (f_X11_takePart n) m_sort m_place m_value m_words m_ofFeed m_feedWords m_goWords m_at m_fault m_op m_arg m_codes l1 l2 = some (o_m_at, o_m_fault, o_m_op, o_m_arg, o_m_codes) → K [wX11 G q_m m_thrown m_tape m_taped m_size m_sort m_place m_value m_at m_fault m_words m_rows m_op m_arg m_codes m_names m_ofFeed m_teeth m_feedWords m_goWords m_facts m_pile m_levels m_best m_losses m_lossOf m_wasThere m_groupMany m_groupRow m_groupLoss m_isMarked] [(0, .ref (q_m 0)), (1, .int l1), (2, .int l2)] 30 [] := by
    intro m_at m_fault m_op m_arg m_codes l1 l2 hM
    refine st_aload_n hR dX11_test_30 0 rfl rfl (pc' := 31) rfl ?_
    refine st_iload_n hR dX11_test_31 1 rfl rfl (pc' := 32) rfl ?_
    obtain ⟨⟨m_at_1, m_fault_1, m_op_1, m_arg_1, m_codes_1⟩, hc_, hM⟩ := bd_e hM
    refine st_callV hR (k_X11_sums hrec hc_) cf_X11_230 (rm_le (by omega) (by decide)) [0] rfl rfl rfl 0 0 10 30 rfl rfl rfl rfl (rest := []) rfl (Nat.le_of_ble_eq_true rfl) dX11_test_32 (pc' := 35) rfl (Wn := [wX11 G q_m m_thrown m_tape m_taped m_size m_sort m_place m_value m_at_1 m_fault_1 m_words m_rows m_op_1 m_arg_1 m_codes_1 m_names m_ofFeed m_teeth m_feedWords m_goWords m_facts m_pile m_levels m_best m_losses m_lossOf m_wasThere m_groupMany m_groupRow m_groupLoss m_isMarked]) rfl ?_
    refine st_aload_n hR dX11_test_35 0 rfl rfl (pc' := 36) rfl ?_
    refine st_iload_n hR dX11_test_36 2 rfl rfl (pc' := 37) rfl ?_
    refine st_if_eq hR dX11_test_37 (tgt := 45) (by decide) (pc' := 40) rfl (fun c_ => ?_) (fun c_ => ?_)
    · have hM := it_t c_ hM
      refine st_bipush hR dX11_test_45 (v := 8) rfl (pc' := 47) rfl ?_
      exact st_lv hR [] rfl (J47 _ _ _ _ _ _ hM)
    · have hM := it_f c_ hM
      refine st_bipush hR dX11_test_40 (v := 7) rfl (pc' := 42) rfl ?_
      refine st_goto hR dX11_test_42 (tgt := 47) (by decide) ?_
      exact st_lv hR [] rfl (J47 _ _ _ _ _ _ hM)
  refine st_aload_n hR dX11_test_0 0 rfl rfl (pc' := 1) rfl ?_
  refine st_iload_n hR dX11_test_1 1 rfl rfl (pc' := 2) rfl ?_
  obtain ⟨⟨m_at_1, m_fault_1, m_op_1, m_arg_1, m_codes_1⟩, hc_, hM⟩ := bd_e hM
  refine st_callV hR (k_X11_sums hrec hc_) cf_X11_230 (rm_le (by omega) (by decide)) [0] rfl rfl rfl 0 0 10 30 rfl rfl rfl rfl (rest := []) rfl (Nat.le_of_ble_eq_true rfl) dX11_test_2 (pc' := 5) rfl (Wn := [wX11 G q_m m_thrown m_tape m_taped m_size m_sort m_place m_value m_at_1 m_fault_1 m_words m_rows m_op_1 m_arg_1 m_codes_1 m_names m_ofFeed m_teeth m_feedWords m_goWords m_facts m_pile m_levels m_best m_losses m_lossOf m_wasThere m_groupMany m_groupRow m_groupLoss m_isMarked]) rfl ?_
  refine st_aload_n hR dX11_test_5 0 rfl rfl (pc' := 6) rfl ?_
  refine st_bipush hR dX11_test_6 (v := 60) rfl (pc' := 8) rfl ?_
  obtain ⟨r_1, hc_, hM⟩ := bd_e hM
  refine st_callV hR (k_X11_isSign hc_) cf_X11_147 (rm_le (by omega) (by decide)) [0] rfl rfl rfl 0 0 10 30 rfl rfl rfl rfl (rest := []) rfl (Nat.le_of_ble_eq_true rfl) dX11_test_8 (pc' := 11) rfl (Wn := [wX11 G q_m m_thrown m_tape m_taped m_size m_sort m_place m_value m_at_1 m_fault_1 m_words m_rows m_op_1 m_arg_1 m_codes_1 m_names m_ofFeed m_teeth m_feedWords m_goWords m_facts m_pile m_levels m_best m_losses m_lossOf m_wasThere m_groupMany m_groupRow m_groupLoss m_isMarked]) rfl ?_
  refine st_istore_n hR dX11_test_11 rfl (Nat.le_of_ble_eq_true rfl) [1, 2, 0] (lv' := [(0, .ref (q_m 0)), (1, .int l1), (2, .int r_1)]) rfl (pc' := 12) rfl ?_
  refine st_aload_n hR dX11_test_12 0 rfl rfl (pc' := 13) rfl ?_
  refine st_bipush hR dX11_test_13 (v := 60) rfl (pc' := 15) rfl ?_
  obtain ⟨⟨r_2, m_at_2⟩, hc_, hM⟩ := bd_e hM
  refine st_callV hR (k_X11_hasSign hc_) cf_X11_233 (rm_le (by omega) (by decide)) [0] rfl rfl rfl 0 0 10 30 rfl rfl rfl rfl (rest := []) rfl (Nat.le_of_ble_eq_true rfl) dX11_test_15 (pc' := 18) rfl (Wn := [wX11 G q_m m_thrown m_tape m_taped m_size m_sort m_place m_value m_at_2 m_fault_1 m_words m_rows m_op_1 m_arg_1 m_codes_1 m_names m_ofFeed m_teeth m_feedWords m_goWords m_facts m_pile m_levels m_best m_losses m_lossOf m_wasThere m_groupMany m_groupRow m_groupLoss m_isMarked]) rfl ?_
  refine st_if_ne hR dX11_test_18 (tgt := 30) (by decide) (pc' := 21) rfl (fun c_ => ?_) (fun c_ => ?_)
  · have hM := it_f c_ hM
    exact J30 _ _ _ _ _ _ _ hM
  · have hM := it_t c_ hM
    refine st_aload_n hR dX11_test_21 0 rfl rfl (pc' := 22) rfl ?_
    refine st_bipush hR dX11_test_22 (v := 61) rfl (pc' := 24) rfl ?_
    obtain ⟨⟨r_3, m_at_3⟩, hc_, hM⟩ := bd_e hM
    refine st_callV hR (k_X11_hasSign hc_) cf_X11_233 (rm_le (by omega) (by decide)) [0] rfl rfl rfl 0 0 10 30 rfl rfl rfl rfl (rest := []) rfl (Nat.le_of_ble_eq_true rfl) dX11_test_24 (pc' := 27) rfl (Wn := [wX11 G q_m m_thrown m_tape m_taped m_size m_sort m_place m_value m_at_3 m_fault_1 m_words m_rows m_op_1 m_arg_1 m_codes_1 m_names m_ofFeed m_teeth m_feedWords m_goWords m_facts m_pile m_levels m_best m_losses m_lossOf m_wasThere m_groupMany m_groupRow m_groupLoss m_isMarked]) rfl ?_
    refine st_if_eq hR dX11_test_27 (tgt := 51) (by decide) (pc' := 30) rfl (fun c_ => ?_) (fun c_ => ?_)
    · have hM := it_t c_ hM
      cases hM
      exact hret _ _ dX11_test_51 ro_v
    · have hM := it_f c_ hM
      exact J30 _ _ _ _ _ _ _ hM
set_option maxHeartbeats 16000000 in
set_option maxRecDepth 100000 in
theorem k_X11_all {l : Launch} {G : GG} {q_m : Nat → Nat} {m_thrown m_taped m_size m_at m_fault m_codes m_ofFeed m_teeth m_levels m_groupMany : Int32} {m_tape m_sort m_place m_rows m_op m_arg m_feedWords m_goWords m_facts m_pile m_best m_losses m_lossOf m_wasThere m_groupRow m_groupLoss m_isMarked : Nat → Int32} {m_value m_words m_names : Nat → Int64} {l1 : Int32} {o_m_at : Int32} {o_m_fault : Int32} {o_m_op : Nat → Int32} {o_m_arg : Nat → Int32} {o_m_codes : Int32} {n : Nat} (hrec : HR_X11_takePart l G n) (hM : f_X11_all (f_X11_takePart n) m_sort m_place m_value m_words m_ofFeed m_feedWords m_goWords m_at m_fault m_op m_arg m_codes l1 = some (o_m_at, o_m_fault, o_m_op, o_m_arg, o_m_codes)) : MC l G yX11_all cX11_all 3 none (RM (6 * n + 14)) [.ref (q_m 0), .int l1] [wX11 G q_m m_thrown m_tape m_taped m_size m_sort m_place m_value m_at m_fault m_words m_rows m_op m_arg m_codes m_names m_ofFeed m_teeth m_feedWords m_goWords m_facts m_pile m_levels m_best m_losses m_lossOf m_wasThere m_groupMany m_groupRow m_groupLoss m_isMarked] none [wX11 G q_m m_thrown m_tape m_taped m_size m_sort m_place m_value o_m_at o_m_fault m_words m_rows o_m_op o_m_arg o_m_codes m_names m_ofFeed m_teeth m_feedWords m_goWords m_facts m_pile m_levels m_best m_losses m_lossOf m_wasThere m_groupMany m_groupRow m_groupLoss m_isMarked] := by
  refine MC.of pn_X11 (Nat.le_of_ble_eq_true rfl) (fun K hR hret => ?_)
  have hR : Rl l G RX11 cX11_all 3 (RM (6 * n + 14)) K := hR
  show K [wX11 G q_m m_thrown m_tape m_taped m_size m_sort m_place m_value m_at m_fault m_words m_rows m_op m_arg m_codes m_names m_ofFeed m_teeth m_feedWords m_goWords m_facts m_pile m_levels m_best m_losses m_lossOf m_wasThere m_groupMany m_groupRow m_groupLoss m_isMarked] [(0, .ref (q_m 0)), (1, .int l1)] 0 []
  have L5 : ∀ (n5 : Nat) (m_at : Int32) (m_fault : Int32) (m_op : Nat → Int32) (m_arg : Nat → Int32) (m_codes : Int32) (l1 : Int32), f_X11_all_L5 (f_X11_takePart n) m_sort m_place m_value m_words m_ofFeed m_feedWords m_goWords n5 m_at m_fault m_op m_arg m_codes l1 = some (o_m_at, o_m_fault, o_m_op, o_m_arg, o_m_codes) → K [wX11 G q_m m_thrown m_tape m_taped m_size m_sort m_place m_value m_at m_fault m_words m_rows m_op m_arg m_codes m_names m_ofFeed m_teeth m_feedWords m_goWords m_facts m_pile m_levels m_best m_losses m_lossOf m_wasThere m_groupMany m_groupRow m_groupLoss m_isMarked] [(0, .ref (q_m 0)), (1, .int l1)] 5 [] := by
    intro n5
    induction n5 with
    | zero => intro m_at m_fault m_op m_arg m_codes l1 hM; exact no_some hM
    | succ n5 ih5 =>
      have J57 : ∀ (m_at : Int32) (m_fault : Int32) (m_op : Nat → Int32) (m_arg : Nat → Int32) (m_codes : Int32) (l1 : Int32) (s0 : Int32), f_X11_all_B57 (f_X11_takePart n) (f_X11_all_L5 (f_X11_takePart n) m_sort m_place m_value m_words m_ofFeed m_feedWords m_goWords n5) m_sort m_place m_value m_words m_ofFeed m_feedWords m_goWords m_at m_fault m_op m_arg m_codes l1 s0 = some (o_m_at, o_m_fault, o_m_op, o_m_arg, o_m_codes) → K [wX11 G q_m m_thrown m_tape m_taped m_size m_sort m_place m_value m_at m_fault m_words m_rows m_op m_arg m_codes m_names m_ofFeed m_teeth m_feedWords m_goWords m_facts m_pile m_levels m_best m_losses m_lossOf m_wasThere m_groupMany m_groupRow m_groupLoss m_isMarked] [(0, .ref (q_m 0)), (1, .int l1)] 57 [.int s0, .ref (q_m 0)] := by
        intro m_at m_fault m_op m_arg m_codes l1 s0 hM
        refine st_iconst hR dX11_all_57 (v := 0) rfl (pc' := 58) rfl ?_
        obtain ⟨⟨m_op_1, m_arg_1, m_codes_1⟩, hc_, hM⟩ := bd_e hM
        refine st_callV hR (k_X11_emit hc_) cf_X11_224 (rm_le (by omega) (by decide)) [0] rfl rfl rfl 0 0 10 30 rfl rfl rfl rfl (rest := []) rfl (Nat.le_of_ble_eq_true rfl) dX11_all_58 (pc' := 61) rfl (Wn := [wX11 G q_m m_thrown m_tape m_taped m_size m_sort m_place m_value m_at m_fault m_words m_rows m_op_1 m_arg_1 m_codes_1 m_names m_ofFeed m_teeth m_feedWords m_goWords m_facts m_pile m_levels m_best m_losses m_lossOf m_wasThere m_groupMany m_groupRow m_groupLoss m_isMarked]) rfl ?_
        refine st_goto hR dX11_all_61 (tgt := 5) (by decide) ?_
        exact ih5 _ _ _ _ _ _ hM
      have J23 : ∀ (m_at : Int32) (m_fault : Int32) (m_op : Nat → Int32) (m_arg : Nat → Int32) (m_codes : Int32) (l1 : Int32), f_X11_all_B23 (f_X11_takePart n) (f_X11_all_L5 (f_X11_takePart n) m_sort m_place m_value m_words m_ofFeed m_feedWords m_goWords n5) m_sort m_place m_value m_words m_ofFeed m_feedWords m_goWords m_at m_fault m_op m_arg m_codes l1 = some (o_m_at, o_m_fault, o_m_op, o_m_arg, o_m_codes) → K [wX11 G q_m m_thrown m_tape m_taped m_size m_sort m_place m_value m_at m_fault m_words m_rows m_op m_arg m_codes m_names m_ofFeed m_teeth m_feedWords m_goWords m_facts m_pile m_levels m_best m_losses m_lossOf m_wasThere m_groupMany m_groupRow m_groupLoss m_isMarked] [(0, .ref (q_m 0)), (1, .int l1)] 23 [] := by
        intro m_at m_fault m_op m_arg m_codes l1 hM
        refine st_aload_n hR dX11_all_23 0 rfl rfl (pc' := 24) rfl ?_
        refine st_bipush hR dX11_all_24 (v := 11) rfl (pc' := 26) rfl ?_
        obtain ⟨r_1, hc_, hM⟩ := bd_e hM
        refine st_callV hR (k_X11_isWord hc_) cf_X11_154 (rm_le (by omega) (by decide)) [0] rfl rfl rfl 0 0 10 30 rfl rfl rfl rfl (rest := []) rfl (Nat.le_of_ble_eq_true rfl) dX11_all_26 (pc' := 29) rfl (Wn := [wX11 G q_m m_thrown m_tape m_taped m_size m_sort m_place m_value m_at m_fault m_words m_rows m_op m_arg m_codes m_names m_ofFeed m_teeth m_feedWords m_goWords m_facts m_pile m_levels m_best m_losses m_lossOf m_wasThere m_groupMany m_groupRow m_groupLoss m_isMarked]) rfl ?_
        refine st_istore_n hR dX11_all_29 rfl (Nat.le_of_ble_eq_true rfl) [1, 2, 0] (lv' := [(0, .ref (q_m 0)), (1, .int l1), (2, .int r_1)]) rfl (pc' := 30) rfl ?_
        refine st_aload_n hR dX11_all_30 0 rfl rfl (pc' := 31) rfl ?_
        refine st_dup hR dX11_all_31 (pc' := 32) rfl rfl ?_
        refine st_get hR dX11_all_32 fg_X11_141_10_7 0 0 rfl rfl rfl (pc' := 35) rfl ?_
        refine st_iconst hR dX11_all_35 (v := 1) rfl (pc' := 36) rfl ?_
        refine st_iadd hR dX11_all_36 (pc' := 37) rfl ?_
        refine st_topi (fun m_at_1 e_ => ?_)
        have hM := lt_e e_ hM
        refine st_put hR dX11_all_37 fp_X11_141_10_7 0 0 rfl rfl (Nat.le_of_ble_eq_true rfl) rfl rfl (pc' := 40) rfl (W' := [wX11 G q_m m_thrown m_tape m_taped m_size m_sort m_place m_value m_at_1 m_fault m_words m_rows m_op m_arg m_codes m_names m_ofFeed m_teeth m_feedWords m_goWords m_facts m_pile m_levels m_best m_losses m_lossOf m_wasThere m_groupMany m_groupRow m_groupLoss m_isMarked]) rfl ?_
        refine st_aload_n hR dX11_all_40 0 rfl rfl (pc' := 41) rfl ?_
        refine st_iload_n hR dX11_all_41 1 rfl rfl (pc' := 42) rfl ?_
        obtain ⟨⟨m_at_2, m_fault_1, m_op_1, m_arg_1, m_codes_1⟩, hc_, hM⟩ := bd_e hM
        refine st_callV hR (k_X11_test hrec hc_) cf_X11_227 (rm_le (by omega) (by decide)) [0] rfl rfl rfl 0 0 10 30 rfl rfl rfl rfl (rest := []) rfl (Nat.le_of_ble_eq_true rfl) dX11_all_42 (pc' := 45) rfl (Wn := [wX11 G q_m m_thrown m_tape m_taped m_size m_sort m_place m_value m_at_2 m_fault_1 m_words m_rows m_op_1 m_arg_1 m_codes_1 m_names m_ofFeed m_teeth m_feedWords m_goWords m_facts m_pile m_levels m_best m_losses m_lossOf m_wasThere m_groupMany m_groupRow m_groupLoss m_isMarked]) rfl ?_
        refine st_aload_n hR dX11_all_45 0 rfl rfl (pc' := 46) rfl ?_
        refine st_iload_n hR dX11_all_46 2 rfl rfl (pc' := 47) rfl ?_
        refine st_if_eq hR dX11_all_47 (tgt := 55) (by decide) (pc' := 50) rfl (fun c_ => ?_) (fun c_ => ?_)
        · have hM := it_t c_ hM
          refine st_bipush hR dX11_all_55 (v := 10) rfl (pc' := 57) rfl ?_
          exact st_lv hR [0, 1] rfl (J57 _ _ _ _ _ _ _ hM)
        · have hM := it_f c_ hM
          refine st_bipush hR dX11_all_50 (v := 9) rfl (pc' := 52) rfl ?_
          refine st_goto hR dX11_all_52 (tgt := 57) (by decide) ?_
          exact st_lv hR [0, 1] rfl (J57 _ _ _ _ _ _ _ hM)
      intro m_at m_fault m_op m_arg m_codes l1 hM
      have hM : f_X11_all_L5b (f_X11_takePart n) (f_X11_all_L5 (f_X11_takePart n) m_sort m_place m_value m_words m_ofFeed m_feedWords m_goWords n5) m_sort m_place m_value m_words m_ofFeed m_feedWords m_goWords m_at m_fault m_op m_arg m_codes l1 = some (o_m_at, o_m_fault, o_m_op, o_m_arg, o_m_codes) := hM
      refine st_aload_n hR dX11_all_5 0 rfl rfl (pc' := 6) rfl ?_
      refine st_bipush hR dX11_all_6 (v := 11) rfl (pc' := 8) rfl ?_
      obtain ⟨r_1, hc_, hM⟩ := bd_e hM
      refine st_callV hR (k_X11_isWord hc_) cf_X11_154 (rm_le (by omega) (by decide)) [0] rfl rfl rfl 0 0 10 30 rfl rfl rfl rfl (rest := []) rfl (Nat.le_of_ble_eq_true rfl) dX11_all_8 (pc' := 11) rfl (Wn := [wX11 G q_m m_thrown m_tape m_taped m_size m_sort m_place m_value m_at m_fault m_words m_rows m_op m_arg m_codes m_names m_ofFeed m_teeth m_feedWords m_goWords m_facts m_pile m_levels m_best m_losses m_lossOf m_wasThere m_groupMany m_groupRow m_groupLoss m_isMarked]) rfl ?_
      refine st_if_ne hR dX11_all_11 (tgt := 23) (by decide) (pc' := 14) rfl (fun c_ => ?_) (fun c_ => ?_)
      · have hM := it_f c_ hM
        exact J23 _ _ _ _ _ _ hM
      · have hM := it_t c_ hM
        refine st_aload_n hR dX11_all_14 0 rfl rfl (pc' := 15) rfl ?_
        refine st_bipush hR dX11_all_15 (v := 12) rfl (pc' := 17) rfl ?_
        obtain ⟨r_2, hc_, hM⟩ := bd_e hM
        refine st_callV hR (k_X11_isWord hc_) cf_X11_154 (rm_le (by omega) (by decide)) [0] rfl rfl rfl 0 0 10 30 rfl rfl rfl rfl (rest := []) rfl (Nat.le_of_ble_eq_true rfl) dX11_all_17 (pc' := 20) rfl (Wn := [wX11 G q_m m_thrown m_tape m_taped m_size m_sort m_place m_value m_at m_fault m_words m_rows m_op m_arg m_codes m_names m_ofFeed m_teeth m_feedWords m_goWords m_facts m_pile m_levels m_best m_losses m_lossOf m_wasThere m_groupMany m_groupRow m_groupLoss m_isMarked]) rfl ?_
        refine st_if_eq hR dX11_all_20 (tgt := 64) (by decide) (pc' := 23) rfl (fun c_ => ?_) (fun c_ => ?_)
        · have hM := it_t c_ hM
          cases hM
          exact hret _ _ dX11_all_64 ro_v
        · have hM := it_f c_ hM
          exact J23 _ _ _ _ _ _ hM
  refine st_aload_n hR dX11_all_0 0 rfl rfl (pc' := 1) rfl ?_
  refine st_iload_n hR dX11_all_1 1 rfl rfl (pc' := 2) rfl ?_
  obtain ⟨⟨m_at_1, m_fault_1, m_op_1, m_arg_1, m_codes_1⟩, hc_, hM⟩ := bd_e hM
  refine st_callV hR (k_X11_test hrec hc_) cf_X11_227 (rm_le (by omega) (by decide)) [0] rfl rfl rfl 0 0 10 30 rfl rfl rfl rfl (rest := []) rfl (Nat.le_of_ble_eq_true rfl) dX11_all_2 (pc' := 5) rfl (Wn := [wX11 G q_m m_thrown m_tape m_taped m_size m_sort m_place m_value m_at_1 m_fault_1 m_words m_rows m_op_1 m_arg_1 m_codes_1 m_names m_ofFeed m_teeth m_feedWords m_goWords m_facts m_pile m_levels m_best m_losses m_lossOf m_wasThere m_groupMany m_groupRow m_groupLoss m_isMarked]) rfl ?_
  exact L5 FU _ _ _ _ _ _ hM
set_option maxHeartbeats 16000000 in
set_option maxRecDepth 100000 in
theorem k_X11_takePart_s {l : Launch} {G : GG} {q_m : Nat → Nat} {m_thrown m_taped m_size m_at m_fault m_codes m_ofFeed m_teeth m_levels m_groupMany : Int32} {m_tape m_sort m_place m_rows m_op m_arg m_feedWords m_goWords m_facts m_pile m_best m_losses m_lossOf m_wasThere m_groupRow m_groupLoss m_isMarked : Nat → Int32} {m_value m_words m_names : Nat → Int64} {l1 : Int32} {o_m_at : Int32} {o_m_fault : Int32} {o_m_op : Nat → Int32} {o_m_arg : Nat → Int32} {o_m_codes : Int32} {n : Nat} (hrec : HR_X11_takePart l G n) (hM : f_X11_takePart_b (f_X11_takePart n) m_sort m_place m_value m_words m_ofFeed m_feedWords m_goWords m_at m_fault m_op m_arg m_codes l1 = some (o_m_at, o_m_fault, o_m_op, o_m_arg, o_m_codes)) : MC l G yX11_takePart cX11_takePart 4 none (RM (6 * n + 16)) [.ref (q_m 0), .int l1] [wX11 G q_m m_thrown m_tape m_taped m_size m_sort m_place m_value m_at m_fault m_words m_rows m_op m_arg m_codes m_names m_ofFeed m_teeth m_feedWords m_goWords m_facts m_pile m_levels m_best m_losses m_lossOf m_wasThere m_groupMany m_groupRow m_groupLoss m_isMarked] none [wX11 G q_m m_thrown m_tape m_taped m_size m_sort m_place m_value o_m_at o_m_fault m_words m_rows o_m_op o_m_arg o_m_codes m_names m_ofFeed m_teeth m_feedWords m_goWords m_facts m_pile m_levels m_best m_losses m_lossOf m_wasThere m_groupMany m_groupRow m_groupLoss m_isMarked] := by
  refine MC.of pn_X11 (Nat.le_of_ble_eq_true rfl) (fun K hR hret => ?_)
  have hR : Rl l G RX11 cX11_takePart 4 (RM (6 * n + 16)) K := hR
  show K [wX11 G q_m m_thrown m_tape m_taped m_size m_sort m_place m_value m_at m_fault m_words m_rows m_op m_arg m_codes m_names m_ofFeed m_teeth m_feedWords m_goWords m_facts m_pile m_levels m_best m_losses m_lossOf m_wasThere m_groupMany m_groupRow m_groupLoss m_isMarked] [(0, .ref (q_m 0)), (1, .int l1)] 0 []
  have J162 : ∀ (m_at : Int32) (m_fault : Int32) (m_op : Nat → Int32) (m_arg : Nat → Int32) (m_codes : Int32) (s0 : Int32) (s1 : Int32), f_X11_takePart_B162 (f_X11_takePart n) m_sort m_place m_value m_words m_ofFeed m_feedWords m_goWords m_at m_fault m_op m_arg m_codes s0 s1 = some (o_m_at, o_m_fault, o_m_op, o_m_arg, o_m_codes) → K [wX11 G q_m m_thrown m_tape m_taped m_size m_sort m_place m_value m_at m_fault m_words m_rows m_op m_arg m_codes m_names m_ofFeed m_teeth m_feedWords m_goWords m_facts m_pile m_levels m_best m_losses m_lossOf m_wasThere m_groupMany m_groupRow m_groupLoss m_isMarked] [(0, .ref (q_m 0))] 162 [.int s0, .int s1, .ref (q_m 0)] := by
    intro m_at m_fault m_op m_arg m_codes s0 s1 hM
    obtain ⟨⟨m_op_1, m_arg_1, m_codes_1⟩, hc_, hM⟩ := bd_e hM
    refine st_callV hR (k_X11_emit hc_) cf_X11_224 (rm_le (by omega) (by decide)) [0] rfl rfl rfl 0 0 10 30 rfl rfl rfl rfl (rest := []) rfl (Nat.le_of_ble_eq_true rfl) dX11_takePart_162 (pc' := 165) rfl (Wn := [wX11 G q_m m_thrown m_tape m_taped m_size m_sort m_place m_value m_at m_fault m_words m_rows m_op_1 m_arg_1 m_codes_1 m_names m_ofFeed m_teeth m_feedWords m_goWords m_facts m_pile m_levels m_best m_losses m_lossOf m_wasThere m_groupMany m_groupRow m_groupLoss m_isMarked]) rfl ?_
    refine st_aload_n hR dX11_takePart_165 0 rfl rfl (pc' := 166) rfl ?_
    refine st_dup hR dX11_takePart_166 (pc' := 167) rfl rfl ?_
    refine st_get hR dX11_takePart_167 fg_X11_141_10_7 0 0 rfl rfl rfl (pc' := 170) rfl ?_
    refine st_iconst hR dX11_takePart_170 (v := 1) rfl (pc' := 171) rfl ?_
    refine st_iadd hR dX11_takePart_171 (pc' := 172) rfl ?_
    refine st_topi (fun m_at_1 e_ => ?_)
    have hM := lt_e e_ hM
    refine st_put hR dX11_takePart_172 fp_X11_141_10_7 0 0 rfl rfl (Nat.le_of_ble_eq_true rfl) rfl rfl (pc' := 175) rfl (W' := [wX11 G q_m m_thrown m_tape m_taped m_size m_sort m_place m_value m_at_1 m_fault m_words m_rows m_op_1 m_arg_1 m_codes_1 m_names m_ofFeed m_teeth m_feedWords m_goWords m_facts m_pile m_levels m_best m_losses m_lossOf m_wasThere m_groupMany m_groupRow m_groupLoss m_isMarked]) rfl ?_
    cases hM
    exact hret _ _ dX11_takePart_175 ro_v
  have J144 : ∀ (m_at : Int32) (m_fault : Int32) (m_op : Nat → Int32) (m_arg : Nat → Int32) (m_codes : Int32) (l2 : Int32) (l3 : Int32) (s0 : Int32), f_X11_takePart_B144 (f_X11_takePart n) m_sort m_place m_value m_words m_ofFeed m_feedWords m_goWords m_at m_fault m_op m_arg m_codes l2 l3 s0 = some (o_m_at, o_m_fault, o_m_op, o_m_arg, o_m_codes) → K [wX11 G q_m m_thrown m_tape m_taped m_size m_sort m_place m_value m_at m_fault m_words m_rows m_op m_arg m_codes m_names m_ofFeed m_teeth m_feedWords m_goWords m_facts m_pile m_levels m_best m_losses m_lossOf m_wasThere m_groupMany m_groupRow m_groupLoss m_isMarked] [(0, .ref (q_m 0)), (2, .int l2), (3, .int l3)] 144 [.int s0, .ref (q_m 0)] := by
    intro m_at m_fault m_op m_arg m_codes l2 l3 s0 hM
    refine st_iload_n hR dX11_takePart_144 1 rfl rfl (pc' := 145) rfl ?_
    refine st_if_eq hR dX11_takePart_145 (tgt := 161) (by decide) (pc' := 148) rfl (fun c_ => ?_) (fun c_ => ?_)
    · have hM := it_t c_ hM
      refine st_iload_n hR dX11_takePart_161 2 rfl rfl (pc' := 162) rfl ?_
      exact st_lv hR [0] rfl (J162 _ _ _ _ _ _ _ hM)
    · have hM := it_f c_ hM
      refine st_aload_n hR dX11_takePart_148 0 rfl rfl (pc' := 149) rfl ?_
      refine st_get hR dX11_takePart_149 fg_X11_30_10_6 0 0 rfl rfl rfl (pc' := 152) rfl ?_
      refine st_aload_n hR dX11_takePart_152 0 rfl rfl (pc' := 153) rfl ?_
      refine st_get hR dX11_takePart_153 fg_X11_141_10_7 0 0 rfl rfl rfl (pc' := 156) rfl ?_
      obtain ⟨hin_, hM⟩ := g_in_e hM
      refine st_lald hR dX11_takePart_156 0 4 rfl rfl hin_ (v := m_value (ix m_at)) rfl (pc' := 157) rfl ?_
      refine st_l2i hR dX11_takePart_157 (pc' := 158) rfl ?_
      refine st_goto hR dX11_takePart_158 (tgt := 162) (by decide) ?_
      exact st_lv hR [0] rfl (J162 _ _ _ _ _ _ _ hM)
  have J76 : ∀ (m_at : Int32) (m_fault : Int32) (m_op : Nat → Int32) (m_arg : Nat → Int32) (m_codes : Int32) (l1 : Int32) (l2 : Int32) (l3 : Int32), f_X11_takePart_B76 (f_X11_takePart n) m_sort m_place m_value m_words m_ofFeed m_feedWords m_goWords m_at m_fault m_op m_arg m_codes l1 l2 l3 = some (o_m_at, o_m_fault, o_m_op, o_m_arg, o_m_codes) → K [wX11 G q_m m_thrown m_tape m_taped m_size m_sort m_place m_value m_at m_fault m_words m_rows m_op m_arg m_codes m_names m_ofFeed m_teeth m_feedWords m_goWords m_facts m_pile m_levels m_best m_losses m_lossOf m_wasThere m_groupMany m_groupRow m_groupLoss m_isMarked] [(0, .ref (q_m 0)), (1, .int l1), (2, .int l2), (3, .int l3)] 76 [] := by
    intro m_at m_fault m_op m_arg m_codes l1 l2 l3 hM
    refine st_aload_n hR dX11_takePart_76 0 rfl rfl (pc' := 77) rfl ?_
    refine st_get hR dX11_takePart_77 fg_X11_144_10_8 0 0 rfl rfl rfl (pc' := 80) rfl ?_
    refine st_if_le hR dX11_takePart_80 (tgt := 84) (by decide) (pc' := 83) rfl (fun c_ => ?_) (fun c_ => ?_)
    · have hM := it_t c_ hM
      refine st_aload_n hR dX11_takePart_84 0 rfl rfl (pc' := 85) rfl ?_
      refine st_bipush hR dX11_takePart_85 (v := 10) rfl (pc' := 87) rfl ?_
      obtain ⟨⟨r_1, m_at_1⟩, hc_, hM⟩ := bd_e hM
      refine st_callV hR (k_X11_hasWord hc_) cf_X11_157 (rm_le (by omega) (by decide)) [0] rfl rfl rfl 0 0 10 30 rfl rfl rfl rfl (rest := []) rfl (Nat.le_of_ble_eq_true rfl) dX11_takePart_87 (pc' := 90) rfl (Wn := [wX11 G q_m m_thrown m_tape m_taped m_size m_sort m_place m_value m_at_1 m_fault m_words m_rows m_op m_arg m_codes m_names m_ofFeed m_teeth m_feedWords m_goWords m_facts m_pile m_levels m_best m_losses m_lossOf m_wasThere m_groupMany m_groupRow m_groupLoss m_isMarked]) rfl ?_
      refine st_if_eq hR dX11_takePart_90 (tgt := 109) (by decide) (pc' := 93) rfl (fun c_ => ?_) (fun c_ => ?_)
      · have hM := it_t c_ hM
        refine st_aload_n hR dX11_takePart_109 0 rfl rfl (pc' := 110) rfl ?_
        refine st_bipush hR dX11_takePart_110 (v := 40) rfl (pc' := 112) rfl ?_
        obtain ⟨⟨r_2, m_at_2⟩, hc_, hM⟩ := bd_e hM
        refine st_callV hR (k_X11_hasSign hc_) cf_X11_233 (rm_le (by omega) (by decide)) [0] rfl rfl rfl 0 0 10 30 rfl rfl rfl rfl (rest := []) rfl (Nat.le_of_ble_eq_true rfl) dX11_takePart_112 (pc' := 115) rfl (Wn := [wX11 G q_m m_thrown m_tape m_taped m_size m_sort m_place m_value m_at_2 m_fault m_words m_rows m_op m_arg m_codes m_names m_ofFeed m_teeth m_feedWords m_goWords m_facts m_pile m_levels m_best m_losses m_lossOf m_wasThere m_groupMany m_groupRow m_groupLoss m_isMarked]) rfl ?_
        refine st_if_eq hR dX11_takePart_115 (tgt := 134) (by decide) (pc' := 118) rfl (fun c_ => ?_) (fun c_ => ?_)
        · have hM := it_t c_ hM
          refine st_aload_n hR dX11_takePart_134 0 rfl rfl (pc' := 135) rfl ?_
          refine st_iload_n hR dX11_takePart_135 2 rfl rfl (pc' := 136) rfl ?_
          refine st_if_eq hR dX11_takePart_136 (tgt := 143) (by decide) (pc' := 139) rfl (fun c_ => ?_) (fun c_ => ?_)
          · have hM := it_t c_ hM
            refine st_iconst hR dX11_takePart_143 (v := 2) rfl (pc' := 144) rfl ?_
            exact st_lv hR [0, 2, 3] rfl (J144 _ _ _ _ _ _ _ _ hM)
          · have hM := it_f c_ hM
            refine st_iconst hR dX11_takePart_139 (v := 1) rfl (pc' := 140) rfl ?_
            refine st_goto hR dX11_takePart_140 (tgt := 144) (by decide) ?_
            exact st_lv hR [0, 2, 3] rfl (J144 _ _ _ _ _ _ _ _ hM)
        · have hM := it_f c_ hM
          refine st_aload_n hR dX11_takePart_118 0 rfl rfl (pc' := 119) rfl ?_
          refine st_iload_n hR dX11_takePart_119 1 rfl rfl (pc' := 120) rfl ?_
          refine st_iconst hR dX11_takePart_120 (v := 1) rfl (pc' := 121) rfl ?_
          refine st_iadd hR dX11_takePart_121 (pc' := 122) rfl ?_
          obtain ⟨⟨m_at_3, m_fault_1, m_op_1, m_arg_1, m_codes_1⟩, hc_, hM⟩ := bd_e hM
          refine st_callV hR (k_X11_all hrec hc_) cf_X11_221 (rm_le (by omega) (by decide)) [0] rfl rfl rfl 0 0 10 30 rfl rfl rfl rfl (rest := []) rfl (Nat.le_of_ble_eq_true rfl) dX11_takePart_122 (pc' := 125) rfl (Wn := [wX11 G q_m m_thrown m_tape m_taped m_size m_sort m_place m_value m_at_3 m_fault_1 m_words m_rows m_op_1 m_arg_1 m_codes_1 m_names m_ofFeed m_teeth m_feedWords m_goWords m_facts m_pile m_levels m_best m_losses m_lossOf m_wasThere m_groupMany m_groupRow m_groupLoss m_isMarked]) rfl ?_
          refine st_aload_n hR dX11_takePart_125 0 rfl rfl (pc' := 126) rfl ?_
          refine st_bipush hR dX11_takePart_126 (v := 41) rfl (pc' := 128) rfl ?_
          obtain ⟨⟨m_at_4, m_fault_2⟩, hc_, hM⟩ := bd_e hM
          refine st_callV hR (k_X11_takeSign hc_) cf_X11_179 (rm_le (by omega) (by decide)) [0] rfl rfl rfl 0 0 10 30 rfl rfl rfl rfl (rest := []) rfl (Nat.le_of_ble_eq_true rfl) dX11_takePart_128 (pc' := 131) rfl (Wn := [wX11 G q_m m_thrown m_tape m_taped m_size m_sort m_place m_value m_at_4 m_fault_2 m_words m_rows m_op_1 m_arg_1 m_codes_1 m_names m_ofFeed m_teeth m_feedWords m_goWords m_facts m_pile m_levels m_best m_losses m_lossOf m_wasThere m_groupMany m_groupRow m_groupLoss m_isMarked]) rfl ?_
          refine st_goto hR dX11_takePart_131 (tgt := 175) (by decide) ?_
          cases hM
          exact hret _ _ dX11_takePart_175 ro_v
      · have hM := it_f c_ hM
        refine st_aload_n hR dX11_takePart_93 0 rfl rfl (pc' := 94) rfl ?_
        refine st_iload_n hR dX11_takePart_94 1 rfl rfl (pc' := 95) rfl ?_
        refine st_iconst hR dX11_takePart_95 (v := 1) rfl (pc' := 96) rfl ?_
        refine st_iadd hR dX11_takePart_96 (pc' := 97) rfl ?_
        obtain ⟨⟨m_at_5, m_fault_3, m_op_2, m_arg_2, m_codes_2⟩, hc_, hM⟩ := bd_e hM
        refine st_callV hR (hrec hc_) cf_X11_239 (rm_le (by omega) (by decide)) [0] rfl rfl rfl 0 0 10 30 rfl rfl rfl rfl (rest := []) rfl (Nat.le_of_ble_eq_true rfl) dX11_takePart_97 (pc' := 100) rfl (Wn := [wX11 G q_m m_thrown m_tape m_taped m_size m_sort m_place m_value m_at_5 m_fault_3 m_words m_rows m_op_2 m_arg_2 m_codes_2 m_names m_ofFeed m_teeth m_feedWords m_goWords m_facts m_pile m_levels m_best m_losses m_lossOf m_wasThere m_groupMany m_groupRow m_groupLoss m_isMarked]) rfl ?_
        refine st_aload_n hR dX11_takePart_100 0 rfl rfl (pc' := 101) rfl ?_
        refine st_iconst hR dX11_takePart_101 (v := 3) rfl (pc' := 102) rfl ?_
        refine st_iconst hR dX11_takePart_102 (v := 0) rfl (pc' := 103) rfl ?_
        obtain ⟨⟨m_op_3, m_arg_3, m_codes_3⟩, hc_, hM⟩ := bd_e hM
        refine st_callV hR (k_X11_emit hc_) cf_X11_224 (rm_le (by omega) (by decide)) [0] rfl rfl rfl 0 0 10 30 rfl rfl rfl rfl (rest := []) rfl (Nat.le_of_ble_eq_true rfl) dX11_takePart_103 (pc' := 106) rfl (Wn := [wX11 G q_m m_thrown m_tape m_taped m_size m_sort m_place m_value m_at_5 m_fault_3 m_words m_rows m_op_3 m_arg_3 m_codes_3 m_names m_ofFeed m_teeth m_feedWords m_goWords m_facts m_pile m_levels m_best m_losses m_lossOf m_wasThere m_groupMany m_groupRow m_groupLoss m_isMarked]) rfl ?_
        refine st_goto hR dX11_takePart_106 (tgt := 175) (by decide) ?_
        cases hM
        exact hret _ _ dX11_takePart_175 ro_v
    · have hM := it_f c_ hM
      cases hM
      exact hret _ _ dX11_takePart_83 ro_v
  have J66 : ∀ (m_at : Int32) (m_fault : Int32) (m_op : Nat → Int32) (m_arg : Nat → Int32) (m_codes : Int32) (l1 : Int32) (l2 : Int32) (l3 : Int32), f_X11_takePart_B66 (f_X11_takePart n) m_sort m_place m_value m_words m_ofFeed m_feedWords m_goWords m_at m_fault m_op m_arg m_codes l1 l2 l3 = some (o_m_at, o_m_fault, o_m_op, o_m_arg, o_m_codes) → K [wX11 G q_m m_thrown m_tape m_taped m_size m_sort m_place m_value m_at m_fault m_words m_rows m_op m_arg m_codes m_names m_ofFeed m_teeth m_feedWords m_goWords m_facts m_pile m_levels m_best m_losses m_lossOf m_wasThere m_groupMany m_groupRow m_groupLoss m_isMarked] [(0, .ref (q_m 0)), (1, .int l1), (2, .int l2), (3, .int l3)] 66 [] := by
    intro m_at m_fault m_op m_arg m_codes l1 l2 l3 hM
    refine st_iload_n hR dX11_takePart_66 1 rfl rfl (pc' := 67) rfl ?_
    refine st_iconst hR dX11_takePart_67 (v := 5) rfl (pc' := 68) rfl ?_
    refine st_icmp_ne hR dX11_takePart_68 (tgt := 76) (by decide) (pc' := 71) rfl (fun c_ => ?_) (fun c_ => ?_)
    · have hM := it_f c_ hM
      exact J76 _ _ _ _ _ _ _ _ hM
    · have hM := it_t c_ hM
      refine st_aload_n hR dX11_takePart_71 0 rfl rfl (pc' := 72) rfl ?_
      refine st_iconst hR dX11_takePart_72 (v := 5) rfl (pc' := 73) rfl ?_
      obtain ⟨m_fault_1, hc_, hM⟩ := bd_e hM
      refine st_callV hR (k_X11_wrong hc_) cf_X11_150 (rm_le (by omega) (by decide)) [0] rfl rfl rfl 0 0 10 30 rfl rfl rfl rfl (rest := []) rfl (Nat.le_of_ble_eq_true rfl) dX11_takePart_73 (pc' := 76) rfl (Wn := [wX11 G q_m m_thrown m_tape m_taped m_size m_sort m_place m_value m_at m_fault_1 m_words m_rows m_op m_arg m_codes m_names m_ofFeed m_teeth m_feedWords m_goWords m_facts m_pile m_levels m_best m_losses m_lossOf m_wasThere m_groupMany m_groupRow m_groupLoss m_isMarked]) rfl ?_
      exact J76 _ _ _ _ _ _ _ _ hM
  have J26 : ∀ (m_at : Int32) (m_fault : Int32) (m_op : Nat → Int32) (m_arg : Nat → Int32) (m_codes : Int32) (l1 : Int32) (s0 : Int32), f_X11_takePart_B26 (f_X11_takePart n) m_sort m_place m_value m_words m_ofFeed m_feedWords m_goWords m_at m_fault m_op m_arg m_codes l1 s0 = some (o_m_at, o_m_fault, o_m_op, o_m_arg, o_m_codes) → K [wX11 G q_m m_thrown m_tape m_taped m_size m_sort m_place m_value m_at m_fault m_words m_rows m_op m_arg m_codes m_names m_ofFeed m_teeth m_feedWords m_goWords m_facts m_pile m_levels m_best m_losses m_lossOf m_wasThere m_groupMany m_groupRow m_groupLoss m_isMarked] [(0, .ref (q_m 0)), (1, .int l1)] 26 [.int s0] := by
    intro m_at m_fault m_op m_arg m_codes l1 s0 hM
    refine st_istore_n hR dX11_takePart_26 rfl (Nat.le_of_ble_eq_true rfl) [1, 2, 0] (lv' := [(0, .ref (q_m 0)), (1, .int l1), (2, .int s0)]) rfl (pc' := 27) rfl ?_
    refine st_aload_n hR dX11_takePart_27 0 rfl rfl (pc' := 28) rfl ?_
    obtain ⟨r_1, hc_, hM⟩ := bd_e hM
    refine st_callV hR (k_X11_factHere hc_) cf_X11_242 (rm_le (by omega) (by decide)) [0] rfl rfl rfl 0 0 10 30 rfl rfl rfl rfl (rest := []) rfl (Nat.le_of_ble_eq_true rfl) dX11_takePart_28 (pc' := 31) rfl (Wn := [wX11 G q_m m_thrown m_tape m_taped m_size m_sort m_place m_value m_at m_fault m_words m_rows m_op m_arg m_codes m_names m_ofFeed m_teeth m_feedWords m_goWords m_facts m_pile m_levels m_best m_losses m_lossOf m_wasThere m_groupMany m_groupRow m_groupLoss m_isMarked]) rfl ?_
    refine st_istore_n hR dX11_takePart_31 rfl (Nat.le_of_ble_eq_true rfl) [1, 2, 3, 0] (lv' := [(0, .ref (q_m 0)), (1, .int l1), (2, .int s0), (3, .int r_1)]) rfl (pc' := 32) rfl ?_
    refine st_iload_n hR dX11_takePart_32 3 rfl rfl (pc' := 33) rfl ?_
    refine st_if_ge hR dX11_takePart_33 (tgt := 66) (by decide) (pc' := 36) rfl (fun c_ => ?_) (fun c_ => ?_)
    · have hM := it_t c_ hM
      exact J66 _ _ _ _ _ _ _ _ hM
    · have hM := it_f c_ hM
      refine st_iload_n hR dX11_takePart_36 2 rfl rfl (pc' := 37) rfl ?_
      refine st_if_ne hR dX11_takePart_37 (tgt := 66) (by decide) (pc' := 40) rfl (fun c_ => ?_) (fun c_ => ?_)
      · have hM := it_f c_ hM
        exact J66 _ _ _ _ _ _ _ _ hM
      · have hM := it_t c_ hM
        refine st_aload_n hR dX11_takePart_40 0 rfl rfl (pc' := 41) rfl ?_
        refine st_bipush hR dX11_takePart_41 (v := 40) rfl (pc' := 43) rfl ?_
        obtain ⟨r_2, hc_, hM⟩ := bd_e hM
        refine st_callV hR (k_X11_isSign hc_) cf_X11_147 (rm_le (by omega) (by decide)) [0] rfl rfl rfl 0 0 10 30 rfl rfl rfl rfl (rest := []) rfl (Nat.le_of_ble_eq_true rfl) dX11_takePart_43 (pc' := 46) rfl (Wn := [wX11 G q_m m_thrown m_tape m_taped m_size m_sort m_place m_value m_at m_fault m_words m_rows m_op m_arg m_codes m_names m_ofFeed m_teeth m_feedWords m_goWords m_facts m_pile m_levels m_best m_losses m_lossOf m_wasThere m_groupMany m_groupRow m_groupLoss m_isMarked]) rfl ?_
        refine st_if_ne hR dX11_takePart_46 (tgt := 66) (by decide) (pc' := 49) rfl (fun c_ => ?_) (fun c_ => ?_)
        · have hM := it_f c_ hM
          exact J66 _ _ _ _ _ _ _ _ hM
        · have hM := it_t c_ hM
          refine st_aload_n hR dX11_takePart_49 0 rfl rfl (pc' := 50) rfl ?_
          refine st_bipush hR dX11_takePart_50 (v := 10) rfl (pc' := 52) rfl ?_
          obtain ⟨r_3, hc_, hM⟩ := bd_e hM
          refine st_callV hR (k_X11_isWord hc_) cf_X11_154 (rm_le (by omega) (by decide)) [0] rfl rfl rfl 0 0 10 30 rfl rfl rfl rfl (rest := []) rfl (Nat.le_of_ble_eq_true rfl) dX11_takePart_52 (pc' := 55) rfl (Wn := [wX11 G q_m m_thrown m_tape m_taped m_size m_sort m_place m_value m_at m_fault m_words m_rows m_op m_arg m_codes m_names m_ofFeed m_teeth m_feedWords m_goWords m_facts m_pile m_levels m_best m_losses m_lossOf m_wasThere m_groupMany m_groupRow m_groupLoss m_isMarked]) rfl ?_
          refine st_if_ne hR dX11_takePart_55 (tgt := 66) (by decide) (pc' := 58) rfl (fun c_ => ?_) (fun c_ => ?_)
          · have hM := it_f c_ hM
            exact J66 _ _ _ _ _ _ _ _ hM
          · have hM := it_t c_ hM
            refine st_aload_n hR dX11_takePart_58 0 rfl rfl (pc' := 59) rfl ?_
            refine st_iconst hR dX11_takePart_59 (v := 1) rfl (pc' := 60) rfl ?_
            obtain ⟨m_fault_1, hc_, hM⟩ := bd_e hM
            refine st_callV hR (k_X11_wrong hc_) cf_X11_150 (rm_le (by omega) (by decide)) [0] rfl rfl rfl 0 0 10 30 rfl rfl rfl rfl (rest := []) rfl (Nat.le_of_ble_eq_true rfl) dX11_takePart_60 (pc' := 63) rfl (Wn := [wX11 G q_m m_thrown m_tape m_taped m_size m_sort m_place m_value m_at m_fault_1 m_words m_rows m_op m_arg m_codes m_names m_ofFeed m_teeth m_feedWords m_goWords m_facts m_pile m_levels m_best m_losses m_lossOf m_wasThere m_groupMany m_groupRow m_groupLoss m_isMarked]) rfl ?_
            refine st_goto hR dX11_takePart_63 (tgt := 76) (by decide) ?_
            exact J76 _ _ _ _ _ _ _ _ hM
  refine st_aload_n hR dX11_takePart_0 0 rfl rfl (pc' := 1) rfl ?_
  refine st_get hR dX11_takePart_1 fg_X11_144_10_8 0 0 rfl rfl rfl (pc' := 4) rfl ?_
  refine st_if_le hR dX11_takePart_4 (tgt := 8) (by decide) (pc' := 7) rfl (fun c_ => ?_) (fun c_ => ?_)
  · have hM := it_t c_ hM
    refine st_aload_n hR dX11_takePart_8 0 rfl rfl (pc' := 9) rfl ?_
    refine st_get hR dX11_takePart_9 fg_X11_24_10_4 0 0 rfl rfl rfl (pc' := 12) rfl ?_
    refine st_aload_n hR dX11_takePart_12 0 rfl rfl (pc' := 13) rfl ?_
    refine st_get hR dX11_takePart_13 fg_X11_141_10_7 0 0 rfl rfl rfl (pc' := 16) rfl ?_
    obtain ⟨hin_, hM⟩ := g_in_e hM
    refine st_iald hR dX11_takePart_16 0 2 rfl rfl hin_ (v := m_sort (ix m_at)) rfl (pc' := 17) rfl ?_
    refine st_iconst hR dX11_takePart_17 (v := 2) rfl (pc' := 18) rfl ?_
    refine st_icmp_ne hR dX11_takePart_18 (tgt := 25) (by decide) (pc' := 21) rfl (fun c_ => ?_) (fun c_ => ?_)
    · have hM := it_f c_ hM
      refine st_iconst hR dX11_takePart_25 (v := 0) rfl (pc' := 26) rfl ?_
      exact J26 _ _ _ _ _ _ _ hM
    · have hM := it_t c_ hM
      refine st_iconst hR dX11_takePart_21 (v := 1) rfl (pc' := 22) rfl ?_
      refine st_goto hR dX11_takePart_22 (tgt := 26) (by decide) ?_
      exact J26 _ _ _ _ _ _ _ hM
  · have hM := it_f c_ hM
    cases hM
    exact hret _ _ dX11_takePart_7 ro_v
theorem k_X11_takePart_a (l : Launch) (G : GG) : ∀ n, HR_X11_takePart l G n := by
  intro n
  induction n with
  | zero => intro q_m m_thrown m_taped m_size m_at m_fault m_codes m_ofFeed m_teeth m_levels m_groupMany m_tape m_sort m_place m_rows m_op m_arg m_feedWords m_goWords m_facts m_pile m_best m_losses m_lossOf m_wasThere m_groupRow m_groupLoss m_isMarked m_value m_words m_names l1 o_m_at o_m_fault o_m_op o_m_arg o_m_codes hM; exact no_some hM
  | succ n ih => intro q_m m_thrown m_taped m_size m_at m_fault m_codes m_ofFeed m_teeth m_levels m_groupMany m_tape m_sort m_place m_rows m_op m_arg m_feedWords m_goWords m_facts m_pile m_best m_losses m_lossOf m_wasThere m_groupRow m_groupLoss m_isMarked m_value m_words m_names l1 o_m_at o_m_fault o_m_op o_m_arg o_m_codes hM; exact k_X11_takePart_s ih hM
theorem k_X11_takePart {l : Launch} {G : GG} {q_m : Nat → Nat} {m_thrown m_taped m_size m_at m_fault m_codes m_ofFeed m_teeth m_levels m_groupMany : Int32} {m_tape m_sort m_place m_rows m_op m_arg m_feedWords m_goWords m_facts m_pile m_best m_losses m_lossOf m_wasThere m_groupRow m_groupLoss m_isMarked : Nat → Int32} {m_value m_words m_names : Nat → Int64} {l1 : Int32} {o_m_at : Int32} {o_m_fault : Int32} {o_m_op : Nat → Int32} {o_m_arg : Nat → Int32} {o_m_codes : Int32} (hM : f_X11_takePart RU m_sort m_place m_value m_words m_ofFeed m_feedWords m_goWords m_at m_fault m_op m_arg m_codes l1 = some (o_m_at, o_m_fault, o_m_op, o_m_arg, o_m_codes)) : MC l G yX11_takePart cX11_takePart 4 none (RM (6 * RU + 10)) [.ref (q_m 0), .int l1] [wX11 G q_m m_thrown m_tape m_taped m_size m_sort m_place m_value m_at m_fault m_words m_rows m_op m_arg m_codes m_names m_ofFeed m_teeth m_feedWords m_goWords m_facts m_pile m_levels m_best m_losses m_lossOf m_wasThere m_groupMany m_groupRow m_groupLoss m_isMarked] none [wX11 G q_m m_thrown m_tape m_taped m_size m_sort m_place m_value o_m_at o_m_fault m_words m_rows o_m_op o_m_arg o_m_codes m_names m_ofFeed m_teeth m_feedWords m_goWords m_facts m_pile m_levels m_best m_losses m_lossOf m_wasThere m_groupMany m_groupRow m_groupLoss m_isMarked] := k_X11_takePart_a l G RU hM
theorem k_X11_products_c {l : Launch} {G : GG} {q_m : Nat → Nat} {m_thrown m_taped m_size m_at m_fault m_codes m_ofFeed m_teeth m_levels m_groupMany : Int32} {m_tape m_sort m_place m_rows m_op m_arg m_feedWords m_goWords m_facts m_pile m_best m_losses m_lossOf m_wasThere m_groupRow m_groupLoss m_isMarked : Nat → Int32} {m_value m_words m_names : Nat → Int64} {l1 : Int32} {o_m_at : Int32} {o_m_fault : Int32} {o_m_op : Nat → Int32} {o_m_arg : Nat → Int32} {o_m_codes : Int32} (hM : f_X11_products (f_X11_takePart RU) m_sort m_place m_value m_words m_ofFeed m_feedWords m_goWords m_at m_fault m_op m_arg m_codes l1 = some (o_m_at, o_m_fault, o_m_op, o_m_arg, o_m_codes)) : MC l G yX11_products cX11_products 2 none (RM (6 * RU + 11)) [.ref (q_m 0), .int l1] [wX11 G q_m m_thrown m_tape m_taped m_size m_sort m_place m_value m_at m_fault m_words m_rows m_op m_arg m_codes m_names m_ofFeed m_teeth m_feedWords m_goWords m_facts m_pile m_levels m_best m_losses m_lossOf m_wasThere m_groupMany m_groupRow m_groupLoss m_isMarked] none [wX11 G q_m m_thrown m_tape m_taped m_size m_sort m_place m_value o_m_at o_m_fault m_words m_rows o_m_op o_m_arg o_m_codes m_names m_ofFeed m_teeth m_feedWords m_goWords m_facts m_pile m_levels m_best m_losses m_lossOf m_wasThere m_groupMany m_groupRow m_groupLoss m_isMarked] := k_X11_products (k_X11_takePart_a l G RU) hM
theorem k_X11_sums_c {l : Launch} {G : GG} {q_m : Nat → Nat} {m_thrown m_taped m_size m_at m_fault m_codes m_ofFeed m_teeth m_levels m_groupMany : Int32} {m_tape m_sort m_place m_rows m_op m_arg m_feedWords m_goWords m_facts m_pile m_best m_losses m_lossOf m_wasThere m_groupRow m_groupLoss m_isMarked : Nat → Int32} {m_value m_words m_names : Nat → Int64} {l1 : Int32} {o_m_at : Int32} {o_m_fault : Int32} {o_m_op : Nat → Int32} {o_m_arg : Nat → Int32} {o_m_codes : Int32} (hM : f_X11_sums (f_X11_takePart RU) m_sort m_place m_value m_words m_ofFeed m_feedWords m_goWords m_at m_fault m_op m_arg m_codes l1 = some (o_m_at, o_m_fault, o_m_op, o_m_arg, o_m_codes)) : MC l G yX11_sums cX11_sums 3 none (RM (6 * RU + 12)) [.ref (q_m 0), .int l1] [wX11 G q_m m_thrown m_tape m_taped m_size m_sort m_place m_value m_at m_fault m_words m_rows m_op m_arg m_codes m_names m_ofFeed m_teeth m_feedWords m_goWords m_facts m_pile m_levels m_best m_losses m_lossOf m_wasThere m_groupMany m_groupRow m_groupLoss m_isMarked] none [wX11 G q_m m_thrown m_tape m_taped m_size m_sort m_place m_value o_m_at o_m_fault m_words m_rows o_m_op o_m_arg o_m_codes m_names m_ofFeed m_teeth m_feedWords m_goWords m_facts m_pile m_levels m_best m_losses m_lossOf m_wasThere m_groupMany m_groupRow m_groupLoss m_isMarked] := k_X11_sums (k_X11_takePart_a l G RU) hM
theorem k_X11_test_c {l : Launch} {G : GG} {q_m : Nat → Nat} {m_thrown m_taped m_size m_at m_fault m_codes m_ofFeed m_teeth m_levels m_groupMany : Int32} {m_tape m_sort m_place m_rows m_op m_arg m_feedWords m_goWords m_facts m_pile m_best m_losses m_lossOf m_wasThere m_groupRow m_groupLoss m_isMarked : Nat → Int32} {m_value m_words m_names : Nat → Int64} {l1 : Int32} {o_m_at : Int32} {o_m_fault : Int32} {o_m_op : Nat → Int32} {o_m_arg : Nat → Int32} {o_m_codes : Int32} (hM : f_X11_test (f_X11_takePart RU) m_sort m_place m_value m_words m_ofFeed m_feedWords m_goWords m_at m_fault m_op m_arg m_codes l1 = some (o_m_at, o_m_fault, o_m_op, o_m_arg, o_m_codes)) : MC l G yX11_test cX11_test 3 none (RM (6 * RU + 13)) [.ref (q_m 0), .int l1] [wX11 G q_m m_thrown m_tape m_taped m_size m_sort m_place m_value m_at m_fault m_words m_rows m_op m_arg m_codes m_names m_ofFeed m_teeth m_feedWords m_goWords m_facts m_pile m_levels m_best m_losses m_lossOf m_wasThere m_groupMany m_groupRow m_groupLoss m_isMarked] none [wX11 G q_m m_thrown m_tape m_taped m_size m_sort m_place m_value o_m_at o_m_fault m_words m_rows o_m_op o_m_arg o_m_codes m_names m_ofFeed m_teeth m_feedWords m_goWords m_facts m_pile m_levels m_best m_losses m_lossOf m_wasThere m_groupMany m_groupRow m_groupLoss m_isMarked] := k_X11_test (k_X11_takePart_a l G RU) hM
theorem k_X11_all_c {l : Launch} {G : GG} {q_m : Nat → Nat} {m_thrown m_taped m_size m_at m_fault m_codes m_ofFeed m_teeth m_levels m_groupMany : Int32} {m_tape m_sort m_place m_rows m_op m_arg m_feedWords m_goWords m_facts m_pile m_best m_losses m_lossOf m_wasThere m_groupRow m_groupLoss m_isMarked : Nat → Int32} {m_value m_words m_names : Nat → Int64} {l1 : Int32} {o_m_at : Int32} {o_m_fault : Int32} {o_m_op : Nat → Int32} {o_m_arg : Nat → Int32} {o_m_codes : Int32} (hM : f_X11_all (f_X11_takePart RU) m_sort m_place m_value m_words m_ofFeed m_feedWords m_goWords m_at m_fault m_op m_arg m_codes l1 = some (o_m_at, o_m_fault, o_m_op, o_m_arg, o_m_codes)) : MC l G yX11_all cX11_all 3 none (RM (6 * RU + 14)) [.ref (q_m 0), .int l1] [wX11 G q_m m_thrown m_tape m_taped m_size m_sort m_place m_value m_at m_fault m_words m_rows m_op m_arg m_codes m_names m_ofFeed m_teeth m_feedWords m_goWords m_facts m_pile m_levels m_best m_losses m_lossOf m_wasThere m_groupMany m_groupRow m_groupLoss m_isMarked] none [wX11 G q_m m_thrown m_tape m_taped m_size m_sort m_place m_value o_m_at o_m_fault m_words m_rows o_m_op o_m_arg o_m_codes m_names m_ofFeed m_teeth m_feedWords m_goWords m_facts m_pile m_levels m_best m_losses m_lossOf m_wasThere m_groupMany m_groupRow m_groupLoss m_isMarked] := k_X11_all (k_X11_takePart_a l G RU) hM
set_option maxHeartbeats 16000000 in
set_option maxRecDepth 100000 in
theorem k_X11_readRule {l : Launch} {G : GG} {q_m : Nat → Nat} {m_thrown m_taped m_size m_at m_fault m_codes m_ofFeed m_teeth m_levels m_groupMany : Int32} {m_tape m_sort m_place m_rows m_op m_arg m_feedWords m_goWords m_facts m_pile m_best m_losses m_lossOf m_wasThere m_groupRow m_groupLoss m_isMarked : Nat → Int32} {m_value m_words m_names : Nat → Int64}  {o_m_at : Int32} {o_m_fault : Int32} {o_m_rows : Nat → Int32} {o_m_op : Nat → Int32} {o_m_arg : Nat → Int32} {o_m_codes : Int32} {o_m_ofFeed : Int32} (hM : f_X11_readRule m_sort m_place m_value m_words m_feedWords m_goWords m_at m_fault m_rows m_op m_arg m_codes m_ofFeed = some (o_m_at, o_m_fault, o_m_rows, o_m_op, o_m_arg, o_m_codes, o_m_ofFeed)) : MC l G yX11_readRule cX11_readRule 2 none (RM 75) [.ref (q_m 0)] [wX11 G q_m m_thrown m_tape m_taped m_size m_sort m_place m_value m_at m_fault m_words m_rows m_op m_arg m_codes m_names m_ofFeed m_teeth m_feedWords m_goWords m_facts m_pile m_levels m_best m_losses m_lossOf m_wasThere m_groupMany m_groupRow m_groupLoss m_isMarked] none [wX11 G q_m m_thrown m_tape m_taped m_size m_sort m_place m_value o_m_at o_m_fault m_words o_m_rows o_m_op o_m_arg o_m_codes m_names o_m_ofFeed m_teeth m_feedWords m_goWords m_facts m_pile m_levels m_best m_losses m_lossOf m_wasThere m_groupMany m_groupRow m_groupLoss m_isMarked] := by
  refine MC.of pn_X11 (Nat.le_of_ble_eq_true rfl) (fun K hR hret => ?_)
  have hR : Rl l G RX11 cX11_readRule 2 (RM 75) K := hR
  show K [wX11 G q_m m_thrown m_tape m_taped m_size m_sort m_place m_value m_at m_fault m_words m_rows m_op m_arg m_codes m_names m_ofFeed m_teeth m_feedWords m_goWords m_facts m_pile m_levels m_best m_losses m_lossOf m_wasThere m_groupMany m_groupRow m_groupLoss m_isMarked] [(0, .ref (q_m 0))] 0 []
  have J26 : ∀ (m_at : Int32) (m_fault : Int32) (m_rows : Nat → Int32) (m_op : Nat → Int32) (m_arg : Nat → Int32) (m_codes : Int32) (m_ofFeed : Int32) (s0 : Int32) (s1 : Int32), f_X11_readRule_B26  m_sort m_place m_value m_words m_feedWords m_goWords m_at m_fault m_rows m_op m_arg m_codes m_ofFeed s0 s1 = some (o_m_at, o_m_fault, o_m_rows, o_m_op, o_m_arg, o_m_codes, o_m_ofFeed) → K [wX11 G q_m m_thrown m_tape m_taped m_size m_sort m_place m_value m_at m_fault m_words m_rows m_op m_arg m_codes m_names m_ofFeed m_teeth m_feedWords m_goWords m_facts m_pile m_levels m_best m_losses m_lossOf m_wasThere m_groupMany m_groupRow m_groupLoss m_isMarked] [(0, .ref (q_m 0))] 26 [.int s0, .int s1] := by
    intro m_at m_fault m_rows m_op m_arg m_codes m_ofFeed s0 s1 hM
    refine st_iadd hR dX11_readRule_26 (pc' := 27) rfl ?_
    refine st_topi (fun l1_1 e_ => ?_)
    have hM := lt_e e_ hM
    refine st_istore_n hR dX11_readRule_27 rfl (Nat.le_of_ble_eq_true rfl) [1, 0] (lv' := [(0, .ref (q_m 0)), (1, .int l1_1)]) rfl (pc' := 28) rfl ?_
    refine st_aload_n hR dX11_readRule_28 0 rfl rfl (pc' := 29) rfl ?_
    refine st_get hR dX11_readRule_29 fg_X11_69_10_10 0 0 rfl rfl rfl (pc' := 32) rfl ?_
    refine st_iload_n hR dX11_readRule_32 1 rfl rfl (pc' := 33) rfl ?_
    obtain ⟨hin_, hM⟩ := g_in_e hM
    refine st_iald hR dX11_readRule_33 0 6 rfl rfl hin_ (v := m_rows (ix l1_1)) rfl (pc' := 34) rfl ?_
    refine st_if_lt hR dX11_readRule_34 (tgt := 43) (by decide) (pc' := 37) rfl (fun c_ => ?_) (fun c_ => ?_)
    · have hM := it_t c_ hM
      refine st_aload_n hR dX11_readRule_43 0 rfl rfl (pc' := 44) rfl ?_
      refine st_dup hR dX11_readRule_44 (pc' := 45) rfl rfl ?_
      refine st_get hR dX11_readRule_45 fg_X11_141_10_7 0 0 rfl rfl rfl (pc' := 48) rfl ?_
      refine st_iconst hR dX11_readRule_48 (v := 1) rfl (pc' := 49) rfl ?_
      refine st_iadd hR dX11_readRule_49 (pc' := 50) rfl ?_
      refine st_topi (fun m_at_1 e_ => ?_)
      have hM := lt_e e_ hM
      refine st_put hR dX11_readRule_50 fp_X11_141_10_7 0 0 rfl rfl (Nat.le_of_ble_eq_true rfl) rfl rfl (pc' := 53) rfl (W' := [wX11 G q_m m_thrown m_tape m_taped m_size m_sort m_place m_value m_at_1 m_fault m_words m_rows m_op m_arg m_codes m_names m_ofFeed m_teeth m_feedWords m_goWords m_facts m_pile m_levels m_best m_losses m_lossOf m_wasThere m_groupMany m_groupRow m_groupLoss m_isMarked]) rfl ?_
      refine st_aload_n hR dX11_readRule_53 0 rfl rfl (pc' := 54) rfl ?_
      refine st_get hR dX11_readRule_54 fg_X11_69_10_10 0 0 rfl rfl rfl (pc' := 57) rfl ?_
      refine st_iload_n hR dX11_readRule_57 1 rfl rfl (pc' := 58) rfl ?_
      refine st_aload_n hR dX11_readRule_58 0 rfl rfl (pc' := 59) rfl ?_
      refine st_get hR dX11_readRule_59 fg_X11_170_10_13 0 0 rfl rfl rfl (pc' := 62) rfl ?_
      obtain ⟨hin_, hM⟩ := g_in_e hM
      refine st_iast hR dX11_readRule_62 0 6 rfl rfl hin_ (ix := (ix l1_1)) rfl (pc' := 63) rfl (fun m_rows_1 => [wX11 G q_m m_thrown m_tape m_taped m_size m_sort m_place m_value m_at_1 m_fault m_words m_rows_1 m_op m_arg m_codes m_names m_ofFeed m_teeth m_feedWords m_goWords m_facts m_pile m_levels m_best m_losses m_lossOf m_wasThere m_groupMany m_groupRow m_groupLoss m_isMarked]) (fun _ => rfl) (fun m_rows_1 e_ => ?_)
      have hM := lt_e e_ hM
      refine st_aload_n hR dX11_readRule_63 0 rfl rfl (pc' := 64) rfl ?_
      refine st_iconst hR dX11_readRule_64 (v := 0) rfl (pc' := 65) rfl ?_
      obtain ⟨⟨m_at_2, m_fault_1, m_op_1, m_arg_1, m_codes_1⟩, hc_, hM⟩ := bd_e hM
      refine st_callV hR (k_X11_all_c hc_) cf_X11_221 (rm_le (Nat.le_of_ble_eq_true rfl) (Nat.le_of_ble_eq_true rfl)) [0] rfl rfl rfl 0 0 10 30 rfl rfl rfl rfl (rest := []) rfl (Nat.le_of_ble_eq_true rfl) dX11_readRule_65 (pc' := 68) rfl (Wn := [wX11 G q_m m_thrown m_tape m_taped m_size m_sort m_place m_value m_at_2 m_fault_1 m_words m_rows_1 m_op_1 m_arg_1 m_codes_1 m_names m_ofFeed m_teeth m_feedWords m_goWords m_facts m_pile m_levels m_best m_losses m_lossOf m_wasThere m_groupMany m_groupRow m_groupLoss m_isMarked]) rfl ?_
      refine st_aload_n hR dX11_readRule_68 0 rfl rfl (pc' := 69) rfl ?_
      refine st_iconst hR dX11_readRule_69 (v := 0) rfl (pc' := 70) rfl ?_
      refine st_iconst hR dX11_readRule_70 (v := 0) rfl (pc' := 71) rfl ?_
      obtain ⟨⟨m_op_2, m_arg_2, m_codes_2⟩, hc_, hM⟩ := bd_e hM
      refine st_callV hR (k_X11_emit hc_) cf_X11_224 (rm_le (Nat.le_of_ble_eq_true rfl) (Nat.le_of_ble_eq_true rfl)) [0] rfl rfl rfl 0 0 10 30 rfl rfl rfl rfl (rest := []) rfl (Nat.le_of_ble_eq_true rfl) dX11_readRule_71 (pc' := 74) rfl (Wn := [wX11 G q_m m_thrown m_tape m_taped m_size m_sort m_place m_value m_at_2 m_fault_1 m_words m_rows_1 m_op_2 m_arg_2 m_codes_2 m_names m_ofFeed m_teeth m_feedWords m_goWords m_facts m_pile m_levels m_best m_losses m_lossOf m_wasThere m_groupMany m_groupRow m_groupLoss m_isMarked]) rfl ?_
      cases hM
      exact hret _ _ dX11_readRule_74 ro_v
    · have hM := it_f c_ hM
      refine st_aload_n hR dX11_readRule_37 0 rfl rfl (pc' := 38) rfl ?_
      refine st_iconst hR dX11_readRule_38 (v := 3) rfl (pc' := 39) rfl ?_
      obtain ⟨m_fault_2, hc_, hM⟩ := bd_e hM
      refine st_callV hR (k_X11_wrong hc_) cf_X11_150 (rm_le (Nat.le_of_ble_eq_true rfl) (Nat.le_of_ble_eq_true rfl)) [0] rfl rfl rfl 0 0 10 30 rfl rfl rfl rfl (rest := []) rfl (Nat.le_of_ble_eq_true rfl) dX11_readRule_39 (pc' := 42) rfl (Wn := [wX11 G q_m m_thrown m_tape m_taped m_size m_sort m_place m_value m_at m_fault_2 m_words m_rows m_op m_arg m_codes m_names m_ofFeed m_teeth m_feedWords m_goWords m_facts m_pile m_levels m_best m_losses m_lossOf m_wasThere m_groupMany m_groupRow m_groupLoss m_isMarked]) rfl ?_
      cases hM
      exact hret _ _ dX11_readRule_42 ro_v
  refine st_aload_n hR dX11_readRule_0 0 rfl rfl (pc' := 1) rfl ?_
  refine st_aload_n hR dX11_readRule_1 0 rfl rfl (pc' := 2) rfl ?_
  refine st_bipush hR dX11_readRule_2 (v := 8) rfl (pc' := 4) rfl ?_
  obtain ⟨r_1, hc_, hM⟩ := bd_e hM
  refine st_callV hR (k_X11_isWord hc_) cf_X11_154 (rm_le (Nat.le_of_ble_eq_true rfl) (Nat.le_of_ble_eq_true rfl)) [0] rfl rfl rfl 0 0 10 30 rfl rfl rfl rfl (rest := [.ref (q_m 0)]) rfl (Nat.le_of_ble_eq_true rfl) dX11_readRule_4 (pc' := 7) rfl (Wn := [wX11 G q_m m_thrown m_tape m_taped m_size m_sort m_place m_value m_at m_fault m_words m_rows m_op m_arg m_codes m_names m_ofFeed m_teeth m_feedWords m_goWords m_facts m_pile m_levels m_best m_losses m_lossOf m_wasThere m_groupMany m_groupRow m_groupLoss m_isMarked]) rfl ?_
  obtain ⟨hz_, hM⟩ := g_z_e hM
  refine st_put hR dX11_readRule_7 fp_X11_217_10_15 0 0 rfl rfl (Nat.le_of_ble_eq_true rfl) (nz_01 hz_) (fz_01 hz_) (pc' := 10) rfl (W' := [wX11 G q_m m_thrown m_tape m_taped m_size m_sort m_place m_value m_at m_fault m_words m_rows m_op m_arg m_codes m_names r_1 m_teeth m_feedWords m_goWords m_facts m_pile m_levels m_best m_losses m_lossOf m_wasThere m_groupMany m_groupRow m_groupLoss m_isMarked]) rfl ?_
  refine st_sipush hR dX11_readRule_10 (v := 1000) rfl (pc' := 13) rfl ?_
  refine st_aload_n hR dX11_readRule_13 0 rfl rfl (pc' := 14) rfl ?_
  refine st_get hR dX11_readRule_14 fg_X11_217_10_15 0 0 rfl rfl rfl (pc' := 17) rfl ?_
  refine st_if_eq hR dX11_readRule_17 (tgt := 24) (by decide) (pc' := 20) rfl (fun c_ => ?_) (fun c_ => ?_)
  · have hM := it_t c_ hM
    refine st_bipush hR dX11_readRule_24 (v := 6) rfl (pc' := 26) rfl ?_
    exact J26 _ _ _ _ _ _ _ _ _ hM
  · have hM := it_f c_ hM
    refine st_iconst hR dX11_readRule_20 (v := 5) rfl (pc' := 21) rfl ?_
    refine st_goto hR dX11_readRule_21 (tgt := 26) (by decide) ?_
    exact J26 _ _ _ _ _ _ _ _ _ hM
set_option maxHeartbeats 16000000 in
set_option maxRecDepth 100000 in
theorem k_X11_readLine {l : Launch} {G : GG} {q_m : Nat → Nat} {m_thrown m_taped m_size m_at m_fault m_codes m_ofFeed m_teeth m_levels m_groupMany : Int32} {m_tape m_sort m_place m_rows m_op m_arg m_feedWords m_goWords m_facts m_pile m_best m_losses m_lossOf m_wasThere m_groupRow m_groupLoss m_isMarked : Nat → Int32} {m_value m_words m_names : Nat → Int64}  {o_m_at : Int32} {o_m_fault : Int32} {o_m_rows : Nat → Int32} {o_m_op : Nat → Int32} {o_m_arg : Nat → Int32} {o_m_codes : Int32} {o_m_names : Nat → Int64} {o_m_ofFeed : Int32} {o_m_teeth : Int32} (hM : f_X11_readLine m_sort m_place m_value m_words m_feedWords m_goWords m_at m_fault m_rows m_op m_arg m_codes m_names m_ofFeed m_teeth = some (o_m_at, o_m_fault, o_m_rows, o_m_op, o_m_arg, o_m_codes, o_m_names, o_m_ofFeed, o_m_teeth)) : MC l G yX11_readLine cX11_readLine 1 none (RM 76) [.ref (q_m 0)] [wX11 G q_m m_thrown m_tape m_taped m_size m_sort m_place m_value m_at m_fault m_words m_rows m_op m_arg m_codes m_names m_ofFeed m_teeth m_feedWords m_goWords m_facts m_pile m_levels m_best m_losses m_lossOf m_wasThere m_groupMany m_groupRow m_groupLoss m_isMarked] none [wX11 G q_m m_thrown m_tape m_taped m_size m_sort m_place m_value o_m_at o_m_fault m_words o_m_rows o_m_op o_m_arg o_m_codes o_m_names o_m_ofFeed o_m_teeth m_feedWords m_goWords m_facts m_pile m_levels m_best m_losses m_lossOf m_wasThere m_groupMany m_groupRow m_groupLoss m_isMarked] := by
  refine MC.of pn_X11 (Nat.le_of_ble_eq_true rfl) (fun K hR hret => ?_)
  have hR : Rl l G RX11 cX11_readLine 1 (RM 76) K := hR
  show K [wX11 G q_m m_thrown m_tape m_taped m_size m_sort m_place m_value m_at m_fault m_words m_rows m_op m_arg m_codes m_names m_ofFeed m_teeth m_feedWords m_goWords m_facts m_pile m_levels m_best m_losses m_lossOf m_wasThere m_groupMany m_groupRow m_groupLoss m_isMarked] [(0, .ref (q_m 0))] 0 []
  have J31 : ∀ (m_at : Int32) (m_fault : Int32) (m_rows : Nat → Int32) (m_op : Nat → Int32) (m_arg : Nat → Int32) (m_codes : Int32) (m_names : Nat → Int64) (m_ofFeed : Int32) (m_teeth : Int32), f_X11_readLine_B31  m_sort m_place m_value m_words m_feedWords m_goWords m_at m_fault m_rows m_op m_arg m_codes m_names m_ofFeed m_teeth = some (o_m_at, o_m_fault, o_m_rows, o_m_op, o_m_arg, o_m_codes, o_m_names, o_m_ofFeed, o_m_teeth) → K [wX11 G q_m m_thrown m_tape m_taped m_size m_sort m_place m_value m_at m_fault m_words m_rows m_op m_arg m_codes m_names m_ofFeed m_teeth m_feedWords m_goWords m_facts m_pile m_levels m_best m_losses m_lossOf m_wasThere m_groupMany m_groupRow m_groupLoss m_isMarked] [(0, .ref (q_m 0))] 31 [] := by
    intro m_at m_fault m_rows m_op m_arg m_codes m_names m_ofFeed m_teeth hM
    refine st_aload_n hR dX11_readLine_31 0 rfl rfl (pc' := 32) rfl ?_
    obtain ⟨⟨m_at_1, m_fault_1, m_rows_1⟩, hc_, hM⟩ := bd_e hM
    refine st_callV hR (k_X11_readPair hc_) cf_X11_189 (rm_le (Nat.le_of_ble_eq_true rfl) (Nat.le_of_ble_eq_true rfl)) [0] rfl rfl rfl 0 0 10 30 rfl rfl rfl rfl (rest := []) rfl (Nat.le_of_ble_eq_true rfl) dX11_readLine_32 (pc' := 35) rfl (Wn := [wX11 G q_m m_thrown m_tape m_taped m_size m_sort m_place m_value m_at_1 m_fault_1 m_words m_rows_1 m_op m_arg m_codes m_names m_ofFeed m_teeth m_feedWords m_goWords m_facts m_pile m_levels m_best m_losses m_lossOf m_wasThere m_groupMany m_groupRow m_groupLoss m_isMarked]) rfl ?_
    refine st_goto hR dX11_readLine_35 (tgt := 100) (by decide) ?_
    cases hM
    exact hret _ _ dX11_readLine_100 ro_v
  have J88 : ∀ (m_at : Int32) (m_fault : Int32) (m_rows : Nat → Int32) (m_op : Nat → Int32) (m_arg : Nat → Int32) (m_codes : Int32) (m_names : Nat → Int64) (m_ofFeed : Int32) (m_teeth : Int32), f_X11_readLine_B88  m_sort m_place m_value m_words m_feedWords m_goWords m_at m_fault m_rows m_op m_arg m_codes m_names m_ofFeed m_teeth = some (o_m_at, o_m_fault, o_m_rows, o_m_op, o_m_arg, o_m_codes, o_m_names, o_m_ofFeed, o_m_teeth) → K [wX11 G q_m m_thrown m_tape m_taped m_size m_sort m_place m_value m_at m_fault m_words m_rows m_op m_arg m_codes m_names m_ofFeed m_teeth m_feedWords m_goWords m_facts m_pile m_levels m_best m_losses m_lossOf m_wasThere m_groupMany m_groupRow m_groupLoss m_isMarked] [(0, .ref (q_m 0))] 88 [] := by
    intro m_at m_fault m_rows m_op m_arg m_codes m_names m_ofFeed m_teeth hM
    refine st_aload_n hR dX11_readLine_88 0 rfl rfl (pc' := 89) rfl ?_
    obtain ⟨⟨m_at_1, m_fault_1, m_rows_1, m_op_1, m_arg_1, m_codes_1, m_ofFeed_1⟩, hc_, hM⟩ := bd_e hM
    refine st_callV hR (k_X11_readRule hc_) cf_X11_198 (rm_le (Nat.le_of_ble_eq_true rfl) (Nat.le_of_ble_eq_true rfl)) [0] rfl rfl rfl 0 0 10 30 rfl rfl rfl rfl (rest := []) rfl (Nat.le_of_ble_eq_true rfl) dX11_readLine_89 (pc' := 92) rfl (Wn := [wX11 G q_m m_thrown m_tape m_taped m_size m_sort m_place m_value m_at_1 m_fault_1 m_words m_rows_1 m_op_1 m_arg_1 m_codes_1 m_names m_ofFeed_1 m_teeth m_feedWords m_goWords m_facts m_pile m_levels m_best m_losses m_lossOf m_wasThere m_groupMany m_groupRow m_groupLoss m_isMarked]) rfl ?_
    refine st_goto hR dX11_readLine_92 (tgt := 100) (by decide) ?_
    cases hM
    exact hret _ _ dX11_readLine_100 ro_v
  refine st_aload_n hR dX11_readLine_0 0 rfl rfl (pc' := 1) rfl ?_
  refine st_iconst hR dX11_readLine_1 (v := 0) rfl (pc' := 2) rfl ?_
  obtain ⟨r_1, hc_, hM⟩ := bd_e hM
  refine st_callV hR (k_X11_isWord hc_) cf_X11_154 (rm_le (Nat.le_of_ble_eq_true rfl) (Nat.le_of_ble_eq_true rfl)) [0] rfl rfl rfl 0 0 10 30 rfl rfl rfl rfl (rest := []) rfl (Nat.le_of_ble_eq_true rfl) dX11_readLine_2 (pc' := 5) rfl (Wn := [wX11 G q_m m_thrown m_tape m_taped m_size m_sort m_place m_value m_at m_fault m_words m_rows m_op m_arg m_codes m_names m_ofFeed m_teeth m_feedWords m_goWords m_facts m_pile m_levels m_best m_losses m_lossOf m_wasThere m_groupMany m_groupRow m_groupLoss m_isMarked]) rfl ?_
  refine st_if_eq hR dX11_readLine_5 (tgt := 15) (by decide) (pc' := 8) rfl (fun c_ => ?_) (fun c_ => ?_)
  · have hM := it_t c_ hM
    refine st_aload_n hR dX11_readLine_15 0 rfl rfl (pc' := 16) rfl ?_
    refine st_iconst hR dX11_readLine_16 (v := 4) rfl (pc' := 17) rfl ?_
    obtain ⟨r_2, hc_, hM⟩ := bd_e hM
    refine st_callV hR (k_X11_isWord hc_) cf_X11_154 (rm_le (Nat.le_of_ble_eq_true rfl) (Nat.le_of_ble_eq_true rfl)) [0] rfl rfl rfl 0 0 10 30 rfl rfl rfl rfl (rest := []) rfl (Nat.le_of_ble_eq_true rfl) dX11_readLine_17 (pc' := 20) rfl (Wn := [wX11 G q_m m_thrown m_tape m_taped m_size m_sort m_place m_value m_at m_fault m_words m_rows m_op m_arg m_codes m_names m_ofFeed m_teeth m_feedWords m_goWords m_facts m_pile m_levels m_best m_losses m_lossOf m_wasThere m_groupMany m_groupRow m_groupLoss m_isMarked]) rfl ?_
    refine st_if_ne hR dX11_readLine_20 (tgt := 31) (by decide) (pc' := 23) rfl (fun c_ => ?_) (fun c_ => ?_)
    · have hM := it_f c_ hM
      exact J31 _ _ _ _ _ _ _ _ _ hM
    · have hM := it_t c_ hM
      refine st_aload_n hR dX11_readLine_23 0 rfl rfl (pc' := 24) rfl ?_
      refine st_iconst hR dX11_readLine_24 (v := 5) rfl (pc' := 25) rfl ?_
      obtain ⟨r_3, hc_, hM⟩ := bd_e hM
      refine st_callV hR (k_X11_isWord hc_) cf_X11_154 (rm_le (Nat.le_of_ble_eq_true rfl) (Nat.le_of_ble_eq_true rfl)) [0] rfl rfl rfl 0 0 10 30 rfl rfl rfl rfl (rest := []) rfl (Nat.le_of_ble_eq_true rfl) dX11_readLine_25 (pc' := 28) rfl (Wn := [wX11 G q_m m_thrown m_tape m_taped m_size m_sort m_place m_value m_at m_fault m_words m_rows m_op m_arg m_codes m_names m_ofFeed m_teeth m_feedWords m_goWords m_facts m_pile m_levels m_best m_losses m_lossOf m_wasThere m_groupMany m_groupRow m_groupLoss m_isMarked]) rfl ?_
      refine st_if_eq hR dX11_readLine_28 (tgt := 38) (by decide) (pc' := 31) rfl (fun c_ => ?_) (fun c_ => ?_)
      · have hM := it_t c_ hM
        refine st_aload_n hR dX11_readLine_38 0 rfl rfl (pc' := 39) rfl ?_
        refine st_bipush hR dX11_readLine_39 (v := 6) rfl (pc' := 41) rfl ?_
        obtain ⟨r_4, hc_, hM⟩ := bd_e hM
        refine st_callV hR (k_X11_isWord hc_) cf_X11_154 (rm_le (Nat.le_of_ble_eq_true rfl) (Nat.le_of_ble_eq_true rfl)) [0] rfl rfl rfl 0 0 10 30 rfl rfl rfl rfl (rest := []) rfl (Nat.le_of_ble_eq_true rfl) dX11_readLine_41 (pc' := 44) rfl (Wn := [wX11 G q_m m_thrown m_tape m_taped m_size m_sort m_place m_value m_at m_fault m_words m_rows m_op m_arg m_codes m_names m_ofFeed m_teeth m_feedWords m_goWords m_facts m_pile m_levels m_best m_losses m_lossOf m_wasThere m_groupMany m_groupRow m_groupLoss m_isMarked]) rfl ?_
        refine st_if_eq hR dX11_readLine_44 (tgt := 54) (by decide) (pc' := 47) rfl (fun c_ => ?_) (fun c_ => ?_)
        · have hM := it_t c_ hM
          refine st_aload_n hR dX11_readLine_54 0 rfl rfl (pc' := 55) rfl ?_
          refine st_bipush hR dX11_readLine_55 (v := 7) rfl (pc' := 57) rfl ?_
          obtain ⟨r_5, hc_, hM⟩ := bd_e hM
          refine st_callV hR (k_X11_isWord hc_) cf_X11_154 (rm_le (Nat.le_of_ble_eq_true rfl) (Nat.le_of_ble_eq_true rfl)) [0] rfl rfl rfl 0 0 10 30 rfl rfl rfl rfl (rest := []) rfl (Nat.le_of_ble_eq_true rfl) dX11_readLine_57 (pc' := 60) rfl (Wn := [wX11 G q_m m_thrown m_tape m_taped m_size m_sort m_place m_value m_at m_fault m_words m_rows m_op m_arg m_codes m_names m_ofFeed m_teeth m_feedWords m_goWords m_facts m_pile m_levels m_best m_losses m_lossOf m_wasThere m_groupMany m_groupRow m_groupLoss m_isMarked]) rfl ?_
          refine st_if_eq hR dX11_readLine_60 (tgt := 70) (by decide) (pc' := 63) rfl (fun c_ => ?_) (fun c_ => ?_)
          · have hM := it_t c_ hM
            refine st_aload_n hR dX11_readLine_70 0 rfl rfl (pc' := 71) rfl ?_
            refine st_bipush hR dX11_readLine_71 (v := 8) rfl (pc' := 73) rfl ?_
            obtain ⟨r_6, hc_, hM⟩ := bd_e hM
            refine st_callV hR (k_X11_isWord hc_) cf_X11_154 (rm_le (Nat.le_of_ble_eq_true rfl) (Nat.le_of_ble_eq_true rfl)) [0] rfl rfl rfl 0 0 10 30 rfl rfl rfl rfl (rest := []) rfl (Nat.le_of_ble_eq_true rfl) dX11_readLine_73 (pc' := 76) rfl (Wn := [wX11 G q_m m_thrown m_tape m_taped m_size m_sort m_place m_value m_at m_fault m_words m_rows m_op m_arg m_codes m_names m_ofFeed m_teeth m_feedWords m_goWords m_facts m_pile m_levels m_best m_losses m_lossOf m_wasThere m_groupMany m_groupRow m_groupLoss m_isMarked]) rfl ?_
            refine st_if_ne hR dX11_readLine_76 (tgt := 88) (by decide) (pc' := 79) rfl (fun c_ => ?_) (fun c_ => ?_)
            · have hM := it_f c_ hM
              exact J88 _ _ _ _ _ _ _ _ _ hM
            · have hM := it_t c_ hM
              refine st_aload_n hR dX11_readLine_79 0 rfl rfl (pc' := 80) rfl ?_
              refine st_bipush hR dX11_readLine_80 (v := 9) rfl (pc' := 82) rfl ?_
              obtain ⟨r_7, hc_, hM⟩ := bd_e hM
              refine st_callV hR (k_X11_isWord hc_) cf_X11_154 (rm_le (Nat.le_of_ble_eq_true rfl) (Nat.le_of_ble_eq_true rfl)) [0] rfl rfl rfl 0 0 10 30 rfl rfl rfl rfl (rest := []) rfl (Nat.le_of_ble_eq_true rfl) dX11_readLine_82 (pc' := 85) rfl (Wn := [wX11 G q_m m_thrown m_tape m_taped m_size m_sort m_place m_value m_at m_fault m_words m_rows m_op m_arg m_codes m_names m_ofFeed m_teeth m_feedWords m_goWords m_facts m_pile m_levels m_best m_losses m_lossOf m_wasThere m_groupMany m_groupRow m_groupLoss m_isMarked]) rfl ?_
              refine st_if_eq hR dX11_readLine_85 (tgt := 95) (by decide) (pc' := 88) rfl (fun c_ => ?_) (fun c_ => ?_)
              · have hM := it_t c_ hM
                refine st_aload_n hR dX11_readLine_95 0 rfl rfl (pc' := 96) rfl ?_
                refine st_iconst hR dX11_readLine_96 (v := 1) rfl (pc' := 97) rfl ?_
                obtain ⟨m_fault_1, hc_, hM⟩ := bd_e hM
                refine st_callV hR (k_X11_wrong hc_) cf_X11_150 (rm_le (Nat.le_of_ble_eq_true rfl) (Nat.le_of_ble_eq_true rfl)) [0] rfl rfl rfl 0 0 10 30 rfl rfl rfl rfl (rest := []) rfl (Nat.le_of_ble_eq_true rfl) dX11_readLine_97 (pc' := 100) rfl (Wn := [wX11 G q_m m_thrown m_tape m_taped m_size m_sort m_place m_value m_at m_fault_1 m_words m_rows m_op m_arg m_codes m_names m_ofFeed m_teeth m_feedWords m_goWords m_facts m_pile m_levels m_best m_losses m_lossOf m_wasThere m_groupMany m_groupRow m_groupLoss m_isMarked]) rfl ?_
                cases hM
                exact hret _ _ dX11_readLine_100 ro_v
              · have hM := it_f c_ hM
                exact J88 _ _ _ _ _ _ _ _ _ hM
          · have hM := it_f c_ hM
            refine st_aload_n hR dX11_readLine_63 0 rfl rfl (pc' := 64) rfl ?_
            obtain ⟨⟨m_at_1, m_fault_2, m_rows_1, m_teeth_1⟩, hc_, hM⟩ := bd_e hM
            refine st_callV hR (k_X11_readTooth hc_) cf_X11_195 (rm_le (Nat.le_of_ble_eq_true rfl) (Nat.le_of_ble_eq_true rfl)) [0] rfl rfl rfl 0 0 10 30 rfl rfl rfl rfl (rest := []) rfl (Nat.le_of_ble_eq_true rfl) dX11_readLine_64 (pc' := 67) rfl (Wn := [wX11 G q_m m_thrown m_tape m_taped m_size m_sort m_place m_value m_at_1 m_fault_2 m_words m_rows_1 m_op m_arg m_codes m_names m_ofFeed m_teeth_1 m_feedWords m_goWords m_facts m_pile m_levels m_best m_losses m_lossOf m_wasThere m_groupMany m_groupRow m_groupLoss m_isMarked]) rfl ?_
            refine st_goto hR dX11_readLine_67 (tgt := 100) (by decide) ?_
            cases hM
            exact hret _ _ dX11_readLine_100 ro_v
        · have hM := it_f c_ hM
          refine st_aload_n hR dX11_readLine_47 0 rfl rfl (pc' := 48) rfl ?_
          obtain ⟨⟨m_at_2, m_fault_3, m_rows_2⟩, hc_, hM⟩ := bd_e hM
          refine st_callV hR (k_X11_readShare hc_) cf_X11_192 (rm_le (Nat.le_of_ble_eq_true rfl) (Nat.le_of_ble_eq_true rfl)) [0] rfl rfl rfl 0 0 10 30 rfl rfl rfl rfl (rest := []) rfl (Nat.le_of_ble_eq_true rfl) dX11_readLine_48 (pc' := 51) rfl (Wn := [wX11 G q_m m_thrown m_tape m_taped m_size m_sort m_place m_value m_at_2 m_fault_3 m_words m_rows_2 m_op m_arg m_codes m_names m_ofFeed m_teeth m_feedWords m_goWords m_facts m_pile m_levels m_best m_losses m_lossOf m_wasThere m_groupMany m_groupRow m_groupLoss m_isMarked]) rfl ?_
          refine st_goto hR dX11_readLine_51 (tgt := 100) (by decide) ?_
          cases hM
          exact hret _ _ dX11_readLine_100 ro_v
      · have hM := it_f c_ hM
        exact J31 _ _ _ _ _ _ _ _ _ hM
  · have hM := it_f c_ hM
    refine st_aload_n hR dX11_readLine_8 0 rfl rfl (pc' := 9) rfl ?_
    obtain ⟨⟨m_at_3, m_fault_4, m_rows_3, m_names_1⟩, hc_, hM⟩ := bd_e hM
    refine st_callV hR (k_X11_readFarm hc_) cf_X11_186 (rm_le (Nat.le_of_ble_eq_true rfl) (Nat.le_of_ble_eq_true rfl)) [0] rfl rfl rfl 0 0 10 30 rfl rfl rfl rfl (rest := []) rfl (Nat.le_of_ble_eq_true rfl) dX11_readLine_9 (pc' := 12) rfl (Wn := [wX11 G q_m m_thrown m_tape m_taped m_size m_sort m_place m_value m_at_3 m_fault_4 m_words m_rows_3 m_op m_arg m_codes m_names_1 m_ofFeed m_teeth m_feedWords m_goWords m_facts m_pile m_levels m_best m_losses m_lossOf m_wasThere m_groupMany m_groupRow m_groupLoss m_isMarked]) rfl ?_
    refine st_goto hR dX11_readLine_12 (tgt := 100) (by decide) ?_
    cases hM
    exact hret _ _ dX11_readLine_100 ro_v
set_option maxHeartbeats 16000000 in
set_option maxRecDepth 100000 in
theorem k_X11_mountain {l : Launch} {G : GG} {q_m : Nat → Nat} {m_thrown m_taped m_size m_at m_fault m_codes m_ofFeed m_teeth m_levels m_groupMany : Int32} {m_tape m_sort m_place m_rows m_op m_arg m_feedWords m_goWords m_facts m_pile m_best m_losses m_lossOf m_wasThere m_groupRow m_groupLoss m_isMarked : Nat → Int32} {m_value m_words m_names : Nat → Int64}  {o_r : Int32} {o_m_thrown : Int32} {o_m_taped : Int32} {o_m_size : Int32} {o_m_sort : Nat → Int32} {o_m_place : Nat → Int32} {o_m_value : Nat → Int64} {o_m_at : Int32} {o_m_fault : Int32} {o_m_rows : Nat → Int32} {o_m_op : Nat → Int32} {o_m_arg : Nat → Int32} {o_m_codes : Int32} {o_m_names : Nat → Int64} {o_m_ofFeed : Int32} {o_m_teeth : Int32} {o_m_isMarked : Nat → Int32} (hM : f_X11_mountain m_tape m_words m_feedWords m_goWords m_thrown m_taped m_size m_sort m_place m_value m_at m_fault m_rows m_op m_arg m_codes m_names m_ofFeed m_teeth m_isMarked = some (o_r, o_m_thrown, o_m_taped, o_m_size, o_m_sort, o_m_place, o_m_value, o_m_at, o_m_fault, o_m_rows, o_m_op, o_m_arg, o_m_codes, o_m_names, o_m_ofFeed, o_m_teeth, o_m_isMarked)) : MC l G yX11_mountain cX11_mountain 2 (some .int) (RM 77) [.ref (q_m 0)] [wX11 G q_m m_thrown m_tape m_taped m_size m_sort m_place m_value m_at m_fault m_words m_rows m_op m_arg m_codes m_names m_ofFeed m_teeth m_feedWords m_goWords m_facts m_pile m_levels m_best m_losses m_lossOf m_wasThere m_groupMany m_groupRow m_groupLoss m_isMarked] (some (.int o_r)) [wX11 G q_m o_m_thrown m_tape o_m_taped o_m_size o_m_sort o_m_place o_m_value o_m_at o_m_fault m_words o_m_rows o_m_op o_m_arg o_m_codes o_m_names o_m_ofFeed o_m_teeth m_feedWords m_goWords m_facts m_pile m_levels m_best m_losses m_lossOf m_wasThere m_groupMany m_groupRow m_groupLoss o_m_isMarked] := by
  refine MC.of pn_X11 (Nat.le_of_ble_eq_true rfl) (fun K hR hret => ?_)
  have hR : Rl l G RX11 cX11_mountain 2 (RM 77) K := hR
  show K [wX11 G q_m m_thrown m_tape m_taped m_size m_sort m_place m_value m_at m_fault m_words m_rows m_op m_arg m_codes m_names m_ofFeed m_teeth m_feedWords m_goWords m_facts m_pile m_levels m_best m_losses m_lossOf m_wasThere m_groupMany m_groupRow m_groupLoss m_isMarked] [(0, .ref (q_m 0))] 0 []
  have L179 : ∀ (n179 : Nat) (m_thrown : Int32) (m_taped : Int32) (m_size : Int32) (m_sort : Nat → Int32) (m_place : Nat → Int32) (m_value : Nat → Int64) (m_at : Int32) (m_fault : Int32) (m_rows : Nat → Int32) (m_op : Nat → Int32) (m_arg : Nat → Int32) (m_codes : Int32) (m_names : Nat → Int64) (m_ofFeed : Int32) (m_teeth : Int32) (m_isMarked : Nat → Int32) (l1 : Int32), f_X11_mountain_L179  m_tape m_words m_feedWords m_goWords n179 m_thrown m_taped m_size m_sort m_place m_value m_at m_fault m_rows m_op m_arg m_codes m_names m_ofFeed m_teeth m_isMarked l1 = some (o_r, o_m_thrown, o_m_taped, o_m_size, o_m_sort, o_m_place, o_m_value, o_m_at, o_m_fault, o_m_rows, o_m_op, o_m_arg, o_m_codes, o_m_names, o_m_ofFeed, o_m_teeth, o_m_isMarked) → K [wX11 G q_m m_thrown m_tape m_taped m_size m_sort m_place m_value m_at m_fault m_words m_rows m_op m_arg m_codes m_names m_ofFeed m_teeth m_feedWords m_goWords m_facts m_pile m_levels m_best m_losses m_lossOf m_wasThere m_groupMany m_groupRow m_groupLoss m_isMarked] [(0, .ref (q_m 0)), (1, .int l1)] 179 [] := by
    intro n179
    induction n179 with
    | zero => intro m_thrown m_taped m_size m_sort m_place m_value m_at m_fault m_rows m_op m_arg m_codes m_names m_ofFeed m_teeth m_isMarked l1 hM; exact no_some hM
    | succ n179 ih179 =>
      intro m_thrown m_taped m_size m_sort m_place m_value m_at m_fault m_rows m_op m_arg m_codes m_names m_ofFeed m_teeth m_isMarked l1 hM
      have hM : f_X11_mountain_L179b  (f_X11_mountain_L179  m_tape m_words m_feedWords m_goWords n179) m_tape m_words m_feedWords m_goWords m_thrown m_taped m_size m_sort m_place m_value m_at m_fault m_rows m_op m_arg m_codes m_names m_ofFeed m_teeth m_isMarked l1 = some (o_r, o_m_thrown, o_m_taped, o_m_size, o_m_sort, o_m_place, o_m_value, o_m_at, o_m_fault, o_m_rows, o_m_op, o_m_arg, o_m_codes, o_m_names, o_m_ofFeed, o_m_teeth, o_m_isMarked) := hM
      refine st_iload_n hR dX11_mountain_179 1 rfl rfl (pc' := 180) rfl ?_
      refine st_iconst hR dX11_mountain_180 (v := 4) rfl (pc' := 181) rfl ?_
      refine st_icmp_ge hR dX11_mountain_181 (tgt := 197) (by decide) (pc' := 184) rfl (fun c_ => ?_) (fun c_ => ?_)
      · have hM := it_t c_ hM
        refine st_iconst hR dX11_mountain_197 (v := 0) rfl (pc' := 198) rfl ?_
        cases hM
        exact hret _ _ dX11_mountain_198 (ro_i _)
      · have hM := it_f c_ hM
        refine st_aload_n hR dX11_mountain_184 0 rfl rfl (pc' := 185) rfl ?_
        refine st_get hR dX11_mountain_185 fg_X11_115_10_29 0 0 rfl rfl rfl (pc' := 188) rfl ?_
        refine st_iload_n hR dX11_mountain_188 1 rfl rfl (pc' := 189) rfl ?_
        refine st_iconst hR dX11_mountain_189 (v := 0) rfl (pc' := 190) rfl ?_
        obtain ⟨hin_, hM⟩ := g_in_e hM
        refine st_zast hR dX11_mountain_190 0 20 rfl rfl hin_ (ix := (ix l1)) rfl (pc' := 191) rfl (fun m_isMarked_1 => [wX11 G q_m m_thrown m_tape m_taped m_size m_sort m_place m_value m_at m_fault m_words m_rows m_op m_arg m_codes m_names m_ofFeed m_teeth m_feedWords m_goWords m_facts m_pile m_levels m_best m_losses m_lossOf m_wasThere m_groupMany m_groupRow m_groupLoss m_isMarked_1]) (fun _ => rfl) (fun m_isMarked_1 e_ => ?_)
        have hM := lt_e e_ hM
        obtain ⟨l1_1, e_⟩ : ∃ y : Int32, y = l1 + 1 := ⟨_, rfl⟩
        refine st_iinc hR dX11_mountain_191 (Nat.le_of_ble_eq_true rfl) 1 [1, 0] (v := l1_1) rfl (by rw [e_]; rfl) (lv' := [(0, .ref (q_m 0)), (1, .int l1_1)]) rfl (pc' := 194) rfl ?_
        have hM := lt_e e_ hM
        refine st_goto hR dX11_mountain_194 (tgt := 179) (by decide) ?_
        exact ih179 _ _ _ _ _ _ _ _ _ _ _ _ _ _ _ _ _ hM
  have L131 : ∀ (n131 : Nat) (m_thrown : Int32) (m_taped : Int32) (m_size : Int32) (m_sort : Nat → Int32) (m_place : Nat → Int32) (m_value : Nat → Int64) (m_at : Int32) (m_fault : Int32) (m_rows : Nat → Int32) (m_op : Nat → Int32) (m_arg : Nat → Int32) (m_codes : Int32) (m_names : Nat → Int64) (m_ofFeed : Int32) (m_teeth : Int32) (m_isMarked : Nat → Int32) (l1 : Int32), f_X11_mountain_L131  m_tape m_words m_feedWords m_goWords n131 m_thrown m_taped m_size m_sort m_place m_value m_at m_fault m_rows m_op m_arg m_codes m_names m_ofFeed m_teeth m_isMarked l1 = some (o_r, o_m_thrown, o_m_taped, o_m_size, o_m_sort, o_m_place, o_m_value, o_m_at, o_m_fault, o_m_rows, o_m_op, o_m_arg, o_m_codes, o_m_names, o_m_ofFeed, o_m_teeth, o_m_isMarked) → K [wX11 G q_m m_thrown m_tape m_taped m_size m_sort m_place m_value m_at m_fault m_words m_rows m_op m_arg m_codes m_names m_ofFeed m_teeth m_feedWords m_goWords m_facts m_pile m_levels m_best m_losses m_lossOf m_wasThere m_groupMany m_groupRow m_groupLoss m_isMarked] [(0, .ref (q_m 0)), (1, .int l1)] 131 [] := by
    intro n131
    induction n131 with
    | zero => intro m_thrown m_taped m_size m_sort m_place m_value m_at m_fault m_rows m_op m_arg m_codes m_names m_ofFeed m_teeth m_isMarked l1 hM; exact no_some hM
    | succ n131 ih131 =>
      intro m_thrown m_taped m_size m_sort m_place m_value m_at m_fault m_rows m_op m_arg m_codes m_names m_ofFeed m_teeth m_isMarked l1 hM
      have hM : f_X11_mountain_L131b  (f_X11_mountain_L131  m_tape m_words m_feedWords m_goWords n131) m_tape m_words m_feedWords m_goWords m_thrown m_taped m_size m_sort m_place m_value m_at m_fault m_rows m_op m_arg m_codes m_names m_ofFeed m_teeth m_isMarked l1 = some (o_r, o_m_thrown, o_m_taped, o_m_size, o_m_sort, o_m_place, o_m_value, o_m_at, o_m_fault, o_m_rows, o_m_op, o_m_arg, o_m_codes, o_m_names, o_m_ofFeed, o_m_teeth, o_m_isMarked) := hM
      refine st_iload_n hR dX11_mountain_131 1 rfl rfl (pc' := 132) rfl ?_
      refine st_aload_n hR dX11_mountain_132 0 rfl rfl (pc' := 133) rfl ?_
      refine st_get hR dX11_mountain_133 fg_X11_170_10_13 0 0 rfl rfl rfl (pc' := 136) rfl ?_
      refine st_icmp_ge hR dX11_mountain_136 (tgt := 177) (by decide) (pc' := 139) rfl (fun c_ => ?_) (fun c_ => ?_)
      · have hM := it_t c_ hM
        refine st_iconst hR dX11_mountain_177 (v := 0) rfl (pc' := 178) rfl ?_
        refine st_istore_n hR dX11_mountain_178 rfl (Nat.le_of_ble_eq_true rfl) [1, 0] (lv' := [(0, .ref (q_m 0)), (1, .int 0)]) rfl (pc' := 179) rfl ?_
        exact L179 FU _ _ _ _ _ _ _ _ _ _ _ _ _ _ _ _ _ hM
      · have hM := it_f c_ hM
        refine st_aload_n hR dX11_mountain_139 0 rfl rfl (pc' := 140) rfl ?_
        refine st_get hR dX11_mountain_140 fg_X11_72_10_11 0 0 rfl rfl rfl (pc' := 143) rfl ?_
        refine st_iload_n hR dX11_mountain_143 1 rfl rfl (pc' := 144) rfl ?_
        refine st_aload_n hR dX11_mountain_144 0 rfl rfl (pc' := 145) rfl ?_
        refine st_get hR dX11_mountain_145 fg_X11_72_10_11 0 0 rfl rfl rfl (pc' := 148) rfl ?_
        refine st_sipush hR dX11_mountain_148 (v := 1100) rfl (pc' := 151) rfl ?_
        refine st_iload_n hR dX11_mountain_151 1 rfl rfl (pc' := 152) rfl ?_
        refine st_iadd hR dX11_mountain_152 (pc' := 153) rfl ?_
        obtain ⟨hin_, hM⟩ := g_in_e hM
        refine st_iald hR dX11_mountain_153 0 7 rfl rfl hin_ (v := m_op (ix (1100 + l1))) rfl (pc' := 154) rfl ?_
        obtain ⟨hin_, hM⟩ := g_in_e hM
        refine st_iast hR dX11_mountain_154 0 7 rfl rfl hin_ (ix := (ix l1)) rfl (pc' := 155) rfl (fun m_op_1 => [wX11 G q_m m_thrown m_tape m_taped m_size m_sort m_place m_value m_at m_fault m_words m_rows m_op_1 m_arg m_codes m_names m_ofFeed m_teeth m_feedWords m_goWords m_facts m_pile m_levels m_best m_losses m_lossOf m_wasThere m_groupMany m_groupRow m_groupLoss m_isMarked]) (fun _ => rfl) (fun m_op_1 e_ => ?_)
        have hM := lt_e e_ hM
        refine st_aload_n hR dX11_mountain_155 0 rfl rfl (pc' := 156) rfl ?_
        refine st_get hR dX11_mountain_156 fg_X11_75_10_12 0 0 rfl rfl rfl (pc' := 159) rfl ?_
        refine st_iload_n hR dX11_mountain_159 1 rfl rfl (pc' := 160) rfl ?_
        refine st_aload_n hR dX11_mountain_160 0 rfl rfl (pc' := 161) rfl ?_
        refine st_get hR dX11_mountain_161 fg_X11_75_10_12 0 0 rfl rfl rfl (pc' := 164) rfl ?_
        refine st_sipush hR dX11_mountain_164 (v := 1100) rfl (pc' := 167) rfl ?_
        refine st_iload_n hR dX11_mountain_167 1 rfl rfl (pc' := 168) rfl ?_
        refine st_iadd hR dX11_mountain_168 (pc' := 169) rfl ?_
        obtain ⟨hin_, hM⟩ := g_in_e hM
        refine st_iald hR dX11_mountain_169 0 8 rfl rfl hin_ (v := m_arg (ix (1100 + l1))) rfl (pc' := 170) rfl ?_
        obtain ⟨hin_, hM⟩ := g_in_e hM
        refine st_iast hR dX11_mountain_170 0 8 rfl rfl hin_ (ix := (ix l1)) rfl (pc' := 171) rfl (fun m_arg_1 => [wX11 G q_m m_thrown m_tape m_taped m_size m_sort m_place m_value m_at m_fault m_words m_rows m_op_1 m_arg_1 m_codes m_names m_ofFeed m_teeth m_feedWords m_goWords m_facts m_pile m_levels m_best m_losses m_lossOf m_wasThere m_groupMany m_groupRow m_groupLoss m_isMarked]) (fun _ => rfl) (fun m_arg_1 e_ => ?_)
        have hM := lt_e e_ hM
        obtain ⟨l1_1, e_⟩ : ∃ y : Int32, y = l1 + 1 := ⟨_, rfl⟩
        refine st_iinc hR dX11_mountain_171 (Nat.le_of_ble_eq_true rfl) 1 [1, 0] (v := l1_1) rfl (by rw [e_]; rfl) (lv' := [(0, .ref (q_m 0)), (1, .int l1_1)]) rfl (pc' := 174) rfl ?_
        have hM := lt_e e_ hM
        refine st_goto hR dX11_mountain_174 (tgt := 131) (by decide) ?_
        exact ih131 _ _ _ _ _ _ _ _ _ _ _ _ _ _ _ _ _ hM
  have J111 : ∀ (m_thrown : Int32) (m_taped : Int32) (m_size : Int32) (m_sort : Nat → Int32) (m_place : Nat → Int32) (m_value : Nat → Int64) (m_at : Int32) (m_fault : Int32) (m_rows : Nat → Int32) (m_op : Nat → Int32) (m_arg : Nat → Int32) (m_codes : Int32) (m_names : Nat → Int64) (m_ofFeed : Int32) (m_teeth : Int32) (m_isMarked : Nat → Int32), f_X11_mountain_B111  m_tape m_words m_feedWords m_goWords m_thrown m_taped m_size m_sort m_place m_value m_at m_fault m_rows m_op m_arg m_codes m_names m_ofFeed m_teeth m_isMarked = some (o_r, o_m_thrown, o_m_taped, o_m_size, o_m_sort, o_m_place, o_m_value, o_m_at, o_m_fault, o_m_rows, o_m_op, o_m_arg, o_m_codes, o_m_names, o_m_ofFeed, o_m_teeth, o_m_isMarked) → K [wX11 G q_m m_thrown m_tape m_taped m_size m_sort m_place m_value m_at m_fault m_words m_rows m_op m_arg m_codes m_names m_ofFeed m_teeth m_feedWords m_goWords m_facts m_pile m_levels m_best m_losses m_lossOf m_wasThere m_groupMany m_groupRow m_groupLoss m_isMarked] [(0, .ref (q_m 0))] 111 [] := by
    intro m_thrown m_taped m_size m_sort m_place m_value m_at m_fault m_rows m_op m_arg m_codes m_names m_ofFeed m_teeth m_isMarked hM
    refine st_aload_n hR dX11_mountain_111 0 rfl rfl (pc' := 112) rfl ?_
    refine st_get hR dX11_mountain_112 fg_X11_144_10_8 0 0 rfl rfl rfl (pc' := 115) rfl ?_
    refine st_if_le hR dX11_mountain_115 (tgt := 123) (by decide) (pc' := 118) rfl (fun c_ => ?_) (fun c_ => ?_)
    · have hM := it_t c_ hM
      refine st_aload_n hR dX11_mountain_123 0 rfl rfl (pc' := 124) rfl ?_
      refine st_iconst hR dX11_mountain_124 (v := 1) rfl (pc' := 125) rfl ?_
      refine st_iconst hR dX11_mountain_125 (v := 0) rfl (pc' := 126) rfl ?_
      obtain ⟨m_rows_1, hc_, hM⟩ := bd_e hM
      refine st_callV hR (k_X11_carry hc_) cf_X11_182 (rm_le (Nat.le_of_ble_eq_true rfl) (Nat.le_of_ble_eq_true rfl)) [0] rfl rfl rfl 0 0 10 30 rfl rfl rfl rfl (rest := []) rfl (Nat.le_of_ble_eq_true rfl) dX11_mountain_126 (pc' := 129) rfl (Wn := [wX11 G q_m m_thrown m_tape m_taped m_size m_sort m_place m_value m_at m_fault m_words m_rows_1 m_op m_arg m_codes m_names m_ofFeed m_teeth m_feedWords m_goWords m_facts m_pile m_levels m_best m_losses m_lossOf m_wasThere m_groupMany m_groupRow m_groupLoss m_isMarked]) rfl ?_
      refine st_iconst hR dX11_mountain_129 (v := 0) rfl (pc' := 130) rfl ?_
      refine st_istore_n hR dX11_mountain_130 rfl (Nat.le_of_ble_eq_true rfl) [1, 0] (lv' := [(0, .ref (q_m 0)), (1, .int 0)]) rfl (pc' := 131) rfl ?_
      exact L131 FU _ _ _ _ _ _ _ _ _ _ _ _ _ _ _ _ _ hM
    · have hM := it_f c_ hM
      refine st_aload_n hR dX11_mountain_118 0 rfl rfl (pc' := 119) rfl ?_
      refine st_get hR dX11_mountain_119 fg_X11_144_10_8 0 0 rfl rfl rfl (pc' := 122) rfl ?_
      cases hM
      exact hret _ _ dX11_mountain_122 (ro_i _)
  have L79 : ∀ (n79 : Nat) (m_thrown : Int32) (m_taped : Int32) (m_size : Int32) (m_sort : Nat → Int32) (m_place : Nat → Int32) (m_value : Nat → Int64) (m_at : Int32) (m_fault : Int32) (m_rows : Nat → Int32) (m_op : Nat → Int32) (m_arg : Nat → Int32) (m_codes : Int32) (m_names : Nat → Int64) (m_ofFeed : Int32) (m_teeth : Int32) (m_isMarked : Nat → Int32), f_X11_mountain_L79  m_tape m_words m_feedWords m_goWords n79 m_thrown m_taped m_size m_sort m_place m_value m_at m_fault m_rows m_op m_arg m_codes m_names m_ofFeed m_teeth m_isMarked = some (o_r, o_m_thrown, o_m_taped, o_m_size, o_m_sort, o_m_place, o_m_value, o_m_at, o_m_fault, o_m_rows, o_m_op, o_m_arg, o_m_codes, o_m_names, o_m_ofFeed, o_m_teeth, o_m_isMarked) → K [wX11 G q_m m_thrown m_tape m_taped m_size m_sort m_place m_value m_at m_fault m_words m_rows m_op m_arg m_codes m_names m_ofFeed m_teeth m_feedWords m_goWords m_facts m_pile m_levels m_best m_losses m_lossOf m_wasThere m_groupMany m_groupRow m_groupLoss m_isMarked] [(0, .ref (q_m 0))] 79 [] := by
    intro n79
    induction n79 with
    | zero => intro m_thrown m_taped m_size m_sort m_place m_value m_at m_fault m_rows m_op m_arg m_codes m_names m_ofFeed m_teeth m_isMarked hM; exact no_some hM
    | succ n79 ih79 =>
      intro m_thrown m_taped m_size m_sort m_place m_value m_at m_fault m_rows m_op m_arg m_codes m_names m_ofFeed m_teeth m_isMarked hM
      have hM : f_X11_mountain_L79b  (f_X11_mountain_L79  m_tape m_words m_feedWords m_goWords n79) m_tape m_words m_feedWords m_goWords m_thrown m_taped m_size m_sort m_place m_value m_at m_fault m_rows m_op m_arg m_codes m_names m_ofFeed m_teeth m_isMarked = some (o_r, o_m_thrown, o_m_taped, o_m_size, o_m_sort, o_m_place, o_m_value, o_m_at, o_m_fault, o_m_rows, o_m_op, o_m_arg, o_m_codes, o_m_names, o_m_ofFeed, o_m_teeth, o_m_isMarked) := hM
      refine st_aload_n hR dX11_mountain_79 0 rfl rfl (pc' := 80) rfl ?_
      refine st_get hR dX11_mountain_80 fg_X11_144_10_8 0 0 rfl rfl rfl (pc' := 83) rfl ?_
      refine st_if_ne hR dX11_mountain_83 (tgt := 111) (by decide) (pc' := 86) rfl (fun c_ => ?_) (fun c_ => ?_)
      · have hM := it_f c_ hM
        exact J111 _ _ _ _ _ _ _ _ _ _ _ _ _ _ _ _ hM
      · have hM := it_t c_ hM
        refine st_aload_n hR dX11_mountain_86 0 rfl rfl (pc' := 87) rfl ?_
        refine st_get hR dX11_mountain_87 fg_X11_24_10_4 0 0 rfl rfl rfl (pc' := 90) rfl ?_
        refine st_aload_n hR dX11_mountain_90 0 rfl rfl (pc' := 91) rfl ?_
        refine st_get hR dX11_mountain_91 fg_X11_141_10_7 0 0 rfl rfl rfl (pc' := 94) rfl ?_
        obtain ⟨hin_, hM⟩ := g_in_e hM
        refine st_iald hR dX11_mountain_94 0 2 rfl rfl hin_ (v := m_sort (ix m_at)) rfl (pc' := 95) rfl ?_
        refine st_if_eq hR dX11_mountain_95 (tgt := 111) (by decide) (pc' := 98) rfl (fun c_ => ?_) (fun c_ => ?_)
        · have hM := it_t c_ hM
          exact J111 _ _ _ _ _ _ _ _ _ _ _ _ _ _ _ _ hM
        · have hM := it_f c_ hM
          refine st_aload_n hR dX11_mountain_98 0 rfl rfl (pc' := 99) rfl ?_
          obtain ⟨⟨m_at_1, m_fault_1, m_rows_1, m_op_1, m_arg_1, m_codes_1, m_names_1, m_ofFeed_1, m_teeth_1⟩, hc_, hM⟩ := bd_e hM
          refine st_callV hR (k_X11_readLine hc_) cf_X11_176 (rm_le (Nat.le_of_ble_eq_true rfl) (Nat.le_of_ble_eq_true rfl)) [0] rfl rfl rfl 0 0 10 30 rfl rfl rfl rfl (rest := []) rfl (Nat.le_of_ble_eq_true rfl) dX11_mountain_99 (pc' := 102) rfl (Wn := [wX11 G q_m m_thrown m_tape m_taped m_size m_sort m_place m_value m_at_1 m_fault_1 m_words m_rows_1 m_op_1 m_arg_1 m_codes_1 m_names_1 m_ofFeed_1 m_teeth_1 m_feedWords m_goWords m_facts m_pile m_levels m_best m_losses m_lossOf m_wasThere m_groupMany m_groupRow m_groupLoss m_isMarked]) rfl ?_
          refine st_aload_n hR dX11_mountain_102 0 rfl rfl (pc' := 103) rfl ?_
          refine st_bipush hR dX11_mountain_103 (v := 59) rfl (pc' := 105) rfl ?_
          obtain ⟨⟨m_at_2, m_fault_2⟩, hc_, hM⟩ := bd_e hM
          refine st_callV hR (k_X11_takeSign hc_) cf_X11_179 (rm_le (Nat.le_of_ble_eq_true rfl) (Nat.le_of_ble_eq_true rfl)) [0] rfl rfl rfl 0 0 10 30 rfl rfl rfl rfl (rest := []) rfl (Nat.le_of_ble_eq_true rfl) dX11_mountain_105 (pc' := 108) rfl (Wn := [wX11 G q_m m_thrown m_tape m_taped m_size m_sort m_place m_value m_at_2 m_fault_2 m_words m_rows_1 m_op_1 m_arg_1 m_codes_1 m_names_1 m_ofFeed_1 m_teeth_1 m_feedWords m_goWords m_facts m_pile m_levels m_best m_losses m_lossOf m_wasThere m_groupMany m_groupRow m_groupLoss m_isMarked]) rfl ?_
          refine st_goto hR dX11_mountain_108 (tgt := 79) (by decide) ?_
          exact ih79 _ _ _ _ _ _ _ _ _ _ _ _ _ _ _ _ hM
  have L21 : ∀ (n21 : Nat) (m_thrown : Int32) (m_taped : Int32) (m_size : Int32) (m_sort : Nat → Int32) (m_place : Nat → Int32) (m_value : Nat → Int64) (m_at : Int32) (m_fault : Int32) (m_rows : Nat → Int32) (m_op : Nat → Int32) (m_arg : Nat → Int32) (m_codes : Int32) (m_names : Nat → Int64) (m_ofFeed : Int32) (m_teeth : Int32) (m_isMarked : Nat → Int32) (l1 : Int32), f_X11_mountain_L21  m_tape m_words m_feedWords m_goWords n21 m_thrown m_taped m_size m_sort m_place m_value m_at m_fault m_rows m_op m_arg m_codes m_names m_ofFeed m_teeth m_isMarked l1 = some (o_r, o_m_thrown, o_m_taped, o_m_size, o_m_sort, o_m_place, o_m_value, o_m_at, o_m_fault, o_m_rows, o_m_op, o_m_arg, o_m_codes, o_m_names, o_m_ofFeed, o_m_teeth, o_m_isMarked) → K [wX11 G q_m m_thrown m_tape m_taped m_size m_sort m_place m_value m_at m_fault m_words m_rows m_op m_arg m_codes m_names m_ofFeed m_teeth m_feedWords m_goWords m_facts m_pile m_levels m_best m_losses m_lossOf m_wasThere m_groupMany m_groupRow m_groupLoss m_isMarked] [(0, .ref (q_m 0)), (1, .int l1)] 21 [] := by
    intro n21
    induction n21 with
    | zero => intro m_thrown m_taped m_size m_sort m_place m_value m_at m_fault m_rows m_op m_arg m_codes m_names m_ofFeed m_teeth m_isMarked l1 hM; exact no_some hM
    | succ n21 ih21 =>
      have J54 : ∀ (m_thrown : Int32) (m_taped : Int32) (m_size : Int32) (m_sort : Nat → Int32) (m_place : Nat → Int32) (m_value : Nat → Int64) (m_at : Int32) (m_fault : Int32) (m_rows : Nat → Int32) (m_op : Nat → Int32) (m_arg : Nat → Int32) (m_codes : Int32) (m_names : Nat → Int64) (m_ofFeed : Int32) (m_teeth : Int32) (m_isMarked : Nat → Int32) (l1 : Int32) (s0 : Int32) (s1 : Int32), f_X11_mountain_B54  (f_X11_mountain_L21  m_tape m_words m_feedWords m_goWords n21) m_tape m_words m_feedWords m_goWords m_thrown m_taped m_size m_sort m_place m_value m_at m_fault m_rows m_op m_arg m_codes m_names m_ofFeed m_teeth m_isMarked l1 s0 s1 = some (o_r, o_m_thrown, o_m_taped, o_m_size, o_m_sort, o_m_place, o_m_value, o_m_at, o_m_fault, o_m_rows, o_m_op, o_m_arg, o_m_codes, o_m_names, o_m_ofFeed, o_m_teeth, o_m_isMarked) → K [wX11 G q_m m_thrown m_tape m_taped m_size m_sort m_place m_value m_at m_fault m_words m_rows m_op m_arg m_codes m_names m_ofFeed m_teeth m_feedWords m_goWords m_facts m_pile m_levels m_best m_losses m_lossOf m_wasThere m_groupMany m_groupRow m_groupLoss m_isMarked] [(0, .ref (q_m 0)), (1, .int l1)] 54 [.int s0, .int s1, .ref (q_m 6)] := by
        intro m_thrown m_taped m_size m_sort m_place m_value m_at m_fault m_rows m_op m_arg m_codes m_names m_ofFeed m_teeth m_isMarked l1 s0 s1 hM
        obtain ⟨hin_, hM⟩ := g_in_e hM
        refine st_iast hR dX11_mountain_54 0 6 rfl rfl hin_ (ix := (ix s1)) rfl (pc' := 55) rfl (fun m_rows_1 => [wX11 G q_m m_thrown m_tape m_taped m_size m_sort m_place m_value m_at m_fault m_words m_rows_1 m_op m_arg m_codes m_names m_ofFeed m_teeth m_feedWords m_goWords m_facts m_pile m_levels m_best m_losses m_lossOf m_wasThere m_groupMany m_groupRow m_groupLoss m_isMarked]) (fun _ => rfl) (fun m_rows_1 e_ => ?_)
        have hM := lt_e e_ hM
        obtain ⟨l1_1, e_⟩ : ∃ y : Int32, y = l1 + 1 := ⟨_, rfl⟩
        refine st_iinc hR dX11_mountain_55 (Nat.le_of_ble_eq_true rfl) 1 [1, 0] (v := l1_1) rfl (by rw [e_]; rfl) (lv' := [(0, .ref (q_m 0)), (1, .int l1_1)]) rfl (pc' := 58) rfl ?_
        have hM := lt_e e_ hM
        refine st_goto hR dX11_mountain_58 (tgt := 21) (by decide) ?_
        exact ih21 _ _ _ _ _ _ _ _ _ _ _ _ _ _ _ _ _ hM
      have J53 : ∀ (m_thrown : Int32) (m_taped : Int32) (m_size : Int32) (m_sort : Nat → Int32) (m_place : Nat → Int32) (m_value : Nat → Int64) (m_at : Int32) (m_fault : Int32) (m_rows : Nat → Int32) (m_op : Nat → Int32) (m_arg : Nat → Int32) (m_codes : Int32) (m_names : Nat → Int64) (m_ofFeed : Int32) (m_teeth : Int32) (m_isMarked : Nat → Int32) (l1 : Int32) (s0 : Int32), f_X11_mountain_B53  (f_X11_mountain_L21  m_tape m_words m_feedWords m_goWords n21) m_tape m_words m_feedWords m_goWords m_thrown m_taped m_size m_sort m_place m_value m_at m_fault m_rows m_op m_arg m_codes m_names m_ofFeed m_teeth m_isMarked l1 s0 = some (o_r, o_m_thrown, o_m_taped, o_m_size, o_m_sort, o_m_place, o_m_value, o_m_at, o_m_fault, o_m_rows, o_m_op, o_m_arg, o_m_codes, o_m_names, o_m_ofFeed, o_m_teeth, o_m_isMarked) → K [wX11 G q_m m_thrown m_tape m_taped m_size m_sort m_place m_value m_at m_fault m_words m_rows m_op m_arg m_codes m_names m_ofFeed m_teeth m_feedWords m_goWords m_facts m_pile m_levels m_best m_losses m_lossOf m_wasThere m_groupMany m_groupRow m_groupLoss m_isMarked] [(0, .ref (q_m 0)), (1, .int l1)] 53 [.int s0, .ref (q_m 6)] := by
        intro m_thrown m_taped m_size m_sort m_place m_value m_at m_fault m_rows m_op m_arg m_codes m_names m_ofFeed m_teeth m_isMarked l1 s0 hM
        refine st_iconst hR dX11_mountain_53 (v := 0) rfl (pc' := 54) rfl ?_
        exact J54 _ _ _ _ _ _ _ _ _ _ _ _ _ _ _ _ _ _ _ hM
      intro m_thrown m_taped m_size m_sort m_place m_value m_at m_fault m_rows m_op m_arg m_codes m_names m_ofFeed m_teeth m_isMarked l1 hM
      have hM : f_X11_mountain_L21b  (f_X11_mountain_L21  m_tape m_words m_feedWords m_goWords n21) m_tape m_words m_feedWords m_goWords m_thrown m_taped m_size m_sort m_place m_value m_at m_fault m_rows m_op m_arg m_codes m_names m_ofFeed m_teeth m_isMarked l1 = some (o_r, o_m_thrown, o_m_taped, o_m_size, o_m_sort, o_m_place, o_m_value, o_m_at, o_m_fault, o_m_rows, o_m_op, o_m_arg, o_m_codes, o_m_names, o_m_ofFeed, o_m_teeth, o_m_isMarked) := hM
      refine st_iload_n hR dX11_mountain_21 1 rfl rfl (pc' := 22) rfl ?_
      refine st_sipush hR dX11_mountain_22 (v := 1000) rfl (pc' := 25) rfl ?_
      refine st_icmp_ge hR dX11_mountain_25 (tgt := 61) (by decide) (pc' := 28) rfl (fun c_ => ?_) (fun c_ => ?_)
      · have hM := it_t c_ hM
        refine st_aload_n hR dX11_mountain_61 0 rfl rfl (pc' := 62) rfl ?_
        refine st_get hR dX11_mountain_62 fg_X11_69_10_10 0 0 rfl rfl rfl (pc' := 65) rfl ?_
        refine st_sipush hR dX11_mountain_65 (v := 1005) rfl (pc' := 68) rfl ?_
        refine st_iconst hR dX11_mountain_68 (v := (-1)) (by decide) (pc' := 69) rfl ?_
        refine st_iast hR dX11_mountain_69 0 6 rfl rfl (vp_lit 1005 rfl rfl rfl) (ix := 1005) (cl_lit 1005 rfl rfl) (pc' := 70) rfl (fun m_rows_1 => [wX11 G q_m m_thrown m_tape m_taped m_size m_sort m_place m_value m_at m_fault m_words m_rows_1 m_op m_arg m_codes m_names m_ofFeed m_teeth m_feedWords m_goWords m_facts m_pile m_levels m_best m_losses m_lossOf m_wasThere m_groupMany m_groupRow m_groupLoss m_isMarked]) (fun _ => rfl) (fun m_rows_1 e_ => ?_)
        have hM := lt_e e_ hM
        refine st_aload_n hR dX11_mountain_70 0 rfl rfl (pc' := 71) rfl ?_
        refine st_get hR dX11_mountain_71 fg_X11_69_10_10 0 0 rfl rfl rfl (pc' := 74) rfl ?_
        refine st_sipush hR dX11_mountain_74 (v := 1006) rfl (pc' := 77) rfl ?_
        refine st_iconst hR dX11_mountain_77 (v := (-1)) (by decide) (pc' := 78) rfl ?_
        refine st_iast hR dX11_mountain_78 0 6 rfl rfl (vp_lit 1006 rfl rfl rfl) (ix := 1006) (cl_lit 1006 rfl rfl) (pc' := 79) rfl (fun m_rows_2 => [wX11 G q_m m_thrown m_tape m_taped m_size m_sort m_place m_value m_at m_fault m_words m_rows_2 m_op m_arg m_codes m_names m_ofFeed m_teeth m_feedWords m_goWords m_facts m_pile m_levels m_best m_losses m_lossOf m_wasThere m_groupMany m_groupRow m_groupLoss m_isMarked]) (fun _ => rfl) (fun m_rows_2 e_ => ?_)
        have hM := lt_e e_ hM
        exact st_lv hR [0] rfl (L79 FU _ _ _ _ _ _ _ _ _ _ _ _ _ _ _ _ hM)
      · have hM := it_f c_ hM
        refine st_aload_n hR dX11_mountain_28 0 rfl rfl (pc' := 29) rfl ?_
        refine st_get hR dX11_mountain_29 fg_X11_69_10_10 0 0 rfl rfl rfl (pc' := 32) rfl ?_
        refine st_sipush hR dX11_mountain_32 (v := 1000) rfl (pc' := 35) rfl ?_
        refine st_iload_n hR dX11_mountain_35 1 rfl rfl (pc' := 36) rfl ?_
        refine st_iadd hR dX11_mountain_36 (pc' := 37) rfl ?_
        refine st_iload_n hR dX11_mountain_37 1 rfl rfl (pc' := 38) rfl ?_
        refine st_bipush hR dX11_mountain_38 (v := 50) rfl (pc' := 40) rfl ?_
        refine st_icmp_lt hR dX11_mountain_40 (tgt := 53) (by decide) (pc' := 43) rfl (fun c_ => ?_) (fun c_ => ?_)
        · have hM := it_t c_ hM
          exact J53 _ _ _ _ _ _ _ _ _ _ _ _ _ _ _ _ _ _ hM
        · have hM := it_f c_ hM
          refine st_iload_n hR dX11_mountain_43 1 rfl rfl (pc' := 44) rfl ?_
          refine st_bipush hR dX11_mountain_44 (v := 74) rfl (pc' := 46) rfl ?_
          refine st_icmp_ge hR dX11_mountain_46 (tgt := 53) (by decide) (pc' := 49) rfl (fun c_ => ?_) (fun c_ => ?_)
          · have hM := it_t c_ hM
            exact J53 _ _ _ _ _ _ _ _ _ _ _ _ _ _ _ _ _ _ hM
          · have hM := it_f c_ hM
            refine st_iconst hR dX11_mountain_49 (v := 1) rfl (pc' := 50) rfl ?_
            refine st_goto hR dX11_mountain_50 (tgt := 54) (by decide) ?_
            exact J54 _ _ _ _ _ _ _ _ _ _ _ _ _ _ _ _ _ _ _ hM
  refine st_aload_n hR dX11_mountain_0 0 rfl rfl (pc' := 1) rfl ?_
  refine st_iconst hR dX11_mountain_1 (v := 0) rfl (pc' := 2) rfl ?_
  refine st_put hR dX11_mountain_2 fp_X11_1_10_0 0 0 rfl rfl (Nat.le_of_ble_eq_true rfl) rfl rfl (pc' := 5) rfl (W' := [wX11 G q_m 0 m_tape m_taped m_size m_sort m_place m_value m_at m_fault m_words m_rows m_op m_arg m_codes m_names m_ofFeed m_teeth m_feedWords m_goWords m_facts m_pile m_levels m_best m_losses m_lossOf m_wasThere m_groupMany m_groupRow m_groupLoss m_isMarked]) rfl ?_
  refine st_aload_n hR dX11_mountain_5 0 rfl rfl (pc' := 6) rfl ?_
  obtain ⟨⟨m_taped_1, m_size_1, m_sort_1, m_place_1, m_value_1, m_at_1, m_fault_1⟩, hc_, hM⟩ := bd_e hM
  refine st_callV hR (k_X11_cutAll hc_) cf_X11_167 (rm_le (Nat.le_of_ble_eq_true rfl) (Nat.le_of_ble_eq_true rfl)) [0] rfl rfl rfl 0 0 10 30 rfl rfl rfl rfl (rest := []) rfl (Nat.le_of_ble_eq_true rfl) dX11_mountain_6 (pc' := 9) rfl (Wn := [wX11 G q_m 0 m_tape m_taped_1 m_size_1 m_sort_1 m_place_1 m_value_1 m_at_1 m_fault_1 m_words m_rows m_op m_arg m_codes m_names m_ofFeed m_teeth m_feedWords m_goWords m_facts m_pile m_levels m_best m_losses m_lossOf m_wasThere m_groupMany m_groupRow m_groupLoss m_isMarked]) rfl ?_
  refine st_aload_n hR dX11_mountain_9 0 rfl rfl (pc' := 10) rfl ?_
  refine st_iconst hR dX11_mountain_10 (v := 0) rfl (pc' := 11) rfl ?_
  refine st_put hR dX11_mountain_11 fp_X11_170_10_13 0 0 rfl rfl (Nat.le_of_ble_eq_true rfl) rfl rfl (pc' := 14) rfl (W' := [wX11 G q_m 0 m_tape m_taped_1 m_size_1 m_sort_1 m_place_1 m_value_1 m_at_1 m_fault_1 m_words m_rows m_op m_arg 0 m_names m_ofFeed m_teeth m_feedWords m_goWords m_facts m_pile m_levels m_best m_losses m_lossOf m_wasThere m_groupMany m_groupRow m_groupLoss m_isMarked]) rfl ?_
  refine st_aload_n hR dX11_mountain_14 0 rfl rfl (pc' := 15) rfl ?_
  refine st_iconst hR dX11_mountain_15 (v := 0) rfl (pc' := 16) rfl ?_
  refine st_put hR dX11_mountain_16 fp_X11_173_10_16 0 0 rfl rfl (Nat.le_of_ble_eq_true rfl) rfl rfl (pc' := 19) rfl (W' := [wX11 G q_m 0 m_tape m_taped_1 m_size_1 m_sort_1 m_place_1 m_value_1 m_at_1 m_fault_1 m_words m_rows m_op m_arg 0 m_names m_ofFeed 0 m_feedWords m_goWords m_facts m_pile m_levels m_best m_losses m_lossOf m_wasThere m_groupMany m_groupRow m_groupLoss m_isMarked]) rfl ?_
  refine st_iconst hR dX11_mountain_19 (v := 0) rfl (pc' := 20) rfl ?_
  refine st_istore_n hR dX11_mountain_20 rfl (Nat.le_of_ble_eq_true rfl) [1, 0] (lv' := [(0, .ref (q_m 0)), (1, .int 0)]) rfl (pc' := 21) rfl ?_
  exact L21 FU _ _ _ _ _ _ _ _ _ _ _ _ _ _ _ _ _ hM
set_option maxHeartbeats 16000000 in
set_option maxRecDepth 100000 in
theorem k_X11_both {l : Launch} {G : GG}  {l0 l1 l2 : Int32} {o_r : Int32} (hM : f_X11_both l0 l1 l2 = some o_r) : MC l G yX11_both cX11_both 3 (some .int) (RM 0) [.int l0, .int l1, .int l2] [] (some (.int o_r)) [] := by
  refine MC.of pn_X11 (Nat.le_of_ble_eq_true rfl) (fun K hR hret => ?_)
  have hR : Rl l G RX11 cX11_both 3 (RM 0) K := hR
  show K [] [(0, .int l0), (1, .int l1), (2, .int l2)] 0 []
  have J96 : f_X11_both_B96   = some o_r → K [] [] 96 [] := by
    intro  hM
    refine st_iconst hR dX11_both_96 (v := 1) rfl (pc' := 97) rfl ?_
    refine st_goto hR dX11_both_97 (tgt := 101) (by decide) ?_
    cases hM
    exact hret _ _ dX11_both_101 (ro_i _)
  refine st_iload_n hR dX11_both_0 0 rfl rfl (pc' := 1) rfl ?_
  refine st_sw_case hR dX11_both_1 0 (x0 := 4) (by decide) (by decide) rfl (tgt := 40) (by decide) (fun c0_ => ?_) (fun c0_ => ?_)
  · have hM := it_t c0_ hM
    refine st_iload_n hR dX11_both_40 1 rfl rfl (pc' := 41) rfl ?_
    refine st_iload_n hR dX11_both_41 2 rfl rfl (pc' := 42) rfl ?_
    refine st_iadd hR dX11_both_42 (pc' := 43) rfl ?_
    cases hM
    exact hret _ _ dX11_both_43 (ro_i _)
  · have hM := it_f c0_ hM
    refine st_sw_case hR dX11_both_1 1 (x0 := 5) (by decide) (by decide) rfl (tgt := 44) (by decide) (fun c1_ => ?_) (fun c1_ => ?_)
    · have hM := it_t c1_ hM
      refine st_iload_n hR dX11_both_44 1 rfl rfl (pc' := 45) rfl ?_
      refine st_iload_n hR dX11_both_45 2 rfl rfl (pc' := 46) rfl ?_
      refine st_isub hR dX11_both_46 (pc' := 47) rfl ?_
      cases hM
      exact hret _ _ dX11_both_47 (ro_i _)
    · have hM := it_f c1_ hM
      refine st_sw_case hR dX11_both_1 2 (x0 := 6) (by decide) (by decide) rfl (tgt := 48) (by decide) (fun c2_ => ?_) (fun c2_ => ?_)
      · have hM := it_t c2_ hM
        refine st_iload_n hR dX11_both_48 1 rfl rfl (pc' := 49) rfl ?_
        refine st_iload_n hR dX11_both_49 2 rfl rfl (pc' := 50) rfl ?_
        refine st_imul hR dX11_both_50 (pc' := 51) rfl ?_
        cases hM
        exact hret _ _ dX11_both_51 (ro_i _)
      · have hM := it_f c2_ hM
        refine st_sw_case hR dX11_both_1 3 (x0 := 7) (by decide) (by decide) rfl (tgt := 52) (by decide) (fun c3_ => ?_) (fun c3_ => ?_)
        · have hM := it_t c3_ hM
          refine st_iload_n hR dX11_both_52 1 rfl rfl (pc' := 53) rfl ?_
          refine st_iload_n hR dX11_both_53 2 rfl rfl (pc' := 54) rfl ?_
          refine st_icmp_ge hR dX11_both_54 (tgt := 61) (by decide) (pc' := 57) rfl (fun c_ => ?_) (fun c_ => ?_)
          · have hM := it_t c_ hM
            refine st_iconst hR dX11_both_61 (v := 0) rfl (pc' := 62) rfl ?_
            cases hM
            exact hret _ _ dX11_both_62 (ro_i _)
          · have hM := it_f c_ hM
            refine st_iconst hR dX11_both_57 (v := 1) rfl (pc' := 58) rfl ?_
            refine st_goto hR dX11_both_58 (tgt := 62) (by decide) ?_
            cases hM
            exact hret _ _ dX11_both_62 (ro_i _)
        · have hM := it_f c3_ hM
          refine st_sw_case hR dX11_both_1 4 (x0 := 8) (by decide) (by decide) rfl (tgt := 63) (by decide) (fun c4_ => ?_) (fun c4_ => ?_)
          · have hM := it_t c4_ hM
            refine st_iload_n hR dX11_both_63 1 rfl rfl (pc' := 64) rfl ?_
            refine st_iload_n hR dX11_both_64 2 rfl rfl (pc' := 65) rfl ?_
            refine st_icmp_ne hR dX11_both_65 (tgt := 72) (by decide) (pc' := 68) rfl (fun c_ => ?_) (fun c_ => ?_)
            · have hM := it_f c_ hM
              refine st_iconst hR dX11_both_72 (v := 0) rfl (pc' := 73) rfl ?_
              cases hM
              exact hret _ _ dX11_both_73 (ro_i _)
            · have hM := it_t c_ hM
              refine st_iconst hR dX11_both_68 (v := 1) rfl (pc' := 69) rfl ?_
              refine st_goto hR dX11_both_69 (tgt := 73) (by decide) ?_
              cases hM
              exact hret _ _ dX11_both_73 (ro_i _)
          · have hM := it_f c4_ hM
            refine st_sw_case hR dX11_both_1 5 (x0 := 9) (by decide) (by decide) rfl (tgt := 74) (by decide) (fun c5_ => ?_) (fun c5_ => ?_)
            · have hM := it_t c5_ hM
              refine st_iload_n hR dX11_both_74 1 rfl rfl (pc' := 75) rfl ?_
              refine st_if_eq hR dX11_both_75 (tgt := 86) (by decide) (pc' := 78) rfl (fun c_ => ?_) (fun c_ => ?_)
              · have hM := it_t c_ hM
                refine st_iconst hR dX11_both_86 (v := 0) rfl (pc' := 87) rfl ?_
                cases hM
                exact hret _ _ dX11_both_87 (ro_i _)
              · have hM := it_f c_ hM
                refine st_iload_n hR dX11_both_78 2 rfl rfl (pc' := 79) rfl ?_
                refine st_if_eq hR dX11_both_79 (tgt := 86) (by decide) (pc' := 82) rfl (fun c_ => ?_) (fun c_ => ?_)
                · have hM := it_t c_ hM
                  refine st_iconst hR dX11_both_86 (v := 0) rfl (pc' := 87) rfl ?_
                  cases hM
                  exact hret _ _ dX11_both_87 (ro_i _)
                · have hM := it_f c_ hM
                  refine st_iconst hR dX11_both_82 (v := 1) rfl (pc' := 83) rfl ?_
                  refine st_goto hR dX11_both_83 (tgt := 87) (by decide) ?_
                  cases hM
                  exact hret _ _ dX11_both_87 (ro_i _)
            · have hM := it_f c5_ hM
              have z0_ := sw_ne c0_ (k := 4) (by decide)
              have z1_ := sw_ne c1_ (k := 5) (by decide)
              have z2_ := sw_ne c2_ (k := 6) (by decide)
              have z3_ := sw_ne c3_ (k := 7) (by decide)
              have z4_ := sw_ne c4_ (k := 8) (by decide)
              have z5_ := sw_ne c5_ (k := 9) (by decide)
              refine st_sw_def hR dX11_both_1 (tgt := 88) (by decide) (by omega) ?_
              refine st_iload_n hR dX11_both_88 1 rfl rfl (pc' := 89) rfl ?_
              refine st_if_ne hR dX11_both_89 (tgt := 96) (by decide) (pc' := 92) rfl (fun c_ => ?_) (fun c_ => ?_)
              · have hM := it_f c_ hM
                exact st_lv hR [] rfl (J96  hM)
              · have hM := it_t c_ hM
                refine st_iload_n hR dX11_both_92 2 rfl rfl (pc' := 93) rfl ?_
                refine st_if_eq hR dX11_both_93 (tgt := 100) (by decide) (pc' := 96) rfl (fun c_ => ?_) (fun c_ => ?_)
                · have hM := it_t c_ hM
                  refine st_iconst hR dX11_both_100 (v := 0) rfl (pc' := 101) rfl ?_
                  cases hM
                  exact hret _ _ dX11_both_101 (ro_i _)
                · have hM := it_f c_ hM
                  exact st_lv hR [] rfl (J96  hM)
