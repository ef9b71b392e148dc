set_option maxHeartbeats 16000000 in
set_option maxRecDepth 100000 in
theorem k_X11_worthAt {l : Launch} {G : GG} {q_m : Nat → Nat} {m_thrown m_taped m_size m_at m_fault m_codes m_ofFeed m_teeth m_levels m_groupMany : Int32} {m_tape m_sort m_place m_rows m_op m_arg m_feedWords m_goWords m_facts m_pile m_best m_losses m_lossOf m_wasThere m_groupRow m_groupLoss m_isMarked : Nat → Int32} {m_value m_words m_names : Nat → Int64} {l1 : Int32} {o_r : Int32} {o_m_pile : Nat → Int32} (hM : f_X11_worthAt m_op m_arg m_facts m_pile l1 = some (o_r, o_m_pile)) : MC l G yX11_worthAt cX11_worthAt 5 (some .int) (RM 1) [.ref (q_m 0), .int l1] [wX11 G q_m m_thrown m_tape m_taped m_size m_sort m_place m_value m_at m_fault m_words m_rows m_op m_arg m_codes m_names m_ofFeed m_teeth m_feedWords m_goWords m_facts m_pile m_levels m_best m_losses m_lossOf m_wasThere m_groupMany m_groupRow m_groupLoss m_isMarked] (some (.int o_r)) [wX11 G q_m m_thrown m_tape m_taped m_size m_sort m_place m_value m_at m_fault m_words m_rows m_op m_arg m_codes m_names m_ofFeed m_teeth m_feedWords m_goWords m_facts o_m_pile m_levels m_best m_losses m_lossOf m_wasThere m_groupMany m_groupRow m_groupLoss m_isMarked] := by
  refine MC.of pn_X11 (Nat.le_of_ble_eq_true rfl) (fun K hR hret => ?_)
  have hR : Rl l G RX11 cX11_worthAt 5 (RM 1) K := hR
  show K [wX11 G q_m m_thrown m_tape m_taped m_size m_sort m_place m_value m_at m_fault m_words m_rows m_op m_arg m_codes m_names m_ofFeed m_teeth m_feedWords m_goWords m_facts m_pile m_levels m_best m_losses m_lossOf m_wasThere m_groupMany m_groupRow m_groupLoss m_isMarked] [(0, .ref (q_m 0)), (1, .int l1)] 0 []
  have L4 : ∀ (n4 : Nat) (m_pile : Nat → Int32) (l2 : Int32) (l3 : Int32), f_X11_worthAt_L4  m_op m_arg m_facts n4 m_pile l2 l3 = some (o_r, o_m_pile) → K [wX11 G q_m m_thrown m_tape m_taped m_size m_sort m_place m_value m_at m_fault m_words m_rows m_op m_arg m_codes m_names m_ofFeed m_teeth m_feedWords m_goWords m_facts m_pile m_levels m_best m_losses m_lossOf m_wasThere m_groupMany m_groupRow m_groupLoss m_isMarked] [(0, .ref (q_m 0)), (2, .int l2), (3, .int l3)] 4 [] := by
    intro n4
    induction n4 with
    | zero => intro m_pile l2 l3 hM; exact no_some hM
    | succ n4 ih4 =>
      have J134 : ∀ (m_pile : Nat → Int32) (l2 : Int32) (l3 : Int32), f_X11_worthAt_B134  (f_X11_worthAt_L4  m_op m_arg m_facts n4) m_op m_arg m_facts m_pile l2 l3 = some (o_r, o_m_pile) → K [wX11 G q_m m_thrown m_tape m_taped m_size m_sort m_place m_value m_at m_fault m_words m_rows m_op m_arg m_codes m_names m_ofFeed m_teeth m_feedWords m_goWords m_facts m_pile m_levels m_best m_losses m_lossOf m_wasThere m_groupMany m_groupRow m_groupLoss m_isMarked] [(0, .ref (q_m 0)), (2, .int l2), (3, .int l3)] 134 [] := by
        intro m_pile l2 l3 hM
        obtain ⟨l3_1, e_⟩ : ∃ y : Int32, y = l3 + 1 := ⟨_, rfl⟩
        refine st_iinc hR dX11_worthAt_134 (Nat.le_of_ble_eq_true rfl) 2 [1, 2, 0] (v := l3_1) rfl (by rw [e_]; rfl) (lv' := [(0, .ref (q_m 0)), (2, .int l2), (3, .int l3_1)]) rfl (pc' := 137) rfl ?_
        have hM := lt_e e_ hM
        refine st_goto hR dX11_worthAt_137 (tgt := 4) (by decide) ?_
        exact ih4 _ _ _ hM
      have J64 : ∀ (m_pile : Nat → Int32) (l2 : Int32) (l3 : Int32) (s0 : Int32) (s1 : Int32), f_X11_worthAt_B64  (f_X11_worthAt_L4  m_op m_arg m_facts n4) m_op m_arg m_facts m_pile l2 l3 s0 s1 = some (o_r, o_m_pile) → K [wX11 G q_m m_thrown m_tape m_taped m_size m_sort m_place m_value m_at m_fault m_words m_rows m_op m_arg m_codes m_names m_ofFeed m_teeth m_feedWords m_goWords m_facts m_pile m_levels m_best m_losses m_lossOf m_wasThere m_groupMany m_groupRow m_groupLoss m_isMarked] [(0, .ref (q_m 0)), (2, .int l2), (3, .int l3)] 64 [.int s0, .int s1, .ref (q_m 13)] := by
        intro m_pile l2 l3 s0 s1 hM
        obtain ⟨hin_, hM⟩ := g_in_e hM
        refine st_iast hR dX11_worthAt_64 0 13 rfl rfl hin_ (ix := (ix s1)) rfl (pc' := 65) rfl (fun m_pile_1 => [wX11 G q_m m_thrown m_tape m_taped m_size m_sort m_place m_value m_at m_fault m_words m_rows m_op m_arg m_codes m_names m_ofFeed m_teeth m_feedWords m_goWords m_facts m_pile_1 m_levels m_best m_losses m_lossOf m_wasThere m_groupMany m_groupRow m_groupLoss m_isMarked]) (fun _ => rfl) (fun m_pile_1 e_ => ?_)
        have hM := lt_e e_ hM
        obtain ⟨l2_1, e_⟩ : ∃ y : Int32, y = l2 + 1 := ⟨_, rfl⟩
        refine st_iinc hR dX11_worthAt_65 (Nat.le_of_ble_eq_true rfl) 1 [1, 0, 2] (v := l2_1) rfl (by rw [e_]; rfl) (lv' := [(0, .ref (q_m 0)), (2, .int l2_1), (3, .int l3)]) rfl (pc' := 68) rfl ?_
        have hM := lt_e e_ hM
        refine st_goto hR dX11_worthAt_68 (tgt := 134) (by decide) ?_
        exact J134 _ _ _ hM
      have J33 : ∀ (m_pile : Nat → Int32) (l2 : Int32) (l3 : Int32) (l4 : Int32), f_X11_worthAt_B33  (f_X11_worthAt_L4  m_op m_arg m_facts n4) m_op m_arg m_facts m_pile l2 l3 l4 = some (o_r, o_m_pile) → K [wX11 G q_m m_thrown m_tape m_taped m_size m_sort m_place m_value m_at m_fault m_words m_rows m_op m_arg m_codes m_names m_ofFeed m_teeth m_feedWords m_goWords m_facts m_pile m_levels m_best m_losses m_lossOf m_wasThere m_groupMany m_groupRow m_groupLoss m_isMarked] [(0, .ref (q_m 0)), (2, .int l2), (3, .int l3), (4, .int l4)] 33 [] := by
        intro m_pile l2 l3 l4 hM
        refine st_aload_n hR dX11_worthAt_33 0 rfl rfl (pc' := 34) rfl ?_
        refine st_get hR dX11_worthAt_34 fg_X11_90_10_20 0 0 rfl rfl rfl (pc' := 37) rfl ?_
        refine st_iload_n hR dX11_worthAt_37 1 rfl rfl (pc' := 38) rfl ?_
        refine st_iload hR dX11_worthAt_38 3 rfl (pc' := 40) rfl ?_
        refine st_iconst hR dX11_worthAt_40 (v := 1) rfl (pc' := 41) rfl ?_
        refine st_icmp_ne hR dX11_worthAt_41 (tgt := 53) (by decide) (pc' := 44) rfl (fun c_ => ?_) (fun c_ => ?_)
        · have hM := it_f c_ hM
          refine st_aload_n hR dX11_worthAt_53 0 rfl rfl (pc' := 54) rfl ?_
          refine st_get hR dX11_worthAt_54 fg_X11_87_10_19 0 0 rfl rfl rfl (pc' := 57) rfl ?_
          refine st_aload_n hR dX11_worthAt_57 0 rfl rfl (pc' := 58) rfl ?_
          refine st_get hR dX11_worthAt_58 fg_X11_75_10_12 0 0 rfl rfl rfl (pc' := 61) rfl ?_
          refine st_iload_n hR dX11_worthAt_61 2 rfl rfl (pc' := 62) rfl ?_
          obtain ⟨hin_, hM⟩ := g_in_e hM
          refine st_iald hR dX11_worthAt_62 0 8 rfl rfl hin_ (v := m_arg (ix l3)) rfl (pc' := 63) rfl ?_
          obtain ⟨hin_, hM⟩ := g_in_e hM
          refine st_iald hR dX11_worthAt_63 0 12 rfl rfl hin_ (v := m_facts (ix (m_arg (ix l3)))) rfl (pc' := 64) rfl ?_
          exact st_lv hR [0, 1, 2] rfl (J64 _ _ _ _ _ hM)
        · have hM := it_t c_ hM
          refine st_aload_n hR dX11_worthAt_44 0 rfl rfl (pc' := 45) rfl ?_
          refine st_get hR dX11_worthAt_45 fg_X11_75_10_12 0 0 rfl rfl rfl (pc' := 48) rfl ?_
          refine st_iload_n hR dX11_worthAt_48 2 rfl rfl (pc' := 49) rfl ?_
          obtain ⟨hin_, hM⟩ := g_in_e hM
          refine st_iald hR dX11_worthAt_49 0 8 rfl rfl hin_ (v := m_arg (ix l3)) rfl (pc' := 50) rfl ?_
          refine st_goto hR dX11_worthAt_50 (tgt := 64) (by decide) ?_
          exact st_lv hR [0, 1, 2] rfl (J64 _ _ _ _ _ hM)
      have J100 : ∀ (m_pile : Nat → Int32) (l2 : Int32) (l3 : Int32) (s0 : Int32) (s1 : Int32), f_X11_worthAt_B100  (f_X11_worthAt_L4  m_op m_arg m_facts n4) m_op m_arg m_facts m_pile l2 l3 s0 s1 = some (o_r, o_m_pile) → K [wX11 G q_m m_thrown m_tape m_taped m_size m_sort m_place m_value m_at m_fault m_words m_rows m_op m_arg m_codes m_names m_ofFeed m_teeth m_feedWords m_goWords m_facts m_pile m_levels m_best m_losses m_lossOf m_wasThere m_groupMany m_groupRow m_groupLoss m_isMarked] [(0, .ref (q_m 0)), (2, .int l2), (3, .int l3)] 100 [.int s0, .int s1, .ref (q_m 13)] := by
        intro m_pile l2 l3 s0 s1 hM
        obtain ⟨hin_, hM⟩ := g_in_e hM
        refine st_iast hR dX11_worthAt_100 0 13 rfl rfl hin_ (ix := (ix s1)) rfl (pc' := 101) rfl (fun m_pile_1 => [wX11 G q_m m_thrown m_tape m_taped m_size m_sort m_place m_value m_at m_fault m_words m_rows m_op m_arg m_codes m_names m_ofFeed m_teeth m_feedWords m_goWords m_facts m_pile_1 m_levels m_best m_losses m_lossOf m_wasThere m_groupMany m_groupRow m_groupLoss m_isMarked]) (fun _ => rfl) (fun m_pile_1 e_ => ?_)
        have hM := lt_e e_ hM
        refine st_goto hR dX11_worthAt_101 (tgt := 134) (by decide) ?_
        exact J134 _ _ _ hM
      intro m_pile l2 l3 hM
      have hM : f_X11_worthAt_L4b  (f_X11_worthAt_L4  m_op m_arg m_facts n4) m_op m_arg m_facts m_pile l2 l3 = some (o_r, o_m_pile) := hM
      refine st_aload_n hR dX11_worthAt_4 0 rfl rfl (pc' := 5) rfl ?_
      refine st_get hR dX11_worthAt_5 fg_X11_72_10_11 0 0 rfl rfl rfl (pc' := 8) rfl ?_
      refine st_iload_n hR dX11_worthAt_8 2 rfl rfl (pc' := 9) rfl ?_
      obtain ⟨hin_, hM⟩ := g_in_e hM
      refine st_iald hR dX11_worthAt_9 0 7 rfl rfl hin_ (v := m_op (ix l3)) rfl (pc' := 10) rfl ?_
      refine st_if_eq hR dX11_worthAt_10 (tgt := 140) (by decide) (pc' := 13) rfl (fun c_ => ?_) (fun c_ => ?_)
      · have hM := it_t c_ hM
        refine st_aload_n hR dX11_worthAt_140 0 rfl rfl (pc' := 141) rfl ?_
        refine st_get hR dX11_worthAt_141 fg_X11_90_10_20 0 0 rfl rfl rfl (pc' := 144) rfl ?_
        refine st_iconst hR dX11_worthAt_144 (v := 0) rfl (pc' := 145) rfl ?_
        refine st_iald hR dX11_worthAt_145 0 13 rfl rfl (vp_lit 0 rfl rfl rfl) (v := m_pile 0) (congrArg m_pile (cl_lit 0 rfl rfl)) (pc' := 146) rfl ?_
        cases hM
        exact hret _ _ dX11_worthAt_146 (ro_i _)
      · have hM := it_f c_ hM
        refine st_aload_n hR dX11_worthAt_13 0 rfl rfl (pc' := 14) rfl ?_
        refine st_get hR dX11_worthAt_14 fg_X11_72_10_11 0 0 rfl rfl rfl (pc' := 17) rfl ?_
        refine st_iload_n hR dX11_worthAt_17 2 rfl rfl (pc' := 18) rfl ?_
        obtain ⟨hin_, hM⟩ := g_in_e hM
        refine st_iald hR dX11_worthAt_18 0 7 rfl rfl hin_ (v := m_op (ix l3)) rfl (pc' := 19) rfl ?_
        refine st_topi (fun l4_1 e_ => ?_)
        have hM := lt_e e_ hM
        refine st_istore hR dX11_worthAt_19 (Nat.le_of_ble_eq_true rfl) [1, 2, 3, 0] (lv' := [(0, .ref (q_m 0)), (2, .int l2), (3, .int l3), (4, .int l4_1)]) rfl (pc' := 21) rfl ?_
        refine st_iload hR dX11_worthAt_21 3 rfl (pc' := 23) rfl ?_
        refine st_iconst hR dX11_worthAt_23 (v := 1) rfl (pc' := 24) rfl ?_
        refine st_icmp_eq hR dX11_worthAt_24 (tgt := 33) (by decide) (pc' := 27) rfl (fun c_ => ?_) (fun c_ => ?_)
        · have hM := it_t c_ hM
          exact J33 _ _ _ _ hM
        · have hM := it_f c_ hM
          refine st_iload hR dX11_worthAt_27 3 rfl (pc' := 29) rfl ?_
          refine st_iconst hR dX11_worthAt_29 (v := 2) rfl (pc' := 30) rfl ?_
          refine st_icmp_ne hR dX11_worthAt_30 (tgt := 71) (by decide) (pc' := 33) rfl (fun c_ => ?_) (fun c_ => ?_)
          · have hM := it_f c_ hM
            refine st_iload hR dX11_worthAt_71 3 rfl (pc' := 73) rfl ?_
            refine st_iconst hR dX11_worthAt_73 (v := 3) rfl (pc' := 74) rfl ?_
            refine st_icmp_ne hR dX11_worthAt_74 (tgt := 104) (by decide) (pc' := 77) rfl (fun c_ => ?_) (fun c_ => ?_)
            · have hM := it_f c_ hM
              obtain ⟨l2_1, e_⟩ : ∃ y : Int32, y = l2 + (-1) := ⟨_, rfl⟩
              refine st_iinc hR dX11_worthAt_104 (Nat.le_of_ble_eq_true rfl) 1 [1, 0, 2, 3] (v := l2_1) rfl (by rw [e_]; rfl) (lv' := [(0, .ref (q_m 0)), (2, .int l2_1), (3, .int l3), (4, .int l4_1)]) rfl (pc' := 107) rfl ?_
              have hM := lt_e e_ hM
              refine st_aload_n hR dX11_worthAt_107 0 rfl rfl (pc' := 108) rfl ?_
              refine st_get hR dX11_worthAt_108 fg_X11_90_10_20 0 0 rfl rfl rfl (pc' := 111) rfl ?_
              refine st_iload_n hR dX11_worthAt_111 1 rfl rfl (pc' := 112) rfl ?_
              refine st_iconst hR dX11_worthAt_112 (v := 1) rfl (pc' := 113) rfl ?_
              refine st_isub hR dX11_worthAt_113 (pc' := 114) rfl ?_
              refine st_iload hR dX11_worthAt_114 3 rfl (pc' := 116) rfl ?_
              refine st_aload_n hR dX11_worthAt_116 0 rfl rfl (pc' := 117) rfl ?_
              refine st_get hR dX11_worthAt_117 fg_X11_90_10_20 0 0 rfl rfl rfl (pc' := 120) rfl ?_
              refine st_iload_n hR dX11_worthAt_120 1 rfl rfl (pc' := 121) rfl ?_
              refine st_iconst hR dX11_worthAt_121 (v := 1) rfl (pc' := 122) rfl ?_
              refine st_isub hR dX11_worthAt_122 (pc' := 123) rfl ?_
              obtain ⟨hin_, hM⟩ := g_in_e hM
              refine st_iald hR dX11_worthAt_123 0 13 rfl rfl hin_ (v := m_pile (ix (l2_1 - 1))) rfl (pc' := 124) rfl ?_
              refine st_aload_n hR dX11_worthAt_124 0 rfl rfl (pc' := 125) rfl ?_
              refine st_get hR dX11_worthAt_125 fg_X11_90_10_20 0 0 rfl rfl rfl (pc' := 128) rfl ?_
              refine st_iload_n hR dX11_worthAt_128 1 rfl rfl (pc' := 129) rfl ?_
              obtain ⟨hin_, hM⟩ := g_in_e hM
              refine st_iald hR dX11_worthAt_129 0 13 rfl rfl hin_ (v := m_pile (ix l2_1)) rfl (pc' := 130) rfl ?_
              obtain ⟨r_1, hc_, hM⟩ := bd_e hM
              refine st_callS hR (k_X11_both hc_) cf_X11_245 (rm_le (Nat.le_of_ble_eq_true rfl) (Nat.le_of_ble_eq_true rfl)) [] rfl rfl rfl rfl (rest := [.int (l2_1 - 1), .ref (q_m 13)]) rfl (Nat.le_of_ble_eq_true rfl) dX11_worthAt_130 (pc' := 133) rfl (Wn := [wX11 G q_m m_thrown m_tape m_taped m_size m_sort m_place m_value m_at m_fault m_words m_rows m_op m_arg m_codes m_names m_ofFeed m_teeth m_feedWords m_goWords m_facts m_pile m_levels m_best m_losses m_lossOf m_wasThere m_groupMany m_groupRow m_groupLoss m_isMarked]) rfl ?_
              obtain ⟨hin_, hM⟩ := g_in_e hM
              refine st_iast hR dX11_worthAt_133 0 13 rfl rfl hin_ (ix := (ix (l2_1 - 1))) rfl (pc' := 134) rfl (fun m_pile_1 => [wX11 G q_m m_thrown m_tape m_taped m_size m_sort m_place m_value m_at m_fault m_words m_rows m_op m_arg m_codes m_names m_ofFeed m_teeth m_feedWords m_goWords m_facts m_pile_1 m_levels m_best m_losses m_lossOf m_wasThere m_groupMany m_groupRow m_groupLoss m_isMarked]) (fun _ => rfl) (fun m_pile_1 e_ => ?_)
              have hM := lt_e e_ hM
              exact st_lv hR [0, 1, 2] rfl (J134 _ _ _ hM)
            · have hM := it_t c_ hM
              refine st_aload_n hR dX11_worthAt_77 0 rfl rfl (pc' := 78) rfl ?_
              refine st_get hR dX11_worthAt_78 fg_X11_90_10_20 0 0 rfl rfl rfl (pc' := 81) rfl ?_
              refine st_iload_n hR dX11_worthAt_81 1 rfl rfl (pc' := 82) rfl ?_
              refine st_iconst hR dX11_worthAt_82 (v := 1) rfl (pc' := 83) rfl ?_
              refine st_isub hR dX11_worthAt_83 (pc' := 84) rfl ?_
              refine st_aload_n hR dX11_worthAt_84 0 rfl rfl (pc' := 85) rfl ?_
              refine st_get hR dX11_worthAt_85 fg_X11_90_10_20 0 0 rfl rfl rfl (pc' := 88) rfl ?_
              refine st_iload_n hR dX11_worthAt_88 1 rfl rfl (pc' := 89) rfl ?_
              refine st_iconst hR dX11_worthAt_89 (v := 1) rfl (pc' := 90) rfl ?_
              refine st_isub hR dX11_worthAt_90 (pc' := 91) rfl ?_
              obtain ⟨hin_, hM⟩ := g_in_e hM
              refine st_iald hR dX11_worthAt_91 0 13 rfl rfl hin_ (v := m_pile (ix (l2 - 1))) rfl (pc' := 92) rfl ?_
              refine st_if_ne hR dX11_worthAt_92 (tgt := 99) (by decide) (pc' := 95) rfl (fun c_ => ?_) (fun c_ => ?_)
              · have hM := it_f c_ hM
                refine st_iconst hR dX11_worthAt_99 (v := 0) rfl (pc' := 100) rfl ?_
                exact st_lv hR [0, 1, 2] rfl (J100 _ _ _ _ _ hM)
              · have hM := it_t c_ hM
                refine st_iconst hR dX11_worthAt_95 (v := 1) rfl (pc' := 96) rfl ?_
                refine st_goto hR dX11_worthAt_96 (tgt := 100) (by decide) ?_
                exact st_lv hR [0, 1, 2] rfl (J100 _ _ _ _ _ hM)
          · have hM := it_t c_ hM
            exact J33 _ _ _ _ hM
  refine st_iconst hR dX11_worthAt_0 (v := 0) rfl (pc' := 1) rfl ?_
  refine st_istore_n hR dX11_worthAt_1 rfl (Nat.le_of_ble_eq_true rfl) [1, 2, 0] (lv' := [(0, .ref (q_m 0)), (1, .int l1), (2, .int 0)]) rfl (pc' := 2) rfl ?_
  refine st_iload_n hR dX11_worthAt_2 1 rfl rfl (pc' := 3) rfl ?_
  refine st_istore_n hR dX11_worthAt_3 rfl (Nat.le_of_ble_eq_true rfl) [1, 2, 3, 0] (lv' := [(0, .ref (q_m 0)), (1, .int l1), (2, .int 0), (3, .int l1)]) rfl (pc' := 4) rfl ?_
  exact st_lv hR [0, 2, 3] rfl (L4 FU _ _ _ hM)
set_option maxHeartbeats 16000000 in
set_option maxRecDepth 100000 in
theorem k_X11_farms {l : Launch} {G : GG} {q_m : Nat → Nat} {m_thrown m_taped m_size m_at m_fault m_codes m_ofFeed m_teeth m_levels m_groupMany : Int32} {m_tape m_sort m_place m_rows m_op m_arg m_feedWords m_goWords m_facts m_pile m_best m_losses m_lossOf m_wasThere m_groupRow m_groupLoss m_isMarked : Nat → Int32} {m_value m_words m_names : Nat → Int64}  {o_r : Int32} (hM : f_X11_farms m_rows = some o_r) : MC l G yX11_farms cX11_farms 1 (some .int) (RM 0) [.ref (q_m 0)] [wX11 G q_m m_thrown m_tape m_taped m_size m_sort m_place m_value m_at m_fault m_words m_rows m_op m_arg m_codes m_names m_ofFeed m_teeth m_feedWords m_goWords m_facts m_pile m_levels m_best m_losses m_lossOf m_wasThere m_groupMany m_groupRow m_groupLoss m_isMarked] (some (.int o_r)) [wX11 G q_m m_thrown m_tape m_taped m_size m_sort m_place m_value m_at m_fault m_words m_rows m_op m_arg m_codes m_names m_ofFeed m_teeth m_feedWords m_goWords m_facts m_pile m_levels m_best m_losses m_lossOf m_wasThere m_groupMany m_groupRow m_groupLoss m_isMarked] := by
  refine MC.of pn_X11 (Nat.le_of_ble_eq_true rfl) (fun K hR hret => ?_)
  have hR : Rl l G RX11 cX11_farms 1 (RM 0) K := hR
  show K [wX11 G q_m m_thrown m_tape m_taped m_size m_sort m_place m_value m_at m_fault m_words m_rows m_op m_arg m_codes m_names m_ofFeed m_teeth m_feedWords m_goWords m_facts m_pile m_levels m_best m_losses m_lossOf m_wasThere m_groupMany m_groupRow m_groupLoss m_isMarked] [(0, .ref (q_m 0))] 0 []
  refine st_aload_n hR dX11_farms_0 0 rfl rfl (pc' := 1) rfl ?_
  refine st_get hR dX11_farms_1 fg_X11_69_10_10 0 0 rfl rfl rfl (pc' := 4) rfl ?_
  refine st_iconst hR dX11_farms_4 (v := 0) rfl (pc' := 5) rfl ?_
  refine st_iald hR dX11_farms_5 0 6 rfl rfl (vp_lit 0 rfl rfl rfl) (v := m_rows 0) (congrArg m_rows (cl_lit 0 rfl rfl)) (pc' := 6) rfl ?_
  cases hM
  exact hret _ _ dX11_farms_6 (ro_i _)
set_option maxHeartbeats 16000000 in
set_option maxRecDepth 100000 in
theorem k_X11_isFarm {l : Launch} {G : GG} {q_m : Nat → Nat} {m_thrown m_taped m_size m_at m_fault m_codes m_ofFeed m_teeth m_levels m_groupMany : Int32} {m_tape m_sort m_place m_rows m_op m_arg m_feedWords m_goWords m_facts m_pile m_best m_losses m_lossOf m_wasThere m_groupRow m_groupLoss m_isMarked : Nat → Int32} {m_value m_words m_names : Nat → Int64} {l1 : Int32} {o_r : Int32} (hM : f_X11_isFarm m_rows l1 = some o_r) : MC l G yX11_isFarm cX11_isFarm 2 (some .boolean) (RM 1) [.ref (q_m 0), .int l1] [wX11 G q_m m_thrown m_tape m_taped m_size m_sort m_place m_value m_at m_fault m_words m_rows m_op m_arg m_codes m_names m_ofFeed m_teeth m_feedWords m_goWords m_facts m_pile m_levels m_best m_losses m_lossOf m_wasThere m_groupMany m_groupRow m_groupLoss m_isMarked] (some (.int o_r)) [wX11 G q_m m_thrown m_tape m_taped m_size m_sort m_place m_value m_at m_fault m_words m_rows m_op m_arg m_codes m_names m_ofFeed m_teeth m_feedWords m_goWords m_facts m_pile m_levels m_best m_losses m_lossOf m_wasThere m_groupMany m_groupRow m_groupLoss m_isMarked] := by
  refine MC.of pn_X11 (Nat.le_of_ble_eq_true rfl) (fun K hR hret => ?_)
  have hR : Rl l G RX11 cX11_isFarm 2 (RM 1) K := hR
  show K [wX11 G q_m m_thrown m_tape m_taped m_size m_sort m_place m_value m_at m_fault m_words m_rows m_op m_arg m_codes m_names m_ofFeed m_teeth m_feedWords m_goWords m_facts m_pile m_levels m_best m_losses m_lossOf m_wasThere m_groupMany m_groupRow m_groupLoss m_isMarked] [(0, .ref (q_m 0)), (1, .int l1)] 0 []
  refine st_iload_n hR dX11_isFarm_0 1 rfl rfl (pc' := 1) rfl ?_
  refine st_if_lt hR dX11_isFarm_1 (tgt := 16) (by decide) (pc' := 4) rfl (fun c_ => ?_) (fun c_ => ?_)
  · have hM := it_t c_ hM
    refine st_iconst hR dX11_isFarm_16 (v := 0) rfl (pc' := 17) rfl ?_
    cases hM
    exact hret _ _ dX11_isFarm_17 (ro_z (Or.inl rfl))
  · have hM := it_f c_ hM
    refine st_iload_n hR dX11_isFarm_4 1 rfl rfl (pc' := 5) rfl ?_
    refine st_aload_n hR dX11_isFarm_5 0 rfl rfl (pc' := 6) rfl ?_
    obtain ⟨r_1, hc_, hM⟩ := bd_e hM
    refine st_callV hR (k_X11_farms hc_) cf_X11_248 (rm_le (Nat.le_of_ble_eq_true rfl) (Nat.le_of_ble_eq_true rfl)) [0] rfl rfl rfl 0 0 10 30 rfl rfl rfl rfl (rest := [.int l1]) rfl (Nat.le_of_ble_eq_true rfl) dX11_isFarm_6 (pc' := 9) rfl (Wn := [wX11 G q_m m_thrown m_tape m_taped m_size m_sort m_place m_value m_at m_fault m_words m_rows m_op m_arg m_codes m_names m_ofFeed m_teeth m_feedWords m_goWords m_facts m_pile m_levels m_best m_losses m_lossOf m_wasThere m_groupMany m_groupRow m_groupLoss m_isMarked]) rfl ?_
    refine st_icmp_ge hR dX11_isFarm_9 (tgt := 16) (by decide) (pc' := 12) rfl (fun c_ => ?_) (fun c_ => ?_)
    · have hM := it_t c_ hM
      refine st_iconst hR dX11_isFarm_16 (v := 0) rfl (pc' := 17) rfl ?_
      cases hM
      exact hret _ _ dX11_isFarm_17 (ro_z (Or.inl rfl))
    · have hM := it_f c_ hM
      refine st_iconst hR dX11_isFarm_12 (v := 1) rfl (pc' := 13) rfl ?_
      refine st_goto hR dX11_isFarm_13 (tgt := 17) (by decide) ?_
      cases hM
      exact hret _ _ dX11_isFarm_17 (ro_z (Or.inr rfl))
set_option maxHeartbeats 16000000 in
set_option maxRecDepth 100000 in
theorem k_X11_of {l : Launch} {G : GG} {q_m : Nat → Nat} {m_thrown m_taped m_size m_at m_fault m_codes m_ofFeed m_teeth m_levels m_groupMany : Int32} {m_tape m_sort m_place m_rows m_op m_arg m_feedWords m_goWords m_facts m_pile m_best m_losses m_lossOf m_wasThere m_groupRow m_groupLoss m_isMarked : Nat → Int32} {m_value m_words m_names : Nat → Int64} {l1 l2 : Int32} {o_r : Int32} (hM : f_X11_of m_rows l1 l2 = some o_r) : MC l G yX11_of cX11_of 3 (some .int) (RM 0) [.ref (q_m 0), .int l1, .int l2] [wX11 G q_m m_thrown m_tape m_taped m_size m_sort m_place m_value m_at m_fault m_words m_rows m_op m_arg m_codes m_names m_ofFeed m_teeth m_feedWords m_goWords m_facts m_pile m_levels m_best m_losses m_lossOf m_wasThere m_groupMany m_groupRow m_groupLoss m_isMarked] (some (.int o_r)) [wX11 G q_m m_thrown m_tape m_taped m_size m_sort m_place m_value m_at m_fault m_words m_rows m_op m_arg m_codes m_names m_ofFeed m_teeth m_feedWords m_goWords m_facts m_pile m_levels m_best m_losses m_lossOf m_wasThere m_groupMany m_groupRow m_groupLoss m_isMarked] := by
  refine MC.of pn_X11 (Nat.le_of_ble_eq_true rfl) (fun K hR hret => ?_)
  have hR : Rl l G RX11 cX11_of 3 (RM 0) K := hR
  show K [wX11 G q_m m_thrown m_tape m_taped m_size m_sort m_place m_value m_at m_fault m_words m_rows m_op m_arg m_codes m_names m_ofFeed m_teeth m_feedWords m_goWords m_facts m_pile m_levels m_best m_losses m_lossOf m_wasThere m_groupMany m_groupRow m_groupLoss m_isMarked] [(0, .ref (q_m 0)), (1, .int l1), (2, .int l2)] 0 []
  refine st_aload_n hR dX11_of_0 0 rfl rfl (pc' := 1) rfl ?_
  refine st_get hR dX11_of_1 fg_X11_69_10_10 0 0 rfl rfl rfl (pc' := 4) rfl ?_
  refine st_bipush hR dX11_of_4 (v := 8) rfl (pc' := 6) rfl ?_
  refine st_bipush hR dX11_of_6 (v := 7) rfl (pc' := 8) rfl ?_
  refine st_iload_n hR dX11_of_8 1 rfl rfl (pc' := 9) rfl ?_
  refine st_imul hR dX11_of_9 (pc' := 10) rfl ?_
  refine st_iadd hR dX11_of_10 (pc' := 11) rfl ?_
  refine st_iload_n hR dX11_of_11 2 rfl rfl (pc' := 12) rfl ?_
  refine st_iadd hR dX11_of_12 (pc' := 13) rfl ?_
  obtain ⟨hin_, hM⟩ := g_in_e hM
  refine st_iald hR dX11_of_13 0 6 rfl rfl hin_ (v := m_rows (ix ((8 + (7 * l1)) + l2))) rfl (pc' := 14) rfl ?_
  cases hM
  exact hret _ _ dX11_of_14 (ro_i _)
set_option maxHeartbeats 16000000 in
set_option maxRecDepth 100000 in
theorem k_X11_adds {l : Launch} {G : GG} {q_m : Nat → Nat} {m_thrown m_taped m_size m_at m_fault m_codes m_ofFeed m_teeth m_levels m_groupMany : Int32} {m_tape m_sort m_place m_rows m_op m_arg m_feedWords m_goWords m_facts m_pile m_best m_losses m_lossOf m_wasThere m_groupRow m_groupLoss m_isMarked : Nat → Int32} {m_value m_words m_names : Nat → Int64} {l1 l2 l3 : Int32} {o_m_rows : Nat → Int32} (hM : f_X11_adds m_rows l1 l2 l3 = some o_m_rows) : MC l G yX11_adds cX11_adds 4 none (RM 0) [.ref (q_m 0), .int l1, .int l2, .int l3] [wX11 G q_m m_thrown m_tape m_taped m_size m_sort m_place m_value m_at m_fault m_words m_rows m_op m_arg m_codes m_names m_ofFeed m_teeth m_feedWords m_goWords m_facts m_pile m_levels m_best m_losses m_lossOf m_wasThere m_groupMany m_groupRow m_groupLoss m_isMarked] none [wX11 G q_m m_thrown m_tape m_taped m_size m_sort m_place m_value m_at m_fault m_words o_m_rows m_op m_arg m_codes m_names m_ofFeed m_teeth m_feedWords m_goWords m_facts m_pile m_levels m_best m_losses m_lossOf m_wasThere m_groupMany m_groupRow m_groupLoss m_isMarked] := by
  refine MC.of pn_X11 (Nat.le_of_ble_eq_true rfl) (fun K hR hret => ?_)
  have hR : Rl l G RX11 cX11_adds 4 (RM 0) K := hR
  show K [wX11 G q_m m_thrown m_tape m_taped m_size m_sort m_place m_value m_at m_fault m_words m_rows m_op m_arg m_codes m_names m_ofFeed m_teeth m_feedWords m_goWords m_facts m_pile m_levels m_best m_losses m_lossOf m_wasThere m_groupMany m_groupRow m_groupLoss m_isMarked] [(0, .ref (q_m 0)), (1, .int l1), (2, .int l2), (3, .int l3)] 0 []
  refine st_aload_n hR dX11_adds_0 0 rfl rfl (pc' := 1) rfl ?_
  refine st_get hR dX11_adds_1 fg_X11_69_10_10 0 0 rfl rfl rfl (pc' := 4) rfl ?_
  refine st_bipush hR dX11_adds_4 (v := 8) rfl (pc' := 6) rfl ?_
  refine st_bipush hR dX11_adds_6 (v := 7) rfl (pc' := 8) rfl ?_
  refine st_iload_n hR dX11_adds_8 1 rfl rfl (pc' := 9) rfl ?_
  refine st_imul hR dX11_adds_9 (pc' := 10) rfl ?_
  refine st_iadd hR dX11_adds_10 (pc' := 11) rfl ?_
  refine st_iload_n hR dX11_adds_11 2 rfl rfl (pc' := 12) rfl ?_
  refine st_iadd hR dX11_adds_12 (pc' := 13) rfl ?_
  refine st_dup2 hR dX11_adds_13 (pc' := 14) rfl rfl rfl ?_
  obtain ⟨hin_, hM⟩ := g_in_e hM
  refine st_iald hR dX11_adds_14 0 6 rfl rfl hin_ (v := m_rows (ix ((8 + (7 * l1)) + l2))) rfl (pc' := 15) rfl ?_
  refine st_iload_n hR dX11_adds_15 3 rfl rfl (pc' := 16) rfl ?_
  refine st_iadd hR dX11_adds_16 (pc' := 17) rfl ?_
  obtain ⟨hin_, hM⟩ := g_in_e hM
  refine st_iast hR dX11_adds_17 0 6 rfl rfl hin_ (ix := (ix ((8 + (7 * l1)) + l2))) rfl (pc' := 18) rfl (fun m_rows_1 => [wX11 G q_m m_thrown m_tape m_taped m_size m_sort m_place m_value m_at m_fault m_words m_rows_1 m_op m_arg m_codes m_names m_ofFeed m_teeth m_feedWords m_goWords m_facts m_pile m_levels m_best m_losses m_lossOf m_wasThere m_groupMany m_groupRow m_groupLoss m_isMarked]) (fun _ => rfl) (fun m_rows_1 e_ => ?_)
  have hM := lt_e e_ hM
  cases hM
  exact hret _ _ dX11_adds_18 ro_v
set_option maxHeartbeats 16000000 in
set_option maxRecDepth 100000 in
theorem k_X11_homeOf {l : Launch} {G : GG} {q_m : Nat → Nat} {m_thrown m_taped m_size m_at m_fault m_codes m_ofFeed m_teeth m_levels m_groupMany : Int32} {m_tape m_sort m_place m_rows m_op m_arg m_feedWords m_goWords m_facts m_pile m_best m_losses m_lossOf m_wasThere m_groupRow m_groupLoss m_isMarked : Nat → Int32} {m_value m_words m_names : Nat → Int64} {l1 : Int32} {o_r : Int32} (hM : f_X11_homeOf m_rows l1 = some o_r) : MC l G yX11_homeOf cX11_homeOf 3 (some .int) (RM 1) [.ref (q_m 0), .int l1] [wX11 G q_m m_thrown m_tape m_taped m_size m_sort m_place m_value m_at m_fault m_words m_rows m_op m_arg m_codes m_names m_ofFeed m_teeth m_feedWords m_goWords m_facts m_pile m_levels m_best m_losses m_lossOf m_wasThere m_groupMany m_groupRow m_groupLoss m_isMarked] (some (.int o_r)) [wX11 G q_m m_thrown m_tape m_taped m_size m_sort m_place m_value m_at m_fault m_words m_rows m_op m_arg m_codes m_names m_ofFeed m_teeth m_feedWords m_goWords m_facts m_pile m_levels m_best m_losses m_lossOf m_wasThere m_groupMany m_groupRow m_groupLoss m_isMarked] := by
  refine MC.of pn_X11 (Nat.le_of_ble_eq_true rfl) (fun K hR hret => ?_)
  have hR : Rl l G RX11 cX11_homeOf 3 (RM 1) K := hR
  show K [wX11 G q_m m_thrown m_tape m_taped m_size m_sort m_place m_value m_at m_fault m_words m_rows m_op m_arg m_codes m_names m_ofFeed m_teeth m_feedWords m_goWords m_facts m_pile m_levels m_best m_losses m_lossOf m_wasThere m_groupMany m_groupRow m_groupLoss m_isMarked] [(0, .ref (q_m 0)), (1, .int l1)] 0 []
  refine st_aload_n hR dX11_homeOf_0 0 rfl rfl (pc' := 1) rfl ?_
  refine st_iload_n hR dX11_homeOf_1 1 rfl rfl (pc' := 2) rfl ?_
  refine st_bipush hR dX11_homeOf_2 (v := 6) rfl (pc' := 4) rfl ?_
  obtain ⟨r_1, hc_, hM⟩ := bd_e hM
  refine st_callV hR (k_X11_of hc_) cf_X11_251 (rm_le (Nat.le_of_ble_eq_true rfl) (Nat.le_of_ble_eq_true rfl)) [0] rfl rfl rfl 0 0 10 30 rfl rfl rfl rfl (rest := []) rfl (Nat.le_of_ble_eq_true rfl) dX11_homeOf_4 (pc' := 7) rfl (Wn := [wX11 G q_m m_thrown m_tape m_taped m_size m_sort m_place m_value m_at m_fault m_words m_rows m_op m_arg m_codes m_names m_ofFeed m_teeth m_feedWords m_goWords m_facts m_pile m_levels m_best m_losses m_lossOf m_wasThere m_groupMany m_groupRow m_groupLoss m_isMarked]) rfl ?_
  refine st_iconst hR dX11_homeOf_7 (v := 1) rfl (pc' := 8) rfl ?_
  refine st_isub hR dX11_homeOf_8 (pc' := 9) rfl ?_
  refine st_topi (fun l2_1 e_ => ?_)
  have hM := lt_e e_ hM
  refine st_istore_n hR dX11_homeOf_9 rfl (Nat.le_of_ble_eq_true rfl) [1, 2, 0] (lv' := [(0, .ref (q_m 0)), (1, .int l1), (2, .int l2_1)]) rfl (pc' := 10) rfl ?_
  refine st_iload_n hR dX11_homeOf_10 2 rfl rfl (pc' := 11) rfl ?_
  refine st_if_lt hR dX11_homeOf_11 (tgt := 33) (by decide) (pc' := 14) rfl (fun c_ => ?_) (fun c_ => ?_)
  · have hM := it_t c_ hM
    refine st_iload_n hR dX11_homeOf_33 1 rfl rfl (pc' := 34) rfl ?_
    cases hM
    exact hret _ _ dX11_homeOf_34 (ro_i _)
  · have hM := it_f c_ hM
    refine st_aload_n hR dX11_homeOf_14 0 rfl rfl (pc' := 15) rfl ?_
    refine st_get hR dX11_homeOf_15 fg_X11_69_10_10 0 0 rfl rfl rfl (pc' := 18) rfl ?_
    refine st_iconst hR dX11_homeOf_18 (v := 1) rfl (pc' := 19) rfl ?_
    refine st_iald hR dX11_homeOf_19 0 6 rfl rfl (vp_lit 1 rfl rfl rfl) (v := m_rows 1) (congrArg m_rows (cl_lit 1 rfl rfl)) (pc' := 20) rfl ?_
    refine st_bipush hR dX11_homeOf_20 (v := 28) rfl (pc' := 22) rfl ?_
    refine st_idiv hR dX11_homeOf_22 (pc' := 23) rfl (by decide) ?_
    refine st_iconst hR dX11_homeOf_23 (v := 2) rfl (pc' := 24) rfl ?_
    refine st_irem hR dX11_homeOf_24 (pc' := 25) rfl (by decide) ?_
    refine st_iconst hR dX11_homeOf_25 (v := 1) rfl (pc' := 26) rfl ?_
    refine st_icmp_ne hR dX11_homeOf_26 (tgt := 33) (by decide) (pc' := 29) rfl (fun c_ => ?_) (fun c_ => ?_)
    · have hM := it_f c_ hM
      refine st_iload_n hR dX11_homeOf_33 1 rfl rfl (pc' := 34) rfl ?_
      cases hM
      exact hret _ _ dX11_homeOf_34 (ro_i _)
    · have hM := it_t c_ hM
      refine st_iload_n hR dX11_homeOf_29 2 rfl rfl (pc' := 30) rfl ?_
      refine st_goto hR dX11_homeOf_30 (tgt := 34) (by decide) ?_
      cases hM
      exact hret _ _ dX11_homeOf_34 (ro_i _)
set_option maxHeartbeats 16000000 in
set_option maxRecDepth 100000 in
theorem k_X11_areNear {l : Launch} {G : GG} {q_m : Nat → Nat} {m_thrown m_taped m_size m_at m_fault m_codes m_ofFeed m_teeth m_levels m_groupMany : Int32} {m_tape m_sort m_place m_rows m_op m_arg m_feedWords m_goWords m_facts m_pile m_best m_losses m_lossOf m_wasThere m_groupRow m_groupLoss m_isMarked : Nat → Int32} {m_value m_words m_names : Nat → Int64} {l1 l2 : Int32} {o_r : Int32} (hM : f_X11_areNear m_rows l1 l2 = some o_r) : MC l G yX11_areNear cX11_areNear 3 (some .boolean) (RM 0) [.ref (q_m 0), .int l1, .int l2] [wX11 G q_m m_thrown m_tape m_taped m_size m_sort m_place m_value m_at m_fault m_words m_rows m_op m_arg m_codes m_names m_ofFeed m_teeth m_feedWords m_goWords m_facts m_pile m_levels m_best m_losses m_lossOf m_wasThere m_groupMany m_groupRow m_groupLoss m_isMarked] (some (.int o_r)) [wX11 G q_m m_thrown m_tape m_taped m_size m_sort m_place m_value m_at m_fault m_words m_rows m_op m_arg m_codes m_names m_ofFeed m_teeth m_feedWords m_goWords m_facts m_pile m_levels m_best m_losses m_lossOf m_wasThere m_groupMany m_groupRow m_groupLoss m_isMarked] := by
  refine MC.of pn_X11 (Nat.le_of_ble_eq_true rfl) (fun K hR hret => ?_)
  have hR : Rl l G RX11 cX11_areNear 3 (RM 0) K := hR
  show K [wX11 G q_m m_thrown m_tape m_taped m_size m_sort m_place m_value m_at m_fault m_words m_rows m_op m_arg m_codes m_names m_ofFeed m_teeth m_feedWords m_goWords m_facts m_pile m_levels m_best m_losses m_lossOf m_wasThere m_groupMany m_groupRow m_groupLoss m_isMarked] [(0, .ref (q_m 0)), (1, .int l1), (2, .int l2)] 0 []
  refine st_aload_n hR dX11_areNear_0 0 rfl rfl (pc' := 1) rfl ?_
  refine st_get hR dX11_areNear_1 fg_X11_69_10_10 0 0 rfl rfl rfl (pc' := 4) rfl ?_
  refine st_bipush hR dX11_areNear_4 (v := 74) rfl (pc' := 6) rfl ?_
  refine st_bipush hR dX11_areNear_6 (v := 6) rfl (pc' := 8) rfl ?_
  refine st_iload_n hR dX11_areNear_8 1 rfl rfl (pc' := 9) rfl ?_
  refine st_imul hR dX11_areNear_9 (pc' := 10) rfl ?_
  refine st_iadd hR dX11_areNear_10 (pc' := 11) rfl ?_
  refine st_iload_n hR dX11_areNear_11 2 rfl rfl (pc' := 12) rfl ?_
  refine st_iadd hR dX11_areNear_12 (pc' := 13) rfl ?_
  obtain ⟨hin_, hM⟩ := g_in_e hM
  refine st_iald hR dX11_areNear_13 0 6 rfl rfl hin_ (v := m_rows (ix ((74 + (6 * l1)) + l2))) rfl (pc' := 14) rfl ?_
  refine st_if_le hR dX11_areNear_14 (tgt := 38) (by decide) (pc' := 17) rfl (fun c_ => ?_) (fun c_ => ?_)
  · have hM := it_t c_ hM
    refine st_iconst hR dX11_areNear_38 (v := 0) rfl (pc' := 39) rfl ?_
    cases hM
    exact hret _ _ dX11_areNear_39 (ro_z (Or.inl rfl))
  · have hM := it_f c_ hM
    refine st_aload_n hR dX11_areNear_17 0 rfl rfl (pc' := 18) rfl ?_
    refine st_get hR dX11_areNear_18 fg_X11_69_10_10 0 0 rfl rfl rfl (pc' := 21) rfl ?_
    refine st_bipush hR dX11_areNear_21 (v := 110) rfl (pc' := 23) rfl ?_
    refine st_bipush hR dX11_areNear_23 (v := 6) rfl (pc' := 25) rfl ?_
    refine st_iload_n hR dX11_areNear_25 1 rfl rfl (pc' := 26) rfl ?_
    refine st_imul hR dX11_areNear_26 (pc' := 27) rfl ?_
    refine st_iadd hR dX11_areNear_27 (pc' := 28) rfl ?_
    refine st_iload_n hR dX11_areNear_28 2 rfl rfl (pc' := 29) rfl ?_
    refine st_iadd hR dX11_areNear_29 (pc' := 30) rfl ?_
    obtain ⟨hin_, hM⟩ := g_in_e hM
    refine st_iald hR dX11_areNear_30 0 6 rfl rfl hin_ (v := m_rows (ix ((110 + (6 * l1)) + l2))) rfl (pc' := 31) rfl ?_
    refine st_if_ne hR dX11_areNear_31 (tgt := 38) (by decide) (pc' := 34) rfl (fun c_ => ?_) (fun c_ => ?_)
    · have hM := it_f c_ hM
      refine st_iconst hR dX11_areNear_38 (v := 0) rfl (pc' := 39) rfl ?_
      cases hM
      exact hret _ _ dX11_areNear_39 (ro_z (Or.inl rfl))
    · have hM := it_t c_ hM
      refine st_iconst hR dX11_areNear_34 (v := 1) rfl (pc' := 35) rfl ?_
      refine st_goto hR dX11_areNear_35 (tgt := 39) (by decide) ?_
      cases hM
      exact hret _ _ dX11_areNear_39 (ro_z (Or.inr rfl))
set_option maxHeartbeats 16000000 in
set_option maxRecDepth 100000 in
theorem k_X11_near {l : Launch} {G : GG} {q_m : Nat → Nat} {m_thrown m_taped m_size m_at m_fault m_codes m_ofFeed m_teeth m_levels m_groupMany : Int32} {m_tape m_sort m_place m_rows m_op m_arg m_feedWords m_goWords m_facts m_pile m_best m_losses m_lossOf m_wasThere m_groupRow m_groupLoss m_isMarked : Nat → Int32} {m_value m_words m_names : Nat → Int64} {l1 : Int32} {o_r : Int32} (hM : f_X11_near m_rows l1 = some o_r) : MC l G yX11_near cX11_near 4 (some .int) (RM 1) [.ref (q_m 0), .int l1] [wX11 G q_m m_thrown m_tape m_taped m_size m_sort m_place m_value m_at m_fault m_words m_rows m_op m_arg m_codes m_names m_ofFeed m_teeth m_feedWords m_goWords m_facts m_pile m_levels m_best m_losses m_lossOf m_wasThere m_groupMany m_groupRow m_groupLoss m_isMarked] (some (.int o_r)) [wX11 G q_m m_thrown m_tape m_taped m_size m_sort m_place m_value m_at m_fault m_words m_rows m_op m_arg m_codes m_names m_ofFeed m_teeth m_feedWords m_goWords m_facts m_pile m_levels m_best m_losses m_lossOf m_wasThere m_groupMany m_groupRow m_groupLoss m_isMarked] := by
  refine MC.of pn_X11 (Nat.le_of_ble_eq_true rfl) (fun K hR hret => ?_)
  have hR : Rl l G RX11 cX11_near 4 (RM 1) K := hR
  show K [wX11 G q_m m_thrown m_tape m_taped m_size m_sort m_place m_value m_at m_fault m_words m_rows m_op m_arg m_codes m_names m_ofFeed m_teeth m_feedWords m_goWords m_facts m_pile m_levels m_best m_losses m_lossOf m_wasThere m_groupMany m_groupRow m_groupLoss m_isMarked] [(0, .ref (q_m 0)), (1, .int l1)] 0 []
  have L4 : ∀ (n4 : Nat) (l1 : Int32) (l2 : Int32) (l3 : Int32), f_X11_near_L4  m_rows n4 l1 l2 l3 = some o_r → K [wX11 G q_m m_thrown m_tape m_taped m_size m_sort m_place m_value m_at m_fault m_words m_rows m_op m_arg m_codes m_names m_ofFeed m_teeth m_feedWords m_goWords m_facts m_pile m_levels m_best m_losses m_lossOf m_wasThere m_groupMany m_groupRow m_groupLoss m_isMarked] [(0, .ref (q_m 0)), (1, .int l1), (2, .int l2), (3, .int l3)] 4 [] := by
    intro n4
    induction n4 with
    | zero => intro l1 l2 l3 hM; exact no_some hM
    | succ n4 ih4 =>
      have J29 : ∀ (l1 : Int32) (l3 : Int32) (s0 : Int32) (s1 : Int32), f_X11_near_B29  (f_X11_near_L4  m_rows n4) m_rows l1 l3 s0 s1 = some o_r → K [wX11 G q_m m_thrown m_tape m_taped m_size m_sort m_place m_value m_at m_fault m_words m_rows m_op m_arg m_codes m_names m_ofFeed m_teeth m_feedWords m_goWords m_facts m_pile m_levels m_best m_losses m_lossOf m_wasThere m_groupMany m_groupRow m_groupLoss m_isMarked] [(0, .ref (q_m 0)), (1, .int l1), (3, .int l3)] 29 [.int s0, .int s1] := by
        intro l1 l3 s0 s1 hM
        refine st_ior hR dX11_near_29 (pc' := 30) rfl ?_
        refine st_topi (fun l2_1 e_ => ?_)
        have hM := lt_e e_ hM
        refine st_istore_n hR dX11_near_30 rfl (Nat.le_of_ble_eq_true rfl) [1, 2, 0, 3] (lv' := [(0, .ref (q_m 0)), (1, .int l1), (2, .int l2_1), (3, .int l3)]) rfl (pc' := 31) rfl ?_
        obtain ⟨l3_1, e_⟩ : ∃ y : Int32, y = l3 + 1 := ⟨_, rfl⟩
        refine st_iinc hR dX11_near_31 (Nat.le_of_ble_eq_true rfl) 3 [1, 2, 3, 0] (v := l3_1) rfl (by rw [e_]; rfl) (lv' := [(0, .ref (q_m 0)), (1, .int l1), (2, .int l2_1), (3, .int l3_1)]) rfl (pc' := 34) rfl ?_
        have hM := lt_e e_ hM
        refine st_goto hR dX11_near_34 (tgt := 4) (by decide) ?_
        exact ih4 _ _ _ hM
      intro l1 l2 l3 hM
      have hM : f_X11_near_L4b  (f_X11_near_L4  m_rows n4) m_rows l1 l2 l3 = some o_r := hM
      refine st_iload_n hR dX11_near_4 3 rfl rfl (pc' := 5) rfl ?_
      refine st_aload_n hR dX11_near_5 0 rfl rfl (pc' := 6) rfl ?_
      obtain ⟨r_1, hc_, hM⟩ := bd_e hM
      refine st_callV hR (k_X11_farms hc_) cf_X11_248 (rm_le (Nat.le_of_ble_eq_true rfl) (Nat.le_of_ble_eq_true rfl)) [0] rfl rfl rfl 0 0 10 30 rfl rfl rfl rfl (rest := [.int l3]) rfl (Nat.le_of_ble_eq_true rfl) dX11_near_6 (pc' := 9) rfl (Wn := [wX11 G q_m m_thrown m_tape m_taped m_size m_sort m_place m_value m_at m_fault m_words m_rows m_op m_arg m_codes m_names m_ofFeed m_teeth m_feedWords m_goWords m_facts m_pile m_levels m_best m_losses m_lossOf m_wasThere m_groupMany m_groupRow m_groupLoss m_isMarked]) rfl ?_
      refine st_icmp_ge hR dX11_near_9 (tgt := 37) (by decide) (pc' := 12) rfl (fun c_ => ?_) (fun c_ => ?_)
      · have hM := it_t c_ hM
        refine st_iload_n hR dX11_near_37 2 rfl rfl (pc' := 38) rfl ?_
        cases hM
        exact hret _ _ dX11_near_38 (ro_i _)
      · have hM := it_f c_ hM
        refine st_iload_n hR dX11_near_12 2 rfl rfl (pc' := 13) rfl ?_
        refine st_aload_n hR dX11_near_13 0 rfl rfl (pc' := 14) rfl ?_
        refine st_iload_n hR dX11_near_14 1 rfl rfl (pc' := 15) rfl ?_
        refine st_iload_n hR dX11_near_15 3 rfl rfl (pc' := 16) rfl ?_
        obtain ⟨r_2, hc_, hM⟩ := bd_e hM
        refine st_callV hR (k_X11_areNear hc_) cf_X11_254 (rm_le (Nat.le_of_ble_eq_true rfl) (Nat.le_of_ble_eq_true rfl)) [0] rfl rfl rfl 0 0 10 30 rfl rfl rfl rfl (rest := [.int l2]) rfl (Nat.le_of_ble_eq_true rfl) dX11_near_16 (pc' := 19) rfl (Wn := [wX11 G q_m m_thrown m_tape m_taped m_size m_sort m_place m_value m_at m_fault m_words m_rows m_op m_arg m_codes m_names m_ofFeed m_teeth m_feedWords m_goWords m_facts m_pile m_levels m_best m_losses m_lossOf m_wasThere m_groupMany m_groupRow m_groupLoss m_isMarked]) rfl ?_
        refine st_if_eq hR dX11_near_19 (tgt := 28) (by decide) (pc' := 22) rfl (fun c_ => ?_) (fun c_ => ?_)
        · have hM := it_t c_ hM
          refine st_iconst hR dX11_near_28 (v := 0) rfl (pc' := 29) rfl ?_
          exact st_lv hR [0, 1, 3] rfl (J29 _ _ _ _ hM)
        · have hM := it_f c_ hM
          refine st_iconst hR dX11_near_22 (v := 1) rfl (pc' := 23) rfl ?_
          refine st_iload_n hR dX11_near_23 3 rfl rfl (pc' := 24) rfl ?_
          refine st_ishl hR dX11_near_24 (pc' := 25) rfl ?_
          refine st_goto hR dX11_near_25 (tgt := 29) (by decide) ?_
          exact st_lv hR [0, 1, 3] rfl (J29 _ _ _ _ hM)
  refine st_iconst hR dX11_near_0 (v := 0) rfl (pc' := 1) rfl ?_
  refine st_istore_n hR dX11_near_1 rfl (Nat.le_of_ble_eq_true rfl) [1, 2, 0] (lv' := [(0, .ref (q_m 0)), (1, .int l1), (2, .int 0)]) rfl (pc' := 2) rfl ?_
  refine st_iconst hR dX11_near_2 (v := 0) rfl (pc' := 3) rfl ?_
  refine st_istore_n hR dX11_near_3 rfl (Nat.le_of_ble_eq_true rfl) [1, 2, 3, 0] (lv' := [(0, .ref (q_m 0)), (1, .int l1), (2, .int 0), (3, .int 0)]) rfl (pc' := 4) rfl ?_
  exact L4 FU _ _ _ hM
set_option maxHeartbeats 16000000 in
set_option maxRecDepth 100000 in
theorem k_X11_draw {l : Launch} {G : GG} {q_m : Nat → Nat} {m_thrown m_taped m_size m_at m_fault m_codes m_ofFeed m_teeth m_levels m_groupMany : Int32} {m_tape m_sort m_place m_rows m_op m_arg m_feedWords m_goWords m_facts m_pile m_best m_losses m_lossOf m_wasThere m_groupRow m_groupLoss m_isMarked : Nat → Int32} {m_value m_words m_names : Nat → Int64} {l1 : Int32} {o_r : Int32} {o_m_rows : Nat → Int32} (hM : f_X11_draw m_rows l1 = some (o_r, o_m_rows)) : MC l G yX11_draw cX11_draw 4 (some .int) (RM 0) [.ref (q_m 0), .int l1] [wX11 G q_m m_thrown m_tape m_taped m_size m_sort m_place m_value m_at m_fault m_words m_rows m_op m_arg m_codes m_names m_ofFeed m_teeth m_feedWords m_goWords m_facts m_pile m_levels m_best m_losses m_lossOf m_wasThere m_groupMany m_groupRow m_groupLoss m_isMarked] (some (.int o_r)) [wX11 G q_m m_thrown m_tape m_taped m_size m_sort m_place m_value m_at m_fault m_words o_m_rows m_op m_arg m_codes m_names m_ofFeed m_teeth m_feedWords m_goWords m_facts m_pile m_levels m_best m_losses m_lossOf m_wasThere m_groupMany m_groupRow m_groupLoss m_isMarked] := by
  refine MC.of pn_X11 (Nat.le_of_ble_eq_true rfl) (fun K hR hret => ?_)
  have hR : Rl l G RX11 cX11_draw 4 (RM 0) K := hR
  show K [wX11 G q_m m_thrown m_tape m_taped m_size m_sort m_place m_value m_at m_fault m_words m_rows m_op m_arg m_codes m_names m_ofFeed m_teeth m_feedWords m_goWords m_facts m_pile m_levels m_best m_losses m_lossOf m_wasThere m_groupMany m_groupRow m_groupLoss m_isMarked] [(0, .ref (q_m 0)), (1, .int l1)] 0 []
  refine st_aload_n hR dX11_draw_0 0 rfl rfl (pc' := 1) rfl ?_
  refine st_get hR dX11_draw_1 fg_X11_69_10_10 0 0 rfl rfl rfl (pc' := 4) rfl ?_
  refine st_iconst hR dX11_draw_4 (v := 2) rfl (pc' := 5) rfl ?_
  refine st_iald hR dX11_draw_5 0 6 rfl rfl (vp_lit 2 rfl rfl rfl) (v := m_rows 2) (congrArg m_rows (cl_lit 2 rfl rfl)) (pc' := 6) rfl ?_
  refine st_i2l hR dX11_draw_6 (pc' := 7) rfl ?_
  refine st_ldc2 hR (v := 1103515245) cl_X11_258 dX11_draw_7 (pc' := 10) rfl ?_
  refine st_lmul hR dX11_draw_10 (pc' := 11) rfl ?_
  refine st_ldc2 hR (v := 12345) cl_X11_260 dX11_draw_11 (pc' := 14) rfl ?_
  refine st_ladd hR dX11_draw_14 (pc' := 15) rfl ?_
  refine st_ldc2 hR (v := 2147483648) cl_X11_262 dX11_draw_15 (pc' := 18) rfl ?_
  refine st_lrem hR dX11_draw_18 (pc' := 19) rfl (by decide) ?_
  refine st_topl (fun l2_1 e_ => ?_)
  have hM := lt_e e_ hM
  refine st_lstore_n hR dX11_draw_19 rfl (Nat.le_of_ble_eq_true rfl) [1, 2, 0] (lv' := [(0, .ref (q_m 0)), (1, .int l1), (2, .long l2_1)]) rfl (pc' := 20) rfl ?_
  refine st_aload_n hR dX11_draw_20 0 rfl rfl (pc' := 21) rfl ?_
  refine st_get hR dX11_draw_21 fg_X11_69_10_10 0 0 rfl rfl rfl (pc' := 24) rfl ?_
  refine st_iconst hR dX11_draw_24 (v := 2) rfl (pc' := 25) rfl ?_
  refine st_lload_n hR dX11_draw_25 2 rfl rfl (pc' := 26) rfl ?_
  refine st_l2i hR dX11_draw_26 (pc' := 27) rfl ?_
  refine st_iast hR dX11_draw_27 0 6 rfl rfl (vp_lit 2 rfl rfl rfl) (ix := 2) (cl_lit 2 rfl rfl) (pc' := 28) rfl (fun m_rows_1 => [wX11 G q_m m_thrown m_tape m_taped m_size m_sort m_place m_value m_at m_fault m_words m_rows_1 m_op m_arg m_codes m_names m_ofFeed m_teeth m_feedWords m_goWords m_facts m_pile m_levels m_best m_losses m_lossOf m_wasThere m_groupMany m_groupRow m_groupLoss m_isMarked]) (fun _ => rfl) (fun m_rows_1 e_ => ?_)
  have hM := lt_e e_ hM
  refine st_lload_n hR dX11_draw_28 2 rfl rfl (pc' := 29) rfl ?_
  refine st_ldc2 hR (v := 65536) cl_X11_264 dX11_draw_29 (pc' := 32) rfl ?_
  refine st_ldiv hR dX11_draw_32 (pc' := 33) rfl (by decide) ?_
  refine st_iload_n hR dX11_draw_33 1 rfl rfl (pc' := 34) rfl ?_
  refine st_i2l hR dX11_draw_34 (pc' := 35) rfl ?_
  obtain ⟨hnz_, hM⟩ := g_nzL_e hM
  refine st_lrem hR dX11_draw_35 (pc' := 36) rfl hnz_ ?_
  refine st_l2i hR dX11_draw_36 (pc' := 37) rfl ?_
  cases hM
  exact hret _ _ dX11_draw_37 (ro_i _)
set_option maxHeartbeats 16000000 in
set_option maxRecDepth 100000 in
theorem k_X11_levelOf {l : Launch} {G : GG} {q_m : Nat → Nat} {m_thrown m_taped m_size m_at m_fault m_codes m_ofFeed m_teeth m_levels m_groupMany : Int32} {m_tape m_sort m_place m_rows m_op m_arg m_feedWords m_goWords m_facts m_pile m_best m_losses m_lossOf m_wasThere m_groupRow m_groupLoss m_isMarked : Nat → Int32} {m_value m_words m_names : Nat → Int64} {l1 : Int32} {o_r : Int32} (hM : f_X11_levelOf m_levels l1 = some o_r) : MC l G yX11_levelOf cX11_levelOf 4 (some .int) (RM 0) [.ref (q_m 0), .int l1] [wX11 G q_m m_thrown m_tape m_taped m_size m_sort m_place m_value m_at m_fault m_words m_rows m_op m_arg m_codes m_names m_ofFeed m_teeth m_feedWords m_goWords m_facts m_pile m_levels m_best m_losses m_lossOf m_wasThere m_groupMany m_groupRow m_groupLoss m_isMarked] (some (.int o_r)) [wX11 G q_m m_thrown m_tape m_taped m_size m_sort m_place m_value m_at m_fault m_words m_rows m_op m_arg m_codes m_names m_ofFeed m_teeth m_feedWords m_goWords m_facts m_pile m_levels m_best m_losses m_lossOf m_wasThere m_groupMany m_groupRow m_groupLoss m_isMarked] := by
  refine MC.of pn_X11 (Nat.le_of_ble_eq_true rfl) (fun K hR hret => ?_)
  have hR : Rl l G RX11 cX11_levelOf 4 (RM 0) K := hR
  show K [wX11 G q_m m_thrown m_tape m_taped m_size m_sort m_place m_value m_at m_fault m_words m_rows m_op m_arg m_codes m_names m_ofFeed m_teeth m_feedWords m_goWords m_facts m_pile m_levels m_best m_losses m_lossOf m_wasThere m_groupMany m_groupRow m_groupLoss m_isMarked] [(0, .ref (q_m 0)), (1, .int l1)] 0 []
  have L7 : ∀ (n7 : Nat) (l1 : Int32) (l2 : Int32) (l3 : Int32), f_X11_levelOf_L7  m_levels n7 l1 l2 l3 = some o_r → K [wX11 G q_m m_thrown m_tape m_taped m_size m_sort m_place m_value m_at m_fault m_words m_rows m_op m_arg m_codes m_names m_ofFeed m_teeth m_feedWords m_goWords m_facts m_pile m_levels m_best m_losses m_lossOf m_wasThere m_groupMany m_groupRow m_groupLoss m_isMarked] [(1, .int l1), (2, .int l2), (3, .int l3)] 7 [] := by
    intro n7
    induction n7 with
    | zero => intro l1 l2 l3 hM; exact no_some hM
    | succ n7 ih7 =>
      intro l1 l2 l3 hM
      have hM : f_X11_levelOf_L7b  (f_X11_levelOf_L7  m_levels n7) m_levels l1 l2 l3 = some o_r := hM
      refine st_iload_n hR dX11_levelOf_7 2 rfl rfl (pc' := 8) rfl ?_
      refine st_iload_n hR dX11_levelOf_8 0 rfl rfl (pc' := 9) rfl ?_
      refine st_icmp_ge hR dX11_levelOf_9 (tgt := 22) (by decide) (pc' := 12) rfl (fun c_ => ?_) (fun c_ => ?_)
      · have hM := it_t c_ hM
        refine st_iload_n hR dX11_levelOf_22 1 rfl rfl (pc' := 23) rfl ?_
        refine st_iconst hR dX11_levelOf_23 (v := 4) rfl (pc' := 24) rfl ?_
        refine st_irem hR dX11_levelOf_24 (pc' := 25) rfl (by decide) ?_
        cases hM
        exact hret _ _ dX11_levelOf_25 (ro_i _)
      · have hM := it_f c_ hM
        refine st_iload_n hR dX11_levelOf_12 1 rfl rfl (pc' := 13) rfl ?_
        refine st_iconst hR dX11_levelOf_13 (v := 4) rfl (pc' := 14) rfl ?_
        refine st_idiv hR dX11_levelOf_14 (pc' := 15) rfl (by decide) ?_
        refine st_topi (fun l2_1 e_ => ?_)
        have hM := lt_e e_ hM
        refine st_istore_n hR dX11_levelOf_15 rfl (Nat.le_of_ble_eq_true rfl) [1, 0, 2] (lv' := [(1, .int l1), (2, .int l2_1), (3, .int l3)]) rfl (pc' := 16) rfl ?_
        obtain ⟨l3_1, e_⟩ : ∃ y : Int32, y = l3 + 1 := ⟨_, rfl⟩
        refine st_iinc hR dX11_levelOf_16 (Nat.le_of_ble_eq_true rfl) 2 [1, 2, 0] (v := l3_1) rfl (by rw [e_]; rfl) (lv' := [(1, .int l1), (2, .int l2_1), (3, .int l3_1)]) rfl (pc' := 19) rfl ?_
        have hM := lt_e e_ hM
        refine st_goto hR dX11_levelOf_19 (tgt := 7) (by decide) ?_
        exact ih7 _ _ _ hM
  refine st_aload_n hR dX11_levelOf_0 0 rfl rfl (pc' := 1) rfl ?_
  refine st_get hR dX11_levelOf_1 fg_X11_93_10_21 0 0 rfl rfl rfl (pc' := 4) rfl ?_
  refine st_istore_n hR dX11_levelOf_4 rfl (Nat.le_of_ble_eq_true rfl) [1, 2, 0] (lv' := [(0, .ref (q_m 0)), (1, .int l1), (2, .int m_levels)]) rfl (pc' := 5) rfl ?_
  refine st_iconst hR dX11_levelOf_5 (v := 0) rfl (pc' := 6) rfl ?_
  refine st_istore_n hR dX11_levelOf_6 rfl (Nat.le_of_ble_eq_true rfl) [1, 2, 3, 0] (lv' := [(0, .ref (q_m 0)), (1, .int l1), (2, .int m_levels), (3, .int 0)]) rfl (pc' := 7) rfl ?_
  exact st_lv hR [1, 2, 3] rfl (L7 FU _ _ _ hM)
set_option maxHeartbeats 16000000 in
set_option maxRecDepth 100000 in
theorem k_X11_feeds {l : Launch} {G : GG} {q_m : Nat → Nat} {m_thrown m_taped m_size m_at m_fault m_codes m_ofFeed m_teeth m_levels m_groupMany : Int32} {m_tape m_sort m_place m_rows m_op m_arg m_feedWords m_goWords m_facts m_pile m_best m_losses m_lossOf m_wasThere m_groupRow m_groupLoss m_isMarked : Nat → Int32} {m_value m_words m_names : Nat → Int64} {l1 l2 : Int32} {o_r : Int32} {o_m_facts : Nat → Int32} {o_m_pile : Nat → Int32} (hM : f_X11_feeds m_rows m_op m_arg m_levels m_facts m_pile l1 l2 = some (o_r, o_m_facts, o_m_pile)) : MC l G yX11_feeds cX11_feeds 5 (some .int) (RM 2) [.ref (q_m 0), .int l1, .int l2] [wX11 G q_m m_thrown m_tape m_taped m_size m_sort m_place m_value m_at m_fault m_words m_rows m_op m_arg m_codes m_names m_ofFeed m_teeth m_feedWords m_goWords m_facts m_pile m_levels m_best m_losses m_lossOf m_wasThere m_groupMany m_groupRow m_groupLoss m_isMarked] (some (.int o_r)) [wX11 G q_m m_thrown m_tape m_taped m_size m_sort m_place m_value m_at m_fault m_words m_rows m_op m_arg m_codes m_names m_ofFeed m_teeth m_feedWords m_goWords o_m_facts o_m_pile m_levels m_best m_losses m_lossOf m_wasThere m_groupMany m_groupRow m_groupLoss m_isMarked] := by
  refine MC.of pn_X11 (Nat.le_of_ble_eq_true rfl) (fun K hR hret => ?_)
  have hR : Rl l G RX11 cX11_feeds 5 (RM 2) K := hR
  show K [wX11 G q_m m_thrown m_tape m_taped m_size m_sort m_place m_value m_at m_fault m_words m_rows m_op m_arg m_codes m_names m_ofFeed m_teeth m_feedWords m_goWords m_facts m_pile m_levels m_best m_losses m_lossOf m_wasThere m_groupMany m_groupRow m_groupLoss m_isMarked] [(0, .ref (q_m 0)), (1, .int l1), (2, .int l2)] 0 []
  have J101 : ∀ (m_facts : Nat → Int32) (m_pile : Nat → Int32) (l3 : Int32) (s0 : Int32), f_X11_feeds_B101  m_rows m_op m_arg m_levels m_facts m_pile l3 s0 = some (o_r, o_m_facts, o_m_pile) → K [wX11 G q_m m_thrown m_tape m_taped m_size m_sort m_place m_value m_at m_fault m_words m_rows m_op m_arg m_codes m_names m_ofFeed m_teeth m_feedWords m_goWords m_facts m_pile m_levels m_best m_losses m_lossOf m_wasThere m_groupMany m_groupRow m_groupLoss m_isMarked] [(3, .int l3)] 101 [.int s0] := by
    intro m_facts m_pile l3 s0 hM
    refine st_istore hR dX11_feeds_101 (Nat.le_of_ble_eq_true rfl) [1, 0] (lv' := [(3, .int l3), (4, .int s0)]) rfl (pc' := 103) rfl ?_
    refine st_iload_n hR dX11_feeds_103 0 rfl rfl (pc' := 104) rfl ?_
    refine st_if_ge hR dX11_feeds_104 (tgt := 111) (by decide) (pc' := 107) rfl (fun c_ => ?_) (fun c_ => ?_)
    · have hM := it_t c_ hM
      refine st_iload_n hR dX11_feeds_111 0 rfl rfl (pc' := 112) rfl ?_
      refine st_iload hR dX11_feeds_112 1 rfl (pc' := 114) rfl ?_
      refine st_icmp_le hR dX11_feeds_114 (tgt := 122) (by decide) (pc' := 117) rfl (fun c_ => ?_) (fun c_ => ?_)
      · have hM := it_t c_ hM
        refine st_iload_n hR dX11_feeds_122 0 rfl rfl (pc' := 123) rfl ?_
        cases hM
        exact hret _ _ dX11_feeds_123 (ro_i _)
      · have hM := it_f c_ hM
        refine st_iload hR dX11_feeds_117 1 rfl (pc' := 119) rfl ?_
        refine st_goto hR dX11_feeds_119 (tgt := 123) (by decide) ?_
        cases hM
        exact hret _ _ dX11_feeds_123 (ro_i _)
    · have hM := it_f c_ hM
      refine st_iconst hR dX11_feeds_107 (v := 0) rfl (pc' := 108) rfl ?_
      refine st_goto hR dX11_feeds_108 (tgt := 123) (by decide) ?_
      cases hM
      exact hret _ _ dX11_feeds_123 (ro_i _)
  have J81 : ∀ (m_facts : Nat → Int32) (m_pile : Nat → Int32) (l1 : Int32) (l2 : Int32) (l3 : Int32), f_X11_feeds_B81  m_rows m_op m_arg m_levels m_facts m_pile l1 l2 l3 = some (o_r, o_m_facts, o_m_pile) → K [wX11 G q_m m_thrown m_tape m_taped m_size m_sort m_place m_value m_at m_fault m_words m_rows m_op m_arg m_codes m_names m_ofFeed m_teeth m_feedWords m_goWords m_facts m_pile m_levels m_best m_losses m_lossOf m_wasThere m_groupMany m_groupRow m_groupLoss m_isMarked] [(0, .ref (q_m 0)), (1, .int l1), (2, .int l2), (3, .int l3)] 81 [] := by
    intro m_facts m_pile l1 l2 l3 hM
    refine st_iload_n hR dX11_feeds_81 2 rfl rfl (pc' := 82) rfl ?_
    refine st_aload_n hR dX11_feeds_82 0 rfl rfl (pc' := 83) rfl ?_
    refine st_iload_n hR dX11_feeds_83 1 rfl rfl (pc' := 84) rfl ?_
    refine st_iconst hR dX11_feeds_84 (v := 0) rfl (pc' := 85) rfl ?_
    obtain ⟨r_1, hc_, hM⟩ := bd_e hM
    refine st_callV hR (k_X11_of hc_) cf_X11_251 (rm_le (Nat.le_of_ble_eq_true rfl) (Nat.le_of_ble_eq_true rfl)) [0] rfl rfl rfl 0 0 10 30 rfl rfl rfl rfl (rest := [.int l2]) rfl (Nat.le_of_ble_eq_true rfl) dX11_feeds_85 (pc' := 88) rfl (Wn := [wX11 G q_m m_thrown m_tape m_taped m_size m_sort m_place m_value m_at m_fault m_words m_rows m_op m_arg m_codes m_names m_ofFeed m_teeth m_feedWords m_goWords m_facts m_pile m_levels m_best m_losses m_lossOf m_wasThere m_groupMany m_groupRow m_groupLoss m_isMarked]) rfl ?_
    refine st_icmp_ge hR dX11_feeds_88 (tgt := 95) (by decide) (pc' := 91) rfl (fun c_ => ?_) (fun c_ => ?_)
    · have hM := it_t c_ hM
      refine st_aload_n hR dX11_feeds_95 0 rfl rfl (pc' := 96) rfl ?_
      refine st_iload_n hR dX11_feeds_96 1 rfl rfl (pc' := 97) rfl ?_
      refine st_iconst hR dX11_feeds_97 (v := 0) rfl (pc' := 98) rfl ?_
      obtain ⟨r_2, hc_, hM⟩ := bd_e hM
      refine st_callV hR (k_X11_of hc_) cf_X11_251 (rm_le (Nat.le_of_ble_eq_true rfl) (Nat.le_of_ble_eq_true rfl)) [0] rfl rfl rfl 0 0 10 30 rfl rfl rfl rfl (rest := []) rfl (Nat.le_of_ble_eq_true rfl) dX11_feeds_98 (pc' := 101) rfl (Wn := [wX11 G q_m m_thrown m_tape m_taped m_size m_sort m_place m_value m_at m_fault m_words m_rows m_op m_arg m_codes m_names m_ofFeed m_teeth m_feedWords m_goWords m_facts m_pile m_levels m_best m_losses m_lossOf m_wasThere m_groupMany m_groupRow m_groupLoss m_isMarked]) rfl ?_
      exact st_lv hR [3] rfl (J101 _ _ _ _ hM)
    · have hM := it_f c_ hM
      refine st_iload_n hR dX11_feeds_91 2 rfl rfl (pc' := 92) rfl ?_
      refine st_goto hR dX11_feeds_92 (tgt := 101) (by decide) ?_
      exact st_lv hR [3] rfl (J101 _ _ _ _ hM)
  refine st_iconst hR dX11_feeds_0 (v := 0) rfl (pc' := 1) rfl ?_
  refine st_istore_n hR dX11_feeds_1 rfl (Nat.le_of_ble_eq_true rfl) [1, 2, 3, 0] (lv' := [(0, .ref (q_m 0)), (1, .int l1), (2, .int l2), (3, .int 0)]) rfl (pc' := 2) rfl ?_
  refine st_aload_n hR dX11_feeds_2 0 rfl rfl (pc' := 3) rfl ?_
  refine st_get hR dX11_feeds_3 fg_X11_93_10_21 0 0 rfl rfl rfl (pc' := 6) rfl ?_
  refine st_if_lt hR dX11_feeds_6 (tgt := 18) (by decide) (pc' := 9) rfl (fun c_ => ?_) (fun c_ => ?_)
  · have hM := it_t c_ hM
    refine st_aload_n hR dX11_feeds_18 0 rfl rfl (pc' := 19) rfl ?_
    refine st_get hR dX11_feeds_19 fg_X11_69_10_10 0 0 rfl rfl rfl (pc' := 22) rfl ?_
    refine st_iconst hR dX11_feeds_22 (v := 5) rfl (pc' := 23) rfl ?_
    refine st_iald hR dX11_feeds_23 0 6 rfl rfl (vp_lit 5 rfl rfl rfl) (v := m_rows 5) (congrArg m_rows (cl_lit 5 rfl rfl)) (pc' := 24) rfl ?_
    refine st_if_lt hR dX11_feeds_24 (tgt := 81) (by decide) (pc' := 27) rfl (fun c_ => ?_) (fun c_ => ?_)
    · have hM := it_t c_ hM
      exact J81 _ _ _ _ _ hM
    · have hM := it_f c_ hM
      refine st_aload_n hR dX11_feeds_27 0 rfl rfl (pc' := 28) rfl ?_
      refine st_get hR dX11_feeds_28 fg_X11_87_10_19 0 0 rfl rfl rfl (pc' := 31) rfl ?_
      refine st_iconst hR dX11_feeds_31 (v := 0) rfl (pc' := 32) rfl ?_
      refine st_aload_n hR dX11_feeds_32 0 rfl rfl (pc' := 33) rfl ?_
      refine st_iload_n hR dX11_feeds_33 1 rfl rfl (pc' := 34) rfl ?_
      refine st_iconst hR dX11_feeds_34 (v := 0) rfl (pc' := 35) rfl ?_
      obtain ⟨r_1, hc_, hM⟩ := bd_e hM
      refine st_callV hR (k_X11_of hc_) cf_X11_251 (rm_le (Nat.le_of_ble_eq_true rfl) (Nat.le_of_ble_eq_true rfl)) [0] rfl rfl rfl 0 0 10 30 rfl rfl rfl rfl (rest := [.int 0, .ref (q_m 12)]) rfl (Nat.le_of_ble_eq_true rfl) dX11_feeds_35 (pc' := 38) rfl (Wn := [wX11 G q_m m_thrown m_tape m_taped m_size m_sort m_place m_value m_at m_fault m_words m_rows m_op m_arg m_codes m_names m_ofFeed m_teeth m_feedWords m_goWords m_facts m_pile m_levels m_best m_losses m_lossOf m_wasThere m_groupMany m_groupRow m_groupLoss m_isMarked]) rfl ?_
      refine st_iast hR dX11_feeds_38 0 12 rfl rfl (vp_lit 0 rfl rfl rfl) (ix := 0) (cl_lit 0 rfl rfl) (pc' := 39) rfl (fun m_facts_1 => [wX11 G q_m m_thrown m_tape m_taped m_size m_sort m_place m_value m_at m_fault m_words m_rows m_op m_arg m_codes m_names m_ofFeed m_teeth m_feedWords m_goWords m_facts_1 m_pile m_levels m_best m_losses m_lossOf m_wasThere m_groupMany m_groupRow m_groupLoss m_isMarked]) (fun _ => rfl) (fun m_facts_1 e_ => ?_)
      have hM := lt_e e_ hM
      refine st_aload_n hR dX11_feeds_39 0 rfl rfl (pc' := 40) rfl ?_
      refine st_get hR dX11_feeds_40 fg_X11_87_10_19 0 0 rfl rfl rfl (pc' := 43) rfl ?_
      refine st_iconst hR dX11_feeds_43 (v := 1) rfl (pc' := 44) rfl ?_
      refine st_aload_n hR dX11_feeds_44 0 rfl rfl (pc' := 45) rfl ?_
      refine st_iload_n hR dX11_feeds_45 1 rfl rfl (pc' := 46) rfl ?_
      refine st_iconst hR dX11_feeds_46 (v := 1) rfl (pc' := 47) rfl ?_
      obtain ⟨r_2, hc_, hM⟩ := bd_e hM
      refine st_callV hR (k_X11_of hc_) cf_X11_251 (rm_le (Nat.le_of_ble_eq_true rfl) (Nat.le_of_ble_eq_true rfl)) [0] rfl rfl rfl 0 0 10 30 rfl rfl rfl rfl (rest := [.int 1, .ref (q_m 12)]) rfl (Nat.le_of_ble_eq_true rfl) dX11_feeds_47 (pc' := 50) rfl (Wn := [wX11 G q_m m_thrown m_tape m_taped m_size m_sort m_place m_value m_at m_fault m_words m_rows m_op m_arg m_codes m_names m_ofFeed m_teeth m_feedWords m_goWords m_facts_1 m_pile m_levels m_best m_losses m_lossOf m_wasThere m_groupMany m_groupRow m_groupLoss m_isMarked]) rfl ?_
      refine st_iast hR dX11_feeds_50 0 12 rfl rfl (vp_lit 1 rfl rfl rfl) (ix := 1) (cl_lit 1 rfl rfl) (pc' := 51) rfl (fun m_facts_2 => [wX11 G q_m m_thrown m_tape m_taped m_size m_sort m_place m_value m_at m_fault m_words m_rows m_op m_arg m_codes m_names m_ofFeed m_teeth m_feedWords m_goWords m_facts_2 m_pile m_levels m_best m_losses m_lossOf m_wasThere m_groupMany m_groupRow m_groupLoss m_isMarked]) (fun _ => rfl) (fun m_facts_2 e_ => ?_)
      have hM := lt_e e_ hM
      refine st_aload_n hR dX11_feeds_51 0 rfl rfl (pc' := 52) rfl ?_
      refine st_get hR dX11_feeds_52 fg_X11_87_10_19 0 0 rfl rfl rfl (pc' := 55) rfl ?_
      refine st_iconst hR dX11_feeds_55 (v := 2) rfl (pc' := 56) rfl ?_
      refine st_iload_n hR dX11_feeds_56 2 rfl rfl (pc' := 57) rfl ?_
      refine st_iast hR dX11_feeds_57 0 12 rfl rfl (vp_lit 2 rfl rfl rfl) (ix := 2) (cl_lit 2 rfl rfl) (pc' := 58) rfl (fun m_facts_3 => [wX11 G q_m m_thrown m_tape m_taped m_size m_sort m_place m_value m_at m_fault m_words m_rows m_op m_arg m_codes m_names m_ofFeed m_teeth m_feedWords m_goWords m_facts_3 m_pile m_levels m_best m_losses m_lossOf m_wasThere m_groupMany m_groupRow m_groupLoss m_isMarked]) (fun _ => rfl) (fun m_facts_3 e_ => ?_)
      have hM := lt_e e_ hM
      refine st_aload_n hR dX11_feeds_58 0 rfl rfl (pc' := 59) rfl ?_
      refine st_get hR dX11_feeds_59 fg_X11_87_10_19 0 0 rfl rfl rfl (pc' := 62) rfl ?_
      refine st_iconst hR dX11_feeds_62 (v := 3) rfl (pc' := 63) rfl ?_
      refine st_aload_n hR dX11_feeds_63 0 rfl rfl (pc' := 64) rfl ?_
      refine st_get hR dX11_feeds_64 fg_X11_69_10_10 0 0 rfl rfl rfl (pc' := 67) rfl ?_
      refine st_iconst hR dX11_feeds_67 (v := 1) rfl (pc' := 68) rfl ?_
      refine st_iald hR dX11_feeds_68 0 6 rfl rfl (vp_lit 1 rfl rfl rfl) (v := m_rows 1) (congrArg m_rows (cl_lit 1 rfl rfl)) (pc' := 69) rfl ?_
      refine st_iast hR dX11_feeds_69 0 12 rfl rfl (vp_lit 3 rfl rfl rfl) (ix := 3) (cl_lit 3 rfl rfl) (pc' := 70) rfl (fun m_facts_4 => [wX11 G q_m m_thrown m_tape m_taped m_size m_sort m_place m_value m_at m_fault m_words m_rows m_op m_arg m_codes m_names m_ofFeed m_teeth m_feedWords m_goWords m_facts_4 m_pile m_levels m_best m_losses m_lossOf m_wasThere m_groupMany m_groupRow m_groupLoss m_isMarked]) (fun _ => rfl) (fun m_facts_4 e_ => ?_)
      have hM := lt_e e_ hM
      refine st_aload_n hR dX11_feeds_70 0 rfl rfl (pc' := 71) rfl ?_
      refine st_aload_n hR dX11_feeds_71 0 rfl rfl (pc' := 72) rfl ?_
      refine st_get hR dX11_feeds_72 fg_X11_69_10_10 0 0 rfl rfl rfl (pc' := 75) rfl ?_
      refine st_iconst hR dX11_feeds_75 (v := 5) rfl (pc' := 76) rfl ?_
      refine st_iald hR dX11_feeds_76 0 6 rfl rfl (vp_lit 5 rfl rfl rfl) (v := m_rows 5) (congrArg m_rows (cl_lit 5 rfl rfl)) (pc' := 77) rfl ?_
      obtain ⟨⟨r_3, m_pile_1⟩, hc_, hM⟩ := bd_e hM
      refine st_callV hR (k_X11_worthAt hc_) cf_X11_269 (rm_le (Nat.le_of_ble_eq_true rfl) (Nat.le_of_ble_eq_true rfl)) [0] rfl rfl rfl 0 0 10 30 rfl rfl rfl rfl (rest := []) rfl (Nat.le_of_ble_eq_true rfl) dX11_feeds_77 (pc' := 80) rfl (Wn := [wX11 G q_m m_thrown m_tape m_taped m_size m_sort m_place m_value m_at m_fault m_words m_rows m_op m_arg m_codes m_names m_ofFeed m_teeth m_feedWords m_goWords m_facts_4 m_pile_1 m_levels m_best m_losses m_lossOf m_wasThere m_groupMany m_groupRow m_groupLoss m_isMarked]) rfl ?_
      refine st_istore_n hR dX11_feeds_80 rfl (Nat.le_of_ble_eq_true rfl) [1, 2, 3, 0] (lv' := [(0, .ref (q_m 0)), (1, .int l1), (2, .int l2), (3, .int r_3)]) rfl (pc' := 81) rfl ?_
      exact J81 _ _ _ _ _ hM
  · have hM := it_f c_ hM
    refine st_aload_n hR dX11_feeds_9 0 rfl rfl (pc' := 10) rfl ?_
    refine st_iload_n hR dX11_feeds_10 1 rfl rfl (pc' := 11) rfl ?_
    obtain ⟨r_4, hc_, hM⟩ := bd_e hM
    refine st_callV hR (k_X11_levelOf hc_) cf_X11_266 (rm_le (Nat.le_of_ble_eq_true rfl) (Nat.le_of_ble_eq_true rfl)) [0] rfl rfl rfl 0 0 10 30 rfl rfl rfl rfl (rest := []) rfl (Nat.le_of_ble_eq_true rfl) dX11_feeds_11 (pc' := 14) rfl (Wn := [wX11 G q_m m_thrown m_tape m_taped m_size m_sort m_place m_value m_at m_fault m_words m_rows m_op m_arg m_codes m_names m_ofFeed m_teeth m_feedWords m_goWords m_facts m_pile m_levels m_best m_losses m_lossOf m_wasThere m_groupMany m_groupRow m_groupLoss m_isMarked]) rfl ?_
    refine st_istore_n hR dX11_feeds_14 rfl (Nat.le_of_ble_eq_true rfl) [1, 2, 3, 0] (lv' := [(0, .ref (q_m 0)), (1, .int l1), (2, .int l2), (3, .int r_4)]) rfl (pc' := 15) rfl ?_
    refine st_goto hR dX11_feeds_15 (tgt := 81) (by decide) ?_
    exact J81 _ _ _ _ _ hM
set_option maxHeartbeats 16000000 in
set_option maxRecDepth 100000 in
theorem k_X11_wants {l : Launch} {G : GG} {q_m : Nat → Nat} {m_thrown m_taped m_size m_at m_fault m_codes m_ofFeed m_teeth m_levels m_groupMany : Int32} {m_tape m_sort m_place m_rows m_op m_arg m_feedWords m_goWords m_facts m_pile m_best m_losses m_lossOf m_wasThere m_groupRow m_groupLoss m_isMarked : Nat → Int32} {m_value m_words m_names : Nat → Int64} {l1 l2 l3 l4 : Int32} {o_r : Int32} {o_m_facts : Nat → Int32} {o_m_pile : Nat → Int32} (hM : f_X11_wants m_rows m_op m_arg m_facts m_pile l1 l2 l3 l4 = some (o_r, o_m_facts, o_m_pile)) : MC l G yX11_wants cX11_wants 5 (some .int) (RM 2) [.ref (q_m 0), .int l1, .int l2, .int l3, .int l4] [wX11 G q_m m_thrown m_tape m_taped m_size m_sort m_place m_value m_at m_fault m_words m_rows m_op m_arg m_codes m_names m_ofFeed m_teeth m_feedWords m_goWords m_facts m_pile m_levels m_best m_losses m_lossOf m_wasThere m_groupMany m_groupRow m_groupLoss m_isMarked] (some (.int o_r)) [wX11 G q_m m_thrown m_tape m_taped m_size m_sort m_place m_value m_at m_fault m_words m_rows m_op m_arg m_codes m_names m_ofFeed m_teeth m_feedWords m_goWords o_m_facts o_m_pile m_levels m_best m_losses m_lossOf m_wasThere m_groupMany m_groupRow m_groupLoss m_isMarked] := by
  refine MC.of pn_X11 (Nat.le_of_ble_eq_true rfl) (fun K hR hret => ?_)
  have hR : Rl l G RX11 cX11_wants 5 (RM 2) K := hR
  show K [wX11 G q_m m_thrown m_tape m_taped m_size m_sort m_place m_value m_at m_fault m_words m_rows m_op m_arg m_codes m_names m_ofFeed m_teeth m_feedWords m_goWords m_facts m_pile m_levels m_best m_losses m_lossOf m_wasThere m_groupMany m_groupRow m_groupLoss m_isMarked] [(0, .ref (q_m 0)), (1, .int l1), (2, .int l2), (3, .int l3), (4, .int l4)] 0 []
  refine st_aload_n hR dX11_wants_0 0 rfl rfl (pc' := 1) rfl ?_
  refine st_get hR dX11_wants_1 fg_X11_69_10_10 0 0 rfl rfl rfl (pc' := 4) rfl ?_
  refine st_bipush hR dX11_wants_4 (v := 6) rfl (pc' := 6) rfl ?_
  refine st_iald hR dX11_wants_6 0 6 rfl rfl (vp_lit 6 rfl rfl rfl) (v := m_rows 6) (congrArg m_rows (cl_lit 6 rfl rfl)) (pc' := 7) rfl ?_
  refine st_if_ge hR dX11_wants_7 (tgt := 17) (by decide) (pc' := 10) rfl (fun c_ => ?_) (fun c_ => ?_)
  · have hM := it_t c_ hM
    refine st_aload_n hR dX11_wants_17 0 rfl rfl (pc' := 18) rfl ?_
    refine st_get hR dX11_wants_18 fg_X11_87_10_19 0 0 rfl rfl rfl (pc' := 21) rfl ?_
    refine st_iconst hR dX11_wants_21 (v := 0) rfl (pc' := 22) rfl ?_
    refine st_aload_n hR dX11_wants_22 0 rfl rfl (pc' := 23) rfl ?_
    refine st_iload_n hR dX11_wants_23 3 rfl rfl (pc' := 24) rfl ?_
    refine st_iconst hR dX11_wants_24 (v := 0) rfl (pc' := 25) rfl ?_
    obtain ⟨r_1, hc_, hM⟩ := bd_e hM
    refine st_callV hR (k_X11_of hc_) cf_X11_251 (rm_le (Nat.le_of_ble_eq_true rfl) (Nat.le_of_ble_eq_true rfl)) [0] rfl rfl rfl 0 0 10 30 rfl rfl rfl rfl (rest := [.int 0, .ref (q_m 12)]) rfl (Nat.le_of_ble_eq_true rfl) dX11_wants_25 (pc' := 28) rfl (Wn := [wX11 G q_m m_thrown m_tape m_taped m_size m_sort m_place m_value m_at m_fault m_words m_rows m_op m_arg m_codes m_names m_ofFeed m_teeth m_feedWords m_goWords m_facts m_pile m_levels m_best m_losses m_lossOf m_wasThere m_groupMany m_groupRow m_groupLoss m_isMarked]) rfl ?_
    refine st_iast hR dX11_wants_28 0 12 rfl rfl (vp_lit 0 rfl rfl rfl) (ix := 0) (cl_lit 0 rfl rfl) (pc' := 29) rfl (fun m_facts_1 => [wX11 G q_m m_thrown m_tape m_taped m_size m_sort m_place m_value m_at m_fault m_words m_rows m_op m_arg m_codes m_names m_ofFeed m_teeth m_feedWords m_goWords m_facts_1 m_pile m_levels m_best m_losses m_lossOf m_wasThere m_groupMany m_groupRow m_groupLoss m_isMarked]) (fun _ => rfl) (fun m_facts_1 e_ => ?_)
    have hM := lt_e e_ hM
    refine st_aload_n hR dX11_wants_29 0 rfl rfl (pc' := 30) rfl ?_
    refine st_get hR dX11_wants_30 fg_X11_87_10_19 0 0 rfl rfl rfl (pc' := 33) rfl ?_
    refine st_iconst hR dX11_wants_33 (v := 1) rfl (pc' := 34) rfl ?_
    refine st_aload_n hR dX11_wants_34 0 rfl rfl (pc' := 35) rfl ?_
    refine st_iload_n hR dX11_wants_35 3 rfl rfl (pc' := 36) rfl ?_
    refine st_iconst hR dX11_wants_36 (v := 1) rfl (pc' := 37) rfl ?_
    obtain ⟨r_2, hc_, hM⟩ := bd_e hM
    refine st_callV hR (k_X11_of hc_) cf_X11_251 (rm_le (Nat.le_of_ble_eq_true rfl) (Nat.le_of_ble_eq_true rfl)) [0] rfl rfl rfl 0 0 10 30 rfl rfl rfl rfl (rest := [.int 1, .ref (q_m 12)]) rfl (Nat.le_of_ble_eq_true rfl) dX11_wants_37 (pc' := 40) rfl (Wn := [wX11 G q_m m_thrown m_tape m_taped m_size m_sort m_place m_value m_at m_fault m_words m_rows m_op m_arg m_codes m_names m_ofFeed m_teeth m_feedWords m_goWords m_facts_1 m_pile m_levels m_best m_losses m_lossOf m_wasThere m_groupMany m_groupRow m_groupLoss m_isMarked]) rfl ?_
    refine st_iast hR dX11_wants_40 0 12 rfl rfl (vp_lit 1 rfl rfl rfl) (ix := 1) (cl_lit 1 rfl rfl) (pc' := 41) rfl (fun m_facts_2 => [wX11 G q_m m_thrown m_tape m_taped m_size m_sort m_place m_value m_at m_fault m_words m_rows m_op m_arg m_codes m_names m_ofFeed m_teeth m_feedWords m_goWords m_facts_2 m_pile m_levels m_best m_losses m_lossOf m_wasThere m_groupMany m_groupRow m_groupLoss m_isMarked]) (fun _ => rfl) (fun m_facts_2 e_ => ?_)
    have hM := lt_e e_ hM
    refine st_aload_n hR dX11_wants_41 0 rfl rfl (pc' := 42) rfl ?_
    refine st_get hR dX11_wants_42 fg_X11_87_10_19 0 0 rfl rfl rfl (pc' := 45) rfl ?_
    refine st_iconst hR dX11_wants_45 (v := 2) rfl (pc' := 46) rfl ?_
    refine st_iload hR dX11_wants_46 4 rfl (pc' := 48) rfl ?_
    refine st_iast hR dX11_wants_48 0 12 rfl rfl (vp_lit 2 rfl rfl rfl) (ix := 2) (cl_lit 2 rfl rfl) (pc' := 49) rfl (fun m_facts_3 => [wX11 G q_m m_thrown m_tape m_taped m_size m_sort m_place m_value m_at m_fault m_words m_rows m_op m_arg m_codes m_names m_ofFeed m_teeth m_feedWords m_goWords m_facts_3 m_pile m_levels m_best m_losses m_lossOf m_wasThere m_groupMany m_groupRow m_groupLoss m_isMarked]) (fun _ => rfl) (fun m_facts_3 e_ => ?_)
    have hM := lt_e e_ hM
    refine st_aload_n hR dX11_wants_49 0 rfl rfl (pc' := 50) rfl ?_
    refine st_get hR dX11_wants_50 fg_X11_87_10_19 0 0 rfl rfl rfl (pc' := 53) rfl ?_
    refine st_iconst hR dX11_wants_53 (v := 3) rfl (pc' := 54) rfl ?_
    refine st_aload_n hR dX11_wants_54 0 rfl rfl (pc' := 55) rfl ?_
    refine st_get hR dX11_wants_55 fg_X11_69_10_10 0 0 rfl rfl rfl (pc' := 58) rfl ?_
    refine st_bipush hR dX11_wants_58 (v := 74) rfl (pc' := 60) rfl ?_
    refine st_bipush hR dX11_wants_60 (v := 6) rfl (pc' := 62) rfl ?_
    refine st_iload_n hR dX11_wants_62 2 rfl rfl (pc' := 63) rfl ?_
    refine st_imul hR dX11_wants_63 (pc' := 64) rfl ?_
    refine st_iadd hR dX11_wants_64 (pc' := 65) rfl ?_
    refine st_iload_n hR dX11_wants_65 3 rfl rfl (pc' := 66) rfl ?_
    refine st_iadd hR dX11_wants_66 (pc' := 67) rfl ?_
    obtain ⟨hin_, hM⟩ := g_in_e hM
    refine st_iald hR dX11_wants_67 0 6 rfl rfl hin_ (v := m_rows (ix ((74 + (6 * l2)) + l3))) rfl (pc' := 68) rfl ?_
    refine st_iconst hR dX11_wants_68 (v := 1) rfl (pc' := 69) rfl ?_
    refine st_isub hR dX11_wants_69 (pc' := 70) rfl ?_
    refine st_iast hR dX11_wants_70 0 12 rfl rfl (vp_lit 3 rfl rfl rfl) (ix := 3) (cl_lit 3 rfl rfl) (pc' := 71) rfl (fun m_facts_4 => [wX11 G q_m m_thrown m_tape m_taped m_size m_sort m_place m_value m_at m_fault m_words m_rows m_op m_arg m_codes m_names m_ofFeed m_teeth m_feedWords m_goWords m_facts_4 m_pile m_levels m_best m_losses m_lossOf m_wasThere m_groupMany m_groupRow m_groupLoss m_isMarked]) (fun _ => rfl) (fun m_facts_4 e_ => ?_)
    have hM := lt_e e_ hM
    refine st_aload_n hR dX11_wants_71 0 rfl rfl (pc' := 72) rfl ?_
    refine st_get hR dX11_wants_72 fg_X11_87_10_19 0 0 rfl rfl rfl (pc' := 75) rfl ?_
    refine st_iconst hR dX11_wants_75 (v := 4) rfl (pc' := 76) rfl ?_
    refine st_aload_n hR dX11_wants_76 0 rfl rfl (pc' := 77) rfl ?_
    refine st_iload_n hR dX11_wants_77 1 rfl rfl (pc' := 78) rfl ?_
    refine st_iconst hR dX11_wants_78 (v := 3) rfl (pc' := 79) rfl ?_
    obtain ⟨r_3, hc_, hM⟩ := bd_e hM
    refine st_callV hR (k_X11_of hc_) cf_X11_251 (rm_le (Nat.le_of_ble_eq_true rfl) (Nat.le_of_ble_eq_true rfl)) [0] rfl rfl rfl 0 0 10 30 rfl rfl rfl rfl (rest := [.int 4, .ref (q_m 12)]) rfl (Nat.le_of_ble_eq_true rfl) dX11_wants_79 (pc' := 82) rfl (Wn := [wX11 G q_m m_thrown m_tape m_taped m_size m_sort m_place m_value m_at m_fault m_words m_rows m_op m_arg m_codes m_names m_ofFeed m_teeth m_feedWords m_goWords m_facts_4 m_pile m_levels m_best m_losses m_lossOf m_wasThere m_groupMany m_groupRow m_groupLoss m_isMarked]) rfl ?_
    refine st_iast hR dX11_wants_82 0 12 rfl rfl (vp_lit 4 rfl rfl rfl) (ix := 4) (cl_lit 4 rfl rfl) (pc' := 83) rfl (fun m_facts_5 => [wX11 G q_m m_thrown m_tape m_taped m_size m_sort m_place m_value m_at m_fault m_words m_rows m_op m_arg m_codes m_names m_ofFeed m_teeth m_feedWords m_goWords m_facts_5 m_pile m_levels m_best m_losses m_lossOf m_wasThere m_groupMany m_groupRow m_groupLoss m_isMarked]) (fun _ => rfl) (fun m_facts_5 e_ => ?_)
    have hM := lt_e e_ hM
    refine st_aload_n hR dX11_wants_83 0 rfl rfl (pc' := 84) rfl ?_
    refine st_aload_n hR dX11_wants_84 0 rfl rfl (pc' := 85) rfl ?_
    refine st_get hR dX11_wants_85 fg_X11_69_10_10 0 0 rfl rfl rfl (pc' := 88) rfl ?_
    refine st_bipush hR dX11_wants_88 (v := 6) rfl (pc' := 90) rfl ?_
    refine st_iald hR dX11_wants_90 0 6 rfl rfl (vp_lit 6 rfl rfl rfl) (v := m_rows 6) (congrArg m_rows (cl_lit 6 rfl rfl)) (pc' := 91) rfl ?_
    obtain ⟨⟨r_4, m_pile_1⟩, hc_, hM⟩ := bd_e hM
    refine st_callV hR (k_X11_worthAt hc_) cf_X11_269 (rm_le (Nat.le_of_ble_eq_true rfl) (Nat.le_of_ble_eq_true rfl)) [0] rfl rfl rfl 0 0 10 30 rfl rfl rfl rfl (rest := []) rfl (Nat.le_of_ble_eq_true rfl) dX11_wants_91 (pc' := 94) rfl (Wn := [wX11 G q_m m_thrown m_tape m_taped m_size m_sort m_place m_value m_at m_fault m_words m_rows m_op m_arg m_codes m_names m_ofFeed m_teeth m_feedWords m_goWords m_facts_5 m_pile_1 m_levels m_best m_losses m_lossOf m_wasThere m_groupMany m_groupRow m_groupLoss m_isMarked]) rfl ?_
    cases hM
    exact hret _ _ dX11_wants_94 (ro_i _)
  · have hM := it_f c_ hM
    refine st_aload_n hR dX11_wants_10 0 rfl rfl (pc' := 11) rfl ?_
    refine st_iload_n hR dX11_wants_11 3 rfl rfl (pc' := 12) rfl ?_
    refine st_iconst hR dX11_wants_12 (v := 0) rfl (pc' := 13) rfl ?_
    obtain ⟨r_5, hc_, hM⟩ := bd_e hM
    refine st_callV hR (k_X11_of hc_) cf_X11_251 (rm_le (Nat.le_of_ble_eq_true rfl) (Nat.le_of_ble_eq_true rfl)) [0] rfl rfl rfl 0 0 10 30 rfl rfl rfl rfl (rest := []) rfl (Nat.le_of_ble_eq_true rfl) dX11_wants_13 (pc' := 16) rfl (Wn := [wX11 G q_m m_thrown m_tape m_taped m_size m_sort m_place m_value m_at m_fault m_words m_rows m_op m_arg m_codes m_names m_ofFeed m_teeth m_feedWords m_goWords m_facts m_pile m_levels m_best m_losses m_lossOf m_wasThere m_groupMany m_groupRow m_groupLoss m_isMarked]) rfl ?_
    cases hM
    exact hret _ _ dX11_wants_16 (ro_i _)
set_option maxHeartbeats 16000000 in
set_option maxRecDepth 100000 in
theorem k_X11_goesTo {l : Launch} {G : GG} {q_m : Nat → Nat} {m_thrown m_taped m_size m_at m_fault m_codes m_ofFeed m_teeth m_levels m_groupMany : Int32} {m_tape m_sort m_place m_rows m_op m_arg m_feedWords m_goWords m_facts m_pile m_best m_losses m_lossOf m_wasThere m_groupRow m_groupLoss m_isMarked : Nat → Int32} {m_value m_words m_names : Nat → Int64} {l1 l2 l3 : Int32} {o_r : Int32} {o_m_rows : Nat → Int32} {o_m_facts : Nat → Int32} {o_m_pile : Nat → Int32} {o_m_best : Nat → Int32} (hM : f_X11_goesTo m_op m_arg m_rows m_facts m_pile m_best l1 l2 l3 = some (o_r, o_m_rows, o_m_facts, o_m_pile, o_m_best)) : MC l G yX11_goesTo cX11_goesTo 8 (some .int) (RM 3) [.ref (q_m 0), .int l1, .int l2, .int l3] [wX11 G q_m m_thrown m_tape m_taped m_size m_sort m_place m_value m_at m_fault m_words m_rows m_op m_arg m_codes m_names m_ofFeed m_teeth m_feedWords m_goWords m_facts m_pile m_levels m_best m_losses m_lossOf m_wasThere m_groupMany m_groupRow m_groupLoss m_isMarked] (some (.int o_r)) [wX11 G q_m m_thrown m_tape m_taped m_size m_sort m_place m_value m_at m_fault m_words o_m_rows m_op m_arg m_codes m_names m_ofFeed m_teeth m_feedWords m_goWords o_m_facts o_m_pile m_levels o_m_best m_losses m_lossOf m_wasThere m_groupMany m_groupRow m_groupLoss m_isMarked] := by
  refine MC.of pn_X11 (Nat.le_of_ble_eq_true rfl) (fun K hR hret => ?_)
  have hR : Rl l G RX11 cX11_goesTo 8 (RM 3) K := hR
  show K [wX11 G q_m m_thrown m_tape m_taped m_size m_sort m_place m_value m_at m_fault m_words m_rows m_op m_arg m_codes m_names m_ofFeed m_teeth m_feedWords m_goWords m_facts m_pile m_levels m_best m_losses m_lossOf m_wasThere m_groupMany m_groupRow m_groupLoss m_isMarked] [(0, .ref (q_m 0)), (1, .int l1), (2, .int l2), (3, .int l3)] 0 []
  have L9 : ∀ (n9 : Nat) (m_rows : Nat → Int32) (m_facts : Nat → Int32) (m_pile : Nat → Int32) (m_best : Nat → Int32) (l1 : Int32) (l2 : Int32) (l3 : Int32) (l4 : Int32) (l5 : Int32) (l6 : Int32), f_X11_goesTo_L9  m_op m_arg n9 m_rows m_facts m_pile m_best l1 l2 l3 l4 l5 l6 = some (o_r, o_m_rows, o_m_facts, o_m_pile, o_m_best) → K [wX11 G q_m m_thrown m_tape m_taped m_size m_sort m_place m_value m_at m_fault m_words m_rows m_op m_arg m_codes m_names m_ofFeed m_teeth m_feedWords m_goWords m_facts m_pile m_levels m_best m_losses m_lossOf m_wasThere m_groupMany m_groupRow m_groupLoss m_isMarked] [(0, .ref (q_m 0)), (1, .int l1), (2, .int l2), (3, .int l3), (4, .int l4), (5, .int l5), (6, .int l6)] 9 [] := by
    intro n9
    induction n9 with
    | zero => intro m_rows m_facts m_pile m_best l1 l2 l3 l4 l5 l6 hM; exact no_some hM
    | succ n9 ih9 =>
      have J81 : ∀ (m_rows : Nat → Int32) (m_facts : Nat → Int32) (m_pile : Nat → Int32) (m_best : Nat → Int32) (l1 : Int32) (l2 : Int32) (l3 : Int32) (l4 : Int32) (l5 : Int32) (l6 : Int32), f_X11_goesTo_B81  (f_X11_goesTo_L9  m_op m_arg n9) m_op m_arg m_rows m_facts m_pile m_best l1 l2 l3 l4 l5 l6 = some (o_r, o_m_rows, o_m_facts, o_m_pile, o_m_best) → K [wX11 G q_m m_thrown m_tape m_taped m_size m_sort m_place m_value m_at m_fault m_words m_rows m_op m_arg m_codes m_names m_ofFeed m_teeth m_feedWords m_goWords m_facts m_pile m_levels m_best m_losses m_lossOf m_wasThere m_groupMany m_groupRow m_groupLoss m_isMarked] [(0, .ref (q_m 0)), (1, .int l1), (2, .int l2), (3, .int l3), (4, .int l4), (5, .int l5), (6, .int l6)] 81 [] := by
        intro m_rows m_facts m_pile m_best l1 l2 l3 l4 l5 l6 hM
        obtain ⟨l6_1, e_⟩ : ∃ y : Int32, y = l6 + 1 := ⟨_, rfl⟩
        refine st_iinc hR dX11_goesTo_81 (Nat.le_of_ble_eq_true rfl) 6 [1, 2, 3, 4, 5, 6, 0] (v := l6_1) rfl (by rw [e_]; rfl) (lv' := [(0, .ref (q_m 0)), (1, .int l1), (2, .int l2), (3, .int l3), (4, .int l4), (5, .int l5), (6, .int l6_1)]) rfl (pc' := 84) rfl ?_
        have hM := lt_e e_ hM
        refine st_goto hR dX11_goesTo_84 (tgt := 9) (by decide) ?_
        exact ih9 _ _ _ _ _ _ _ _ _ _ hM
      have J57 : ∀ (m_rows : Nat → Int32) (m_facts : Nat → Int32) (m_pile : Nat → Int32) (m_best : Nat → Int32) (l1 : Int32) (l2 : Int32) (l3 : Int32) (l4 : Int32) (l5 : Int32) (l6 : Int32) (l7 : Int32), f_X11_goesTo_B57  (f_X11_goesTo_L9  m_op m_arg n9) m_op m_arg m_rows m_facts m_pile m_best l1 l2 l3 l4 l5 l6 l7 = some (o_r, o_m_rows, o_m_facts, o_m_pile, o_m_best) → K [wX11 G q_m m_thrown m_tape m_taped m_size m_sort m_place m_value m_at m_fault m_words m_rows m_op m_arg m_codes m_names m_ofFeed m_teeth m_feedWords m_goWords m_facts m_pile m_levels m_best m_losses m_lossOf m_wasThere m_groupMany m_groupRow m_groupLoss m_isMarked] [(0, .ref (q_m 0)), (1, .int l1), (2, .int l2), (3, .int l3), (4, .int l4), (5, .int l5), (6, .int l6), (7, .int l7)] 57 [] := by
        intro m_rows m_facts m_pile m_best l1 l2 l3 l4 l5 l6 l7 hM
        refine st_iload hR dX11_goesTo_57 7 rfl (pc' := 59) rfl ?_
        refine st_if_le hR dX11_goesTo_59 (tgt := 81) (by decide) (pc' := 62) rfl (fun c_ => ?_) (fun c_ => ?_)
        · have hM := it_t c_ hM
          exact st_lv hR [0, 1, 2, 3, 4, 5, 6] rfl (J81 _ _ _ _ _ _ _ _ _ _ hM)
        · have hM := it_f c_ hM
          refine st_iload hR dX11_goesTo_62 7 rfl (pc' := 64) rfl ?_
          refine st_iload hR dX11_goesTo_64 5 rfl (pc' := 66) rfl ?_
          refine st_icmp_ne hR dX11_goesTo_66 (tgt := 81) (by decide) (pc' := 69) rfl (fun c_ => ?_) (fun c_ => ?_)
          · have hM := it_f c_ hM
            exact st_lv hR [0, 1, 2, 3, 4, 5, 6] rfl (J81 _ _ _ _ _ _ _ _ _ _ hM)
          · have hM := it_t c_ hM
            refine st_aload_n hR dX11_goesTo_69 0 rfl rfl (pc' := 70) rfl ?_
            refine st_get hR dX11_goesTo_70 fg_X11_96_10_22 0 0 rfl rfl rfl (pc' := 73) rfl ?_
            refine st_iload hR dX11_goesTo_73 4 rfl (pc' := 75) rfl ?_
            refine st_iload hR dX11_goesTo_75 6 rfl (pc' := 77) rfl ?_
            obtain ⟨hin_, hM⟩ := g_in_e hM
            refine st_iast hR dX11_goesTo_77 0 14 rfl rfl hin_ (ix := (ix l4)) rfl (pc' := 78) rfl (fun m_best_1 => [wX11 G q_m m_thrown m_tape m_taped m_size m_sort m_place m_value m_at m_fault m_words m_rows m_op m_arg m_codes m_names m_ofFeed m_teeth m_feedWords m_goWords m_facts m_pile m_levels m_best_1 m_losses m_lossOf m_wasThere m_groupMany m_groupRow m_groupLoss m_isMarked]) (fun _ => rfl) (fun m_best_1 e_ => ?_)
            have hM := lt_e e_ hM
            obtain ⟨l4_1, e_⟩ : ∃ y : Int32, y = l4 + 1 := ⟨_, rfl⟩
            refine st_iinc hR dX11_goesTo_78 (Nat.le_of_ble_eq_true rfl) 4 [1, 2, 3, 4, 0, 5, 6, 7] (v := l4_1) rfl (by rw [e_]; rfl) (lv' := [(0, .ref (q_m 0)), (1, .int l1), (2, .int l2), (3, .int l3), (4, .int l4_1), (5, .int l5), (6, .int l6), (7, .int l7)]) rfl (pc' := 81) rfl ?_
            have hM := lt_e e_ hM
            exact st_lv hR [0, 1, 2, 3, 4, 5, 6] rfl (J81 _ _ _ _ _ _ _ _ _ _ hM)
      have J41 : ∀ (m_rows : Nat → Int32) (m_facts : Nat → Int32) (m_pile : Nat → Int32) (m_best : Nat → Int32) (l1 : Int32) (l2 : Int32) (l3 : Int32) (l4 : Int32) (l5 : Int32) (l6 : Int32) (s0 : Int32), f_X11_goesTo_B41  (f_X11_goesTo_L9  m_op m_arg n9) m_op m_arg m_rows m_facts m_pile m_best l1 l2 l3 l4 l5 l6 s0 = some (o_r, o_m_rows, o_m_facts, o_m_pile, o_m_best) → K [wX11 G q_m m_thrown m_tape m_taped m_size m_sort m_place m_value m_at m_fault m_words m_rows m_op m_arg m_codes m_names m_ofFeed m_teeth m_feedWords m_goWords m_facts m_pile m_levels m_best m_losses m_lossOf m_wasThere m_groupMany m_groupRow m_groupLoss m_isMarked] [(0, .ref (q_m 0)), (1, .int l1), (2, .int l2), (3, .int l3), (4, .int l4), (5, .int l5), (6, .int l6)] 41 [.int s0] := by
        intro m_rows m_facts m_pile m_best l1 l2 l3 l4 l5 l6 s0 hM
        refine st_istore hR dX11_goesTo_41 (Nat.le_of_ble_eq_true rfl) [1, 2, 3, 4, 5, 6, 7, 0] (lv' := [(0, .ref (q_m 0)), (1, .int l1), (2, .int l2), (3, .int l3), (4, .int l4), (5, .int l5), (6, .int l6), (7, .int s0)]) rfl (pc' := 43) rfl ?_
        refine st_iload hR dX11_goesTo_43 7 rfl (pc' := 45) rfl ?_
        refine st_iload hR dX11_goesTo_45 5 rfl (pc' := 47) rfl ?_
        refine st_icmp_le hR dX11_goesTo_47 (tgt := 57) (by decide) (pc' := 50) rfl (fun c_ => ?_) (fun c_ => ?_)
        · have hM := it_t c_ hM
          exact J57 _ _ _ _ _ _ _ _ _ _ _ hM
        · have hM := it_f c_ hM
          refine st_iload hR dX11_goesTo_50 7 rfl (pc' := 52) rfl ?_
          refine st_istore hR dX11_goesTo_52 (Nat.le_of_ble_eq_true rfl) [1, 2, 3, 4, 5, 0, 6, 7] (lv' := [(0, .ref (q_m 0)), (1, .int l1), (2, .int l2), (3, .int l3), (4, .int l4), (5, .int s0), (6, .int l6), (7, .int s0)]) rfl (pc' := 54) rfl ?_
          refine st_iconst hR dX11_goesTo_54 (v := 0) rfl (pc' := 55) rfl ?_
          refine st_istore hR dX11_goesTo_55 (Nat.le_of_ble_eq_true rfl) [1, 2, 3, 4, 0, 5, 6, 7] (lv' := [(0, .ref (q_m 0)), (1, .int l1), (2, .int l2), (3, .int l3), (4, .int 0), (5, .int s0), (6, .int l6), (7, .int s0)]) rfl (pc' := 57) rfl ?_
          exact J57 _ _ _ _ _ _ _ _ _ _ _ hM
      intro m_rows m_facts m_pile m_best l1 l2 l3 l4 l5 l6 hM
      have hM : f_X11_goesTo_L9b  (f_X11_goesTo_L9  m_op m_arg n9) m_op m_arg m_rows m_facts m_pile m_best l1 l2 l3 l4 l5 l6 = some (o_r, o_m_rows, o_m_facts, o_m_pile, o_m_best) := hM
      refine st_iload hR dX11_goesTo_9 6 rfl (pc' := 11) rfl ?_
      refine st_aload_n hR dX11_goesTo_11 0 rfl rfl (pc' := 12) rfl ?_
      obtain ⟨r_1, hc_, hM⟩ := bd_e hM
      refine st_callV hR (k_X11_farms hc_) cf_X11_248 (rm_le (Nat.le_of_ble_eq_true rfl) (Nat.le_of_ble_eq_true rfl)) [0] rfl rfl rfl 0 0 10 30 rfl rfl rfl rfl (rest := [.int l6]) rfl (Nat.le_of_ble_eq_true rfl) dX11_goesTo_12 (pc' := 15) rfl (Wn := [wX11 G q_m m_thrown m_tape m_taped m_size m_sort m_place m_value m_at m_fault m_words m_rows m_op m_arg m_codes m_names m_ofFeed m_teeth m_feedWords m_goWords m_facts m_pile m_levels m_best m_losses m_lossOf m_wasThere m_groupMany m_groupRow m_groupLoss m_isMarked]) rfl ?_
      refine st_icmp_ge hR dX11_goesTo_15 (tgt := 87) (by decide) (pc' := 18) rfl (fun c_ => ?_) (fun c_ => ?_)
      · have hM := it_t c_ hM
        refine st_iload hR dX11_goesTo_87 4 rfl (pc' := 89) rfl ?_
        refine st_if_ne hR dX11_goesTo_89 (tgt := 96) (by decide) (pc' := 92) rfl (fun c_ => ?_) (fun c_ => ?_)
        · have hM := it_f c_ hM
          refine st_iload hR dX11_goesTo_96 4 rfl (pc' := 98) rfl ?_
          refine st_iconst hR dX11_goesTo_98 (v := 1) rfl (pc' := 99) rfl ?_
          refine st_icmp_ne hR dX11_goesTo_99 (tgt := 111) (by decide) (pc' := 102) rfl (fun c_ => ?_) (fun c_ => ?_)
          · have hM := it_f c_ hM
            refine st_aload_n hR dX11_goesTo_111 0 rfl rfl (pc' := 112) rfl ?_
            refine st_get hR dX11_goesTo_112 fg_X11_96_10_22 0 0 rfl rfl rfl (pc' := 115) rfl ?_
            refine st_aload_n hR dX11_goesTo_115 0 rfl rfl (pc' := 116) rfl ?_
            refine st_iload hR dX11_goesTo_116 4 rfl (pc' := 118) rfl ?_
            obtain ⟨⟨r_2, m_rows_1⟩, hc_, hM⟩ := bd_e hM
            refine st_callV hR (k_X11_draw hc_) cf_X11_276 (rm_le (Nat.le_of_ble_eq_true rfl) (Nat.le_of_ble_eq_true rfl)) [0] rfl rfl rfl 0 0 10 30 rfl rfl rfl rfl (rest := [.ref (q_m 14)]) rfl (Nat.le_of_ble_eq_true rfl) dX11_goesTo_118 (pc' := 121) rfl (Wn := [wX11 G q_m m_thrown m_tape m_taped m_size m_sort m_place m_value m_at m_fault m_words m_rows_1 m_op m_arg m_codes m_names m_ofFeed m_teeth m_feedWords m_goWords m_facts m_pile m_levels m_best m_losses m_lossOf m_wasThere m_groupMany m_groupRow m_groupLoss m_isMarked]) rfl ?_
            obtain ⟨hin_, hM⟩ := g_in_e hM
            refine st_iald hR dX11_goesTo_121 0 14 rfl rfl hin_ (v := m_best (ix r_2)) rfl (pc' := 122) rfl ?_
            cases hM
            exact hret _ _ dX11_goesTo_122 (ro_i _)
          · have hM := it_t c_ hM
            refine st_aload_n hR dX11_goesTo_102 0 rfl rfl (pc' := 103) rfl ?_
            refine st_get hR dX11_goesTo_103 fg_X11_96_10_22 0 0 rfl rfl rfl (pc' := 106) rfl ?_
            refine st_iconst hR dX11_goesTo_106 (v := 0) rfl (pc' := 107) rfl ?_
            refine st_iald hR dX11_goesTo_107 0 14 rfl rfl (vp_lit 0 rfl rfl rfl) (v := m_best 0) (congrArg m_best (cl_lit 0 rfl rfl)) (pc' := 108) rfl ?_
            refine st_goto hR dX11_goesTo_108 (tgt := 122) (by decide) ?_
            cases hM
            exact hret _ _ dX11_goesTo_122 (ro_i _)
        · have hM := it_t c_ hM
          refine st_iconst hR dX11_goesTo_92 (v := (-1)) (by decide) (pc' := 93) rfl ?_
          refine st_goto hR dX11_goesTo_93 (tgt := 122) (by decide) ?_
          cases hM
          exact hret _ _ dX11_goesTo_122 (ro_i _)
      · have hM := it_f c_ hM
        refine st_aload_n hR dX11_goesTo_18 0 rfl rfl (pc' := 19) rfl ?_
        refine st_iload_n hR dX11_goesTo_19 2 rfl rfl (pc' := 20) rfl ?_
        refine st_iload hR dX11_goesTo_20 6 rfl (pc' := 22) rfl ?_
        obtain ⟨r_3, hc_, hM⟩ := bd_e hM
        refine st_callV hR (k_X11_areNear hc_) cf_X11_254 (rm_le (Nat.le_of_ble_eq_true rfl) (Nat.le_of_ble_eq_true rfl)) [0] rfl rfl rfl 0 0 10 30 rfl rfl rfl rfl (rest := []) rfl (Nat.le_of_ble_eq_true rfl) dX11_goesTo_22 (pc' := 25) rfl (Wn := [wX11 G q_m m_thrown m_tape m_taped m_size m_sort m_place m_value m_at m_fault m_words m_rows m_op m_arg m_codes m_names m_ofFeed m_teeth m_feedWords m_goWords m_facts m_pile m_levels m_best m_losses m_lossOf m_wasThere m_groupMany m_groupRow m_groupLoss m_isMarked]) rfl ?_
        refine st_if_eq hR dX11_goesTo_25 (tgt := 40) (by decide) (pc' := 28) rfl (fun c_ => ?_) (fun c_ => ?_)
        · have hM := it_t c_ hM
          refine st_iconst hR dX11_goesTo_40 (v := 0) rfl (pc' := 41) rfl ?_
          exact J41 _ _ _ _ _ _ _ _ _ _ _ hM
        · have hM := it_f c_ hM
          refine st_aload_n hR dX11_goesTo_28 0 rfl rfl (pc' := 29) rfl ?_
          refine st_iload_n hR dX11_goesTo_29 1 rfl rfl (pc' := 30) rfl ?_
          refine st_iload_n hR dX11_goesTo_30 2 rfl rfl (pc' := 31) rfl ?_
          refine st_iload hR dX11_goesTo_31 6 rfl (pc' := 33) rfl ?_
          refine st_iload_n hR dX11_goesTo_33 3 rfl rfl (pc' := 34) rfl ?_
          obtain ⟨⟨r_4, m_facts_1, m_pile_1⟩, hc_, hM⟩ := bd_e hM
          refine st_callV hR (k_X11_wants hc_) cf_X11_272 (rm_le (Nat.le_of_ble_eq_true rfl) (Nat.le_of_ble_eq_true rfl)) [0] rfl rfl rfl 0 0 10 30 rfl rfl rfl rfl (rest := []) rfl (Nat.le_of_ble_eq_true rfl) dX11_goesTo_34 (pc' := 37) rfl (Wn := [wX11 G q_m m_thrown m_tape m_taped m_size m_sort m_place m_value m_at m_fault m_words m_rows m_op m_arg m_codes m_names m_ofFeed m_teeth m_feedWords m_goWords m_facts_1 m_pile_1 m_levels m_best m_losses m_lossOf m_wasThere m_groupMany m_groupRow m_groupLoss m_isMarked]) rfl ?_
          refine st_goto hR dX11_goesTo_37 (tgt := 41) (by decide) ?_
          exact J41 _ _ _ _ _ _ _ _ _ _ _ hM
  refine st_iconst hR dX11_goesTo_0 (v := 0) rfl (pc' := 1) rfl ?_
  refine st_istore hR dX11_goesTo_1 (Nat.le_of_ble_eq_true rfl) [1, 2, 3, 4, 0] (lv' := [(0, .ref (q_m 0)), (1, .int l1), (2, .int l2), (3, .int l3), (4, .int 0)]) rfl (pc' := 3) rfl ?_
  refine st_iconst hR dX11_goesTo_3 (v := 0) rfl (pc' := 4) rfl ?_
  refine st_istore hR dX11_goesTo_4 (Nat.le_of_ble_eq_true rfl) [1, 2, 3, 4, 5, 0] (lv' := [(0, .ref (q_m 0)), (1, .int l1), (2, .int l2), (3, .int l3), (4, .int 0), (5, .int 0)]) rfl (pc' := 6) rfl ?_
  refine st_iconst hR dX11_goesTo_6 (v := 0) rfl (pc' := 7) rfl ?_
  refine st_istore hR dX11_goesTo_7 (Nat.le_of_ble_eq_true rfl) [1, 2, 3, 4, 5, 6, 0] (lv' := [(0, .ref (q_m 0)), (1, .int l1), (2, .int l2), (3, .int l3), (4, .int 0), (5, .int 0), (6, .int 0)]) rfl (pc' := 9) rfl ?_
  exact L9 FU _ _ _ _ _ _ _ _ _ _ hM
set_option maxHeartbeats 16000000 in
set_option maxRecDepth 100000 in
theorem k_X11_takes {l : Launch} {G : GG} {q_m : Nat → Nat} {m_thrown m_taped m_size m_at m_fault m_codes m_ofFeed m_teeth m_levels m_groupMany : Int32} {m_tape m_sort m_place m_rows m_op m_arg m_feedWords m_goWords m_facts m_pile m_best m_losses m_lossOf m_wasThere m_groupRow m_groupLoss m_isMarked : Nat → Int32} {m_value m_words m_names : Nat → Int64} {l1 l2 l3 : Int32} {o_r : Int32} {o_m_rows : Nat → Int32} (hM : f_X11_takes m_rows l1 l2 l3 = some (o_r, o_m_rows)) : MC l G yX11_takes cX11_takes 7 (some .int) (RM 1) [.ref (q_m 0), .int l1, .int l2, .int l3] [wX11 G q_m m_thrown m_tape m_taped m_size m_sort m_place m_value m_at m_fault m_words m_rows m_op m_arg m_codes m_names m_ofFeed m_teeth m_feedWords m_goWords m_facts m_pile m_levels m_best m_losses m_lossOf m_wasThere m_groupMany m_groupRow m_groupLoss m_isMarked] (some (.int o_r)) [wX11 G q_m m_thrown m_tape m_taped m_size m_sort m_place m_value m_at m_fault m_words o_m_rows m_op m_arg m_codes m_names m_ofFeed m_teeth m_feedWords m_goWords m_facts m_pile m_levels m_best m_losses m_lossOf m_wasThere m_groupMany m_groupRow m_groupLoss m_isMarked] := by
  refine MC.of pn_X11 (Nat.le_of_ble_eq_true rfl) (fun K hR hret => ?_)
  have hR : Rl l G RX11 cX11_takes 7 (RM 1) K := hR
  show K [wX11 G q_m m_thrown m_tape m_taped m_size m_sort m_place m_value m_at m_fault m_words m_rows m_op m_arg m_codes m_names m_ofFeed m_teeth m_feedWords m_goWords m_facts m_pile m_levels m_best m_losses m_lossOf m_wasThere m_groupMany m_groupRow m_groupLoss m_isMarked] [(0, .ref (q_m 0)), (1, .int l1), (2, .int l2), (3, .int l3)] 0 []
  have J139 : ∀ (m_rows : Nat → Int32) (l4 : Int32), f_X11_takes_B139   m_rows l4 = some (o_r, o_m_rows) → K [wX11 G q_m m_thrown m_tape m_taped m_size m_sort m_place m_value m_at m_fault m_words m_rows m_op m_arg m_codes m_names m_ofFeed m_teeth m_feedWords m_goWords m_facts m_pile m_levels m_best m_losses m_lossOf m_wasThere m_groupMany m_groupRow m_groupLoss m_isMarked] [(0, .ref (q_m 0)), (4, .int l4)] 139 [] := by
    intro m_rows l4 hM
    refine st_aload_n hR dX11_takes_139 0 rfl rfl (pc' := 140) rfl ?_
    refine st_get hR dX11_takes_140 fg_X11_69_10_10 0 0 rfl rfl rfl (pc' := 143) rfl ?_
    refine st_iconst hR dX11_takes_143 (v := 3) rfl (pc' := 144) rfl ?_
    refine st_dup2 hR dX11_takes_144 (pc' := 145) rfl rfl rfl ?_
    refine st_iald hR dX11_takes_145 0 6 rfl rfl (vp_lit 3 rfl rfl rfl) (v := m_rows 3) (congrArg m_rows (cl_lit 3 rfl rfl)) (pc' := 146) rfl ?_
    refine st_iconst hR dX11_takes_146 (v := 1) rfl (pc' := 147) rfl ?_
    refine st_iadd hR dX11_takes_147 (pc' := 148) rfl ?_
    refine st_iast hR dX11_takes_148 0 6 rfl rfl (vp_lit 3 rfl rfl rfl) (ix := 3) (cl_lit 3 rfl rfl) (pc' := 149) rfl (fun m_rows_1 => [wX11 G q_m m_thrown m_tape m_taped m_size m_sort m_place m_value m_at m_fault m_words m_rows_1 m_op m_arg m_codes m_names m_ofFeed m_teeth m_feedWords m_goWords m_facts m_pile m_levels m_best m_losses m_lossOf m_wasThere m_groupMany m_groupRow m_groupLoss m_isMarked]) (fun _ => rfl) (fun m_rows_1 e_ => ?_)
    have hM := lt_e e_ hM
    refine st_iload hR dX11_takes_149 1 rfl (pc' := 151) rfl ?_
    cases hM
    exact hret _ _ dX11_takes_151 (ro_i _)
  have J45 : ∀ (m_rows : Nat → Int32) (l1 : Int32) (l2 : Int32) (s0 : Int32), f_X11_takes_B45   m_rows l1 l2 s0 = some (o_r, o_m_rows) → K [wX11 G q_m m_thrown m_tape m_taped m_size m_sort m_place m_value m_at m_fault m_words m_rows m_op m_arg m_codes m_names m_ofFeed m_teeth m_feedWords m_goWords m_facts m_pile m_levels m_best m_losses m_lossOf m_wasThere m_groupMany m_groupRow m_groupLoss m_isMarked] [(0, .ref (q_m 0)), (1, .int l1), (2, .int l2)] 45 [.int s0] := by
    intro m_rows l1 l2 s0 hM
    refine st_istore hR dX11_takes_45 (Nat.le_of_ble_eq_true rfl) [1, 2, 3, 0] (lv' := [(0, .ref (q_m 0)), (1, .int l1), (2, .int l2), (4, .int s0)]) rfl (pc' := 47) rfl ?_
    refine st_aload_n hR dX11_takes_47 0 rfl rfl (pc' := 48) rfl ?_
    refine st_iload_n hR dX11_takes_48 2 rfl rfl (pc' := 49) rfl ?_
    refine st_iconst hR dX11_takes_49 (v := 0) rfl (pc' := 50) rfl ?_
    refine st_iload hR dX11_takes_50 3 rfl (pc' := 52) rfl ?_
    refine st_ineg hR dX11_takes_52 (pc' := 53) rfl ?_
    obtain ⟨m_rows_1, hc_, hM⟩ := bd_e hM
    refine st_callV hR (k_X11_adds hc_) cf_X11_279 (rm_le (Nat.le_of_ble_eq_true rfl) (Nat.le_of_ble_eq_true rfl)) [0] rfl rfl rfl 0 0 10 30 rfl rfl rfl rfl (rest := []) rfl (Nat.le_of_ble_eq_true rfl) dX11_takes_53 (pc' := 56) rfl (Wn := [wX11 G q_m m_thrown m_tape m_taped m_size m_sort m_place m_value m_at m_fault m_words m_rows_1 m_op m_arg m_codes m_names m_ofFeed m_teeth m_feedWords m_goWords m_facts m_pile m_levels m_best m_losses m_lossOf m_wasThere m_groupMany m_groupRow m_groupLoss m_isMarked]) rfl ?_
    refine st_aload_n hR dX11_takes_56 0 rfl rfl (pc' := 57) rfl ?_
    refine st_iload_n hR dX11_takes_57 2 rfl rfl (pc' := 58) rfl ?_
    refine st_iconst hR dX11_takes_58 (v := 5) rfl (pc' := 59) rfl ?_
    refine st_iload hR dX11_takes_59 3 rfl (pc' := 61) rfl ?_
    obtain ⟨m_rows_2, hc_, hM⟩ := bd_e hM
    refine st_callV hR (k_X11_adds hc_) cf_X11_279 (rm_le (Nat.le_of_ble_eq_true rfl) (Nat.le_of_ble_eq_true rfl)) [0] rfl rfl rfl 0 0 10 30 rfl rfl rfl rfl (rest := []) rfl (Nat.le_of_ble_eq_true rfl) dX11_takes_61 (pc' := 64) rfl (Wn := [wX11 G q_m m_thrown m_tape m_taped m_size m_sort m_place m_value m_at m_fault m_words m_rows_2 m_op m_arg m_codes m_names m_ofFeed m_teeth m_feedWords m_goWords m_facts m_pile m_levels m_best m_losses m_lossOf m_wasThere m_groupMany m_groupRow m_groupLoss m_isMarked]) rfl ?_
    refine st_iload hR dX11_takes_64 3 rfl (pc' := 66) rfl ?_
    refine st_if_le hR dX11_takes_66 (tgt := 149) (by decide) (pc' := 69) rfl (fun c_ => ?_) (fun c_ => ?_)
    · have hM := it_t c_ hM
      refine st_iload hR dX11_takes_149 3 rfl (pc' := 151) rfl ?_
      cases hM
      exact hret _ _ dX11_takes_151 (ro_i _)
    · have hM := it_f c_ hM
      refine st_aload_n hR dX11_takes_69 0 rfl rfl (pc' := 70) rfl ?_
      refine st_get hR dX11_takes_70 fg_X11_69_10_10 0 0 rfl rfl rfl (pc' := 73) rfl ?_
      refine st_iconst hR dX11_takes_73 (v := 3) rfl (pc' := 74) rfl ?_
      refine st_iald hR dX11_takes_74 0 6 rfl rfl (vp_lit 3 rfl rfl rfl) (v := m_rows_2 3) (congrArg m_rows_2 (cl_lit 3 rfl rfl)) (pc' := 75) rfl ?_
      refine st_topi (fun l5_1 e_ => ?_)
      have hM := lt_e e_ hM
      refine st_istore hR dX11_takes_75 (Nat.le_of_ble_eq_true rfl) [1, 2, 3, 4, 0] (lv' := [(0, .ref (q_m 0)), (1, .int l1), (2, .int l2), (4, .int s0), (5, .int l5_1)]) rfl (pc' := 77) rfl ?_
      refine st_iload hR dX11_takes_77 4 rfl (pc' := 79) rfl ?_
      refine st_sipush hR dX11_takes_79 (v := 200) rfl (pc' := 82) rfl ?_
      refine st_icmp_ge hR dX11_takes_82 (tgt := 139) (by decide) (pc' := 85) rfl (fun c_ => ?_) (fun c_ => ?_)
      · have hM := it_t c_ hM
        exact st_lv hR [0, 3] rfl (J139 _ _ hM)
      · have hM := it_f c_ hM
        refine st_sipush hR dX11_takes_85 (v := 190) rfl (pc' := 88) rfl ?_
        refine st_iconst hR dX11_takes_88 (v := 4) rfl (pc' := 89) rfl ?_
        refine st_iload hR dX11_takes_89 4 rfl (pc' := 91) rfl ?_
        refine st_imul hR dX11_takes_91 (pc' := 92) rfl ?_
        refine st_iadd hR dX11_takes_92 (pc' := 93) rfl ?_
        refine st_topi (fun l6_1 e_ => ?_)
        have hM := lt_e e_ hM
        refine st_istore hR dX11_takes_93 (Nat.le_of_ble_eq_true rfl) [1, 2, 3, 4, 5, 0] (lv' := [(0, .ref (q_m 0)), (1, .int l1), (2, .int l2), (4, .int s0), (5, .int l5_1), (6, .int l6_1)]) rfl (pc' := 95) rfl ?_
        refine st_aload_n hR dX11_takes_95 0 rfl rfl (pc' := 96) rfl ?_
        refine st_get hR dX11_takes_96 fg_X11_69_10_10 0 0 rfl rfl rfl (pc' := 99) rfl ?_
        refine st_iload hR dX11_takes_99 5 rfl (pc' := 101) rfl ?_
        refine st_aload_n hR dX11_takes_101 0 rfl rfl (pc' := 102) rfl ?_
        refine st_get hR dX11_takes_102 fg_X11_69_10_10 0 0 rfl rfl rfl (pc' := 105) rfl ?_
        refine st_iconst hR dX11_takes_105 (v := 1) rfl (pc' := 106) rfl ?_
        refine st_iald hR dX11_takes_106 0 6 rfl rfl (vp_lit 1 rfl rfl rfl) (v := m_rows_2 1) (congrArg m_rows_2 (cl_lit 1 rfl rfl)) (pc' := 107) rfl ?_
        obtain ⟨hin_, hM⟩ := g_in_e hM
        refine st_iast hR dX11_takes_107 0 6 rfl rfl hin_ (ix := (ix l6_1)) rfl (pc' := 108) rfl (fun m_rows_3 => [wX11 G q_m m_thrown m_tape m_taped m_size m_sort m_place m_value m_at m_fault m_words m_rows_3 m_op m_arg m_codes m_names m_ofFeed m_teeth m_feedWords m_goWords m_facts m_pile m_levels m_best m_losses m_lossOf m_wasThere m_groupMany m_groupRow m_groupLoss m_isMarked]) (fun _ => rfl) (fun m_rows_3 e_ => ?_)
        have hM := lt_e e_ hM
        refine st_aload_n hR dX11_takes_108 0 rfl rfl (pc' := 109) rfl ?_
        refine st_get hR dX11_takes_109 fg_X11_69_10_10 0 0 rfl rfl rfl (pc' := 112) rfl ?_
        refine st_iload hR dX11_takes_112 5 rfl (pc' := 114) rfl ?_
        refine st_iconst hR dX11_takes_114 (v := 1) rfl (pc' := 115) rfl ?_
        refine st_iadd hR dX11_takes_115 (pc' := 116) rfl ?_
        refine st_iload_n hR dX11_takes_116 2 rfl rfl (pc' := 117) rfl ?_
        obtain ⟨hin_, hM⟩ := g_in_e hM
        refine st_iast hR dX11_takes_117 0 6 rfl rfl hin_ (ix := (ix (l6_1 + 1))) rfl (pc' := 118) rfl (fun m_rows_4 => [wX11 G q_m m_thrown m_tape m_taped m_size m_sort m_place m_value m_at m_fault m_words m_rows_4 m_op m_arg m_codes m_names m_ofFeed m_teeth m_feedWords m_goWords m_facts m_pile m_levels m_best m_losses m_lossOf m_wasThere m_groupMany m_groupRow m_groupLoss m_isMarked]) (fun _ => rfl) (fun m_rows_4 e_ => ?_)
        have hM := lt_e e_ hM
        refine st_aload_n hR dX11_takes_118 0 rfl rfl (pc' := 119) rfl ?_
        refine st_get hR dX11_takes_119 fg_X11_69_10_10 0 0 rfl rfl rfl (pc' := 122) rfl ?_
        refine st_iload hR dX11_takes_122 5 rfl (pc' := 124) rfl ?_
        refine st_iconst hR dX11_takes_124 (v := 2) rfl (pc' := 125) rfl ?_
        refine st_iadd hR dX11_takes_125 (pc' := 126) rfl ?_
        refine st_iload_n hR dX11_takes_126 1 rfl rfl (pc' := 127) rfl ?_
        obtain ⟨hin_, hM⟩ := g_in_e hM
        refine st_iast hR dX11_takes_127 0 6 rfl rfl hin_ (ix := (ix (l6_1 + 2))) rfl (pc' := 128) rfl (fun m_rows_5 => [wX11 G q_m m_thrown m_tape m_taped m_size m_sort m_place m_value m_at m_fault m_words m_rows_5 m_op m_arg m_codes m_names m_ofFeed m_teeth m_feedWords m_goWords m_facts m_pile m_levels m_best m_losses m_lossOf m_wasThere m_groupMany m_groupRow m_groupLoss m_isMarked]) (fun _ => rfl) (fun m_rows_5 e_ => ?_)
        have hM := lt_e e_ hM
        refine st_aload_n hR dX11_takes_128 0 rfl rfl (pc' := 129) rfl ?_
        refine st_get hR dX11_takes_129 fg_X11_69_10_10 0 0 rfl rfl rfl (pc' := 132) rfl ?_
        refine st_iload hR dX11_takes_132 5 rfl (pc' := 134) rfl ?_
        refine st_iconst hR dX11_takes_134 (v := 3) rfl (pc' := 135) rfl ?_
        refine st_iadd hR dX11_takes_135 (pc' := 136) rfl ?_
        refine st_iload hR dX11_takes_136 3 rfl (pc' := 138) rfl ?_
        obtain ⟨hin_, hM⟩ := g_in_e hM
        refine st_iast hR dX11_takes_138 0 6 rfl rfl hin_ (ix := (ix (l6_1 + 3))) rfl (pc' := 139) rfl (fun m_rows_6 => [wX11 G q_m m_thrown m_tape m_taped m_size m_sort m_place m_value m_at m_fault m_words m_rows_6 m_op m_arg m_codes m_names m_ofFeed m_teeth m_feedWords m_goWords m_facts m_pile m_levels m_best m_losses m_lossOf m_wasThere m_groupMany m_groupRow m_groupLoss m_isMarked]) (fun _ => rfl) (fun m_rows_6 e_ => ?_)
        have hM := lt_e e_ hM
        exact st_lv hR [0, 3] rfl (J139 _ _ hM)
  refine st_iload_n hR dX11_takes_0 3 rfl rfl (pc' := 1) rfl ?_
  refine st_iconst hR dX11_takes_1 (v := 1) rfl (pc' := 2) rfl ?_
  refine st_iadd hR dX11_takes_2 (pc' := 3) rfl ?_
  refine st_iconst hR dX11_takes_3 (v := 2) rfl (pc' := 4) rfl ?_
  refine st_idiv hR dX11_takes_4 (pc' := 5) rfl (by decide) ?_
  refine st_aload_n hR dX11_takes_5 0 rfl rfl (pc' := 6) rfl ?_
  refine st_iload_n hR dX11_takes_6 2 rfl rfl (pc' := 7) rfl ?_
  refine st_iconst hR dX11_takes_7 (v := 1) rfl (pc' := 8) rfl ?_
  obtain ⟨r_1, hc_, hM⟩ := bd_e hM
  refine st_callV hR (k_X11_of hc_) cf_X11_251 (rm_le (Nat.le_of_ble_eq_true rfl) (Nat.le_of_ble_eq_true rfl)) [0] rfl rfl rfl 0 0 10 30 rfl rfl rfl rfl (rest := [.int ((l3 + 1) / 2)]) rfl (Nat.le_of_ble_eq_true rfl) dX11_takes_8 (pc' := 11) rfl (Wn := [wX11 G q_m m_thrown m_tape m_taped m_size m_sort m_place m_value m_at m_fault m_words m_rows m_op m_arg m_codes m_names m_ofFeed m_teeth m_feedWords m_goWords m_facts m_pile m_levels m_best m_losses m_lossOf m_wasThere m_groupMany m_groupRow m_groupLoss m_isMarked]) rfl ?_
  refine st_isub hR dX11_takes_11 (pc' := 12) rfl ?_
  refine st_topi (fun l4_1 e_ => ?_)
  have hM := lt_e e_ hM
  refine st_istore hR dX11_takes_12 (Nat.le_of_ble_eq_true rfl) [1, 2, 3, 4, 0] (lv' := [(0, .ref (q_m 0)), (1, .int l1), (2, .int l2), (3, .int l3), (4, .int l4_1)]) rfl (pc' := 14) rfl ?_
  refine st_iload hR dX11_takes_14 4 rfl (pc' := 16) rfl ?_
  refine st_if_ge hR dX11_takes_16 (tgt := 23) (by decide) (pc' := 19) rfl (fun c_ => ?_) (fun c_ => ?_)
  · have hM := it_t c_ hM
    refine st_iload hR dX11_takes_23 4 rfl (pc' := 25) rfl ?_
    refine st_aload_n hR dX11_takes_25 0 rfl rfl (pc' := 26) rfl ?_
    refine st_iload_n hR dX11_takes_26 2 rfl rfl (pc' := 27) rfl ?_
    refine st_iconst hR dX11_takes_27 (v := 0) rfl (pc' := 28) rfl ?_
    obtain ⟨r_2, hc_, hM⟩ := bd_e hM
    refine st_callV hR (k_X11_of hc_) cf_X11_251 (rm_le (Nat.le_of_ble_eq_true rfl) (Nat.le_of_ble_eq_true rfl)) [0] rfl rfl rfl 0 0 10 30 rfl rfl rfl rfl (rest := [.int l4_1]) rfl (Nat.le_of_ble_eq_true rfl) dX11_takes_28 (pc' := 31) rfl (Wn := [wX11 G q_m m_thrown m_tape m_taped m_size m_sort m_place m_value m_at m_fault m_words m_rows m_op m_arg m_codes m_names m_ofFeed m_teeth m_feedWords m_goWords m_facts m_pile m_levels m_best m_losses m_lossOf m_wasThere m_groupMany m_groupRow m_groupLoss m_isMarked]) rfl ?_
    refine st_icmp_le hR dX11_takes_31 (tgt := 43) (by decide) (pc' := 34) rfl (fun c_ => ?_) (fun c_ => ?_)
    · have hM := it_t c_ hM
      refine st_iload hR dX11_takes_43 4 rfl (pc' := 45) rfl ?_
      exact st_lv hR [0, 1, 2] rfl (J45 _ _ _ _ hM)
    · have hM := it_f c_ hM
      refine st_aload_n hR dX11_takes_34 0 rfl rfl (pc' := 35) rfl ?_
      refine st_iload_n hR dX11_takes_35 2 rfl rfl (pc' := 36) rfl ?_
      refine st_iconst hR dX11_takes_36 (v := 0) rfl (pc' := 37) rfl ?_
      obtain ⟨r_3, hc_, hM⟩ := bd_e hM
      refine st_callV hR (k_X11_of hc_) cf_X11_251 (rm_le (Nat.le_of_ble_eq_true rfl) (Nat.le_of_ble_eq_true rfl)) [0] rfl rfl rfl 0 0 10 30 rfl rfl rfl rfl (rest := []) rfl (Nat.le_of_ble_eq_true rfl) dX11_takes_37 (pc' := 40) rfl (Wn := [wX11 G q_m m_thrown m_tape m_taped m_size m_sort m_place m_value m_at m_fault m_words m_rows m_op m_arg m_codes m_names m_ofFeed m_teeth m_feedWords m_goWords m_facts m_pile m_levels m_best m_losses m_lossOf m_wasThere m_groupMany m_groupRow m_groupLoss m_isMarked]) rfl ?_
      refine st_goto hR dX11_takes_40 (tgt := 45) (by decide) ?_
      exact st_lv hR [0, 1, 2] rfl (J45 _ _ _ _ hM)
  · have hM := it_f c_ hM
    refine st_iconst hR dX11_takes_19 (v := 0) rfl (pc' := 20) rfl ?_
    refine st_goto hR dX11_takes_20 (tgt := 45) (by decide) ?_
    exact st_lv hR [0, 1, 2] rfl (J45 _ _ _ _ hM)
set_option maxHeartbeats 16000000 in
set_option maxRecDepth 100000 in
theorem k_X11_hunts {l : Launch} {G : GG} {q_m : Nat → Nat} {m_thrown m_taped m_size m_at m_fault m_codes m_ofFeed m_teeth m_levels m_groupMany : Int32} {m_tape m_sort m_place m_rows m_op m_arg m_feedWords m_goWords m_facts m_pile m_best m_losses m_lossOf m_wasThere m_groupRow m_groupLoss m_isMarked : Nat → Int32} {m_value m_words m_names : Nat → Int64} {l1 : Int32} {o_m_rows : Nat → Int32} {o_m_facts : Nat → Int32} {o_m_pile : Nat → Int32} {o_m_best : Nat → Int32} (hM : f_X11_hunts m_op m_arg m_levels m_rows m_facts m_pile m_best l1 = some (o_m_rows, o_m_facts, o_m_pile, o_m_best)) : MC l G yX11_hunts cX11_hunts 9 none (RM 4) [.ref (q_m 0), .int l1] [wX11 G q_m m_thrown m_tape m_taped m_size m_sort m_place m_value m_at m_fault m_words m_rows m_op m_arg m_codes m_names m_ofFeed m_teeth m_feedWords m_goWords m_facts m_pile m_levels m_best m_losses m_lossOf m_wasThere m_groupMany m_groupRow m_groupLoss m_isMarked] none [wX11 G q_m m_thrown m_tape m_taped m_size m_sort m_place m_value m_at m_fault m_words o_m_rows m_op m_arg m_codes m_names m_ofFeed m_teeth m_feedWords m_goWords o_m_facts o_m_pile m_levels o_m_best m_losses m_lossOf m_wasThere m_groupMany m_groupRow m_groupLoss m_isMarked] := by
  refine MC.of pn_X11 (Nat.le_of_ble_eq_true rfl) (fun K hR hret => ?_)
  have hR : Rl l G RX11 cX11_hunts 9 (RM 4) K := hR
  show K [wX11 G q_m m_thrown m_tape m_taped m_size m_sort m_place m_value m_at m_fault m_words m_rows m_op m_arg m_codes m_names m_ofFeed m_teeth m_feedWords m_goWords m_facts m_pile m_levels m_best m_losses m_lossOf m_wasThere m_groupMany m_groupRow m_groupLoss m_isMarked] [(0, .ref (q_m 0)), (1, .int l1)] 0 []
  have J162 : ∀ (m_rows : Nat → Int32) (m_facts : Nat → Int32) (m_pile : Nat → Int32) (m_best : Nat → Int32) (l1 : Int32) (l8 : Int32), f_X11_hunts_B162  m_op m_arg m_levels m_rows m_facts m_pile m_best l1 l8 = some (o_m_rows, o_m_facts, o_m_pile, o_m_best) → K [wX11 G q_m m_thrown m_tape m_taped m_size m_sort m_place m_value m_at m_fault m_words m_rows m_op m_arg m_codes m_names m_ofFeed m_teeth m_feedWords m_goWords m_facts m_pile m_levels m_best m_losses m_lossOf m_wasThere m_groupMany m_groupRow m_groupLoss m_isMarked] [(0, .ref (q_m 0)), (1, .int l1), (8, .int l8)] 162 [] := by
    intro m_rows m_facts m_pile m_best l1 l8 hM
    refine st_aload_n hR dX11_hunts_162 0 rfl rfl (pc' := 163) rfl ?_
    refine st_get hR dX11_hunts_163 fg_X11_69_10_10 0 0 rfl rfl rfl (pc' := 166) rfl ?_
    refine st_bipush hR dX11_hunts_166 (v := 8) rfl (pc' := 168) rfl ?_
    refine st_bipush hR dX11_hunts_168 (v := 7) rfl (pc' := 170) rfl ?_
    refine st_iload_n hR dX11_hunts_170 1 rfl rfl (pc' := 171) rfl ?_
    refine st_imul hR dX11_hunts_171 (pc' := 172) rfl ?_
    refine st_iadd hR dX11_hunts_172 (pc' := 173) rfl ?_
    refine st_iconst hR dX11_hunts_173 (v := 3) rfl (pc' := 174) rfl ?_
    refine st_iadd hR dX11_hunts_174 (pc' := 175) rfl ?_
    refine st_iload hR dX11_hunts_175 2 rfl (pc' := 177) rfl ?_
    obtain ⟨hin_, hM⟩ := g_in_e hM
    refine st_iast hR dX11_hunts_177 0 6 rfl rfl hin_ (ix := (ix ((8 + (7 * l1)) + 3))) rfl (pc' := 178) rfl (fun m_rows_1 => [wX11 G q_m m_thrown m_tape m_taped m_size m_sort m_place m_value m_at m_fault m_words m_rows_1 m_op m_arg m_codes m_names m_ofFeed m_teeth m_feedWords m_goWords m_facts m_pile m_levels m_best m_losses m_lossOf m_wasThere m_groupMany m_groupRow m_groupLoss m_isMarked]) (fun _ => rfl) (fun m_rows_1 e_ => ?_)
    have hM := lt_e e_ hM
    cases hM
    exact hret _ _ dX11_hunts_178 ro_v
  have J106 : ∀ (m_rows : Nat → Int32) (m_facts : Nat → Int32) (m_pile : Nat → Int32) (m_best : Nat → Int32) (l1 : Int32) (l3 : Int32) (l6 : Int32) (s0 : Int32), f_X11_hunts_B106  m_op m_arg m_levels m_rows m_facts m_pile m_best l1 l3 l6 s0 = some (o_m_rows, o_m_facts, o_m_pile, o_m_best) → K [wX11 G q_m m_thrown m_tape m_taped m_size m_sort m_place m_value m_at m_fault m_words m_rows m_op m_arg m_codes m_names m_ofFeed m_teeth m_feedWords m_goWords m_facts m_pile m_levels m_best m_losses m_lossOf m_wasThere m_groupMany m_groupRow m_groupLoss m_isMarked] [(0, .ref (q_m 0)), (1, .int l1), (3, .int l3), (6, .int l6)] 106 [.int s0] := by
    intro m_rows m_facts m_pile m_best l1 l3 l6 s0 hM
    refine st_istore hR dX11_hunts_106 (Nat.le_of_ble_eq_true rfl) [1, 2, 3, 4, 0] (lv' := [(0, .ref (q_m 0)), (1, .int l1), (3, .int l3), (6, .int l6), (8, .int s0)]) rfl (pc' := 108) rfl ?_
    refine st_iload hR dX11_hunts_108 3 rfl (pc' := 110) rfl ?_
    refine st_if_lt hR dX11_hunts_110 (tgt := 162) (by decide) (pc' := 113) rfl (fun c_ => ?_) (fun c_ => ?_)
    · have hM := it_t c_ hM
      exact st_lv hR [0, 1, 4] rfl (J162 _ _ _ _ _ _ hM)
    · have hM := it_f c_ hM
      refine st_iload hR dX11_hunts_113 4 rfl (pc' := 115) rfl ?_
      refine st_iconst hR dX11_hunts_115 (v := 3) rfl (pc' := 116) rfl ?_
      refine st_icmp_lt hR dX11_hunts_116 (tgt := 162) (by decide) (pc' := 119) rfl (fun c_ => ?_) (fun c_ => ?_)
      · have hM := it_t c_ hM
        exact st_lv hR [0, 1, 4] rfl (J162 _ _ _ _ _ _ hM)
      · have hM := it_f c_ hM
        refine st_aload_n hR dX11_hunts_119 0 rfl rfl (pc' := 120) rfl ?_
        refine st_get hR dX11_hunts_120 fg_X11_69_10_10 0 0 rfl rfl rfl (pc' := 123) rfl ?_
        refine st_sipush hR dX11_hunts_123 (v := 146) rfl (pc' := 126) rfl ?_
        refine st_bipush hR dX11_hunts_126 (v := 6) rfl (pc' := 128) rfl ?_
        refine st_iload_n hR dX11_hunts_128 2 rfl rfl (pc' := 129) rfl ?_
        refine st_imul hR dX11_hunts_129 (pc' := 130) rfl ?_
        refine st_iadd hR dX11_hunts_130 (pc' := 131) rfl ?_
        refine st_iload hR dX11_hunts_131 3 rfl (pc' := 133) rfl ?_
        refine st_iadd hR dX11_hunts_133 (pc' := 134) rfl ?_
        refine st_dup2 hR dX11_hunts_134 (pc' := 135) rfl rfl rfl ?_
        obtain ⟨hin_, hM⟩ := g_in_e hM
        refine st_iald hR dX11_hunts_135 0 6 rfl rfl hin_ (v := m_rows (ix ((146 + (6 * l3)) + l6))) rfl (pc' := 136) rfl ?_
        refine st_iconst hR dX11_hunts_136 (v := 1) rfl (pc' := 137) rfl ?_
        refine st_iadd hR dX11_hunts_137 (pc' := 138) rfl ?_
        obtain ⟨hin_, hM⟩ := g_in_e hM
        refine st_iast hR dX11_hunts_138 0 6 rfl rfl hin_ (ix := (ix ((146 + (6 * l3)) + l6))) rfl (pc' := 139) rfl (fun m_rows_1 => [wX11 G q_m m_thrown m_tape m_taped m_size m_sort m_place m_value m_at m_fault m_words m_rows_1 m_op m_arg m_codes m_names m_ofFeed m_teeth m_feedWords m_goWords m_facts m_pile m_levels m_best m_losses m_lossOf m_wasThere m_groupMany m_groupRow m_groupLoss m_isMarked]) (fun _ => rfl) (fun m_rows_1 e_ => ?_)
        have hM := lt_e e_ hM
        refine st_aload_n hR dX11_hunts_139 0 rfl rfl (pc' := 140) rfl ?_
        refine st_get hR dX11_hunts_140 fg_X11_69_10_10 0 0 rfl rfl rfl (pc' := 143) rfl ?_
        refine st_sipush hR dX11_hunts_143 (v := 146) rfl (pc' := 146) rfl ?_
        refine st_bipush hR dX11_hunts_146 (v := 6) rfl (pc' := 148) rfl ?_
        refine st_iload hR dX11_hunts_148 3 rfl (pc' := 150) rfl ?_
        refine st_imul hR dX11_hunts_150 (pc' := 151) rfl ?_
        refine st_iadd hR dX11_hunts_151 (pc' := 152) rfl ?_
        refine st_iload_n hR dX11_hunts_152 2 rfl rfl (pc' := 153) rfl ?_
        refine st_iadd hR dX11_hunts_153 (pc' := 154) rfl ?_
        refine st_dup2 hR dX11_hunts_154 (pc' := 155) rfl rfl rfl ?_
        obtain ⟨hin_, hM⟩ := g_in_e hM
        refine st_iald hR dX11_hunts_155 0 6 rfl rfl hin_ (v := m_rows_1 (ix ((146 + (6 * l6)) + l3))) rfl (pc' := 156) rfl ?_
        refine st_iconst hR dX11_hunts_156 (v := 1) rfl (pc' := 157) rfl ?_
        refine st_iadd hR dX11_hunts_157 (pc' := 158) rfl ?_
        obtain ⟨hin_, hM⟩ := g_in_e hM
        refine st_iast hR dX11_hunts_158 0 6 rfl rfl hin_ (ix := (ix ((146 + (6 * l6)) + l3))) rfl (pc' := 159) rfl (fun m_rows_2 => [wX11 G q_m m_thrown m_tape m_taped m_size m_sort m_place m_value m_at m_fault m_words m_rows_2 m_op m_arg m_codes m_names m_ofFeed m_teeth m_feedWords m_goWords m_facts m_pile m_levels m_best m_losses m_lossOf m_wasThere m_groupMany m_groupRow m_groupLoss m_isMarked]) (fun _ => rfl) (fun m_rows_2 e_ => ?_)
        have hM := lt_e e_ hM
        refine st_iconst hR dX11_hunts_159 (v := 0) rfl (pc' := 160) rfl ?_
        refine st_istore hR dX11_hunts_160 (Nat.le_of_ble_eq_true rfl) [1, 2, 3, 4, 0] (lv' := [(0, .ref (q_m 0)), (1, .int l1), (3, .int l3), (6, .int l6), (8, .int 0)]) rfl (pc' := 162) rfl ?_
        exact st_lv hR [0, 1, 4] rfl (J162 _ _ _ _ _ _ hM)
  have J81 : ∀ (m_rows : Nat → Int32) (m_facts : Nat → Int32) (m_pile : Nat → Int32) (m_best : Nat → Int32) (l1 : Int32) (l2 : Int32) (l3 : Int32) (l4 : Int32) (l6 : Int32) (s0 : Int32), f_X11_hunts_B81  m_op m_arg m_levels m_rows m_facts m_pile m_best l1 l2 l3 l4 l6 s0 = some (o_m_rows, o_m_facts, o_m_pile, o_m_best) → K [wX11 G q_m m_thrown m_tape m_taped m_size m_sort m_place m_value m_at m_fault m_words m_rows m_op m_arg m_codes m_names m_ofFeed m_teeth m_feedWords m_goWords m_facts m_pile m_levels m_best m_losses m_lossOf m_wasThere m_groupMany m_groupRow m_groupLoss m_isMarked] [(0, .ref (q_m 0)), (1, .int l1), (2, .int l2), (3, .int l3), (4, .int l4), (6, .int l6)] 81 [.int s0] := by
    intro m_rows m_facts m_pile m_best l1 l2 l3 l4 l6 s0 hM
    refine st_istore hR dX11_hunts_81 (Nat.le_of_ble_eq_true rfl) [1, 2, 3, 4, 5, 6, 0] (lv' := [(0, .ref (q_m 0)), (1, .int l1), (2, .int l2), (3, .int l3), (4, .int l4), (6, .int l6), (7, .int s0)]) rfl (pc' := 83) rfl ?_
    refine st_iconst hR dX11_hunts_83 (v := 2) rfl (pc' := 84) rfl ?_
    refine st_iload hR dX11_hunts_84 4 rfl (pc' := 86) rfl ?_
    refine st_iload hR dX11_hunts_86 6 rfl (pc' := 88) rfl ?_
    refine st_iadd hR dX11_hunts_88 (pc' := 89) rfl ?_
    refine st_imul hR dX11_hunts_89 (pc' := 90) rfl ?_
    refine st_iload_n hR dX11_hunts_90 2 rfl rfl (pc' := 91) rfl ?_
    refine st_icmp_ge hR dX11_hunts_91 (tgt := 105) (by decide) (pc' := 94) rfl (fun c_ => ?_) (fun c_ => ?_)
    · have hM := it_t c_ hM
      refine st_iconst hR dX11_hunts_105 (v := 0) rfl (pc' := 106) rfl ?_
      exact st_lv hR [0, 1, 3, 5] rfl (J106 _ _ _ _ _ _ _ _ hM)
    · have hM := it_f c_ hM
      refine st_aload_n hR dX11_hunts_94 0 rfl rfl (pc' := 95) rfl ?_
      refine st_iload_n hR dX11_hunts_95 1 rfl rfl (pc' := 96) rfl ?_
      refine st_iconst hR dX11_hunts_96 (v := 3) rfl (pc' := 97) rfl ?_
      obtain ⟨r_1, hc_, hM⟩ := bd_e hM
      refine st_callV hR (k_X11_of hc_) cf_X11_251 (rm_le (Nat.le_of_ble_eq_true rfl) (Nat.le_of_ble_eq_true rfl)) [0] rfl rfl rfl 0 0 10 30 rfl rfl rfl rfl (rest := []) rfl (Nat.le_of_ble_eq_true rfl) dX11_hunts_97 (pc' := 100) rfl (Wn := [wX11 G q_m m_thrown m_tape m_taped m_size m_sort m_place m_value m_at m_fault m_words m_rows m_op m_arg m_codes m_names m_ofFeed m_teeth m_feedWords m_goWords m_facts m_pile m_levels m_best m_losses m_lossOf m_wasThere m_groupMany m_groupRow m_groupLoss m_isMarked]) rfl ?_
      refine st_iconst hR dX11_hunts_100 (v := 1) rfl (pc' := 101) rfl ?_
      refine st_iadd hR dX11_hunts_101 (pc' := 102) rfl ?_
      refine st_goto hR dX11_hunts_102 (tgt := 106) (by decide) ?_
      exact st_lv hR [0, 1, 3, 5] rfl (J106 _ _ _ _ _ _ _ _ hM)
  have J61 : ∀ (m_rows : Nat → Int32) (m_facts : Nat → Int32) (m_pile : Nat → Int32) (m_best : Nat → Int32) (l1 : Int32) (l2 : Int32) (l3 : Int32) (l4 : Int32) (l5 : Int32) (s0 : Int32), f_X11_hunts_B61  m_op m_arg m_levels m_rows m_facts m_pile m_best l1 l2 l3 l4 l5 s0 = some (o_m_rows, o_m_facts, o_m_pile, o_m_best) → K [wX11 G q_m m_thrown m_tape m_taped m_size m_sort m_place m_value m_at m_fault m_words m_rows m_op m_arg m_codes m_names m_ofFeed m_teeth m_feedWords m_goWords m_facts m_pile m_levels m_best m_losses m_lossOf m_wasThere m_groupMany m_groupRow m_groupLoss m_isMarked] [(0, .ref (q_m 0)), (1, .int l1), (2, .int l2), (3, .int l3), (4, .int l4), (5, .int l5)] 61 [.int s0] := by
    intro m_rows m_facts m_pile m_best l1 l2 l3 l4 l5 s0 hM
    refine st_istore hR dX11_hunts_61 (Nat.le_of_ble_eq_true rfl) [1, 2, 3, 4, 5, 6, 0] (lv' := [(0, .ref (q_m 0)), (1, .int l1), (2, .int l2), (3, .int l3), (4, .int l4), (5, .int l5), (6, .int s0)]) rfl (pc' := 63) rfl ?_
    refine st_iload hR dX11_hunts_63 6 rfl (pc' := 65) rfl ?_
    refine st_if_ge hR dX11_hunts_65 (tgt := 72) (by decide) (pc' := 68) rfl (fun c_ => ?_) (fun c_ => ?_)
    · have hM := it_t c_ hM
      refine st_aload_n hR dX11_hunts_72 0 rfl rfl (pc' := 73) rfl ?_
      refine st_iload_n hR dX11_hunts_73 1 rfl rfl (pc' := 74) rfl ?_
      refine st_iload hR dX11_hunts_74 6 rfl (pc' := 76) rfl ?_
      refine st_iload hR dX11_hunts_76 5 rfl (pc' := 78) rfl ?_
      obtain ⟨⟨r_1, m_rows_1⟩, hc_, hM⟩ := bd_e hM
      refine st_callV hR (k_X11_takes hc_) cf_X11_292 (rm_le (Nat.le_of_ble_eq_true rfl) (Nat.le_of_ble_eq_true rfl)) [0] rfl rfl rfl 0 0 10 30 rfl rfl rfl rfl (rest := []) rfl (Nat.le_of_ble_eq_true rfl) dX11_hunts_78 (pc' := 81) rfl (Wn := [wX11 G q_m m_thrown m_tape m_taped m_size m_sort m_place m_value m_at m_fault m_words m_rows_1 m_op m_arg m_codes m_names m_ofFeed m_teeth m_feedWords m_goWords m_facts m_pile m_levels m_best m_losses m_lossOf m_wasThere m_groupMany m_groupRow m_groupLoss m_isMarked]) rfl ?_
      exact st_lv hR [0, 1, 2, 3, 4, 6] rfl (J81 _ _ _ _ _ _ _ _ _ _ hM)
    · have hM := it_f c_ hM
      refine st_iconst hR dX11_hunts_68 (v := 0) rfl (pc' := 69) rfl ?_
      refine st_goto hR dX11_hunts_69 (tgt := 81) (by decide) ?_
      exact st_lv hR [0, 1, 2, 3, 4, 6] rfl (J81 _ _ _ _ _ _ _ _ _ _ hM)
  refine st_aload_n hR dX11_hunts_0 0 rfl rfl (pc' := 1) rfl ?_
  refine st_iload_n hR dX11_hunts_1 1 rfl rfl (pc' := 2) rfl ?_
  refine st_iconst hR dX11_hunts_2 (v := 2) rfl (pc' := 3) rfl ?_
  obtain ⟨r_1, hc_, hM⟩ := bd_e hM
  refine st_callV hR (k_X11_of hc_) cf_X11_251 (rm_le (Nat.le_of_ble_eq_true rfl) (Nat.le_of_ble_eq_true rfl)) [0] rfl rfl rfl 0 0 10 30 rfl rfl rfl rfl (rest := []) rfl (Nat.le_of_ble_eq_true rfl) dX11_hunts_3 (pc' := 6) rfl (Wn := [wX11 G q_m m_thrown m_tape m_taped m_size m_sort m_place m_value m_at m_fault m_words m_rows m_op m_arg m_codes m_names m_ofFeed m_teeth m_feedWords m_goWords m_facts m_pile m_levels m_best m_losses m_lossOf m_wasThere m_groupMany m_groupRow m_groupLoss m_isMarked]) rfl ?_
  refine st_istore_n hR dX11_hunts_6 rfl (Nat.le_of_ble_eq_true rfl) [1, 2, 0] (lv' := [(0, .ref (q_m 0)), (1, .int l1), (2, .int r_1)]) rfl (pc' := 7) rfl ?_
  refine st_aload_n hR dX11_hunts_7 0 rfl rfl (pc' := 8) rfl ?_
  refine st_iload_n hR dX11_hunts_8 1 rfl rfl (pc' := 9) rfl ?_
  obtain ⟨r_2, hc_, hM⟩ := bd_e hM
  refine st_callV hR (k_X11_homeOf hc_) cf_X11_283 (rm_le (Nat.le_of_ble_eq_true rfl) (Nat.le_of_ble_eq_true rfl)) [0] rfl rfl rfl 0 0 10 30 rfl rfl rfl rfl (rest := []) rfl (Nat.le_of_ble_eq_true rfl) dX11_hunts_9 (pc' := 12) rfl (Wn := [wX11 G q_m m_thrown m_tape m_taped m_size m_sort m_place m_value m_at m_fault m_words m_rows m_op m_arg m_codes m_names m_ofFeed m_teeth m_feedWords m_goWords m_facts m_pile m_levels m_best m_losses m_lossOf m_wasThere m_groupMany m_groupRow m_groupLoss m_isMarked]) rfl ?_
  refine st_istore_n hR dX11_hunts_12 rfl (Nat.le_of_ble_eq_true rfl) [1, 2, 3, 0] (lv' := [(0, .ref (q_m 0)), (1, .int l1), (2, .int r_1), (3, .int r_2)]) rfl (pc' := 13) rfl ?_
  refine st_aload_n hR dX11_hunts_13 0 rfl rfl (pc' := 14) rfl ?_
  refine st_iload_n hR dX11_hunts_14 3 rfl rfl (pc' := 15) rfl ?_
  refine st_iload_n hR dX11_hunts_15 2 rfl rfl (pc' := 16) rfl ?_
  obtain ⟨⟨r_3, m_facts_1, m_pile_1⟩, hc_, hM⟩ := bd_e hM
  refine st_callV hR (k_X11_feeds hc_) cf_X11_286 (rm_le (Nat.le_of_ble_eq_true rfl) (Nat.le_of_ble_eq_true rfl)) [0] rfl rfl rfl 0 0 10 30 rfl rfl rfl rfl (rest := []) rfl (Nat.le_of_ble_eq_true rfl) dX11_hunts_16 (pc' := 19) rfl (Wn := [wX11 G q_m m_thrown m_tape m_taped m_size m_sort m_place m_value m_at m_fault m_words m_rows m_op m_arg m_codes m_names m_ofFeed m_teeth m_feedWords m_goWords m_facts_1 m_pile_1 m_levels m_best m_losses m_lossOf m_wasThere m_groupMany m_groupRow m_groupLoss m_isMarked]) rfl ?_
  refine st_istore hR dX11_hunts_19 (Nat.le_of_ble_eq_true rfl) [1, 2, 3, 4, 0] (lv' := [(0, .ref (q_m 0)), (1, .int l1), (2, .int r_1), (3, .int r_2), (4, .int r_3)]) rfl (pc' := 21) rfl ?_
  refine st_aload_n hR dX11_hunts_21 0 rfl rfl (pc' := 22) rfl ?_
  refine st_iload_n hR dX11_hunts_22 3 rfl rfl (pc' := 23) rfl ?_
  refine st_iconst hR dX11_hunts_23 (v := 0) rfl (pc' := 24) rfl ?_
  refine st_iload hR dX11_hunts_24 4 rfl (pc' := 26) rfl ?_
  refine st_ineg hR dX11_hunts_26 (pc' := 27) rfl ?_
  obtain ⟨m_rows_1, hc_, hM⟩ := bd_e hM
  refine st_callV hR (k_X11_adds hc_) cf_X11_279 (rm_le (Nat.le_of_ble_eq_true rfl) (Nat.le_of_ble_eq_true rfl)) [0] rfl rfl rfl 0 0 10 30 rfl rfl rfl rfl (rest := []) rfl (Nat.le_of_ble_eq_true rfl) dX11_hunts_27 (pc' := 30) rfl (Wn := [wX11 G q_m m_thrown m_tape m_taped m_size m_sort m_place m_value m_at m_fault m_words m_rows_1 m_op m_arg m_codes m_names m_ofFeed m_teeth m_feedWords m_goWords m_facts_1 m_pile_1 m_levels m_best m_losses m_lossOf m_wasThere m_groupMany m_groupRow m_groupLoss m_isMarked]) rfl ?_
  refine st_aload_n hR dX11_hunts_30 0 rfl rfl (pc' := 31) rfl ?_
  refine st_iload_n hR dX11_hunts_31 3 rfl rfl (pc' := 32) rfl ?_
  refine st_iconst hR dX11_hunts_32 (v := 4) rfl (pc' := 33) rfl ?_
  refine st_iload hR dX11_hunts_33 4 rfl (pc' := 35) rfl ?_
  obtain ⟨m_rows_2, hc_, hM⟩ := bd_e hM
  refine st_callV hR (k_X11_adds hc_) cf_X11_279 (rm_le (Nat.le_of_ble_eq_true rfl) (Nat.le_of_ble_eq_true rfl)) [0] rfl rfl rfl 0 0 10 30 rfl rfl rfl rfl (rest := []) rfl (Nat.le_of_ble_eq_true rfl) dX11_hunts_35 (pc' := 38) rfl (Wn := [wX11 G q_m m_thrown m_tape m_taped m_size m_sort m_place m_value m_at m_fault m_words m_rows_2 m_op m_arg m_codes m_names m_ofFeed m_teeth m_feedWords m_goWords m_facts_1 m_pile_1 m_levels m_best m_losses m_lossOf m_wasThere m_groupMany m_groupRow m_groupLoss m_isMarked]) rfl ?_
  refine st_iload_n hR dX11_hunts_38 2 rfl rfl (pc' := 39) rfl ?_
  refine st_iload hR dX11_hunts_39 4 rfl (pc' := 41) rfl ?_
  refine st_isub hR dX11_hunts_41 (pc' := 42) rfl ?_
  refine st_topi (fun l5_1 e_ => ?_)
  have hM := lt_e e_ hM
  refine st_istore hR dX11_hunts_42 (Nat.le_of_ble_eq_true rfl) [1, 2, 3, 4, 5, 0] (lv' := [(0, .ref (q_m 0)), (1, .int l1), (2, .int r_1), (3, .int r_2), (4, .int r_3), (5, .int l5_1)]) rfl (pc' := 44) rfl ?_
  refine st_iload hR dX11_hunts_44 5 rfl (pc' := 46) rfl ?_
  refine st_if_le hR dX11_hunts_46 (tgt := 60) (by decide) (pc' := 49) rfl (fun c_ => ?_) (fun c_ => ?_)
  · have hM := it_t c_ hM
    refine st_iconst hR dX11_hunts_60 (v := (-1)) (by decide) (pc' := 61) rfl ?_
    exact J61 _ _ _ _ _ _ _ _ _ _ hM
  · have hM := it_f c_ hM
    refine st_aload_n hR dX11_hunts_49 0 rfl rfl (pc' := 50) rfl ?_
    refine st_iload_n hR dX11_hunts_50 1 rfl rfl (pc' := 51) rfl ?_
    refine st_iload_n hR dX11_hunts_51 3 rfl rfl (pc' := 52) rfl ?_
    refine st_iload hR dX11_hunts_52 5 rfl (pc' := 54) rfl ?_
    obtain ⟨⟨r_4, m_rows_3, m_facts_2, m_pile_2, m_best_1⟩, hc_, hM⟩ := bd_e hM
    refine st_callV hR (k_X11_goesTo hc_) cf_X11_289 (rm_le (Nat.le_of_ble_eq_true rfl) (Nat.le_of_ble_eq_true rfl)) [0] rfl rfl rfl 0 0 10 30 rfl rfl rfl rfl (rest := []) rfl (Nat.le_of_ble_eq_true rfl) dX11_hunts_54 (pc' := 57) rfl (Wn := [wX11 G q_m m_thrown m_tape m_taped m_size m_sort m_place m_value m_at m_fault m_words m_rows_3 m_op m_arg m_codes m_names m_ofFeed m_teeth m_feedWords m_goWords m_facts_2 m_pile_2 m_levels m_best_1 m_losses m_lossOf m_wasThere m_groupMany m_groupRow m_groupLoss m_isMarked]) rfl ?_
    refine st_goto hR dX11_hunts_57 (tgt := 61) (by decide) ?_
    exact J61 _ _ _ _ _ _ _ _ _ _ hM
set_option maxHeartbeats 16000000 in
set_option maxRecDepth 100000 in
theorem k_X11_passes {l : Launch} {G : GG} {q_m : Nat → Nat} {m_thrown m_taped m_size m_at m_fault m_codes m_ofFeed m_teeth m_levels m_groupMany : Int32} {m_tape m_sort m_place m_rows m_op m_arg m_feedWords m_goWords m_facts m_pile m_best m_losses m_lossOf m_wasThere m_groupRow m_groupLoss m_isMarked : Nat → Int32} {m_value m_words m_names : Nat → Int64} {l1 : Int32} {o_m_rows : Nat → Int32} {o_m_facts : Nat → Int32} {o_m_pile : Nat → Int32} {o_m_best : Nat → Int32} (hM : f_X11_passes m_op m_arg m_levels m_rows m_facts m_pile m_best l1 = some (o_m_rows, o_m_facts, o_m_pile, o_m_best)) : MC l G yX11_passes cX11_passes 5 none (RM 5) [.ref (q_m 0), .int l1] [wX11 G q_m m_thrown m_tape m_taped m_size m_sort m_place m_value m_at m_fault m_words m_rows m_op m_arg m_codes m_names m_ofFeed m_teeth m_feedWords m_goWords m_facts m_pile m_levels m_best m_losses m_lossOf m_wasThere m_groupMany m_groupRow m_groupLoss m_isMarked] none [wX11 G q_m m_thrown m_tape m_taped m_size m_sort m_place m_value m_at m_fault m_words o_m_rows m_op m_arg m_codes m_names m_ofFeed m_teeth m_feedWords m_goWords o_m_facts o_m_pile m_levels o_m_best m_losses m_lossOf m_wasThere m_groupMany m_groupRow m_groupLoss m_isMarked] := by
  refine MC.of pn_X11 (Nat.le_of_ble_eq_true rfl) (fun K hR hret => ?_)
  have hR : Rl l G RX11 cX11_passes 5 (RM 5) K := hR
  show K [wX11 G q_m m_thrown m_tape m_taped m_size m_sort m_place m_value m_at m_fault m_words m_rows m_op m_arg m_codes m_names m_ofFeed m_teeth m_feedWords m_goWords m_facts m_pile m_levels m_best m_losses m_lossOf m_wasThere m_groupMany m_groupRow m_groupLoss m_isMarked] [(0, .ref (q_m 0)), (1, .int l1)] 0 []
  have L2 : ∀ (n2 : Nat) (m_rows : Nat → Int32) (m_facts : Nat → Int32) (m_pile : Nat → Int32) (m_best : Nat → Int32) (l1 : Int32) (l2 : Int32), f_X11_passes_L2  m_op m_arg m_levels n2 m_rows m_facts m_pile m_best l1 l2 = some (o_m_rows, o_m_facts, o_m_pile, o_m_best) → K [wX11 G q_m m_thrown m_tape m_taped m_size m_sort m_place m_value m_at m_fault m_words m_rows m_op m_arg m_codes m_names m_ofFeed m_teeth m_feedWords m_goWords m_facts m_pile m_levels m_best m_losses m_lossOf m_wasThere m_groupMany m_groupRow m_groupLoss m_isMarked] [(0, .ref (q_m 0)), (1, .int l1), (2, .int l2)] 2 [] := by
    intro n2
    induction n2 with
    | zero => intro m_rows m_facts m_pile m_best l1 l2 hM; exact no_some hM
    | succ n2 ih2 =>
      have J123 : ∀ (m_rows : Nat → Int32) (m_facts : Nat → Int32) (m_pile : Nat → Int32) (m_best : Nat → Int32) (l1 : Int32) (l2 : Int32), f_X11_passes_B123  (f_X11_passes_L2  m_op m_arg m_levels n2) m_op m_arg m_levels m_rows m_facts m_pile m_best l1 l2 = some (o_m_rows, o_m_facts, o_m_pile, o_m_best) → K [wX11 G q_m m_thrown m_tape m_taped m_size m_sort m_place m_value m_at m_fault m_words m_rows m_op m_arg m_codes m_names m_ofFeed m_teeth m_feedWords m_goWords m_facts m_pile m_levels m_best m_losses m_lossOf m_wasThere m_groupMany m_groupRow m_groupLoss m_isMarked] [(0, .ref (q_m 0)), (1, .int l1), (2, .int l2)] 123 [] := by
        intro m_rows m_facts m_pile m_best l1 l2 hM
        obtain ⟨l2_1, e_⟩ : ∃ y : Int32, y = l2 + 1 := ⟨_, rfl⟩
        refine st_iinc hR dX11_passes_123 (Nat.le_of_ble_eq_true rfl) 2 [1, 2, 0] (v := l2_1) rfl (by rw [e_]; rfl) (lv' := [(0, .ref (q_m 0)), (1, .int l1), (2, .int l2_1)]) rfl (pc' := 126) rfl ?_
        have hM := lt_e e_ hM
        refine st_goto hR dX11_passes_126 (tgt := 2) (by decide) ?_
        exact ih2 _ _ _ _ _ _ hM
      have L49 : ∀ (n49 : Nat) (m_rows : Nat → Int32) (m_facts : Nat → Int32) (m_pile : Nat → Int32) (m_best : Nat → Int32) (l1 : Int32) (l2 : Int32) (l3 : Int32), f_X11_passes_L49  (f_X11_passes_L2  m_op m_arg m_levels n2) m_op m_arg m_levels n49 m_rows m_facts m_pile m_best l1 l2 l3 = some (o_m_rows, o_m_facts, o_m_pile, o_m_best) → K [wX11 G q_m m_thrown m_tape m_taped m_size m_sort m_place m_value m_at m_fault m_words m_rows m_op m_arg m_codes m_names m_ofFeed m_teeth m_feedWords m_goWords m_facts m_pile m_levels m_best m_losses m_lossOf m_wasThere m_groupMany m_groupRow m_groupLoss m_isMarked] [(0, .ref (q_m 0)), (1, .int l1), (2, .int l2), (3, .int l3)] 49 [] := by
        intro n49
        induction n49 with
        | zero => intro m_rows m_facts m_pile m_best l1 l2 l3 hM; exact no_some hM
        | succ n49 ih49 =>
          have J116 : ∀ (m_rows : Nat → Int32) (m_facts : Nat → Int32) (m_pile : Nat → Int32) (m_best : Nat → Int32) (l1 : Int32) (l2 : Int32) (l3 : Int32) (s0 : Int32) (s1 : Int32), f_X11_passes_B116  (f_X11_passes_L2  m_op m_arg m_levels n2) (f_X11_passes_L49  (f_X11_passes_L2  m_op m_arg m_levels n2) m_op m_arg m_levels n49) m_op m_arg m_levels m_rows m_facts m_pile m_best l1 l2 l3 s0 s1 = some (o_m_rows, o_m_facts, o_m_pile, o_m_best) → K [wX11 G q_m m_thrown m_tape m_taped m_size m_sort m_place m_value m_at m_fault m_words m_rows m_op m_arg m_codes m_names m_ofFeed m_teeth m_feedWords m_goWords m_facts m_pile m_levels m_best m_losses m_lossOf m_wasThere m_groupMany m_groupRow m_groupLoss m_isMarked] [(0, .ref (q_m 0)), (1, .int l1), (2, .int l2), (3, .int l3)] 116 [.int s0, .int s1, .ref (q_m 6)] := by
            intro m_rows m_facts m_pile m_best l1 l2 l3 s0 s1 hM
            obtain ⟨hin_, hM⟩ := g_in_e hM
            refine st_iast hR dX11_passes_116 0 6 rfl rfl hin_ (ix := (ix s1)) rfl (pc' := 117) rfl (fun m_rows_1 => [wX11 G q_m m_thrown m_tape m_taped m_size m_sort m_place m_value m_at m_fault m_words m_rows_1 m_op m_arg m_codes m_names m_ofFeed m_teeth m_feedWords m_goWords m_facts m_pile m_levels m_best m_losses m_lossOf m_wasThere m_groupMany m_groupRow m_groupLoss m_isMarked]) (fun _ => rfl) (fun m_rows_1 e_ => ?_)
            have hM := lt_e e_ hM
            obtain ⟨l3_1, e_⟩ : ∃ y : Int32, y = l3 + 1 := ⟨_, rfl⟩
            refine st_iinc hR dX11_passes_117 (Nat.le_of_ble_eq_true rfl) 3 [1, 2, 3, 0] (v := l3_1) rfl (by rw [e_]; rfl) (lv' := [(0, .ref (q_m 0)), (1, .int l1), (2, .int l2), (3, .int l3_1)]) rfl (pc' := 120) rfl ?_
            have hM := lt_e e_ hM
            refine st_goto hR dX11_passes_120 (tgt := 49) (by decide) ?_
            exact ih49 _ _ _ _ _ _ _ hM
          intro m_rows m_facts m_pile m_best l1 l2 l3 hM
          have hM : f_X11_passes_L49b  (f_X11_passes_L2  m_op m_arg m_levels n2) (f_X11_passes_L49  (f_X11_passes_L2  m_op m_arg m_levels n2) m_op m_arg m_levels n49) m_op m_arg m_levels m_rows m_facts m_pile m_best l1 l2 l3 = some (o_m_rows, o_m_facts, o_m_pile, o_m_best) := hM
          refine st_iload_n hR dX11_passes_49 3 rfl rfl (pc' := 50) rfl ?_
          refine st_aload_n hR dX11_passes_50 0 rfl rfl (pc' := 51) rfl ?_
          obtain ⟨r_1, hc_, hM⟩ := bd_e hM
          refine st_callV hR (k_X11_farms hc_) cf_X11_248 (rm_le (Nat.le_of_ble_eq_true rfl) (Nat.le_of_ble_eq_true rfl)) [0] rfl rfl rfl 0 0 10 30 rfl rfl rfl rfl (rest := [.int l3]) rfl (Nat.le_of_ble_eq_true rfl) dX11_passes_51 (pc' := 54) rfl (Wn := [wX11 G q_m m_thrown m_tape m_taped m_size m_sort m_place m_value m_at m_fault m_words m_rows m_op m_arg m_codes m_names m_ofFeed m_teeth m_feedWords m_goWords m_facts m_pile m_levels m_best m_losses m_lossOf m_wasThere m_groupMany m_groupRow m_groupLoss m_isMarked]) rfl ?_
          refine st_icmp_ge hR dX11_passes_54 (tgt := 123) (by decide) (pc' := 57) rfl (fun c_ => ?_) (fun c_ => ?_)
          · have hM := it_t c_ hM
            exact st_lv hR [0, 1, 2] rfl (J123 _ _ _ _ _ _ hM)
          · have hM := it_f c_ hM
            refine st_aload_n hR dX11_passes_57 0 rfl rfl (pc' := 58) rfl ?_
            refine st_get hR dX11_passes_58 fg_X11_69_10_10 0 0 rfl rfl rfl (pc' := 61) rfl ?_
            refine st_iconst hR dX11_passes_61 (v := 1) rfl (pc' := 62) rfl ?_
            refine st_iald hR dX11_passes_62 0 6 rfl rfl (vp_lit 1 rfl rfl rfl) (v := m_rows 1) (congrArg m_rows (cl_lit 1 rfl rfl)) (pc' := 63) rfl ?_
            refine st_bipush hR dX11_passes_63 (v := 28) rfl (pc' := 65) rfl ?_
            refine st_irem hR dX11_passes_65 (pc' := 66) rfl (by decide) ?_
            refine st_if_ne hR dX11_passes_66 (tgt := 123) (by decide) (pc' := 69) rfl (fun c_ => ?_) (fun c_ => ?_)
            · have hM := it_f c_ hM
              exact st_lv hR [0, 1, 2] rfl (J123 _ _ _ _ _ _ hM)
            · have hM := it_t c_ hM
              refine st_aload_n hR dX11_passes_69 0 rfl rfl (pc' := 70) rfl ?_
              refine st_iload_n hR dX11_passes_70 3 rfl rfl (pc' := 71) rfl ?_
              refine st_iconst hR dX11_passes_71 (v := 0) rfl (pc' := 72) rfl ?_
              obtain ⟨r_2, hc_, hM⟩ := bd_e hM
              refine st_callV hR (k_X11_of hc_) cf_X11_251 (rm_le (Nat.le_of_ble_eq_true rfl) (Nat.le_of_ble_eq_true rfl)) [0] rfl rfl rfl 0 0 10 30 rfl rfl rfl rfl (rest := []) rfl (Nat.le_of_ble_eq_true rfl) dX11_passes_72 (pc' := 75) rfl (Wn := [wX11 G q_m m_thrown m_tape m_taped m_size m_sort m_place m_value m_at m_fault m_words m_rows m_op m_arg m_codes m_names m_ofFeed m_teeth m_feedWords m_goWords m_facts m_pile m_levels m_best m_losses m_lossOf m_wasThere m_groupMany m_groupRow m_groupLoss m_isMarked]) rfl ?_
              refine st_aload_n hR dX11_passes_75 0 rfl rfl (pc' := 76) rfl ?_
              refine st_iload_n hR dX11_passes_76 3 rfl rfl (pc' := 77) rfl ?_
              refine st_iconst hR dX11_passes_77 (v := 0) rfl (pc' := 78) rfl ?_
              obtain ⟨r_3, hc_, hM⟩ := bd_e hM
              refine st_callV hR (k_X11_of hc_) cf_X11_251 (rm_le (Nat.le_of_ble_eq_true rfl) (Nat.le_of_ble_eq_true rfl)) [0] rfl rfl rfl 0 0 10 30 rfl rfl rfl rfl (rest := [.int r_2]) rfl (Nat.le_of_ble_eq_true rfl) dX11_passes_78 (pc' := 81) rfl (Wn := [wX11 G q_m m_thrown m_tape m_taped m_size m_sort m_place m_value m_at m_fault m_words m_rows m_op m_arg m_codes m_names m_ofFeed m_teeth m_feedWords m_goWords m_facts m_pile m_levels m_best m_losses m_lossOf m_wasThere m_groupMany m_groupRow m_groupLoss m_isMarked]) rfl ?_
              refine st_bipush hR dX11_passes_81 (v := 10) rfl (pc' := 83) rfl ?_
              refine st_idiv hR dX11_passes_83 (pc' := 84) rfl (by decide) ?_
              refine st_iadd hR dX11_passes_84 (pc' := 85) rfl ?_
              refine st_topi (fun l4_1 e_ => ?_)
              have hM := lt_e e_ hM
              refine st_istore hR dX11_passes_85 (Nat.le_of_ble_eq_true rfl) [1, 2, 3, 4, 0] (lv' := [(0, .ref (q_m 0)), (1, .int l1), (2, .int l2), (3, .int l3), (4, .int l4_1)]) rfl (pc' := 87) rfl ?_
              refine st_aload_n hR dX11_passes_87 0 rfl rfl (pc' := 88) rfl ?_
              refine st_get hR dX11_passes_88 fg_X11_69_10_10 0 0 rfl rfl rfl (pc' := 91) rfl ?_
              refine st_bipush hR dX11_passes_91 (v := 8) rfl (pc' := 93) rfl ?_
              refine st_bipush hR dX11_passes_93 (v := 7) rfl (pc' := 95) rfl ?_
              refine st_iload_n hR dX11_passes_95 3 rfl rfl (pc' := 96) rfl ?_
              refine st_imul hR dX11_passes_96 (pc' := 97) rfl ?_
              refine st_iadd hR dX11_passes_97 (pc' := 98) rfl ?_
              refine st_iconst hR dX11_passes_98 (v := 0) rfl (pc' := 99) rfl ?_
              refine st_iadd hR dX11_passes_99 (pc' := 100) rfl ?_
              refine st_iload hR dX11_passes_100 4 rfl (pc' := 102) rfl ?_
              refine st_sipush hR dX11_passes_102 (v := 9999) rfl (pc' := 105) rfl ?_
              refine st_icmp_le hR dX11_passes_105 (tgt := 114) (by decide) (pc' := 108) rfl (fun c_ => ?_) (fun c_ => ?_)
              · have hM := it_t c_ hM
                refine st_iload hR dX11_passes_114 4 rfl (pc' := 116) rfl ?_
                exact st_lv hR [0, 1, 2, 3] rfl (J116 _ _ _ _ _ _ _ _ _ hM)
              · have hM := it_f c_ hM
                refine st_sipush hR dX11_passes_108 (v := 9999) rfl (pc' := 111) rfl ?_
                refine st_goto hR dX11_passes_111 (tgt := 116) (by decide) ?_
                exact st_lv hR [0, 1, 2, 3] rfl (J116 _ _ _ _ _ _ _ _ _ hM)
      have L9 : ∀ (n9 : Nat) (m_rows : Nat → Int32) (m_facts : Nat → Int32) (m_pile : Nat → Int32) (m_best : Nat → Int32) (l1 : Int32) (l2 : Int32) (l3 : Int32), f_X11_passes_L9  (f_X11_passes_L2  m_op m_arg m_levels n2) m_op m_arg m_levels n9 m_rows m_facts m_pile m_best l1 l2 l3 = some (o_m_rows, o_m_facts, o_m_pile, o_m_best) → K [wX11 G q_m m_thrown m_tape m_taped m_size m_sort m_place m_value m_at m_fault m_words m_rows m_op m_arg m_codes m_names m_ofFeed m_teeth m_feedWords m_goWords m_facts m_pile m_levels m_best m_losses m_lossOf m_wasThere m_groupMany m_groupRow m_groupLoss m_isMarked] [(0, .ref (q_m 0)), (1, .int l1), (2, .int l2), (3, .int l3)] 9 [] := by
        intro n9
        induction n9 with
        | zero => intro m_rows m_facts m_pile m_best l1 l2 l3 hM; exact no_some hM
        | succ n9 ih9 =>
          have J31 : ∀ (m_rows : Nat → Int32) (m_facts : Nat → Int32) (m_pile : Nat → Int32) (m_best : Nat → Int32) (l1 : Int32) (l2 : Int32) (l3 : Int32), f_X11_passes_B31  (f_X11_passes_L2  m_op m_arg m_levels n2) (f_X11_passes_L9  (f_X11_passes_L2  m_op m_arg m_levels n2) m_op m_arg m_levels n9) m_op m_arg m_levels m_rows m_facts m_pile m_best l1 l2 l3 = some (o_m_rows, o_m_facts, o_m_pile, o_m_best) → K [wX11 G q_m m_thrown m_tape m_taped m_size m_sort m_place m_value m_at m_fault m_words m_rows m_op m_arg m_codes m_names m_ofFeed m_teeth m_feedWords m_goWords m_facts m_pile m_levels m_best m_losses m_lossOf m_wasThere m_groupMany m_groupRow m_groupLoss m_isMarked] [(0, .ref (q_m 0)), (1, .int l1), (2, .int l2), (3, .int l3)] 31 [] := by
            intro m_rows m_facts m_pile m_best l1 l2 l3 hM
            obtain ⟨l3_1, e_⟩ : ∃ y : Int32, y = l3 + 1 := ⟨_, rfl⟩
            refine st_iinc hR dX11_passes_31 (Nat.le_of_ble_eq_true rfl) 3 [1, 2, 3, 0] (v := l3_1) rfl (by rw [e_]; rfl) (lv' := [(0, .ref (q_m 0)), (1, .int l1), (2, .int l2), (3, .int l3_1)]) rfl (pc' := 34) rfl ?_
            have hM := lt_e e_ hM
            refine st_goto hR dX11_passes_34 (tgt := 9) (by decide) ?_
            exact ih9 _ _ _ _ _ _ _ hM
          intro m_rows m_facts m_pile m_best l1 l2 l3 hM
          have hM : f_X11_passes_L9b  (f_X11_passes_L2  m_op m_arg m_levels n2) (f_X11_passes_L9  (f_X11_passes_L2  m_op m_arg m_levels n2) m_op m_arg m_levels n9) m_op m_arg m_levels m_rows m_facts m_pile m_best l1 l2 l3 = some (o_m_rows, o_m_facts, o_m_pile, o_m_best) := hM
          refine st_iload_n hR dX11_passes_9 3 rfl rfl (pc' := 10) rfl ?_
          refine st_aload_n hR dX11_passes_10 0 rfl rfl (pc' := 11) rfl ?_
          obtain ⟨r_1, hc_, hM⟩ := bd_e hM
          refine st_callV hR (k_X11_farms hc_) cf_X11_248 (rm_le (Nat.le_of_ble_eq_true rfl) (Nat.le_of_ble_eq_true rfl)) [0] rfl rfl rfl 0 0 10 30 rfl rfl rfl rfl (rest := [.int l3]) rfl (Nat.le_of_ble_eq_true rfl) dX11_passes_11 (pc' := 14) rfl (Wn := [wX11 G q_m m_thrown m_tape m_taped m_size m_sort m_place m_value m_at m_fault m_words m_rows m_op m_arg m_codes m_names m_ofFeed m_teeth m_feedWords m_goWords m_facts m_pile m_levels m_best m_losses m_lossOf m_wasThere m_groupMany m_groupRow m_groupLoss m_isMarked]) rfl ?_
          refine st_icmp_ge hR dX11_passes_14 (tgt := 37) (by decide) (pc' := 17) rfl (fun c_ => ?_) (fun c_ => ?_)
          · have hM := it_t c_ hM
            refine st_aload_n hR dX11_passes_37 0 rfl rfl (pc' := 38) rfl ?_
            refine st_get hR dX11_passes_38 fg_X11_69_10_10 0 0 rfl rfl rfl (pc' := 41) rfl ?_
            refine st_iconst hR dX11_passes_41 (v := 1) rfl (pc' := 42) rfl ?_
            refine st_dup2 hR dX11_passes_42 (pc' := 43) rfl rfl rfl ?_
            refine st_iald hR dX11_passes_43 0 6 rfl rfl (vp_lit 1 rfl rfl rfl) (v := m_rows 1) (congrArg m_rows (cl_lit 1 rfl rfl)) (pc' := 44) rfl ?_
            refine st_iconst hR dX11_passes_44 (v := 1) rfl (pc' := 45) rfl ?_
            refine st_iadd hR dX11_passes_45 (pc' := 46) rfl ?_
            refine st_iast hR dX11_passes_46 0 6 rfl rfl (vp_lit 1 rfl rfl rfl) (ix := 1) (cl_lit 1 rfl rfl) (pc' := 47) rfl (fun m_rows_1 => [wX11 G q_m m_thrown m_tape m_taped m_size m_sort m_place m_value m_at m_fault m_words m_rows_1 m_op m_arg m_codes m_names m_ofFeed m_teeth m_feedWords m_goWords m_facts m_pile m_levels m_best m_losses m_lossOf m_wasThere m_groupMany m_groupRow m_groupLoss m_isMarked]) (fun _ => rfl) (fun m_rows_1 e_ => ?_)
            have hM := lt_e e_ hM
            refine st_iconst hR dX11_passes_47 (v := 0) rfl (pc' := 48) rfl ?_
            refine st_istore_n hR dX11_passes_48 rfl (Nat.le_of_ble_eq_true rfl) [1, 2, 3, 0] (lv' := [(0, .ref (q_m 0)), (1, .int l1), (2, .int l2), (3, .int 0)]) rfl (pc' := 49) rfl ?_
            exact L49 FU _ _ _ _ _ _ _ hM
          · have hM := it_f c_ hM
            refine st_aload_n hR dX11_passes_17 0 rfl rfl (pc' := 18) rfl ?_
            refine st_iload_n hR dX11_passes_18 3 rfl rfl (pc' := 19) rfl ?_
            refine st_iconst hR dX11_passes_19 (v := 2) rfl (pc' := 20) rfl ?_
            obtain ⟨r_2, hc_, hM⟩ := bd_e hM
            refine st_callV hR (k_X11_of hc_) cf_X11_251 (rm_le (Nat.le_of_ble_eq_true rfl) (Nat.le_of_ble_eq_true rfl)) [0] rfl rfl rfl 0 0 10 30 rfl rfl rfl rfl (rest := []) rfl (Nat.le_of_ble_eq_true rfl) dX11_passes_20 (pc' := 23) rfl (Wn := [wX11 G q_m m_thrown m_tape m_taped m_size m_sort m_place m_value m_at m_fault m_words m_rows m_op m_arg m_codes m_names m_ofFeed m_teeth m_feedWords m_goWords m_facts m_pile m_levels m_best m_losses m_lossOf m_wasThere m_groupMany m_groupRow m_groupLoss m_isMarked]) rfl ?_
            refine st_if_le hR dX11_passes_23 (tgt := 31) (by decide) (pc' := 26) rfl (fun c_ => ?_) (fun c_ => ?_)
            · have hM := it_t c_ hM
              exact J31 _ _ _ _ _ _ _ hM
            · have hM := it_f c_ hM
              refine st_aload_n hR dX11_passes_26 0 rfl rfl (pc' := 27) rfl ?_
              refine st_iload_n hR dX11_passes_27 3 rfl rfl (pc' := 28) rfl ?_
              obtain ⟨⟨m_rows_2, m_facts_1, m_pile_1, m_best_1⟩, hc_, hM⟩ := bd_e hM
              refine st_callV hR (k_X11_hunts hc_) cf_X11_295 (rm_le (Nat.le_of_ble_eq_true rfl) (Nat.le_of_ble_eq_true rfl)) [0] rfl rfl rfl 0 0 10 30 rfl rfl rfl rfl (rest := []) rfl (Nat.le_of_ble_eq_true rfl) dX11_passes_28 (pc' := 31) rfl (Wn := [wX11 G q_m m_thrown m_tape m_taped m_size m_sort m_place m_value m_at m_fault m_words m_rows_2 m_op m_arg m_codes m_names m_ofFeed m_teeth m_feedWords m_goWords m_facts_1 m_pile_1 m_levels m_best_1 m_losses m_lossOf m_wasThere m_groupMany m_groupRow m_groupLoss m_isMarked]) rfl ?_
              exact J31 _ _ _ _ _ _ _ hM
      intro m_rows m_facts m_pile m_best l1 l2 hM
      have hM : f_X11_passes_L2b  (f_X11_passes_L2  m_op m_arg m_levels n2) m_op m_arg m_levels m_rows m_facts m_pile m_best l1 l2 = some (o_m_rows, o_m_facts, o_m_pile, o_m_best) := hM
      refine st_iload_n hR dX11_passes_2 2 rfl rfl (pc' := 3) rfl ?_
      refine st_iload_n hR dX11_passes_3 1 rfl rfl (pc' := 4) rfl ?_
      refine st_icmp_ge hR dX11_passes_4 (tgt := 129) (by decide) (pc' := 7) rfl (fun c_ => ?_) (fun c_ => ?_)
      · have hM := it_t c_ hM
        cases hM
        exact hret _ _ dX11_passes_129 ro_v
      · have hM := it_f c_ hM
        refine st_iconst hR dX11_passes_7 (v := 0) rfl (pc' := 8) rfl ?_
        refine st_istore_n hR dX11_passes_8 rfl (Nat.le_of_ble_eq_true rfl) [1, 2, 3, 0] (lv' := [(0, .ref (q_m 0)), (1, .int l1), (2, .int l2), (3, .int 0)]) rfl (pc' := 9) rfl ?_
        exact L9 FU _ _ _ _ _ _ _ hM
  refine st_iconst hR dX11_passes_0 (v := 0) rfl (pc' := 1) rfl ?_
  refine st_istore_n hR dX11_passes_1 rfl (Nat.le_of_ble_eq_true rfl) [1, 2, 0] (lv' := [(0, .ref (q_m 0)), (1, .int l1), (2, .int 0)]) rfl (pc' := 2) rfl ?_
  exact L2 FU _ _ _ _ _ _ hM
set_option maxHeartbeats 16000000 in
set_option maxRecDepth 100000 in
theorem k_X11_farm {l : Launch} {G : GG} {q_m : Nat → Nat} {m_thrown m_taped m_size m_at m_fault m_codes m_ofFeed m_teeth m_levels m_groupMany : Int32} {m_tape m_sort m_place m_rows m_op m_arg m_feedWords m_goWords m_facts m_pile m_best m_losses m_lossOf m_wasThere m_groupRow m_groupLoss m_isMarked : Nat → Int32} {m_value m_words m_names : Nat → Int64} {l1 l2 : Int32} {o_r : Int32} {o_m_thrown : Int32} (hM : f_X11_farm m_rows m_thrown l1 l2 = some (o_r, o_m_thrown)) : MC l G yX11_farm cX11_farm 5 (some .int) (RM 2) [.ref (q_m 0), .int l1, .int l2] [wX11 G q_m m_thrown m_tape m_taped m_size m_sort m_place m_value m_at m_fault m_words m_rows m_op m_arg m_codes m_names m_ofFeed m_teeth m_feedWords m_goWords m_facts m_pile m_levels m_best m_losses m_lossOf m_wasThere m_groupMany m_groupRow m_groupLoss m_isMarked] (some (.int o_r)) [wX11 G q_m o_m_thrown m_tape m_taped m_size m_sort m_place m_value m_at m_fault m_words m_rows m_op m_arg m_codes m_names m_ofFeed m_teeth m_feedWords m_goWords m_facts m_pile m_levels m_best m_losses m_lossOf m_wasThere m_groupMany m_groupRow m_groupLoss m_isMarked] := by
  refine MC.of pn_X11 (Nat.le_of_ble_eq_true rfl) (fun K hR hret => ?_)
  have hR : Rl l G RX11 cX11_farm 5 (RM 2) K := hR
  show K [wX11 G q_m m_thrown m_tape m_taped m_size m_sort m_place m_value m_at m_fault m_words m_rows m_op m_arg m_codes m_names m_ofFeed m_teeth m_feedWords m_goWords m_facts m_pile m_levels m_best m_losses m_lossOf m_wasThere m_groupMany m_groupRow m_groupLoss m_isMarked] [(0, .ref (q_m 0)), (1, .int l1), (2, .int l2)] 0 []
  have L30 : ∀ (n30 : Nat) (m_thrown : Int32) (l1 : Int32) (l2 : Int32) (l3 : Int32) (l4 : Int32), f_X11_farm_L30  m_rows n30 m_thrown l1 l2 l3 l4 = some (o_r, o_m_thrown) → K [wX11 G q_m m_thrown m_tape m_taped m_size m_sort m_place m_value m_at m_fault m_words m_rows m_op m_arg m_codes m_names m_ofFeed m_teeth m_feedWords m_goWords m_facts m_pile m_levels m_best m_losses m_lossOf m_wasThere m_groupMany m_groupRow m_groupLoss m_isMarked] [(0, .ref (q_m 0)), (1, .int l1), (2, .int l2), (3, .int l3), (4, .int l4)] 30 [] := by
    intro n30
    induction n30 with
    | zero => intro m_thrown l1 l2 l3 l4 hM; exact no_some hM
    | succ n30 ih30 =>
      have J66 : ∀ (m_thrown : Int32) (l1 : Int32) (l2 : Int32) (l4 : Int32) (s0 : Int32) (s1 : Int32), f_X11_farm_B66  (f_X11_farm_L30  m_rows n30) m_rows m_thrown l1 l2 l4 s0 s1 = some (o_r, o_m_thrown) → K [wX11 G q_m m_thrown m_tape m_taped m_size m_sort m_place m_value m_at m_fault m_words m_rows m_op m_arg m_codes m_names m_ofFeed m_teeth m_feedWords m_goWords m_facts m_pile m_levels m_best m_losses m_lossOf m_wasThere m_groupMany m_groupRow m_groupLoss m_isMarked] [(0, .ref (q_m 0)), (1, .int l1), (2, .int l2), (4, .int l4)] 66 [.int s0, .int s1] := by
        intro m_thrown l1 l2 l4 s0 s1 hM
        refine st_ior hR dX11_farm_66 (pc' := 67) rfl ?_
        refine st_topi (fun l3_1 e_ => ?_)
        have hM := lt_e e_ hM
        refine st_istore_n hR dX11_farm_67 rfl (Nat.le_of_ble_eq_true rfl) [1, 2, 3, 0, 4] (lv' := [(0, .ref (q_m 0)), (1, .int l1), (2, .int l2), (3, .int l3_1), (4, .int l4)]) rfl (pc' := 68) rfl ?_
        obtain ⟨l4_1, e_⟩ : ∃ y : Int32, y = l4 + 1 := ⟨_, rfl⟩
        refine st_iinc hR dX11_farm_68 (Nat.le_of_ble_eq_true rfl) 4 [1, 2, 3, 4, 0] (v := l4_1) rfl (by rw [e_]; rfl) (lv' := [(0, .ref (q_m 0)), (1, .int l1), (2, .int l2), (3, .int l3_1), (4, .int l4_1)]) rfl (pc' := 71) rfl ?_
        have hM := lt_e e_ hM
        refine st_goto hR dX11_farm_71 (tgt := 30) (by decide) ?_
        exact ih30 _ _ _ _ _ hM
      intro m_thrown l1 l2 l3 l4 hM
      have hM : f_X11_farm_L30b  (f_X11_farm_L30  m_rows n30) m_rows m_thrown l1 l2 l3 l4 = some (o_r, o_m_thrown) := hM
      refine st_iload hR dX11_farm_30 4 rfl (pc' := 32) rfl ?_
      refine st_aload_n hR dX11_farm_32 0 rfl rfl (pc' := 33) rfl ?_
      obtain ⟨r_1, hc_, hM⟩ := bd_e hM
      refine st_callV hR (k_X11_farms hc_) cf_X11_248 (rm_le (Nat.le_of_ble_eq_true rfl) (Nat.le_of_ble_eq_true rfl)) [0] rfl rfl rfl 0 0 10 30 rfl rfl rfl rfl (rest := [.int l4]) rfl (Nat.le_of_ble_eq_true rfl) dX11_farm_33 (pc' := 36) rfl (Wn := [wX11 G q_m m_thrown m_tape m_taped m_size m_sort m_place m_value m_at m_fault m_words m_rows m_op m_arg m_codes m_names m_ofFeed m_teeth m_feedWords m_goWords m_facts m_pile m_levels m_best m_losses m_lossOf m_wasThere m_groupMany m_groupRow m_groupLoss m_isMarked]) rfl ?_
      refine st_icmp_ge hR dX11_farm_36 (tgt := 74) (by decide) (pc' := 39) rfl (fun c_ => ?_) (fun c_ => ?_)
      · have hM := it_t c_ hM
        refine st_iload_n hR dX11_farm_74 2 rfl rfl (pc' := 75) rfl ?_
        refine st_iconst hR dX11_farm_75 (v := 4) rfl (pc' := 76) rfl ?_
        refine st_icmp_ge hR dX11_farm_76 (tgt := 88) (by decide) (pc' := 79) rfl (fun c_ => ?_) (fun c_ => ?_)
        · have hM := it_t c_ hM
          refine st_iload_n hR dX11_farm_88 2 rfl rfl (pc' := 89) rfl ?_
          refine st_iconst hR dX11_farm_89 (v := 4) rfl (pc' := 90) rfl ?_
          refine st_icmp_ne hR dX11_farm_90 (tgt := 101) (by decide) (pc' := 93) rfl (fun c_ => ?_) (fun c_ => ?_)
          · have hM := it_f c_ hM
            refine st_iload_n hR dX11_farm_101 2 rfl rfl (pc' := 102) rfl ?_
            refine st_iconst hR dX11_farm_102 (v := 5) rfl (pc' := 103) rfl ?_
            refine st_icmp_ne hR dX11_farm_103 (tgt := 114) (by decide) (pc' := 106) rfl (fun c_ => ?_) (fun c_ => ?_)
            · have hM := it_f c_ hM
              refine st_iload_n hR dX11_farm_114 3 rfl rfl (pc' := 115) rfl ?_
              cases hM
              exact hret _ _ dX11_farm_115 (ro_i _)
            · have hM := it_t c_ hM
              refine st_aload_n hR dX11_farm_106 0 rfl rfl (pc' := 107) rfl ?_
              refine st_iload_n hR dX11_farm_107 1 rfl rfl (pc' := 108) rfl ?_
              obtain ⟨r_2, hc_, hM⟩ := bd_e hM
              refine st_callV hR (k_X11_near hc_) cf_X11_305 (rm_le (Nat.le_of_ble_eq_true rfl) (Nat.le_of_ble_eq_true rfl)) [0] rfl rfl rfl 0 0 10 30 rfl rfl rfl rfl (rest := []) rfl (Nat.le_of_ble_eq_true rfl) dX11_farm_108 (pc' := 111) rfl (Wn := [wX11 G q_m m_thrown m_tape m_taped m_size m_sort m_place m_value m_at m_fault m_words m_rows m_op m_arg m_codes m_names m_ofFeed m_teeth m_feedWords m_goWords m_facts m_pile m_levels m_best m_losses m_lossOf m_wasThere m_groupMany m_groupRow m_groupLoss m_isMarked]) rfl ?_
              refine st_goto hR dX11_farm_111 (tgt := 115) (by decide) ?_
              cases hM
              exact hret _ _ dX11_farm_115 (ro_i _)
          · have hM := it_t c_ hM
            refine st_aload_n hR dX11_farm_93 0 rfl rfl (pc' := 94) rfl ?_
            refine st_iload_n hR dX11_farm_94 1 rfl rfl (pc' := 95) rfl ?_
            obtain ⟨r_3, hc_, hM⟩ := bd_e hM
            refine st_callV hR (k_X11_homeOf hc_) cf_X11_283 (rm_le (Nat.le_of_ble_eq_true rfl) (Nat.le_of_ble_eq_true rfl)) [0] rfl rfl rfl 0 0 10 30 rfl rfl rfl rfl (rest := []) rfl (Nat.le_of_ble_eq_true rfl) dX11_farm_95 (pc' := 98) rfl (Wn := [wX11 G q_m m_thrown m_tape m_taped m_size m_sort m_place m_value m_at m_fault m_words m_rows m_op m_arg m_codes m_names m_ofFeed m_teeth m_feedWords m_goWords m_facts m_pile m_levels m_best m_losses m_lossOf m_wasThere m_groupMany m_groupRow m_groupLoss m_isMarked]) rfl ?_
            refine st_goto hR dX11_farm_98 (tgt := 115) (by decide) ?_
            cases hM
            exact hret _ _ dX11_farm_115 (ro_i _)
        · have hM := it_f c_ hM
          refine st_aload_n hR dX11_farm_79 0 rfl rfl (pc' := 80) rfl ?_
          refine st_iload_n hR dX11_farm_80 1 rfl rfl (pc' := 81) rfl ?_
          refine st_iload_n hR dX11_farm_81 2 rfl rfl (pc' := 82) rfl ?_
          obtain ⟨r_4, hc_, hM⟩ := bd_e hM
          refine st_callV hR (k_X11_of hc_) cf_X11_251 (rm_le (Nat.le_of_ble_eq_true rfl) (Nat.le_of_ble_eq_true rfl)) [0] rfl rfl rfl 0 0 10 30 rfl rfl rfl rfl (rest := []) rfl (Nat.le_of_ble_eq_true rfl) dX11_farm_82 (pc' := 85) rfl (Wn := [wX11 G q_m m_thrown m_tape m_taped m_size m_sort m_place m_value m_at m_fault m_words m_rows m_op m_arg m_codes m_names m_ofFeed m_teeth m_feedWords m_goWords m_facts m_pile m_levels m_best m_losses m_lossOf m_wasThere m_groupMany m_groupRow m_groupLoss m_isMarked]) rfl ?_
          refine st_goto hR dX11_farm_85 (tgt := 115) (by decide) ?_
          cases hM
          exact hret _ _ dX11_farm_115 (ro_i _)
      · have hM := it_f c_ hM
        refine st_iload_n hR dX11_farm_39 3 rfl rfl (pc' := 40) rfl ?_
        refine st_aload_n hR dX11_farm_40 0 rfl rfl (pc' := 41) rfl ?_
        refine st_get hR dX11_farm_41 fg_X11_69_10_10 0 0 rfl rfl rfl (pc' := 44) rfl ?_
        refine st_bipush hR dX11_farm_44 (v := 110) rfl (pc' := 46) rfl ?_
        refine st_bipush hR dX11_farm_46 (v := 6) rfl (pc' := 48) rfl ?_
        refine st_iload_n hR dX11_farm_48 1 rfl rfl (pc' := 49) rfl ?_
        refine st_imul hR dX11_farm_49 (pc' := 50) rfl ?_
        refine st_iadd hR dX11_farm_50 (pc' := 51) rfl ?_
        refine st_iload hR dX11_farm_51 4 rfl (pc' := 53) rfl ?_
        refine st_iadd hR dX11_farm_53 (pc' := 54) rfl ?_
        obtain ⟨hin_, hM⟩ := g_in_e hM
        refine st_iald hR dX11_farm_54 0 6 rfl rfl hin_ (v := m_rows (ix ((110 + (6 * l1)) + l4))) rfl (pc' := 55) rfl ?_
        refine st_if_le hR dX11_farm_55 (tgt := 65) (by decide) (pc' := 58) rfl (fun c_ => ?_) (fun c_ => ?_)
        · have hM := it_t c_ hM
          refine st_iconst hR dX11_farm_65 (v := 0) rfl (pc' := 66) rfl ?_
          exact st_lv hR [0, 1, 2, 4] rfl (J66 _ _ _ _ _ _ hM)
        · have hM := it_f c_ hM
          refine st_iconst hR dX11_farm_58 (v := 1) rfl (pc' := 59) rfl ?_
          refine st_iload hR dX11_farm_59 4 rfl (pc' := 61) rfl ?_
          refine st_ishl hR dX11_farm_61 (pc' := 62) rfl ?_
          refine st_goto hR dX11_farm_62 (tgt := 66) (by decide) ?_
          exact st_lv hR [0, 1, 2, 4] rfl (J66 _ _ _ _ _ _ hM)
  refine st_aload_n hR dX11_farm_0 0 rfl rfl (pc' := 1) rfl ?_
  refine st_iconst hR dX11_farm_1 (v := 0) rfl (pc' := 2) rfl ?_
  refine st_put hR dX11_farm_2 fp_X11_1_10_0 0 0 rfl rfl (Nat.le_of_ble_eq_true rfl) rfl rfl (pc' := 5) rfl (W' := [wX11 G q_m 0 m_tape m_taped m_size m_sort m_place m_value m_at m_fault m_words m_rows m_op m_arg m_codes m_names m_ofFeed m_teeth m_feedWords m_goWords m_facts m_pile m_levels m_best m_losses m_lossOf m_wasThere m_groupMany m_groupRow m_groupLoss m_isMarked]) rfl ?_
  refine st_aload_n hR dX11_farm_5 0 rfl rfl (pc' := 6) rfl ?_
  refine st_iload_n hR dX11_farm_6 1 rfl rfl (pc' := 7) rfl ?_
  obtain ⟨r_1, hc_, hM⟩ := bd_e hM
  refine st_callV hR (k_X11_isFarm hc_) cf_X11_298 (rm_le (Nat.le_of_ble_eq_true rfl) (Nat.le_of_ble_eq_true rfl)) [0] rfl rfl rfl 0 0 10 30 rfl rfl rfl rfl (rest := []) rfl (Nat.le_of_ble_eq_true rfl) dX11_farm_7 (pc' := 10) rfl (Wn := [wX11 G q_m 0 m_tape m_taped m_size m_sort m_place m_value m_at m_fault m_words m_rows m_op m_arg m_codes m_names m_ofFeed m_teeth m_feedWords m_goWords m_facts m_pile m_levels m_best m_losses m_lossOf m_wasThere m_groupMany m_groupRow m_groupLoss m_isMarked]) rfl ?_
  refine st_if_eq hR dX11_farm_10 (tgt := 23) (by decide) (pc' := 13) rfl (fun c_ => ?_) (fun c_ => ?_)
  · have hM := it_t c_ hM
    refine st_iconst hR dX11_farm_23 (v := (-1)) (by decide) (pc' := 24) rfl ?_
    cases hM
    exact hret _ _ dX11_farm_24 (ro_i _)
  · have hM := it_f c_ hM
    refine st_iload_n hR dX11_farm_13 2 rfl rfl (pc' := 14) rfl ?_
    refine st_iconst hR dX11_farm_14 (v := 0) rfl (pc' := 15) rfl ?_
    refine st_bipush hR dX11_farm_15 (v := 6) rfl (pc' := 17) rfl ?_
    obtain ⟨r_2, hc_, hM⟩ := bd_e hM
    refine st_callS hR (k_X11_within hc_) cf_X11_301 (rm_le (Nat.le_of_ble_eq_true rfl) (Nat.le_of_ble_eq_true rfl)) [] rfl rfl rfl rfl (rest := []) rfl (Nat.le_of_ble_eq_true rfl) dX11_farm_17 (pc' := 20) rfl (Wn := [wX11 G q_m 0 m_tape m_taped m_size m_sort m_place m_value m_at m_fault m_words m_rows m_op m_arg m_codes m_names m_ofFeed m_teeth m_feedWords m_goWords m_facts m_pile m_levels m_best m_losses m_lossOf m_wasThere m_groupMany m_groupRow m_groupLoss m_isMarked]) rfl ?_
    refine st_if_ne hR dX11_farm_20 (tgt := 25) (by decide) (pc' := 23) rfl (fun c_ => ?_) (fun c_ => ?_)
    · have hM := it_f c_ hM
      refine st_iconst hR dX11_farm_25 (v := 0) rfl (pc' := 26) rfl ?_
      refine st_istore_n hR dX11_farm_26 rfl (Nat.le_of_ble_eq_true rfl) [1, 2, 3, 0] (lv' := [(0, .ref (q_m 0)), (1, .int l1), (2, .int l2), (3, .int 0)]) rfl (pc' := 27) rfl ?_
      refine st_iconst hR dX11_farm_27 (v := 0) rfl (pc' := 28) rfl ?_
      refine st_istore hR dX11_farm_28 (Nat.le_of_ble_eq_true rfl) [1, 2, 3, 4, 0] (lv' := [(0, .ref (q_m 0)), (1, .int l1), (2, .int l2), (3, .int 0), (4, .int 0)]) rfl (pc' := 30) rfl ?_
      exact L30 FU _ _ _ _ _ hM
    · have hM := it_t c_ hM
      refine st_iconst hR dX11_farm_23 (v := (-1)) (by decide) (pc' := 24) rfl ?_
      cases hM
      exact hret _ _ dX11_farm_24 (ro_i _)
set_option maxHeartbeats 16000000 in
set_option maxRecDepth 100000 in
theorem k_X11_tooth {l : Launch} {G : GG} {q_m : Nat → Nat} {m_thrown m_taped m_size m_at m_fault m_codes m_ofFeed m_teeth m_levels m_groupMany : Int32} {m_tape m_sort m_place m_rows m_op m_arg m_feedWords m_goWords m_facts m_pile m_best m_losses m_lossOf m_wasThere m_groupRow m_groupLoss m_isMarked : Nat → Int32} {m_value m_words m_names : Nat → Int64} {l1 l2 : Int32} {o_r : Int32} {o_m_thrown : Int32} (hM : f_X11_tooth m_rows m_thrown l1 l2 = some (o_r, o_m_thrown)) : MC l G yX11_tooth cX11_tooth 3 (some .int) (RM 2) [.ref (q_m 0), .int l1, .int l2] [wX11 G q_m m_thrown m_tape m_taped m_size m_sort m_place m_value m_at m_fault m_words m_rows m_op m_arg m_codes m_names m_ofFeed m_teeth m_feedWords m_goWords m_facts m_pile m_levels m_best m_losses m_lossOf m_wasThere m_groupMany m_groupRow m_groupLoss m_isMarked] (some (.int o_r)) [wX11 G q_m o_m_thrown m_tape m_taped m_size m_sort m_place m_value m_at m_fault m_words m_rows m_op m_arg m_codes m_names m_ofFeed m_teeth m_feedWords m_goWords m_facts m_pile m_levels m_best m_losses m_lossOf m_wasThere m_groupMany m_groupRow m_groupLoss m_isMarked] := by
  refine MC.of pn_X11 (Nat.le_of_ble_eq_true rfl) (fun K hR hret => ?_)
  have hR : Rl l G RX11 cX11_tooth 3 (RM 2) K := hR
  show K [wX11 G q_m m_thrown m_tape m_taped m_size m_sort m_place m_value m_at m_fault m_words m_rows m_op m_arg m_codes m_names m_ofFeed m_teeth m_feedWords m_goWords m_facts m_pile m_levels m_best m_losses m_lossOf m_wasThere m_groupMany m_groupRow m_groupLoss m_isMarked] [(0, .ref (q_m 0)), (1, .int l1), (2, .int l2)] 0 []
  refine st_aload_n hR dX11_tooth_0 0 rfl rfl (pc' := 1) rfl ?_
  refine st_iconst hR dX11_tooth_1 (v := 0) rfl (pc' := 2) rfl ?_
  refine st_put hR dX11_tooth_2 fp_X11_1_10_0 0 0 rfl rfl (Nat.le_of_ble_eq_true rfl) rfl rfl (pc' := 5) rfl (W' := [wX11 G q_m 0 m_tape m_taped m_size m_sort m_place m_value m_at m_fault m_words m_rows m_op m_arg m_codes m_names m_ofFeed m_teeth m_feedWords m_goWords m_facts m_pile m_levels m_best m_losses m_lossOf m_wasThere m_groupMany m_groupRow m_groupLoss m_isMarked]) rfl ?_
  refine st_aload_n hR dX11_tooth_5 0 rfl rfl (pc' := 6) rfl ?_
  refine st_iload_n hR dX11_tooth_6 1 rfl rfl (pc' := 7) rfl ?_
  obtain ⟨r_1, hc_, hM⟩ := bd_e hM
  refine st_callV hR (k_X11_isFarm hc_) cf_X11_298 (rm_le (Nat.le_of_ble_eq_true rfl) (Nat.le_of_ble_eq_true rfl)) [0] rfl rfl rfl 0 0 10 30 rfl rfl rfl rfl (rest := []) rfl (Nat.le_of_ble_eq_true rfl) dX11_tooth_7 (pc' := 10) rfl (Wn := [wX11 G q_m 0 m_tape m_taped m_size m_sort m_place m_value m_at m_fault m_words m_rows m_op m_arg m_codes m_names m_ofFeed m_teeth m_feedWords m_goWords m_facts m_pile m_levels m_best m_losses m_lossOf m_wasThere m_groupMany m_groupRow m_groupLoss m_isMarked]) rfl ?_
  refine st_if_eq hR dX11_tooth_10 (tgt := 40) (by decide) (pc' := 13) rfl (fun c_ => ?_) (fun c_ => ?_)
  · have hM := it_t c_ hM
    refine st_iconst hR dX11_tooth_40 (v := (-1)) (by decide) (pc' := 41) rfl ?_
    cases hM
    exact hret _ _ dX11_tooth_41 (ro_i _)
  · have hM := it_f c_ hM
    refine st_iload_n hR dX11_tooth_13 2 rfl rfl (pc' := 14) rfl ?_
    refine st_iconst hR dX11_tooth_14 (v := 1) rfl (pc' := 15) rfl ?_
    refine st_iconst hR dX11_tooth_15 (v := 4) rfl (pc' := 16) rfl ?_
    obtain ⟨r_2, hc_, hM⟩ := bd_e hM
    refine st_callS hR (k_X11_within hc_) cf_X11_301 (rm_le (Nat.le_of_ble_eq_true rfl) (Nat.le_of_ble_eq_true rfl)) [] rfl rfl rfl rfl (rest := []) rfl (Nat.le_of_ble_eq_true rfl) dX11_tooth_16 (pc' := 19) rfl (Wn := [wX11 G q_m 0 m_tape m_taped m_size m_sort m_place m_value m_at m_fault m_words m_rows m_op m_arg m_codes m_names m_ofFeed m_teeth m_feedWords m_goWords m_facts m_pile m_levels m_best m_losses m_lossOf m_wasThere m_groupMany m_groupRow m_groupLoss m_isMarked]) rfl ?_
    refine st_if_eq hR dX11_tooth_19 (tgt := 40) (by decide) (pc' := 22) rfl (fun c_ => ?_) (fun c_ => ?_)
    · have hM := it_t c_ hM
      refine st_iconst hR dX11_tooth_40 (v := (-1)) (by decide) (pc' := 41) rfl ?_
      cases hM
      exact hret _ _ dX11_tooth_41 (ro_i _)
    · have hM := it_f c_ hM
      refine st_aload_n hR dX11_tooth_22 0 rfl rfl (pc' := 23) rfl ?_
      refine st_get hR dX11_tooth_23 fg_X11_69_10_10 0 0 rfl rfl rfl (pc' := 26) rfl ?_
      refine st_bipush hR dX11_tooth_26 (v := 50) rfl (pc' := 28) rfl ?_
      refine st_iconst hR dX11_tooth_28 (v := 4) rfl (pc' := 29) rfl ?_
      refine st_iload_n hR dX11_tooth_29 1 rfl rfl (pc' := 30) rfl ?_
      refine st_imul hR dX11_tooth_30 (pc' := 31) rfl ?_
      refine st_iadd hR dX11_tooth_31 (pc' := 32) rfl ?_
      refine st_iload_n hR dX11_tooth_32 2 rfl rfl (pc' := 33) rfl ?_
      refine st_iadd hR dX11_tooth_33 (pc' := 34) rfl ?_
      refine st_iconst hR dX11_tooth_34 (v := 1) rfl (pc' := 35) rfl ?_
      refine st_isub hR dX11_tooth_35 (pc' := 36) rfl ?_
      obtain ⟨hin_, hM⟩ := g_in_e hM
      refine st_iald hR dX11_tooth_36 0 6 rfl rfl hin_ (v := m_rows (ix (((50 + (4 * l1)) + l2) - 1))) rfl (pc' := 37) rfl ?_
      refine st_goto hR dX11_tooth_37 (tgt := 41) (by decide) ?_
      cases hM
      exact hret _ _ dX11_tooth_41 (ro_i _)
set_option maxHeartbeats 16000000 in
set_option maxRecDepth 100000 in
theorem k_X11_seed {l : Launch} {G : GG} {q_m : Nat → Nat} {m_thrown m_taped m_size m_at m_fault m_codes m_ofFeed m_teeth m_levels m_groupMany : Int32} {m_tape m_sort m_place m_rows m_op m_arg m_feedWords m_goWords m_facts m_pile m_best m_losses m_lossOf m_wasThere m_groupRow m_groupLoss m_isMarked : Nat → Int32} {m_value m_words m_names : Nat → Int64} {l1 : Int32} {o_r : Int32} {o_m_thrown : Int32} {o_m_rows : Nat → Int32} (hM : f_X11_seed m_thrown m_rows l1 = some (o_r, o_m_thrown, o_m_rows)) : MC l G yX11_seed cX11_seed 2 (some .boolean) (RM 1) [.ref (q_m 0), .int l1] [wX11 G q_m m_thrown m_tape m_taped m_size m_sort m_place m_value m_at m_fault m_words m_rows m_op m_arg m_codes m_names m_ofFeed m_teeth m_feedWords m_goWords m_facts m_pile m_levels m_best m_losses m_lossOf m_wasThere m_groupMany m_groupRow m_groupLoss m_isMarked] (some (.int o_r)) [wX11 G q_m o_m_thrown m_tape m_taped m_size m_sort m_place m_value m_at m_fault m_words o_m_rows m_op m_arg m_codes m_names m_ofFeed m_teeth m_feedWords m_goWords m_facts m_pile m_levels m_best m_losses m_lossOf m_wasThere m_groupMany m_groupRow m_groupLoss m_isMarked] := by
  refine MC.of pn_X11 (Nat.le_of_ble_eq_true rfl) (fun K hR hret => ?_)
  have hR : Rl l G RX11 cX11_seed 2 (RM 1) K := hR
  show K [wX11 G q_m m_thrown m_tape m_taped m_size m_sort m_place m_value m_at m_fault m_words m_rows m_op m_arg m_codes m_names m_ofFeed m_teeth m_feedWords m_goWords m_facts m_pile m_levels m_best m_losses m_lossOf m_wasThere m_groupMany m_groupRow m_groupLoss m_isMarked] [(0, .ref (q_m 0)), (1, .int l1)] 0 []
  refine st_aload_n hR dX11_seed_0 0 rfl rfl (pc' := 1) rfl ?_
  refine st_iconst hR dX11_seed_1 (v := 0) rfl (pc' := 2) rfl ?_
  refine st_put hR dX11_seed_2 fp_X11_1_10_0 0 0 rfl rfl (Nat.le_of_ble_eq_true rfl) rfl rfl (pc' := 5) rfl (W' := [wX11 G q_m 0 m_tape m_taped m_size m_sort m_place m_value m_at m_fault m_words m_rows m_op m_arg m_codes m_names m_ofFeed m_teeth m_feedWords m_goWords m_facts m_pile m_levels m_best m_losses m_lossOf m_wasThere m_groupMany m_groupRow m_groupLoss m_isMarked]) rfl ?_
  refine st_iload_n hR dX11_seed_5 1 rfl rfl (pc' := 6) rfl ?_
  refine st_iconst hR dX11_seed_6 (v := 0) rfl (pc' := 7) rfl ?_
  refine st_sipush hR dX11_seed_7 (v := 9999) rfl (pc' := 10) rfl ?_
  obtain ⟨r_1, hc_, hM⟩ := bd_e hM
  refine st_callS hR (k_X11_within hc_) cf_X11_301 (rm_le (Nat.le_of_ble_eq_true rfl) (Nat.le_of_ble_eq_true rfl)) [] rfl rfl rfl rfl (rest := []) rfl (Nat.le_of_ble_eq_true rfl) dX11_seed_10 (pc' := 13) rfl (Wn := [wX11 G q_m 0 m_tape m_taped m_size m_sort m_place m_value m_at m_fault m_words m_rows m_op m_arg m_codes m_names m_ofFeed m_teeth m_feedWords m_goWords m_facts m_pile m_levels m_best m_losses m_lossOf m_wasThere m_groupMany m_groupRow m_groupLoss m_isMarked]) rfl ?_
  refine st_if_ne hR dX11_seed_13 (tgt := 18) (by decide) (pc' := 16) rfl (fun c_ => ?_) (fun c_ => ?_)
  · have hM := it_f c_ hM
    refine st_aload_n hR dX11_seed_18 0 rfl rfl (pc' := 19) rfl ?_
    refine st_get hR dX11_seed_19 fg_X11_69_10_10 0 0 rfl rfl rfl (pc' := 22) rfl ?_
    refine st_iconst hR dX11_seed_22 (v := 2) rfl (pc' := 23) rfl ?_
    refine st_iload_n hR dX11_seed_23 1 rfl rfl (pc' := 24) rfl ?_
    refine st_iast hR dX11_seed_24 0 6 rfl rfl (vp_lit 2 rfl rfl rfl) (ix := 2) (cl_lit 2 rfl rfl) (pc' := 25) rfl (fun m_rows_1 => [wX11 G q_m 0 m_tape m_taped m_size m_sort m_place m_value m_at m_fault m_words m_rows_1 m_op m_arg m_codes m_names m_ofFeed m_teeth m_feedWords m_goWords m_facts m_pile m_levels m_best m_losses m_lossOf m_wasThere m_groupMany m_groupRow m_groupLoss m_isMarked]) (fun _ => rfl) (fun m_rows_1 e_ => ?_)
    have hM := lt_e e_ hM
    refine st_iconst hR dX11_seed_25 (v := 1) rfl (pc' := 26) rfl ?_
    cases hM
    exact hret _ _ dX11_seed_26 (ro_z (Or.inr rfl))
  · have hM := it_t c_ hM
    refine st_iconst hR dX11_seed_16 (v := 0) rfl (pc' := 17) rfl ?_
    cases hM
    exact hret _ _ dX11_seed_17 (ro_z (Or.inl rfl))
set_option maxHeartbeats 16000000 in
set_option maxRecDepth 100000 in
theorem k_X11_nights {l : Launch} {G : GG} {q_m : Nat → Nat} {m_thrown m_taped m_size m_at m_fault m_codes m_ofFeed m_teeth m_levels m_groupMany : Int32} {m_tape m_sort m_place m_rows m_op m_arg m_feedWords m_goWords m_facts m_pile m_best m_losses m_lossOf m_wasThere m_groupRow m_groupLoss m_isMarked : Nat → Int32} {m_value m_words m_names : Nat → Int64} {l1 : Int32} {o_r : Int32} {o_m_thrown : Int32} {o_m_rows : Nat → Int32} {o_m_facts : Nat → Int32} {o_m_pile : Nat → Int32} {o_m_best : Nat → Int32} (hM : f_X11_nights m_op m_arg m_levels m_thrown m_rows m_facts m_pile m_best l1 = some (o_r, o_m_thrown, o_m_rows, o_m_facts, o_m_pile, o_m_best)) : MC l G yX11_nights cX11_nights 2 (some .int) (RM 6) [.ref (q_m 0), .int l1] [wX11 G q_m m_thrown m_tape m_taped m_size m_sort m_place m_value m_at m_fault m_words m_rows m_op m_arg m_codes m_names m_ofFeed m_teeth m_feedWords m_goWords m_facts m_pile m_levels m_best m_losses m_lossOf m_wasThere m_groupMany m_groupRow m_groupLoss m_isMarked] (some (.int o_r)) [wX11 G q_m o_m_thrown m_tape m_taped m_size m_sort m_place m_value m_at m_fault m_words o_m_rows m_op m_arg m_codes m_names m_ofFeed m_teeth m_feedWords m_goWords o_m_facts o_m_pile m_levels o_m_best m_losses m_lossOf m_wasThere m_groupMany m_groupRow m_groupLoss m_isMarked] := by
  refine MC.of pn_X11 (Nat.le_of_ble_eq_true rfl) (fun K hR hret => ?_)
  have hR : Rl l G RX11 cX11_nights 2 (RM 6) K := hR
  show K [wX11 G q_m m_thrown m_tape m_taped m_size m_sort m_place m_value m_at m_fault m_words m_rows m_op m_arg m_codes m_names m_ofFeed m_teeth m_feedWords m_goWords m_facts m_pile m_levels m_best m_losses m_lossOf m_wasThere m_groupMany m_groupRow m_groupLoss m_isMarked] [(0, .ref (q_m 0)), (1, .int l1)] 0 []
  refine st_aload_n hR dX11_nights_0 0 rfl rfl (pc' := 1) rfl ?_
  refine st_iconst hR dX11_nights_1 (v := 0) rfl (pc' := 2) rfl ?_
  refine st_put hR dX11_nights_2 fp_X11_1_10_0 0 0 rfl rfl (Nat.le_of_ble_eq_true rfl) rfl rfl (pc' := 5) rfl (W' := [wX11 G q_m 0 m_tape m_taped m_size m_sort m_place m_value m_at m_fault m_words m_rows m_op m_arg m_codes m_names m_ofFeed m_teeth m_feedWords m_goWords m_facts m_pile m_levels m_best m_losses m_lossOf m_wasThere m_groupMany m_groupRow m_groupLoss m_isMarked]) rfl ?_
  refine st_iload_n hR dX11_nights_5 1 rfl rfl (pc' := 6) rfl ?_
  refine st_iconst hR dX11_nights_6 (v := 1) rfl (pc' := 7) rfl ?_
  refine st_sipush hR dX11_nights_7 (v := 1000) rfl (pc' := 10) rfl ?_
  obtain ⟨r_1, hc_, hM⟩ := bd_e hM
  refine st_callS hR (k_X11_within hc_) cf_X11_301 (rm_le (Nat.le_of_ble_eq_true rfl) (Nat.le_of_ble_eq_true rfl)) [] rfl rfl rfl rfl (rest := []) rfl (Nat.le_of_ble_eq_true rfl) dX11_nights_10 (pc' := 13) rfl (Wn := [wX11 G q_m 0 m_tape m_taped m_size m_sort m_place m_value m_at m_fault m_words m_rows m_op m_arg m_codes m_names m_ofFeed m_teeth m_feedWords m_goWords m_facts m_pile m_levels m_best m_losses m_lossOf m_wasThere m_groupMany m_groupRow m_groupLoss m_isMarked]) rfl ?_
  refine st_if_ne hR dX11_nights_13 (tgt := 18) (by decide) (pc' := 16) rfl (fun c_ => ?_) (fun c_ => ?_)
  · have hM := it_f c_ hM
    refine st_aload_n hR dX11_nights_18 0 rfl rfl (pc' := 19) rfl ?_
    refine st_iload_n hR dX11_nights_19 1 rfl rfl (pc' := 20) rfl ?_
    obtain ⟨⟨m_rows_1, m_facts_1, m_pile_1, m_best_1⟩, hc_, hM⟩ := bd_e hM
    refine st_callV hR (k_X11_passes hc_) cf_X11_308 (rm_le (Nat.le_of_ble_eq_true rfl) (Nat.le_of_ble_eq_true rfl)) [0] rfl rfl rfl 0 0 10 30 rfl rfl rfl rfl (rest := []) rfl (Nat.le_of_ble_eq_true rfl) dX11_nights_20 (pc' := 23) rfl (Wn := [wX11 G q_m 0 m_tape m_taped m_size m_sort m_place m_value m_at m_fault m_words m_rows_1 m_op m_arg m_codes m_names m_ofFeed m_teeth m_feedWords m_goWords m_facts_1 m_pile_1 m_levels m_best_1 m_losses m_lossOf m_wasThere m_groupMany m_groupRow m_groupLoss m_isMarked]) rfl ?_
    refine st_aload_n hR dX11_nights_23 0 rfl rfl (pc' := 24) rfl ?_
    refine st_get hR dX11_nights_24 fg_X11_69_10_10 0 0 rfl rfl rfl (pc' := 27) rfl ?_
    refine st_iconst hR dX11_nights_27 (v := 1) rfl (pc' := 28) rfl ?_
    refine st_iald hR dX11_nights_28 0 6 rfl rfl (vp_lit 1 rfl rfl rfl) (v := m_rows_1 1) (congrArg m_rows_1 (cl_lit 1 rfl rfl)) (pc' := 29) rfl ?_
    cases hM
    exact hret _ _ dX11_nights_29 (ro_i _)
  · have hM := it_t c_ hM
    refine st_iconst hR dX11_nights_16 (v := (-1)) (by decide) (pc' := 17) rfl ?_
    cases hM
    exact hret _ _ dX11_nights_17 (ro_i _)
set_option maxHeartbeats 16000000 in
set_option maxRecDepth 100000 in
theorem k_X11_pact {l : Launch} {G : GG} {q_m : Nat → Nat} {m_thrown m_taped m_size m_at m_fault m_codes m_ofFeed m_teeth m_levels m_groupMany : Int32} {m_tape m_sort m_place m_rows m_op m_arg m_feedWords m_goWords m_facts m_pile m_best m_losses m_lossOf m_wasThere m_groupRow m_groupLoss m_isMarked : Nat → Int32} {m_value m_words m_names : Nat → Int64} {l1 l2 l3 : Int32} {o_r : Int32} {o_m_thrown : Int32} {o_m_rows : Nat → Int32} (hM : f_X11_pact m_thrown m_rows l1 l2 l3 = some (o_r, o_m_thrown, o_m_rows)) : MC l G yX11_pact cX11_pact 4 (some .boolean) (RM 2) [.ref (q_m 0), .int l1, .int l2, .int l3] [wX11 G q_m m_thrown m_tape m_taped m_size m_sort m_place m_value m_at m_fault m_words m_rows m_op m_arg m_codes m_names m_ofFeed m_teeth m_feedWords m_goWords m_facts m_pile m_levels m_best m_losses m_lossOf m_wasThere m_groupMany m_groupRow m_groupLoss m_isMarked] (some (.int o_r)) [wX11 G q_m o_m_thrown m_tape m_taped m_size m_sort m_place m_value m_at m_fault m_words o_m_rows m_op m_arg m_codes m_names m_ofFeed m_teeth m_feedWords m_goWords m_facts m_pile m_levels m_best m_losses m_lossOf m_wasThere m_groupMany m_groupRow m_groupLoss m_isMarked] := by
  refine MC.of pn_X11 (Nat.le_of_ble_eq_true rfl) (fun K hR hret => ?_)
  have hR : Rl l G RX11 cX11_pact 4 (RM 2) K := hR
  show K [wX11 G q_m m_thrown m_tape m_taped m_size m_sort m_place m_value m_at m_fault m_words m_rows m_op m_arg m_codes m_names m_ofFeed m_teeth m_feedWords m_goWords m_facts m_pile m_levels m_best m_losses m_lossOf m_wasThere m_groupMany m_groupRow m_groupLoss m_isMarked] [(0, .ref (q_m 0)), (1, .int l1), (2, .int l2), (3, .int l3)] 0 []
  have J76 : ∀ (m_thrown : Int32) (m_rows : Nat → Int32) (l1 : Int32) (l2 : Int32) (l3 : Int32) (s0 : Int32) (s1 : Int32), f_X11_pact_B76   m_thrown m_rows l1 l2 l3 s0 s1 = some (o_r, o_m_thrown, o_m_rows) → K [wX11 G q_m m_thrown m_tape m_taped m_size m_sort m_place m_value m_at m_fault m_words m_rows m_op m_arg m_codes m_names m_ofFeed m_teeth m_feedWords m_goWords m_facts m_pile m_levels m_best m_losses m_lossOf m_wasThere m_groupMany m_groupRow m_groupLoss m_isMarked] [(0, .ref (q_m 0)), (1, .int l1), (2, .int l2), (3, .int l3)] 76 [.int s0, .int s1, .ref (q_m 6)] := by
    intro m_thrown m_rows l1 l2 l3 s0 s1 hM
    obtain ⟨hin_, hM⟩ := g_in_e hM
    refine st_iast hR dX11_pact_76 0 6 rfl rfl hin_ (ix := (ix s1)) rfl (pc' := 77) rfl (fun m_rows_1 => [wX11 G q_m m_thrown m_tape m_taped m_size m_sort m_place m_value m_at m_fault m_words m_rows_1 m_op m_arg m_codes m_names m_ofFeed m_teeth m_feedWords m_goWords m_facts m_pile m_levels m_best m_losses m_lossOf m_wasThere m_groupMany m_groupRow m_groupLoss m_isMarked]) (fun _ => rfl) (fun m_rows_1 e_ => ?_)
    have hM := lt_e e_ hM
    refine st_aload_n hR dX11_pact_77 0 rfl rfl (pc' := 78) rfl ?_
    refine st_get hR dX11_pact_78 fg_X11_69_10_10 0 0 rfl rfl rfl (pc' := 81) rfl ?_
    refine st_bipush hR dX11_pact_81 (v := 110) rfl (pc' := 83) rfl ?_
    refine st_bipush hR dX11_pact_83 (v := 6) rfl (pc' := 85) rfl ?_
    refine st_iload_n hR dX11_pact_85 2 rfl rfl (pc' := 86) rfl ?_
    refine st_imul hR dX11_pact_86 (pc' := 87) rfl ?_
    refine st_iadd hR dX11_pact_87 (pc' := 88) rfl ?_
    refine st_iload_n hR dX11_pact_88 1 rfl rfl (pc' := 89) rfl ?_
    refine st_iadd hR dX11_pact_89 (pc' := 90) rfl ?_
    refine st_iload_n hR dX11_pact_90 3 rfl rfl (pc' := 91) rfl ?_
    refine st_if_eq hR dX11_pact_91 (tgt := 98) (by decide) (pc' := 94) rfl (fun c_ => ?_) (fun c_ => ?_)
    · have hM := it_t c_ hM
      refine st_iconst hR dX11_pact_98 (v := 0) rfl (pc' := 99) rfl ?_
      obtain ⟨hin_, hM⟩ := g_in_e hM
      refine st_iast hR dX11_pact_99 0 6 rfl rfl hin_ (ix := (ix ((110 + (6 * l2)) + l1))) rfl (pc' := 100) rfl (fun m_rows_2 => [wX11 G q_m m_thrown m_tape m_taped m_size m_sort m_place m_value m_at m_fault m_words m_rows_2 m_op m_arg m_codes m_names m_ofFeed m_teeth m_feedWords m_goWords m_facts m_pile m_levels m_best m_losses m_lossOf m_wasThere m_groupMany m_groupRow m_groupLoss m_isMarked]) (fun _ => rfl) (fun m_rows_2 e_ => ?_)
      have hM := lt_e e_ hM
      refine st_iconst hR dX11_pact_100 (v := 1) rfl (pc' := 101) rfl ?_
      cases hM
      exact hret _ _ dX11_pact_101 (ro_z (Or.inr rfl))
    · have hM := it_f c_ hM
      refine st_iconst hR dX11_pact_94 (v := 1) rfl (pc' := 95) rfl ?_
      refine st_goto hR dX11_pact_95 (tgt := 99) (by decide) ?_
      obtain ⟨hin_, hM⟩ := g_in_e hM
      refine st_iast hR dX11_pact_99 0 6 rfl rfl hin_ (ix := (ix ((110 + (6 * l2)) + l1))) rfl (pc' := 100) rfl (fun m_rows_3 => [wX11 G q_m m_thrown m_tape m_taped m_size m_sort m_place m_value m_at m_fault m_words m_rows_3 m_op m_arg m_codes m_names m_ofFeed m_teeth m_feedWords m_goWords m_facts m_pile m_levels m_best m_losses m_lossOf m_wasThere m_groupMany m_groupRow m_groupLoss m_isMarked]) (fun _ => rfl) (fun m_rows_3 e_ => ?_)
      have hM := lt_e e_ hM
      refine st_iconst hR dX11_pact_100 (v := 1) rfl (pc' := 101) rfl ?_
      cases hM
      exact hret _ _ dX11_pact_101 (ro_z (Or.inr rfl))
  have J48 : ∀ (m_thrown : Int32) (m_rows : Nat → Int32) (l1 : Int32) (l2 : Int32) (l3 : Int32) (s0 : Int32), f_X11_pact_B48   m_thrown m_rows l1 l2 l3 s0 = some (o_r, o_m_thrown, o_m_rows) → K [wX11 G q_m m_thrown m_tape m_taped m_size m_sort m_place m_value m_at m_fault m_words m_rows m_op m_arg m_codes m_names m_ofFeed m_teeth m_feedWords m_goWords m_facts m_pile m_levels m_best m_losses m_lossOf m_wasThere m_groupMany m_groupRow m_groupLoss m_isMarked] [(0, .ref (q_m 0)), (1, .int l1), (2, .int l2), (3, .int l3)] 48 [.int s0] := by
    intro m_thrown m_rows l1 l2 l3 s0 hM
    refine st_iload_n hR dX11_pact_48 3 rfl rfl (pc' := 49) rfl ?_
    refine st_icmp_ne hR dX11_pact_49 (tgt := 54) (by decide) (pc' := 52) rfl (fun c_ => ?_) (fun c_ => ?_)
    · have hM := it_f c_ hM
      refine st_aload_n hR dX11_pact_54 0 rfl rfl (pc' := 55) rfl ?_
      refine st_get hR dX11_pact_55 fg_X11_69_10_10 0 0 rfl rfl rfl (pc' := 58) rfl ?_
      refine st_bipush hR dX11_pact_58 (v := 110) rfl (pc' := 60) rfl ?_
      refine st_bipush hR dX11_pact_60 (v := 6) rfl (pc' := 62) rfl ?_
      refine st_iload_n hR dX11_pact_62 1 rfl rfl (pc' := 63) rfl ?_
      refine st_imul hR dX11_pact_63 (pc' := 64) rfl ?_
      refine st_iadd hR dX11_pact_64 (pc' := 65) rfl ?_
      refine st_iload_n hR dX11_pact_65 2 rfl rfl (pc' := 66) rfl ?_
      refine st_iadd hR dX11_pact_66 (pc' := 67) rfl ?_
      refine st_iload_n hR dX11_pact_67 3 rfl rfl (pc' := 68) rfl ?_
      refine st_if_eq hR dX11_pact_68 (tgt := 75) (by decide) (pc' := 71) rfl (fun c_ => ?_) (fun c_ => ?_)
      · have hM := it_t c_ hM
        refine st_iconst hR dX11_pact_75 (v := 0) rfl (pc' := 76) rfl ?_
        exact J76 _ _ _ _ _ _ _ hM
      · have hM := it_f c_ hM
        refine st_iconst hR dX11_pact_71 (v := 1) rfl (pc' := 72) rfl ?_
        refine st_goto hR dX11_pact_72 (tgt := 76) (by decide) ?_
        exact J76 _ _ _ _ _ _ _ hM
    · have hM := it_t c_ hM
      refine st_iconst hR dX11_pact_52 (v := 0) rfl (pc' := 53) rfl ?_
      cases hM
      exact hret _ _ dX11_pact_53 (ro_z (Or.inl rfl))
  refine st_aload_n hR dX11_pact_0 0 rfl rfl (pc' := 1) rfl ?_
  refine st_iconst hR dX11_pact_1 (v := 0) rfl (pc' := 2) rfl ?_
  refine st_put hR dX11_pact_2 fp_X11_1_10_0 0 0 rfl rfl (Nat.le_of_ble_eq_true rfl) rfl rfl (pc' := 5) rfl (W' := [wX11 G q_m 0 m_tape m_taped m_size m_sort m_place m_value m_at m_fault m_words m_rows m_op m_arg m_codes m_names m_ofFeed m_teeth m_feedWords m_goWords m_facts m_pile m_levels m_best m_losses m_lossOf m_wasThere m_groupMany m_groupRow m_groupLoss m_isMarked]) rfl ?_
  refine st_aload_n hR dX11_pact_5 0 rfl rfl (pc' := 6) rfl ?_
  refine st_iload_n hR dX11_pact_6 1 rfl rfl (pc' := 7) rfl ?_
  obtain ⟨r_1, hc_, hM⟩ := bd_e hM
  refine st_callV hR (k_X11_isFarm hc_) cf_X11_298 (rm_le (Nat.le_of_ble_eq_true rfl) (Nat.le_of_ble_eq_true rfl)) [0] rfl rfl rfl 0 0 10 30 rfl rfl rfl rfl (rest := []) rfl (Nat.le_of_ble_eq_true rfl) dX11_pact_7 (pc' := 10) rfl (Wn := [wX11 G q_m 0 m_tape m_taped m_size m_sort m_place m_value m_at m_fault m_words m_rows m_op m_arg m_codes m_names m_ofFeed m_teeth m_feedWords m_goWords m_facts m_pile m_levels m_best m_losses m_lossOf m_wasThere m_groupMany m_groupRow m_groupLoss m_isMarked]) rfl ?_
  refine st_if_eq hR dX11_pact_10 (tgt := 52) (by decide) (pc' := 13) rfl (fun c_ => ?_) (fun c_ => ?_)
  · have hM := it_t c_ hM
    refine st_iconst hR dX11_pact_52 (v := 0) rfl (pc' := 53) rfl ?_
    cases hM
    exact hret _ _ dX11_pact_53 (ro_z (Or.inl rfl))
  · have hM := it_f c_ hM
    refine st_aload_n hR dX11_pact_13 0 rfl rfl (pc' := 14) rfl ?_
    refine st_iload_n hR dX11_pact_14 2 rfl rfl (pc' := 15) rfl ?_
    obtain ⟨r_2, hc_, hM⟩ := bd_e hM
    refine st_callV hR (k_X11_isFarm hc_) cf_X11_298 (rm_le (Nat.le_of_ble_eq_true rfl) (Nat.le_of_ble_eq_true rfl)) [0] rfl rfl rfl 0 0 10 30 rfl rfl rfl rfl (rest := []) rfl (Nat.le_of_ble_eq_true rfl) dX11_pact_15 (pc' := 18) rfl (Wn := [wX11 G q_m 0 m_tape m_taped m_size m_sort m_place m_value m_at m_fault m_words m_rows m_op m_arg m_codes m_names m_ofFeed m_teeth m_feedWords m_goWords m_facts m_pile m_levels m_best m_losses m_lossOf m_wasThere m_groupMany m_groupRow m_groupLoss m_isMarked]) rfl ?_
    refine st_if_eq hR dX11_pact_18 (tgt := 52) (by decide) (pc' := 21) rfl (fun c_ => ?_) (fun c_ => ?_)
    · have hM := it_t c_ hM
      refine st_iconst hR dX11_pact_52 (v := 0) rfl (pc' := 53) rfl ?_
      cases hM
      exact hret _ _ dX11_pact_53 (ro_z (Or.inl rfl))
    · have hM := it_f c_ hM
      refine st_iload_n hR dX11_pact_21 1 rfl rfl (pc' := 22) rfl ?_
      refine st_iload_n hR dX11_pact_22 2 rfl rfl (pc' := 23) rfl ?_
      refine st_icmp_eq hR dX11_pact_23 (tgt := 52) (by decide) (pc' := 26) rfl (fun c_ => ?_) (fun c_ => ?_)
      · have hM := it_t c_ hM
        refine st_iconst hR dX11_pact_52 (v := 0) rfl (pc' := 53) rfl ?_
        cases hM
        exact hret _ _ dX11_pact_53 (ro_z (Or.inl rfl))
      · have hM := it_f c_ hM
        refine st_aload_n hR dX11_pact_26 0 rfl rfl (pc' := 27) rfl ?_
        refine st_get hR dX11_pact_27 fg_X11_69_10_10 0 0 rfl rfl rfl (pc' := 30) rfl ?_
        refine st_bipush hR dX11_pact_30 (v := 110) rfl (pc' := 32) rfl ?_
        refine st_bipush hR dX11_pact_32 (v := 6) rfl (pc' := 34) rfl ?_
        refine st_iload_n hR dX11_pact_34 1 rfl rfl (pc' := 35) rfl ?_
        refine st_imul hR dX11_pact_35 (pc' := 36) rfl ?_
        refine st_iadd hR dX11_pact_36 (pc' := 37) rfl ?_
        refine st_iload_n hR dX11_pact_37 2 rfl rfl (pc' := 38) rfl ?_
        refine st_iadd hR dX11_pact_38 (pc' := 39) rfl ?_
        obtain ⟨hin_, hM⟩ := g_in_e hM
        refine st_iald hR dX11_pact_39 0 6 rfl rfl hin_ (v := m_rows (ix ((110 + (6 * l1)) + l2))) rfl (pc' := 40) rfl ?_
        refine st_if_le hR dX11_pact_40 (tgt := 47) (by decide) (pc' := 43) rfl (fun c_ => ?_) (fun c_ => ?_)
        · have hM := it_t c_ hM
          refine st_iconst hR dX11_pact_47 (v := 0) rfl (pc' := 48) rfl ?_
          exact J48 _ _ _ _ _ _ hM
        · have hM := it_f c_ hM
          refine st_iconst hR dX11_pact_43 (v := 1) rfl (pc' := 44) rfl ?_
          refine st_goto hR dX11_pact_44 (tgt := 48) (by decide) ?_
          exact J48 _ _ _ _ _ _ hM
set_option maxHeartbeats 16000000 in
set_option maxRecDepth 100000 in
theorem k_X11_bones {l : Launch} {G : GG} {q_m : Nat → Nat} {m_thrown m_taped m_size m_at m_fault m_codes m_ofFeed m_teeth m_levels m_groupMany : Int32} {m_tape m_sort m_place m_rows m_op m_arg m_feedWords m_goWords m_facts m_pile m_best m_losses m_lossOf m_wasThere m_groupRow m_groupLoss m_isMarked : Nat → Int32} {m_value m_words m_names : Nat → Int64}  {o_r : Int32} {o_m_thrown : Int32} (hM : f_X11_bones m_rows m_thrown = some (o_r, o_m_thrown)) : MC l G yX11_bones cX11_bones 1 (some .int) (RM 0) [.ref (q_m 0)] [wX11 G q_m m_thrown m_tape m_taped m_size m_sort m_place m_value m_at m_fault m_words m_rows m_op m_arg m_codes m_names m_ofFeed m_teeth m_feedWords m_goWords m_facts m_pile m_levels m_best m_losses m_lossOf m_wasThere m_groupMany m_groupRow m_groupLoss m_isMarked] (some (.int o_r)) [wX11 G q_m o_m_thrown m_tape m_taped m_size m_sort m_place m_value m_at m_fault m_words m_rows m_op m_arg m_codes m_names m_ofFeed m_teeth m_feedWords m_goWords m_facts m_pile m_levels m_best m_losses m_lossOf m_wasThere m_groupMany m_groupRow m_groupLoss m_isMarked] := by
  refine MC.of pn_X11 (Nat.le_of_ble_eq_true rfl) (fun K hR hret => ?_)
  have hR : Rl l G RX11 cX11_bones 1 (RM 0) K := hR
  show K [wX11 G q_m m_thrown m_tape m_taped m_size m_sort m_place m_value m_at m_fault m_words m_rows m_op m_arg m_codes m_names m_ofFeed m_teeth m_feedWords m_goWords m_facts m_pile m_levels m_best m_losses m_lossOf m_wasThere m_groupMany m_groupRow m_groupLoss m_isMarked] [(0, .ref (q_m 0))] 0 []
  refine st_aload_n hR dX11_bones_0 0 rfl rfl (pc' := 1) rfl ?_
  refine st_iconst hR dX11_bones_1 (v := 0) rfl (pc' := 2) rfl ?_
  refine st_put hR dX11_bones_2 fp_X11_1_10_0 0 0 rfl rfl (Nat.le_of_ble_eq_true rfl) rfl rfl (pc' := 5) rfl (W' := [wX11 G q_m 0 m_tape m_taped m_size m_sort m_place m_value m_at m_fault m_words m_rows m_op m_arg m_codes m_names m_ofFeed m_teeth m_feedWords m_goWords m_facts m_pile m_levels m_best m_losses m_lossOf m_wasThere m_groupMany m_groupRow m_groupLoss m_isMarked]) rfl ?_
  refine st_aload_n hR dX11_bones_5 0 rfl rfl (pc' := 6) rfl ?_
  refine st_get hR dX11_bones_6 fg_X11_69_10_10 0 0 rfl rfl rfl (pc' := 9) rfl ?_
  refine st_iconst hR dX11_bones_9 (v := 3) rfl (pc' := 10) rfl ?_
  refine st_iald hR dX11_bones_10 0 6 rfl rfl (vp_lit 3 rfl rfl rfl) (v := m_rows 3) (congrArg m_rows (cl_lit 3 rfl rfl)) (pc' := 11) rfl ?_
  cases hM
  exact hret _ _ dX11_bones_11 (ro_i _)
set_option maxHeartbeats 16000000 in
set_option maxRecDepth 100000 in
theorem k_X11_bone {l : Launch} {G : GG} {q_m : Nat → Nat} {m_thrown m_taped m_size m_at m_fault m_codes m_ofFeed m_teeth m_levels m_groupMany : Int32} {m_tape m_sort m_place m_rows m_op m_arg m_feedWords m_goWords m_facts m_pile m_best m_losses m_lossOf m_wasThere m_groupRow m_groupLoss m_isMarked : Nat → Int32} {m_value m_words m_names : Nat → Int64} {l1 l2 : Int32} {o_r : Int32} {o_m_thrown : Int32} (hM : f_X11_bone m_rows m_thrown l1 l2 = some (o_r, o_m_thrown)) : MC l G yX11_bone cX11_bone 3 (some .int) (RM 1) [.ref (q_m 0), .int l1, .int l2] [wX11 G q_m m_thrown m_tape m_taped m_size m_sort m_place m_value m_at m_fault m_words m_rows m_op m_arg m_codes m_names m_ofFeed m_teeth m_feedWords m_goWords m_facts m_pile m_levels m_best m_losses m_lossOf m_wasThere m_groupMany m_groupRow m_groupLoss m_isMarked] (some (.int o_r)) [wX11 G q_m o_m_thrown m_tape m_taped m_size m_sort m_place m_value m_at m_fault m_words m_rows m_op m_arg m_codes m_names m_ofFeed m_teeth m_feedWords m_goWords m_facts m_pile m_levels m_best m_losses m_lossOf m_wasThere m_groupMany m_groupRow m_groupLoss m_isMarked] := by
  refine MC.of pn_X11 (Nat.le_of_ble_eq_true rfl) (fun K hR hret => ?_)
  have hR : Rl l G RX11 cX11_bone 3 (RM 1) K := hR
  show K [wX11 G q_m m_thrown m_tape m_taped m_size m_sort m_place m_value m_at m_fault m_words m_rows m_op m_arg m_codes m_names m_ofFeed m_teeth m_feedWords m_goWords m_facts m_pile m_levels m_best m_losses m_lossOf m_wasThere m_groupMany m_groupRow m_groupLoss m_isMarked] [(0, .ref (q_m 0)), (1, .int l1), (2, .int l2)] 0 []
  have J36 : ∀ (m_thrown : Int32) (l1 : Int32) (l2 : Int32) (s0 : Int32), f_X11_bone_B36  m_rows m_thrown l1 l2 s0 = some (o_r, o_m_thrown) → K [wX11 G q_m m_thrown m_tape m_taped m_size m_sort m_place m_value m_at m_fault m_words m_rows m_op m_arg m_codes m_names m_ofFeed m_teeth m_feedWords m_goWords m_facts m_pile m_levels m_best m_losses m_lossOf m_wasThere m_groupMany m_groupRow m_groupLoss m_isMarked] [(0, .ref (q_m 0)), (1, .int l1), (2, .int l2)] 36 [.int s0, .ref (q_m 0)] := by
    intro m_thrown l1 l2 s0 hM
    refine st_put hR dX11_bone_36 fp_X11_1_10_0 0 0 rfl rfl (Nat.le_of_ble_eq_true rfl) rfl rfl (pc' := 39) rfl (W' := [wX11 G q_m s0 m_tape m_taped m_size m_sort m_place m_value m_at m_fault m_words m_rows m_op m_arg m_codes m_names m_ofFeed m_teeth m_feedWords m_goWords m_facts m_pile m_levels m_best m_losses m_lossOf m_wasThere m_groupMany m_groupRow m_groupLoss m_isMarked]) rfl ?_
    refine st_aload_n hR dX11_bone_39 0 rfl rfl (pc' := 40) rfl ?_
    refine st_get hR dX11_bone_40 fg_X11_1_10_0 0 0 rfl rfl rfl (pc' := 43) rfl ?_
    refine st_if_le hR dX11_bone_43 (tgt := 50) (by decide) (pc' := 46) rfl (fun c_ => ?_) (fun c_ => ?_)
    · have hM := it_t c_ hM
      refine st_aload_n hR dX11_bone_50 0 rfl rfl (pc' := 51) rfl ?_
      refine st_get hR dX11_bone_51 fg_X11_69_10_10 0 0 rfl rfl rfl (pc' := 54) rfl ?_
      refine st_sipush hR dX11_bone_54 (v := 190) rfl (pc' := 57) rfl ?_
      refine st_iconst hR dX11_bone_57 (v := 4) rfl (pc' := 58) rfl ?_
      refine st_iload_n hR dX11_bone_58 1 rfl rfl (pc' := 59) rfl ?_
      refine st_imul hR dX11_bone_59 (pc' := 60) rfl ?_
      refine st_iadd hR dX11_bone_60 (pc' := 61) rfl ?_
      refine st_iload_n hR dX11_bone_61 2 rfl rfl (pc' := 62) rfl ?_
      refine st_iadd hR dX11_bone_62 (pc' := 63) rfl ?_
      obtain ⟨hin_, hM⟩ := g_in_e hM
      refine st_iald hR dX11_bone_63 0 6 rfl rfl hin_ (v := m_rows (ix ((190 + (4 * l1)) + l2))) rfl (pc' := 64) rfl ?_
      cases hM
      exact hret _ _ dX11_bone_64 (ro_i _)
    · have hM := it_f c_ hM
      refine st_iconst hR dX11_bone_46 (v := 0) rfl (pc' := 47) rfl ?_
      refine st_goto hR dX11_bone_47 (tgt := 64) (by decide) ?_
      cases hM
      exact hret _ _ dX11_bone_64 (ro_i _)
  have J35 : ∀ (m_thrown : Int32) (l1 : Int32) (l2 : Int32), f_X11_bone_B35  m_rows m_thrown l1 l2 = some (o_r, o_m_thrown) → K [wX11 G q_m m_thrown m_tape m_taped m_size m_sort m_place m_value m_at m_fault m_words m_rows m_op m_arg m_codes m_names m_ofFeed m_teeth m_feedWords m_goWords m_facts m_pile m_levels m_best m_losses m_lossOf m_wasThere m_groupMany m_groupRow m_groupLoss m_isMarked] [(0, .ref (q_m 0)), (1, .int l1), (2, .int l2)] 35 [.ref (q_m 0)] := by
    intro m_thrown l1 l2 hM
    refine st_iconst hR dX11_bone_35 (v := 1) rfl (pc' := 36) rfl ?_
    exact J36 _ _ _ _ hM
  refine st_aload_n hR dX11_bone_0 0 rfl rfl (pc' := 1) rfl ?_
  refine st_iload_n hR dX11_bone_1 1 rfl rfl (pc' := 2) rfl ?_
  refine st_if_lt hR dX11_bone_2 (tgt := 35) (by decide) (pc' := 5) rfl (fun c_ => ?_) (fun c_ => ?_)
  · have hM := it_t c_ hM
    exact J35 _ _ _ hM
  · have hM := it_f c_ hM
    refine st_iload_n hR dX11_bone_5 1 rfl rfl (pc' := 6) rfl ?_
    refine st_aload_n hR dX11_bone_6 0 rfl rfl (pc' := 7) rfl ?_
    refine st_get hR dX11_bone_7 fg_X11_69_10_10 0 0 rfl rfl rfl (pc' := 10) rfl ?_
    refine st_iconst hR dX11_bone_10 (v := 3) rfl (pc' := 11) rfl ?_
    refine st_iald hR dX11_bone_11 0 6 rfl rfl (vp_lit 3 rfl rfl rfl) (v := m_rows 3) (congrArg m_rows (cl_lit 3 rfl rfl)) (pc' := 12) rfl ?_
    refine st_icmp_ge hR dX11_bone_12 (tgt := 35) (by decide) (pc' := 15) rfl (fun c_ => ?_) (fun c_ => ?_)
    · have hM := it_t c_ hM
      exact J35 _ _ _ hM
    · have hM := it_f c_ hM
      refine st_iload_n hR dX11_bone_15 1 rfl rfl (pc' := 16) rfl ?_
      refine st_sipush hR dX11_bone_16 (v := 200) rfl (pc' := 19) rfl ?_
      refine st_icmp_ge hR dX11_bone_19 (tgt := 35) (by decide) (pc' := 22) rfl (fun c_ => ?_) (fun c_ => ?_)
      · have hM := it_t c_ hM
        exact J35 _ _ _ hM
      · have hM := it_f c_ hM
        refine st_iload_n hR dX11_bone_22 2 rfl rfl (pc' := 23) rfl ?_
        refine st_iconst hR dX11_bone_23 (v := 0) rfl (pc' := 24) rfl ?_
        refine st_iconst hR dX11_bone_24 (v := 3) rfl (pc' := 25) rfl ?_
        obtain ⟨r_1, hc_, hM⟩ := bd_e hM
        refine st_callS hR (k_X11_within hc_) cf_X11_301 (rm_le (Nat.le_of_ble_eq_true rfl) (Nat.le_of_ble_eq_true rfl)) [] rfl rfl rfl rfl (rest := [.ref (q_m 0)]) rfl (Nat.le_of_ble_eq_true rfl) dX11_bone_25 (pc' := 28) rfl (Wn := [wX11 G q_m m_thrown m_tape m_taped m_size m_sort m_place m_value m_at m_fault m_words m_rows m_op m_arg m_codes m_names m_ofFeed m_teeth m_feedWords m_goWords m_facts m_pile m_levels m_best m_losses m_lossOf m_wasThere m_groupMany m_groupRow m_groupLoss m_isMarked]) rfl ?_
        refine st_if_eq hR dX11_bone_28 (tgt := 35) (by decide) (pc' := 31) rfl (fun c_ => ?_) (fun c_ => ?_)
        · have hM := it_t c_ hM
          exact J35 _ _ _ hM
        · have hM := it_f c_ hM
          refine st_iconst hR dX11_bone_31 (v := 0) rfl (pc' := 32) rfl ?_
          refine st_goto hR dX11_bone_32 (tgt := 36) (by decide) ?_
          exact J36 _ _ _ _ hM
set_option maxHeartbeats 16000000 in
set_option maxRecDepth 100000 in
theorem k_X11_feuds {l : Launch} {G : GG} {q_m : Nat → Nat} {m_thrown m_taped m_size m_at m_fault m_codes m_ofFeed m_teeth m_levels m_groupMany : Int32} {m_tape m_sort m_place m_rows m_op m_arg m_feedWords m_goWords m_facts m_pile m_best m_losses m_lossOf m_wasThere m_groupRow m_groupLoss m_isMarked : Nat → Int32} {m_value m_words m_names : Nat → Int64} {l1 l2 : Int32} {o_r : Int32} {o_m_thrown : Int32} (hM : f_X11_feuds m_rows m_thrown l1 l2 = some (o_r, o_m_thrown)) : MC l G yX11_feuds cX11_feuds 3 (some .int) (RM 2) [.ref (q_m 0), .int l1, .int l2] [wX11 G q_m m_thrown m_tape m_taped m_size m_sort m_place m_value m_at m_fault m_words m_rows m_op m_arg m_codes m_names m_ofFeed m_teeth m_feedWords m_goWords m_facts m_pile m_levels m_best m_losses m_lossOf m_wasThere m_groupMany m_groupRow m_groupLoss m_isMarked] (some (.int o_r)) [wX11 G q_m o_m_thrown m_tape m_taped m_size m_sort m_place m_value m_at m_fault m_words m_rows m_op m_arg m_codes m_names m_ofFeed m_teeth m_feedWords m_goWords m_facts m_pile m_levels m_best m_losses m_lossOf m_wasThere m_groupMany m_groupRow m_groupLoss m_isMarked] := by
  refine MC.of pn_X11 (Nat.le_of_ble_eq_true rfl) (fun K hR hret => ?_)
  have hR : Rl l G RX11 cX11_feuds 3 (RM 2) K := hR
  show K [wX11 G q_m m_thrown m_tape m_taped m_size m_sort m_place m_value m_at m_fault m_words m_rows m_op m_arg m_codes m_names m_ofFeed m_teeth m_feedWords m_goWords m_facts m_pile m_levels m_best m_losses m_lossOf m_wasThere m_groupMany m_groupRow m_groupLoss m_isMarked] [(0, .ref (q_m 0)), (1, .int l1), (2, .int l2)] 0 []
  refine st_aload_n hR dX11_feuds_0 0 rfl rfl (pc' := 1) rfl ?_
  refine st_iconst hR dX11_feuds_1 (v := 0) rfl (pc' := 2) rfl ?_
  refine st_put hR dX11_feuds_2 fp_X11_1_10_0 0 0 rfl rfl (Nat.le_of_ble_eq_true rfl) rfl rfl (pc' := 5) rfl (W' := [wX11 G q_m 0 m_tape m_taped m_size m_sort m_place m_value m_at m_fault m_words m_rows m_op m_arg m_codes m_names m_ofFeed m_teeth m_feedWords m_goWords m_facts m_pile m_levels m_best m_losses m_lossOf m_wasThere m_groupMany m_groupRow m_groupLoss m_isMarked]) rfl ?_
  refine st_aload_n hR dX11_feuds_5 0 rfl rfl (pc' := 6) rfl ?_
  refine st_iload_n hR dX11_feuds_6 1 rfl rfl (pc' := 7) rfl ?_
  obtain ⟨r_1, hc_, hM⟩ := bd_e hM
  refine st_callV hR (k_X11_isFarm hc_) cf_X11_298 (rm_le (Nat.le_of_ble_eq_true rfl) (Nat.le_of_ble_eq_true rfl)) [0] rfl rfl rfl 0 0 10 30 rfl rfl rfl rfl (rest := []) rfl (Nat.le_of_ble_eq_true rfl) dX11_feuds_7 (pc' := 10) rfl (Wn := [wX11 G q_m 0 m_tape m_taped m_size m_sort m_place m_value m_at m_fault m_words m_rows m_op m_arg m_codes m_names m_ofFeed m_teeth m_feedWords m_goWords m_facts m_pile m_levels m_best m_losses m_lossOf m_wasThere m_groupMany m_groupRow m_groupLoss m_isMarked]) rfl ?_
  refine st_if_eq hR dX11_feuds_10 (tgt := 44) (by decide) (pc' := 13) rfl (fun c_ => ?_) (fun c_ => ?_)
  · have hM := it_t c_ hM
    refine st_iconst hR dX11_feuds_44 (v := (-1)) (by decide) (pc' := 45) rfl ?_
    cases hM
    exact hret _ _ dX11_feuds_45 (ro_i _)
  · have hM := it_f c_ hM
    refine st_aload_n hR dX11_feuds_13 0 rfl rfl (pc' := 14) rfl ?_
    refine st_iload_n hR dX11_feuds_14 2 rfl rfl (pc' := 15) rfl ?_
    obtain ⟨r_2, hc_, hM⟩ := bd_e hM
    refine st_callV hR (k_X11_isFarm hc_) cf_X11_298 (rm_le (Nat.le_of_ble_eq_true rfl) (Nat.le_of_ble_eq_true rfl)) [0] rfl rfl rfl 0 0 10 30 rfl rfl rfl rfl (rest := []) rfl (Nat.le_of_ble_eq_true rfl) dX11_feuds_15 (pc' := 18) rfl (Wn := [wX11 G q_m 0 m_tape m_taped m_size m_sort m_place m_value m_at m_fault m_words m_rows m_op m_arg m_codes m_names m_ofFeed m_teeth m_feedWords m_goWords m_facts m_pile m_levels m_best m_losses m_lossOf m_wasThere m_groupMany m_groupRow m_groupLoss m_isMarked]) rfl ?_
    refine st_if_eq hR dX11_feuds_18 (tgt := 44) (by decide) (pc' := 21) rfl (fun c_ => ?_) (fun c_ => ?_)
    · have hM := it_t c_ hM
      refine st_iconst hR dX11_feuds_44 (v := (-1)) (by decide) (pc' := 45) rfl ?_
      cases hM
      exact hret _ _ dX11_feuds_45 (ro_i _)
    · have hM := it_f c_ hM
      refine st_iload_n hR dX11_feuds_21 1 rfl rfl (pc' := 22) rfl ?_
      refine st_iload_n hR dX11_feuds_22 2 rfl rfl (pc' := 23) rfl ?_
      refine st_icmp_eq hR dX11_feuds_23 (tgt := 44) (by decide) (pc' := 26) rfl (fun c_ => ?_) (fun c_ => ?_)
      · have hM := it_t c_ hM
        refine st_iconst hR dX11_feuds_44 (v := (-1)) (by decide) (pc' := 45) rfl ?_
        cases hM
        exact hret _ _ dX11_feuds_45 (ro_i _)
      · have hM := it_f c_ hM
        refine st_aload_n hR dX11_feuds_26 0 rfl rfl (pc' := 27) rfl ?_
        refine st_get hR dX11_feuds_27 fg_X11_69_10_10 0 0 rfl rfl rfl (pc' := 30) rfl ?_
        refine st_sipush hR dX11_feuds_30 (v := 146) rfl (pc' := 33) rfl ?_
        refine st_bipush hR dX11_feuds_33 (v := 6) rfl (pc' := 35) rfl ?_
        refine st_iload_n hR dX11_feuds_35 1 rfl rfl (pc' := 36) rfl ?_
        refine st_imul hR dX11_feuds_36 (pc' := 37) rfl ?_
        refine st_iadd hR dX11_feuds_37 (pc' := 38) rfl ?_
        refine st_iload_n hR dX11_feuds_38 2 rfl rfl (pc' := 39) rfl ?_
        refine st_iadd hR dX11_feuds_39 (pc' := 40) rfl ?_
        obtain ⟨hin_, hM⟩ := g_in_e hM
        refine st_iald hR dX11_feuds_40 0 6 rfl rfl hin_ (v := m_rows (ix ((146 + (6 * l1)) + l2))) rfl (pc' := 41) rfl ?_
        refine st_goto hR dX11_feuds_41 (tgt := 45) (by decide) ?_
        cases hM
        exact hret _ _ dX11_feuds_45 (ro_i _)
set_option maxHeartbeats 16000000 in
set_option maxRecDepth 100000 in
theorem k_X11_gone {l : Launch} {G : GG} {q_m : Nat → Nat} {m_thrown m_taped m_size m_at m_fault m_codes m_ofFeed m_teeth m_levels m_groupMany : Int32} {m_tape m_sort m_place m_rows m_op m_arg m_feedWords m_goWords m_facts m_pile m_best m_losses m_lossOf m_wasThere m_groupRow m_groupLoss m_isMarked : Nat → Int32} {m_value m_words m_names : Nat → Int64} {l1 l2 : Int32} {o_r : Int32} {o_m_thrown : Int32} (hM : f_X11_gone m_rows m_thrown l1 l2 = some (o_r, o_m_thrown)) : MC l G yX11_gone cX11_gone 3 (some .int) (RM 2) [.ref (q_m 0), .int l1, .int l2] [wX11 G q_m m_thrown m_tape m_taped m_size m_sort m_place m_value m_at m_fault m_words m_rows m_op m_arg m_codes m_names m_ofFeed m_teeth m_feedWords m_goWords m_facts m_pile m_levels m_best m_losses m_lossOf m_wasThere m_groupMany m_groupRow m_groupLoss m_isMarked] (some (.int o_r)) [wX11 G q_m o_m_thrown m_tape m_taped m_size m_sort m_place m_value m_at m_fault m_words m_rows m_op m_arg m_codes m_names m_ofFeed m_teeth m_feedWords m_goWords m_facts m_pile m_levels m_best m_losses m_lossOf m_wasThere m_groupMany m_groupRow m_groupLoss m_isMarked] := by
  refine MC.of pn_X11 (Nat.le_of_ble_eq_true rfl) (fun K hR hret => ?_)
  have hR : Rl l G RX11 cX11_gone 3 (RM 2) K := hR
  show K [wX11 G q_m m_thrown m_tape m_taped m_size m_sort m_place m_value m_at m_fault m_words m_rows m_op m_arg m_codes m_names m_ofFeed m_teeth m_feedWords m_goWords m_facts m_pile m_levels m_best m_losses m_lossOf m_wasThere m_groupMany m_groupRow m_groupLoss m_isMarked] [(0, .ref (q_m 0)), (1, .int l1), (2, .int l2)] 0 []
  have J24 : ∀ (m_thrown : Int32) (s0 : Int32) (s1 : Int32), f_X11_gone_B24  m_rows m_thrown s0 s1 = some (o_r, o_m_thrown) → K [wX11 G q_m m_thrown m_tape m_taped m_size m_sort m_place m_value m_at m_fault m_words m_rows m_op m_arg m_codes m_names m_ofFeed m_teeth m_feedWords m_goWords m_facts m_pile m_levels m_best m_losses m_lossOf m_wasThere m_groupMany m_groupRow m_groupLoss m_isMarked] [] 24 [.int s0, .int s1, .ref (q_m 0)] := by
    intro m_thrown s0 s1 hM
    obtain ⟨r_1, hc_, hM⟩ := bd_e hM
    refine st_callV hR (k_X11_of hc_) cf_X11_251 (rm_le (Nat.le_of_ble_eq_true rfl) (Nat.le_of_ble_eq_true rfl)) [0] rfl rfl rfl 0 0 10 30 rfl rfl rfl rfl (rest := []) rfl (Nat.le_of_ble_eq_true rfl) dX11_gone_24 (pc' := 27) rfl (Wn := [wX11 G q_m m_thrown m_tape m_taped m_size m_sort m_place m_value m_at m_fault m_words m_rows m_op m_arg m_codes m_names m_ofFeed m_teeth m_feedWords m_goWords m_facts m_pile m_levels m_best m_losses m_lossOf m_wasThere m_groupMany m_groupRow m_groupLoss m_isMarked]) rfl ?_
    refine st_goto hR dX11_gone_27 (tgt := 31) (by decide) ?_
    cases hM
    exact hret _ _ dX11_gone_31 (ro_i _)
  refine st_aload_n hR dX11_gone_0 0 rfl rfl (pc' := 1) rfl ?_
  refine st_iconst hR dX11_gone_1 (v := 0) rfl (pc' := 2) rfl ?_
  refine st_put hR dX11_gone_2 fp_X11_1_10_0 0 0 rfl rfl (Nat.le_of_ble_eq_true rfl) rfl rfl (pc' := 5) rfl (W' := [wX11 G q_m 0 m_tape m_taped m_size m_sort m_place m_value m_at m_fault m_words m_rows m_op m_arg m_codes m_names m_ofFeed m_teeth m_feedWords m_goWords m_facts m_pile m_levels m_best m_losses m_lossOf m_wasThere m_groupMany m_groupRow m_groupLoss m_isMarked]) rfl ?_
  refine st_aload_n hR dX11_gone_5 0 rfl rfl (pc' := 6) rfl ?_
  refine st_iload_n hR dX11_gone_6 1 rfl rfl (pc' := 7) rfl ?_
  obtain ⟨r_1, hc_, hM⟩ := bd_e hM
  refine st_callV hR (k_X11_isFarm hc_) cf_X11_298 (rm_le (Nat.le_of_ble_eq_true rfl) (Nat.le_of_ble_eq_true rfl)) [0] rfl rfl rfl 0 0 10 30 rfl rfl rfl rfl (rest := []) rfl (Nat.le_of_ble_eq_true rfl) dX11_gone_7 (pc' := 10) rfl (Wn := [wX11 G q_m 0 m_tape m_taped m_size m_sort m_place m_value m_at m_fault m_words m_rows m_op m_arg m_codes m_names m_ofFeed m_teeth m_feedWords m_goWords m_facts m_pile m_levels m_best m_losses m_lossOf m_wasThere m_groupMany m_groupRow m_groupLoss m_isMarked]) rfl ?_
  refine st_if_eq hR dX11_gone_10 (tgt := 30) (by decide) (pc' := 13) rfl (fun c_ => ?_) (fun c_ => ?_)
  · have hM := it_t c_ hM
    refine st_iconst hR dX11_gone_30 (v := (-1)) (by decide) (pc' := 31) rfl ?_
    cases hM
    exact hret _ _ dX11_gone_31 (ro_i _)
  · have hM := it_f c_ hM
    refine st_aload_n hR dX11_gone_13 0 rfl rfl (pc' := 14) rfl ?_
    refine st_iload_n hR dX11_gone_14 1 rfl rfl (pc' := 15) rfl ?_
    refine st_iload_n hR dX11_gone_15 2 rfl rfl (pc' := 16) rfl ?_
    refine st_if_eq hR dX11_gone_16 (tgt := 23) (by decide) (pc' := 19) rfl (fun c_ => ?_) (fun c_ => ?_)
    · have hM := it_t c_ hM
      refine st_iconst hR dX11_gone_23 (v := 4) rfl (pc' := 24) rfl ?_
      exact st_lv hR [] rfl (J24 _ _ _ hM)
    · have hM := it_f c_ hM
      refine st_iconst hR dX11_gone_19 (v := 5) rfl (pc' := 20) rfl ?_
      refine st_goto hR dX11_gone_20 (tgt := 24) (by decide) ?_
      exact st_lv hR [] rfl (J24 _ _ _ hM)
set_option maxHeartbeats 16000000 in
set_option maxRecDepth 100000 in
theorem k_X11_findLosses {l : Launch} {G : GG} {q_m : Nat → Nat} {m_thrown m_taped m_size m_at m_fault m_codes m_ofFeed m_teeth m_levels m_groupMany : Int32} {m_tape m_sort m_place m_rows m_op m_arg m_feedWords m_goWords m_facts m_pile m_best m_losses m_lossOf m_wasThere m_groupRow m_groupLoss m_isMarked : Nat → Int32} {m_value m_words m_names : Nat → Int64} {l1 : Int32} {o_m_rows : Nat → Int32} {o_m_facts : Nat → Int32} {o_m_pile : Nat → Int32} {o_m_best : Nat → Int32} {o_m_losses : Nat → Int32} (hM : f_X11_findLosses m_op m_arg m_levels m_rows m_facts m_pile m_best m_losses l1 = some (o_m_rows, o_m_facts, o_m_pile, o_m_best, o_m_losses)) : MC l G yX11_findLosses cX11_findLosses 4 none (RM 6) [.ref (q_m 0), .int l1] [wX11 G q_m m_thrown m_tape m_taped m_size m_sort m_place m_value m_at m_fault m_words m_rows m_op m_arg m_codes m_names m_ofFeed m_teeth m_feedWords m_goWords m_facts m_pile m_levels m_best m_losses m_lossOf m_wasThere m_groupMany m_groupRow m_groupLoss m_isMarked] none [wX11 G q_m m_thrown m_tape m_taped m_size m_sort m_place m_value m_at m_fault m_words o_m_rows m_op m_arg m_codes m_names m_ofFeed m_teeth m_feedWords m_goWords o_m_facts o_m_pile m_levels o_m_best o_m_losses m_lossOf m_wasThere m_groupMany m_groupRow m_groupLoss m_isMarked] := by
  refine MC.of pn_X11 (Nat.le_of_ble_eq_true rfl) (fun K hR hret => ?_)
  have hR : Rl l G RX11 cX11_findLosses 4 (RM 6) K := hR
  show K [wX11 G q_m m_thrown m_tape m_taped m_size m_sort m_place m_value m_at m_fault m_words m_rows m_op m_arg m_codes m_names m_ofFeed m_teeth m_feedWords m_goWords m_facts m_pile m_levels m_best m_losses m_lossOf m_wasThere m_groupMany m_groupRow m_groupLoss m_isMarked] [(0, .ref (q_m 0)), (1, .int l1)] 0 []
  have L14 : ∀ (n14 : Nat) (m_rows : Nat → Int32) (m_facts : Nat → Int32) (m_pile : Nat → Int32) (m_best : Nat → Int32) (m_losses : Nat → Int32) (l2 : Int32), f_X11_findLosses_L14  m_op m_arg m_levels n14 m_rows m_facts m_pile m_best m_losses l2 = some (o_m_rows, o_m_facts, o_m_pile, o_m_best, o_m_losses) → K [wX11 G q_m m_thrown m_tape m_taped m_size m_sort m_place m_value m_at m_fault m_words m_rows m_op m_arg m_codes m_names m_ofFeed m_teeth m_feedWords m_goWords m_facts m_pile m_levels m_best m_losses m_lossOf m_wasThere m_groupMany m_groupRow m_groupLoss m_isMarked] [(0, .ref (q_m 0)), (2, .int l2)] 14 [] := by
    intro n14
    induction n14 with
    | zero => intro m_rows m_facts m_pile m_best m_losses l2 hM; exact no_some hM
    | succ n14 ih14 =>
      intro m_rows m_facts m_pile m_best m_losses l2 hM
      have hM : f_X11_findLosses_L14b  (f_X11_findLosses_L14  m_op m_arg m_levels n14) m_op m_arg m_levels m_rows m_facts m_pile m_best m_losses l2 = some (o_m_rows, o_m_facts, o_m_pile, o_m_best, o_m_losses) := hM
      refine st_iload_n hR dX11_findLosses_14 1 rfl rfl (pc' := 15) rfl ?_
      refine st_aload_n hR dX11_findLosses_15 0 rfl rfl (pc' := 16) rfl ?_
      obtain ⟨r_1, hc_, hM⟩ := bd_e hM
      refine st_callV hR (k_X11_farms hc_) cf_X11_248 (rm_le (Nat.le_of_ble_eq_true rfl) (Nat.le_of_ble_eq_true rfl)) [0] rfl rfl rfl 0 0 10 30 rfl rfl rfl rfl (rest := [.int l2]) rfl (Nat.le_of_ble_eq_true rfl) dX11_findLosses_16 (pc' := 19) rfl (Wn := [wX11 G q_m m_thrown m_tape m_taped m_size m_sort m_place m_value m_at m_fault m_words m_rows m_op m_arg m_codes m_names m_ofFeed m_teeth m_feedWords m_goWords m_facts m_pile m_levels m_best m_losses m_lossOf m_wasThere m_groupMany m_groupRow m_groupLoss m_isMarked]) rfl ?_
      refine st_icmp_ge hR dX11_findLosses_19 (tgt := 74) (by decide) (pc' := 22) rfl (fun c_ => ?_) (fun c_ => ?_)
      · have hM := it_t c_ hM
        refine st_aload_n hR dX11_findLosses_74 0 rfl rfl (pc' := 75) rfl ?_
        refine st_bipush hR dX11_findLosses_75 (v := 6) rfl (pc' := 77) rfl ?_
        refine st_iconst hR dX11_findLosses_77 (v := 0) rfl (pc' := 78) rfl ?_
        obtain ⟨m_rows_1, hc_, hM⟩ := bd_e hM
        refine st_callV hR (k_X11_carry hc_) cf_X11_182 (rm_le (Nat.le_of_ble_eq_true rfl) (Nat.le_of_ble_eq_true rfl)) [0] rfl rfl rfl 0 0 10 30 rfl rfl rfl rfl (rest := []) rfl (Nat.le_of_ble_eq_true rfl) dX11_findLosses_78 (pc' := 81) rfl (Wn := [wX11 G q_m m_thrown m_tape m_taped m_size m_sort m_place m_value m_at m_fault m_words m_rows_1 m_op m_arg m_codes m_names m_ofFeed m_teeth m_feedWords m_goWords m_facts m_pile m_levels m_best m_losses m_lossOf m_wasThere m_groupMany m_groupRow m_groupLoss m_isMarked]) rfl ?_
        cases hM
        exact hret _ _ dX11_findLosses_81 ro_v
      · have hM := it_f c_ hM
        refine st_sipush hR dX11_findLosses_22 (v := 6008) rfl (pc' := 25) rfl ?_
        refine st_bipush hR dX11_findLosses_25 (v := 7) rfl (pc' := 27) rfl ?_
        refine st_iload_n hR dX11_findLosses_27 1 rfl rfl (pc' := 28) rfl ?_
        refine st_imul hR dX11_findLosses_28 (pc' := 29) rfl ?_
        refine st_iadd hR dX11_findLosses_29 (pc' := 30) rfl ?_
        refine st_topi (fun l3_1 e_ => ?_)
        have hM := lt_e e_ hM
        refine st_istore_n hR dX11_findLosses_30 rfl (Nat.le_of_ble_eq_true rfl) [1, 2, 0] (lv' := [(0, .ref (q_m 0)), (2, .int l2), (3, .int l3_1)]) rfl (pc' := 31) rfl ?_
        refine st_aload_n hR dX11_findLosses_31 0 rfl rfl (pc' := 32) rfl ?_
        refine st_get hR dX11_findLosses_32 fg_X11_99_10_23 0 0 rfl rfl rfl (pc' := 35) rfl ?_
        refine st_iload_n hR dX11_findLosses_35 1 rfl rfl (pc' := 36) rfl ?_
        refine st_aload_n hR dX11_findLosses_36 0 rfl rfl (pc' := 37) rfl ?_
        refine st_iload_n hR dX11_findLosses_37 1 rfl rfl (pc' := 38) rfl ?_
        refine st_iconst hR dX11_findLosses_38 (v := 4) rfl (pc' := 39) rfl ?_
        obtain ⟨r_2, hc_, hM⟩ := bd_e hM
        refine st_callV hR (k_X11_of hc_) cf_X11_251 (rm_le (Nat.le_of_ble_eq_true rfl) (Nat.le_of_ble_eq_true rfl)) [0] rfl rfl rfl 0 0 10 30 rfl rfl rfl rfl (rest := [.int l2, .ref (q_m 15)]) rfl (Nat.le_of_ble_eq_true rfl) dX11_findLosses_39 (pc' := 42) rfl (Wn := [wX11 G q_m m_thrown m_tape m_taped m_size m_sort m_place m_value m_at m_fault m_words m_rows m_op m_arg m_codes m_names m_ofFeed m_teeth m_feedWords m_goWords m_facts m_pile m_levels m_best m_losses m_lossOf m_wasThere m_groupMany m_groupRow m_groupLoss m_isMarked]) rfl ?_
        refine st_aload_n hR dX11_findLosses_42 0 rfl rfl (pc' := 43) rfl ?_
        refine st_get hR dX11_findLosses_43 fg_X11_69_10_10 0 0 rfl rfl rfl (pc' := 46) rfl ?_
        refine st_iload_n hR dX11_findLosses_46 2 rfl rfl (pc' := 47) rfl ?_
        refine st_iconst hR dX11_findLosses_47 (v := 4) rfl (pc' := 48) rfl ?_
        refine st_iadd hR dX11_findLosses_48 (pc' := 49) rfl ?_
        obtain ⟨hin_, hM⟩ := g_in_e hM
        refine st_iald hR dX11_findLosses_49 0 6 rfl rfl hin_ (v := m_rows (ix (l3_1 + 4))) rfl (pc' := 50) rfl ?_
        refine st_isub hR dX11_findLosses_50 (pc' := 51) rfl ?_
        refine st_aload_n hR dX11_findLosses_51 0 rfl rfl (pc' := 52) rfl ?_
        refine st_iload_n hR dX11_findLosses_52 1 rfl rfl (pc' := 53) rfl ?_
        refine st_iconst hR dX11_findLosses_53 (v := 5) rfl (pc' := 54) rfl ?_
        obtain ⟨r_3, hc_, hM⟩ := bd_e hM
        refine st_callV hR (k_X11_of hc_) cf_X11_251 (rm_le (Nat.le_of_ble_eq_true rfl) (Nat.le_of_ble_eq_true rfl)) [0] rfl rfl rfl 0 0 10 30 rfl rfl rfl rfl (rest := [.int (r_2 - (m_rows (ix (l3_1 + 4)))), .int l2, .ref (q_m 15)]) rfl (Nat.le_of_ble_eq_true rfl) dX11_findLosses_54 (pc' := 57) rfl (Wn := [wX11 G q_m m_thrown m_tape m_taped m_size m_sort m_place m_value m_at m_fault m_words m_rows m_op m_arg m_codes m_names m_ofFeed m_teeth m_feedWords m_goWords m_facts m_pile m_levels m_best m_losses m_lossOf m_wasThere m_groupMany m_groupRow m_groupLoss m_isMarked]) rfl ?_
        refine st_iadd hR dX11_findLosses_57 (pc' := 58) rfl ?_
        refine st_aload_n hR dX11_findLosses_58 0 rfl rfl (pc' := 59) rfl ?_
        refine st_get hR dX11_findLosses_59 fg_X11_69_10_10 0 0 rfl rfl rfl (pc' := 62) rfl ?_
        refine st_iload_n hR dX11_findLosses_62 2 rfl rfl (pc' := 63) rfl ?_
        refine st_iconst hR dX11_findLosses_63 (v := 5) rfl (pc' := 64) rfl ?_
        refine st_iadd hR dX11_findLosses_64 (pc' := 65) rfl ?_
        obtain ⟨hin_, hM⟩ := g_in_e hM
        refine st_iald hR dX11_findLosses_65 0 6 rfl rfl hin_ (v := m_rows (ix (l3_1 + 5))) rfl (pc' := 66) rfl ?_
        refine st_isub hR dX11_findLosses_66 (pc' := 67) rfl ?_
        obtain ⟨hin_, hM⟩ := g_in_e hM
        refine st_iast hR dX11_findLosses_67 0 15 rfl rfl hin_ (ix := (ix l2)) rfl (pc' := 68) rfl (fun m_losses_1 => [wX11 G q_m m_thrown m_tape m_taped m_size m_sort m_place m_value m_at m_fault m_words m_rows m_op m_arg m_codes m_names m_ofFeed m_teeth m_feedWords m_goWords m_facts m_pile m_levels m_best m_losses_1 m_lossOf m_wasThere m_groupMany m_groupRow m_groupLoss m_isMarked]) (fun _ => rfl) (fun m_losses_1 e_ => ?_)
        have hM := lt_e e_ hM
        obtain ⟨l2_1, e_⟩ : ∃ y : Int32, y = l2 + 1 := ⟨_, rfl⟩
        refine st_iinc hR dX11_findLosses_68 (Nat.le_of_ble_eq_true rfl) 1 [1, 0, 2] (v := l2_1) rfl (by rw [e_]; rfl) (lv' := [(0, .ref (q_m 0)), (2, .int l2_1), (3, .int l3_1)]) rfl (pc' := 71) rfl ?_
        have hM := lt_e e_ hM
        refine st_goto hR dX11_findLosses_71 (tgt := 14) (by decide) ?_
        exact st_lv hR [0, 1] rfl (ih14 _ _ _ _ _ _ hM)
  refine st_aload_n hR dX11_findLosses_0 0 rfl rfl (pc' := 1) rfl ?_
  refine st_iconst hR dX11_findLosses_1 (v := 0) rfl (pc' := 2) rfl ?_
  refine st_bipush hR dX11_findLosses_2 (v := 6) rfl (pc' := 4) rfl ?_
  obtain ⟨m_rows_1, hc_, hM⟩ := bd_e hM
  refine st_callV hR (k_X11_carry hc_) cf_X11_182 (rm_le (Nat.le_of_ble_eq_true rfl) (Nat.le_of_ble_eq_true rfl)) [0] rfl rfl rfl 0 0 10 30 rfl rfl rfl rfl (rest := []) rfl (Nat.le_of_ble_eq_true rfl) dX11_findLosses_4 (pc' := 7) rfl (Wn := [wX11 G q_m m_thrown m_tape m_taped m_size m_sort m_place m_value m_at m_fault m_words m_rows_1 m_op m_arg m_codes m_names m_ofFeed m_teeth m_feedWords m_goWords m_facts m_pile m_levels m_best m_losses m_lossOf m_wasThere m_groupMany m_groupRow m_groupLoss m_isMarked]) rfl ?_
  refine st_aload_n hR dX11_findLosses_7 0 rfl rfl (pc' := 8) rfl ?_
  refine st_iload_n hR dX11_findLosses_8 1 rfl rfl (pc' := 9) rfl ?_
  obtain ⟨⟨m_rows_2, m_facts_1, m_pile_1, m_best_1⟩, hc_, hM⟩ := bd_e hM
  refine st_callV hR (k_X11_passes hc_) cf_X11_308 (rm_le (Nat.le_of_ble_eq_true rfl) (Nat.le_of_ble_eq_true rfl)) [0] rfl rfl rfl 0 0 10 30 rfl rfl rfl rfl (rest := []) rfl (Nat.le_of_ble_eq_true rfl) dX11_findLosses_9 (pc' := 12) rfl (Wn := [wX11 G q_m m_thrown m_tape m_taped m_size m_sort m_place m_value m_at m_fault m_words m_rows_2 m_op m_arg m_codes m_names m_ofFeed m_teeth m_feedWords m_goWords m_facts_1 m_pile_1 m_levels m_best_1 m_losses m_lossOf m_wasThere m_groupMany m_groupRow m_groupLoss m_isMarked]) rfl ?_
  refine st_iconst hR dX11_findLosses_12 (v := 0) rfl (pc' := 13) rfl ?_
  refine st_istore_n hR dX11_findLosses_13 rfl (Nat.le_of_ble_eq_true rfl) [1, 2, 0] (lv' := [(0, .ref (q_m 0)), (1, .int l1), (2, .int 0)]) rfl (pc' := 14) rfl ?_
  exact st_lv hR [0, 2] rfl (L14 FU _ _ _ _ _ _ hM)
set_option maxHeartbeats 16000000 in
set_option maxRecDepth 100000 in
theorem k_X11_areNights {l : Launch} {G : GG}  {l0 : Int32} {o_r : Int32} (hM : f_X11_areNights l0 = some o_r) : MC l G yX11_areNights cX11_areNights 1 (some .boolean) (RM 1) [.int l0] [] (some (.int o_r)) [] := by
  refine MC.of pn_X11 (Nat.le_of_ble_eq_true rfl) (fun K hR hret => ?_)
  have hR : Rl l G RX11 cX11_areNights 1 (RM 1) K := hR
  show K [] [(0, .int l0)] 0 []
  refine st_iload_n hR dX11_areNights_0 0 rfl rfl (pc' := 1) rfl ?_
  refine st_iconst hR dX11_areNights_1 (v := 1) rfl (pc' := 2) rfl ?_
  refine st_bipush hR dX11_areNights_2 (v := 28) rfl (pc' := 4) rfl ?_
  obtain ⟨r_1, hc_, hM⟩ := bd_e hM
  refine st_callS hR (k_X11_within hc_) cf_X11_301 (rm_le (Nat.le_of_ble_eq_true rfl) (Nat.le_of_ble_eq_true rfl)) [] rfl rfl rfl rfl (rest := []) rfl (Nat.le_of_ble_eq_true rfl) dX11_areNights_4 (pc' := 7) rfl (Wn := []) rfl ?_
  obtain ⟨hz_, hM⟩ := g_z_e hM
  cases hM
  exact hret _ _ dX11_areNights_7 (ro_z hz_)
set_option maxHeartbeats 16000000 in
set_option maxRecDepth 100000 in
theorem k_X11_loss {l : Launch} {G : GG} {q_m : Nat → Nat} {m_thrown m_taped m_size m_at m_fault m_codes m_ofFeed m_teeth m_levels m_groupMany : Int32} {m_tape m_sort m_place m_rows m_op m_arg m_feedWords m_goWords m_facts m_pile m_best m_losses m_lossOf m_wasThere m_groupRow m_groupLoss m_isMarked : Nat → Int32} {m_value m_words m_names : Nat → Int64} {l1 l2 : Int32} {o_r : Int32} {o_m_thrown : Int32} {o_m_rows : Nat → Int32} {o_m_facts : Nat → Int32} {o_m_pile : Nat → Int32} {o_m_best : Nat → Int32} {o_m_losses : Nat → Int32} (hM : f_X11_loss m_op m_arg m_levels m_thrown m_rows m_facts m_pile m_best m_losses l1 l2 = some (o_r, o_m_thrown, o_m_rows, o_m_facts, o_m_pile, o_m_best, o_m_losses)) : MC l G yX11_loss cX11_loss 3 (some .int) (RM 7) [.ref (q_m 0), .int l1, .int l2] [wX11 G q_m m_thrown m_tape m_taped m_size m_sort m_place m_value m_at m_fault m_words m_rows m_op m_arg m_codes m_names m_ofFeed m_teeth m_feedWords m_goWords m_facts m_pile m_levels m_best m_losses m_lossOf m_wasThere m_groupMany m_groupRow m_groupLoss m_isMarked] (some (.int o_r)) [wX11 G q_m o_m_thrown m_tape m_taped m_size m_sort m_place m_value m_at m_fault m_words o_m_rows m_op m_arg m_codes m_names m_ofFeed m_teeth m_feedWords m_goWords o_m_facts o_m_pile m_levels o_m_best o_m_losses m_lossOf m_wasThere m_groupMany m_groupRow m_groupLoss m_isMarked] := by
  refine MC.of pn_X11 (Nat.le_of_ble_eq_true rfl) (fun K hR hret => ?_)
  have hR : Rl l G RX11 cX11_loss 3 (RM 7) K := hR
  show K [wX11 G q_m m_thrown m_tape m_taped m_size m_sort m_place m_value m_at m_fault m_words m_rows m_op m_arg m_codes m_names m_ofFeed m_teeth m_feedWords m_goWords m_facts m_pile m_levels m_best m_losses m_lossOf m_wasThere m_groupMany m_groupRow m_groupLoss m_isMarked] [(0, .ref (q_m 0)), (1, .int l1), (2, .int l2)] 0 []
  refine st_aload_n hR dX11_loss_0 0 rfl rfl (pc' := 1) rfl ?_
  refine st_iconst hR dX11_loss_1 (v := 0) rfl (pc' := 2) rfl ?_
  refine st_put hR dX11_loss_2 fp_X11_1_10_0 0 0 rfl rfl (Nat.le_of_ble_eq_true rfl) rfl rfl (pc' := 5) rfl (W' := [wX11 G q_m 0 m_tape m_taped m_size m_sort m_place m_value m_at m_fault m_words m_rows m_op m_arg m_codes m_names m_ofFeed m_teeth m_feedWords m_goWords m_facts m_pile m_levels m_best m_losses m_lossOf m_wasThere m_groupMany m_groupRow m_groupLoss m_isMarked]) rfl ?_
  refine st_aload_n hR dX11_loss_5 0 rfl rfl (pc' := 6) rfl ?_
  refine st_iload_n hR dX11_loss_6 1 rfl rfl (pc' := 7) rfl ?_
  obtain ⟨r_1, hc_, hM⟩ := bd_e hM
  refine st_callV hR (k_X11_isFarm hc_) cf_X11_298 (rm_le (Nat.le_of_ble_eq_true rfl) (Nat.le_of_ble_eq_true rfl)) [0] rfl rfl rfl 0 0 10 30 rfl rfl rfl rfl (rest := []) rfl (Nat.le_of_ble_eq_true rfl) dX11_loss_7 (pc' := 10) rfl (Wn := [wX11 G q_m 0 m_tape m_taped m_size m_sort m_place m_value m_at m_fault m_words m_rows m_op m_arg m_codes m_names m_ofFeed m_teeth m_feedWords m_goWords m_facts m_pile m_levels m_best m_losses m_lossOf m_wasThere m_groupMany m_groupRow m_groupLoss m_isMarked]) rfl ?_
  refine st_if_eq hR dX11_loss_10 (tgt := 20) (by decide) (pc' := 13) rfl (fun c_ => ?_) (fun c_ => ?_)
  · have hM := it_t c_ hM
    refine st_iconst hR dX11_loss_20 (v := (-1)) (by decide) (pc' := 21) rfl ?_
    cases hM
    exact hret _ _ dX11_loss_21 (ro_i _)
  · have hM := it_f c_ hM
    refine st_iload_n hR dX11_loss_13 2 rfl rfl (pc' := 14) rfl ?_
    obtain ⟨r_2, hc_, hM⟩ := bd_e hM
    refine st_callS hR (k_X11_areNights hc_) cf_X11_311 (rm_le (Nat.le_of_ble_eq_true rfl) (Nat.le_of_ble_eq_true rfl)) [] rfl rfl rfl rfl (rest := []) rfl (Nat.le_of_ble_eq_true rfl) dX11_loss_14 (pc' := 17) rfl (Wn := [wX11 G q_m 0 m_tape m_taped m_size m_sort m_place m_value m_at m_fault m_words m_rows m_op m_arg m_codes m_names m_ofFeed m_teeth m_feedWords m_goWords m_facts m_pile m_levels m_best m_losses m_lossOf m_wasThere m_groupMany m_groupRow m_groupLoss m_isMarked]) rfl ?_
    refine st_if_ne hR dX11_loss_17 (tgt := 22) (by decide) (pc' := 20) rfl (fun c_ => ?_) (fun c_ => ?_)
    · have hM := it_f c_ hM
      refine st_aload_n hR dX11_loss_22 0 rfl rfl (pc' := 23) rfl ?_
      refine st_iload_n hR dX11_loss_23 2 rfl rfl (pc' := 24) rfl ?_
      obtain ⟨⟨m_rows_1, m_facts_1, m_pile_1, m_best_1, m_losses_1⟩, hc_, hM⟩ := bd_e hM
      refine st_callV hR (k_X11_findLosses hc_) cf_X11_314 (rm_le (Nat.le_of_ble_eq_true rfl) (Nat.le_of_ble_eq_true rfl)) [0] rfl rfl rfl 0 0 10 30 rfl rfl rfl rfl (rest := []) rfl (Nat.le_of_ble_eq_true rfl) dX11_loss_24 (pc' := 27) rfl (Wn := [wX11 G q_m 0 m_tape m_taped m_size m_sort m_place m_value m_at m_fault m_words m_rows_1 m_op m_arg m_codes m_names m_ofFeed m_teeth m_feedWords m_goWords m_facts_1 m_pile_1 m_levels m_best_1 m_losses_1 m_lossOf m_wasThere m_groupMany m_groupRow m_groupLoss m_isMarked]) rfl ?_
      refine st_aload_n hR dX11_loss_27 0 rfl rfl (pc' := 28) rfl ?_
      refine st_get hR dX11_loss_28 fg_X11_99_10_23 0 0 rfl rfl rfl (pc' := 31) rfl ?_
      refine st_iload_n hR dX11_loss_31 1 rfl rfl (pc' := 32) rfl ?_
      obtain ⟨hin_, hM⟩ := g_in_e hM
      refine st_iald hR dX11_loss_32 0 15 rfl rfl hin_ (v := m_losses_1 (ix l1)) rfl (pc' := 33) rfl ?_
      cases hM
      exact hret _ _ dX11_loss_33 (ro_i _)
    · have hM := it_t c_ hM
      refine st_iconst hR dX11_loss_20 (v := (-1)) (by decide) (pc' := 21) rfl ?_
      cases hM
      exact hret _ _ dX11_loss_21 (ro_i _)
set_option maxHeartbeats 16000000 in
set_option maxRecDepth 100000 in
theorem k_X11_gameRows {l : Launch} {G : GG} {q_m : Nat → Nat} {m_thrown m_taped m_size m_at m_fault m_codes m_ofFeed m_teeth m_levels m_groupMany : Int32} {m_tape m_sort m_place m_rows m_op m_arg m_feedWords m_goWords m_facts m_pile m_best m_losses m_lossOf m_wasThere m_groupRow m_groupLoss m_isMarked : Nat → Int32} {m_value m_words m_names : Nat → Int64}  {o_r : Int32} (hM : f_X11_gameRows m_rows = some o_r) : MC l G yX11_gameRows cX11_gameRows 1 (some .int) (RM 1) [.ref (q_m 0)] [wX11 G q_m m_thrown m_tape m_taped m_size m_sort m_place m_value m_at m_fault m_words m_rows m_op m_arg m_codes m_names m_ofFeed m_teeth m_feedWords m_goWords m_facts m_pile m_levels m_best m_losses m_lossOf m_wasThere m_groupMany m_groupRow m_groupLoss m_isMarked] (some (.int o_r)) [wX11 G q_m m_thrown m_tape m_taped m_size m_sort m_place m_value m_at m_fault m_words m_rows m_op m_arg m_codes m_names m_ofFeed m_teeth m_feedWords m_goWords m_facts m_pile m_levels m_best m_losses m_lossOf m_wasThere m_groupMany m_groupRow m_groupLoss m_isMarked] := by
  refine MC.of pn_X11 (Nat.le_of_ble_eq_true rfl) (fun K hR hret => ?_)
  have hR : Rl l G RX11 cX11_gameRows 1 (RM 1) K := hR
  show K [wX11 G q_m m_thrown m_tape m_taped m_size m_sort m_place m_value m_at m_fault m_words m_rows m_op m_arg m_codes m_names m_ofFeed m_teeth m_feedWords m_goWords m_facts m_pile m_levels m_best m_losses m_lossOf m_wasThere m_groupMany m_groupRow m_groupLoss m_isMarked] [(0, .ref (q_m 0))] 0 []
  refine st_iconst hR dX11_gameRows_0 (v := 1) rfl (pc' := 1) rfl ?_
  refine st_iconst hR dX11_gameRows_1 (v := 2) rfl (pc' := 2) rfl ?_
  refine st_aload_n hR dX11_gameRows_2 0 rfl rfl (pc' := 3) rfl ?_
  obtain ⟨r_1, hc_, hM⟩ := bd_e hM
  refine st_callV hR (k_X11_farms hc_) cf_X11_248 (rm_le (Nat.le_of_ble_eq_true rfl) (Nat.le_of_ble_eq_true rfl)) [0] rfl rfl rfl 0 0 10 30 rfl rfl rfl rfl (rest := [.int 2, .int 1]) rfl (Nat.le_of_ble_eq_true rfl) dX11_gameRows_3 (pc' := 6) rfl (Wn := [wX11 G q_m m_thrown m_tape m_taped m_size m_sort m_place m_value m_at m_fault m_words m_rows m_op m_arg m_codes m_names m_ofFeed m_teeth m_feedWords m_goWords m_facts m_pile m_levels m_best m_losses m_lossOf m_wasThere m_groupMany m_groupRow m_groupLoss m_isMarked]) rfl ?_
  refine st_imul hR dX11_gameRows_6 (pc' := 7) rfl ?_
  refine st_ishl hR dX11_gameRows_7 (pc' := 8) rfl ?_
  cases hM
  exact hret _ _ dX11_gameRows_8 (ro_i _)
set_option maxHeartbeats 16000000 in
set_option maxRecDepth 100000 in
theorem k_X11_isGame {l : Launch} {G : GG} {q_m : Nat → Nat} {m_thrown m_taped m_size m_at m_fault m_codes m_ofFeed m_teeth m_levels m_groupMany : Int32} {m_tape m_sort m_place m_rows m_op m_arg m_feedWords m_goWords m_facts m_pile m_best m_losses m_lossOf m_wasThere m_groupRow m_groupLoss m_isMarked : Nat → Int32} {m_value m_words m_names : Nat → Int64} {l1 : Int32} {o_r : Int32} (hM : f_X11_isGame m_rows l1 = some o_r) : MC l G yX11_isGame cX11_isGame 2 (some .boolean) (RM 2) [.ref (q_m 0), .int l1] [wX11 G q_m m_thrown m_tape m_taped m_size m_sort m_place m_value m_at m_fault m_words m_rows m_op m_arg m_codes m_names m_ofFeed m_teeth m_feedWords m_goWords m_facts m_pile m_levels m_best m_losses m_lossOf m_wasThere m_groupMany m_groupRow m_groupLoss m_isMarked] (some (.int o_r)) [wX11 G q_m m_thrown m_tape m_taped m_size m_sort m_place m_value m_at m_fault m_words m_rows m_op m_arg m_codes m_names m_ofFeed m_teeth m_feedWords m_goWords m_facts m_pile m_levels m_best m_losses m_lossOf m_wasThere m_groupMany m_groupRow m_groupLoss m_isMarked] := by
  refine MC.of pn_X11 (Nat.le_of_ble_eq_true rfl) (fun K hR hret => ?_)
  have hR : Rl l G RX11 cX11_isGame 2 (RM 2) K := hR
  show K [wX11 G q_m m_thrown m_tape m_taped m_size m_sort m_place m_value m_at m_fault m_words m_rows m_op m_arg m_codes m_names m_ofFeed m_teeth m_feedWords m_goWords m_facts m_pile m_levels m_best m_losses m_lossOf m_wasThere m_groupMany m_groupRow m_groupLoss m_isMarked] [(0, .ref (q_m 0)), (1, .int l1)] 0 []
  refine st_iload_n hR dX11_isGame_0 1 rfl rfl (pc' := 1) rfl ?_
  obtain ⟨r_1, hc_, hM⟩ := bd_e hM
  refine st_callS hR (k_X11_areNights hc_) cf_X11_311 (rm_le (Nat.le_of_ble_eq_true rfl) (Nat.le_of_ble_eq_true rfl)) [] rfl rfl rfl rfl (rest := []) rfl (Nat.le_of_ble_eq_true rfl) dX11_isGame_1 (pc' := 4) rfl (Wn := [wX11 G q_m m_thrown m_tape m_taped m_size m_sort m_place m_value m_at m_fault m_words m_rows m_op m_arg m_codes m_names m_ofFeed m_teeth m_feedWords m_goWords m_facts m_pile m_levels m_best m_losses m_lossOf m_wasThere m_groupMany m_groupRow m_groupLoss m_isMarked]) rfl ?_
  refine st_if_eq hR dX11_isGame_4 (tgt := 19) (by decide) (pc' := 7) rfl (fun c_ => ?_) (fun c_ => ?_)
  · have hM := it_t c_ hM
    refine st_iconst hR dX11_isGame_19 (v := 0) rfl (pc' := 20) rfl ?_
    cases hM
    exact hret _ _ dX11_isGame_20 (ro_z (Or.inl rfl))
  · have hM := it_f c_ hM
    refine st_aload_n hR dX11_isGame_7 0 rfl rfl (pc' := 8) rfl ?_
    obtain ⟨r_2, hc_, hM⟩ := bd_e hM
    refine st_callV hR (k_X11_farms hc_) cf_X11_248 (rm_le (Nat.le_of_ble_eq_true rfl) (Nat.le_of_ble_eq_true rfl)) [0] rfl rfl rfl 0 0 10 30 rfl rfl rfl rfl (rest := []) rfl (Nat.le_of_ble_eq_true rfl) dX11_isGame_8 (pc' := 11) rfl (Wn := [wX11 G q_m m_thrown m_tape m_taped m_size m_sort m_place m_value m_at m_fault m_words m_rows m_op m_arg m_codes m_names m_ofFeed m_teeth m_feedWords m_goWords m_facts m_pile m_levels m_best m_losses m_lossOf m_wasThere m_groupMany m_groupRow m_groupLoss m_isMarked]) rfl ?_
    refine st_iconst hR dX11_isGame_11 (v := 4) rfl (pc' := 12) rfl ?_
    refine st_icmp_gt hR dX11_isGame_12 (tgt := 19) (by decide) (pc' := 15) rfl (fun c_ => ?_) (fun c_ => ?_)
    · have hM := it_t c_ hM
      refine st_iconst hR dX11_isGame_19 (v := 0) rfl (pc' := 20) rfl ?_
      cases hM
      exact hret _ _ dX11_isGame_20 (ro_z (Or.inl rfl))
    · have hM := it_f c_ hM
      refine st_iconst hR dX11_isGame_15 (v := 1) rfl (pc' := 16) rfl ?_
      refine st_goto hR dX11_isGame_16 (tgt := 20) (by decide) ?_
      cases hM
      exact hret _ _ dX11_isGame_20 (ro_z (Or.inr rfl))
set_option maxHeartbeats 16000000 in
set_option maxRecDepth 100000 in
theorem k_X11_findGame {l : Launch} {G : GG} {q_m : Nat → Nat} {m_thrown m_taped m_size m_at m_fault m_codes m_ofFeed m_teeth m_levels m_groupMany : Int32} {m_tape m_sort m_place m_rows m_op m_arg m_feedWords m_goWords m_facts m_pile m_best m_losses m_lossOf m_wasThere m_groupRow m_groupLoss m_isMarked : Nat → Int32} {m_value m_words m_names : Nat → Int64} {l1 : Int32} {o_m_rows : Nat → Int32} {o_m_facts : Nat → Int32} {o_m_pile : Nat → Int32} {o_m_levels : Int32} {o_m_best : Nat → Int32} {o_m_losses : Nat → Int32} {o_m_lossOf : Nat → Int32} (hM : f_X11_findGame m_op m_arg m_rows m_facts m_pile m_levels m_best m_losses m_lossOf l1 = some (o_m_rows, o_m_facts, o_m_pile, o_m_levels, o_m_best, o_m_losses, o_m_lossOf)) : MC l G yX11_findGame cX11_findGame 4 none (RM 7) [.ref (q_m 0), .int l1] [wX11 G q_m m_thrown m_tape m_taped m_size m_sort m_place m_value m_at m_fault m_words m_rows m_op m_arg m_codes m_names m_ofFeed m_teeth m_feedWords m_goWords m_facts m_pile m_levels m_best m_losses m_lossOf m_wasThere m_groupMany m_groupRow m_groupLoss m_isMarked] none [wX11 G q_m m_thrown m_tape m_taped m_size m_sort m_place m_value m_at m_fault m_words o_m_rows m_op m_arg m_codes m_names m_ofFeed m_teeth m_feedWords m_goWords o_m_facts o_m_pile o_m_levels o_m_best o_m_losses o_m_lossOf m_wasThere m_groupMany m_groupRow m_groupLoss m_isMarked] := by
  refine MC.of pn_X11 (Nat.le_of_ble_eq_true rfl) (fun K hR hret => ?_)
  have hR : Rl l G RX11 cX11_findGame 4 (RM 7) K := hR
  show K [wX11 G q_m m_thrown m_tape m_taped m_size m_sort m_place m_value m_at m_fault m_words m_rows m_op m_arg m_codes m_names m_ofFeed m_teeth m_feedWords m_goWords m_facts m_pile m_levels m_best m_losses m_lossOf m_wasThere m_groupMany m_groupRow m_groupLoss m_isMarked] [(0, .ref (q_m 0)), (1, .int l1)] 0 []
  have L2 : ∀ (n2 : Nat) (m_rows : Nat → Int32) (m_facts : Nat → Int32) (m_pile : Nat → Int32) (m_levels : Int32) (m_best : Nat → Int32) (m_losses : Nat → Int32) (m_lossOf : Nat → Int32) (l1 : Int32) (l2 : Int32), f_X11_findGame_L2  m_op m_arg n2 m_rows m_facts m_pile m_levels m_best m_losses m_lossOf l1 l2 = some (o_m_rows, o_m_facts, o_m_pile, o_m_levels, o_m_best, o_m_losses, o_m_lossOf) → K [wX11 G q_m m_thrown m_tape m_taped m_size m_sort m_place m_value m_at m_fault m_words m_rows m_op m_arg m_codes m_names m_ofFeed m_teeth m_feedWords m_goWords m_facts m_pile m_levels m_best m_losses m_lossOf m_wasThere m_groupMany m_groupRow m_groupLoss m_isMarked] [(0, .ref (q_m 0)), (1, .int l1), (2, .int l2)] 2 [] := by
    intro n2
    induction n2 with
    | zero => intro m_rows m_facts m_pile m_levels m_best m_losses m_lossOf l1 l2 hM; exact no_some hM
    | succ n2 ih2 =>
      have L22 : ∀ (n22 : Nat) (m_rows : Nat → Int32) (m_facts : Nat → Int32) (m_pile : Nat → Int32) (m_levels : Int32) (m_best : Nat → Int32) (m_losses : Nat → Int32) (m_lossOf : Nat → Int32) (l1 : Int32) (l2 : Int32) (l3 : Int32), f_X11_findGame_L22  (f_X11_findGame_L2  m_op m_arg n2) m_op m_arg n22 m_rows m_facts m_pile m_levels m_best m_losses m_lossOf l1 l2 l3 = some (o_m_rows, o_m_facts, o_m_pile, o_m_levels, o_m_best, o_m_losses, o_m_lossOf) → K [wX11 G q_m m_thrown m_tape m_taped m_size m_sort m_place m_value m_at m_fault m_words m_rows m_op m_arg m_codes m_names m_ofFeed m_teeth m_feedWords m_goWords m_facts m_pile m_levels m_best m_losses m_lossOf m_wasThere m_groupMany m_groupRow m_groupLoss m_isMarked] [(0, .ref (q_m 0)), (1, .int l1), (2, .int l2), (3, .int l3)] 22 [] := by
        intro n22
        induction n22 with
        | zero => intro m_rows m_facts m_pile m_levels m_best m_losses m_lossOf l1 l2 l3 hM; exact no_some hM
        | succ n22 ih22 =>
          intro m_rows m_facts m_pile m_levels m_best m_losses m_lossOf l1 l2 l3 hM
          have hM : f_X11_findGame_L22b  (f_X11_findGame_L2  m_op m_arg n2) (f_X11_findGame_L22  (f_X11_findGame_L2  m_op m_arg n2) m_op m_arg n22) m_op m_arg m_rows m_facts m_pile m_levels m_best m_losses m_lossOf l1 l2 l3 = some (o_m_rows, o_m_facts, o_m_pile, o_m_levels, o_m_best, o_m_losses, o_m_lossOf) := hM
          refine st_iload_n hR dX11_findGame_22 3 rfl rfl (pc' := 23) rfl ?_
          refine st_aload_n hR dX11_findGame_23 0 rfl rfl (pc' := 24) rfl ?_
          obtain ⟨r_1, hc_, hM⟩ := bd_e hM
          refine st_callV hR (k_X11_farms hc_) cf_X11_248 (rm_le (Nat.le_of_ble_eq_true rfl) (Nat.le_of_ble_eq_true rfl)) [0] rfl rfl rfl 0 0 10 30 rfl rfl rfl rfl (rest := [.int l3]) rfl (Nat.le_of_ble_eq_true rfl) dX11_findGame_24 (pc' := 27) rfl (Wn := [wX11 G q_m m_thrown m_tape m_taped m_size m_sort m_place m_value m_at m_fault m_words m_rows m_op m_arg m_codes m_names m_ofFeed m_teeth m_feedWords m_goWords m_facts m_pile m_levels m_best m_losses m_lossOf m_wasThere m_groupMany m_groupRow m_groupLoss m_isMarked]) rfl ?_
          refine st_icmp_ge hR dX11_findGame_27 (tgt := 52) (by decide) (pc' := 30) rfl (fun c_ => ?_) (fun c_ => ?_)
          · have hM := it_t c_ hM
            obtain ⟨l2_1, e_⟩ : ∃ y : Int32, y = l2 + 1 := ⟨_, rfl⟩
            refine st_iinc hR dX11_findGame_52 (Nat.le_of_ble_eq_true rfl) 2 [1, 2, 0, 3] (v := l2_1) rfl (by rw [e_]; rfl) (lv' := [(0, .ref (q_m 0)), (1, .int l1), (2, .int l2_1), (3, .int l3)]) rfl (pc' := 55) rfl ?_
            have hM := lt_e e_ hM
            refine st_goto hR dX11_findGame_55 (tgt := 2) (by decide) ?_
            exact st_lv hR [0, 1, 2] rfl (ih2 _ _ _ _ _ _ _ _ _ hM)
          · have hM := it_f c_ hM
            refine st_aload_n hR dX11_findGame_30 0 rfl rfl (pc' := 31) rfl ?_
            refine st_get hR dX11_findGame_31 fg_X11_102_10_24 0 0 rfl rfl rfl (pc' := 34) rfl ?_
            refine st_iconst hR dX11_findGame_34 (v := 4) rfl (pc' := 35) rfl ?_
            refine st_iload_n hR dX11_findGame_35 2 rfl rfl (pc' := 36) rfl ?_
            refine st_imul hR dX11_findGame_36 (pc' := 37) rfl ?_
            refine st_iload_n hR dX11_findGame_37 3 rfl rfl (pc' := 38) rfl ?_
            refine st_iadd hR dX11_findGame_38 (pc' := 39) rfl ?_
            refine st_aload_n hR dX11_findGame_39 0 rfl rfl (pc' := 40) rfl ?_
            refine st_get hR dX11_findGame_40 fg_X11_99_10_23 0 0 rfl rfl rfl (pc' := 43) rfl ?_
            refine st_iload_n hR dX11_findGame_43 3 rfl rfl (pc' := 44) rfl ?_
            obtain ⟨hin_, hM⟩ := g_in_e hM
            refine st_iald hR dX11_findGame_44 0 15 rfl rfl hin_ (v := m_losses (ix l3)) rfl (pc' := 45) rfl ?_
            obtain ⟨hin_, hM⟩ := g_in_e hM
            refine st_iast hR dX11_findGame_45 0 16 rfl rfl hin_ (ix := (ix ((4 * l2) + l3))) rfl (pc' := 46) rfl (fun m_lossOf_1 => [wX11 G q_m m_thrown m_tape m_taped m_size m_sort m_place m_value m_at m_fault m_words m_rows m_op m_arg m_codes m_names m_ofFeed m_teeth m_feedWords m_goWords m_facts m_pile m_levels m_best m_losses m_lossOf_1 m_wasThere m_groupMany m_groupRow m_groupLoss m_isMarked]) (fun _ => rfl) (fun m_lossOf_1 e_ => ?_)
            have hM := lt_e e_ hM
            obtain ⟨l3_1, e_⟩ : ∃ y : Int32, y = l3 + 1 := ⟨_, rfl⟩
            refine st_iinc hR dX11_findGame_46 (Nat.le_of_ble_eq_true rfl) 3 [1, 2, 3, 0] (v := l3_1) rfl (by rw [e_]; rfl) (lv' := [(0, .ref (q_m 0)), (1, .int l1), (2, .int l2), (3, .int l3_1)]) rfl (pc' := 49) rfl ?_
            have hM := lt_e e_ hM
            refine st_goto hR dX11_findGame_49 (tgt := 22) (by decide) ?_
            exact ih22 _ _ _ _ _ _ _ _ _ _ hM
      intro m_rows m_facts m_pile m_levels m_best m_losses m_lossOf l1 l2 hM
      have hM : f_X11_findGame_L2b  (f_X11_findGame_L2  m_op m_arg n2) m_op m_arg m_rows m_facts m_pile m_levels m_best m_losses m_lossOf l1 l2 = some (o_m_rows, o_m_facts, o_m_pile, o_m_levels, o_m_best, o_m_losses, o_m_lossOf) := hM
      refine st_iload_n hR dX11_findGame_2 2 rfl rfl (pc' := 3) rfl ?_
      refine st_aload_n hR dX11_findGame_3 0 rfl rfl (pc' := 4) rfl ?_
      obtain ⟨r_1, hc_, hM⟩ := bd_e hM
      refine st_callV hR (k_X11_gameRows hc_) cf_X11_317 (rm_le (Nat.le_of_ble_eq_true rfl) (Nat.le_of_ble_eq_true rfl)) [0] rfl rfl rfl 0 0 10 30 rfl rfl rfl rfl (rest := [.int l2]) rfl (Nat.le_of_ble_eq_true rfl) dX11_findGame_4 (pc' := 7) rfl (Wn := [wX11 G q_m m_thrown m_tape m_taped m_size m_sort m_place m_value m_at m_fault m_words m_rows m_op m_arg m_codes m_names m_ofFeed m_teeth m_feedWords m_goWords m_facts m_pile m_levels m_best m_losses m_lossOf m_wasThere m_groupMany m_groupRow m_groupLoss m_isMarked]) rfl ?_
      refine st_icmp_ge hR dX11_findGame_7 (tgt := 58) (by decide) (pc' := 10) rfl (fun c_ => ?_) (fun c_ => ?_)
      · have hM := it_t c_ hM
        refine st_aload_n hR dX11_findGame_58 0 rfl rfl (pc' := 59) rfl ?_
        refine st_iconst hR dX11_findGame_59 (v := (-1)) (by decide) (pc' := 60) rfl ?_
        refine st_put hR dX11_findGame_60 fp_X11_93_10_21 0 0 rfl rfl (Nat.le_of_ble_eq_true rfl) rfl rfl (pc' := 63) rfl (W' := [wX11 G q_m m_thrown m_tape m_taped m_size m_sort m_place m_value m_at m_fault m_words m_rows m_op m_arg m_codes m_names m_ofFeed m_teeth m_feedWords m_goWords m_facts m_pile (-1) m_best m_losses m_lossOf m_wasThere m_groupMany m_groupRow m_groupLoss m_isMarked]) rfl ?_
        cases hM
        exact hret _ _ dX11_findGame_63 ro_v
      · have hM := it_f c_ hM
        refine st_aload_n hR dX11_findGame_10 0 rfl rfl (pc' := 11) rfl ?_
        refine st_iload_n hR dX11_findGame_11 2 rfl rfl (pc' := 12) rfl ?_
        refine st_put hR dX11_findGame_12 fp_X11_93_10_21 0 0 rfl rfl (Nat.le_of_ble_eq_true rfl) rfl rfl (pc' := 15) rfl (W' := [wX11 G q_m m_thrown m_tape m_taped m_size m_sort m_place m_value m_at m_fault m_words m_rows m_op m_arg m_codes m_names m_ofFeed m_teeth m_feedWords m_goWords m_facts m_pile l2 m_best m_losses m_lossOf m_wasThere m_groupMany m_groupRow m_groupLoss m_isMarked]) rfl ?_
        refine st_aload_n hR dX11_findGame_15 0 rfl rfl (pc' := 16) rfl ?_
        refine st_iload_n hR dX11_findGame_16 1 rfl rfl (pc' := 17) rfl ?_
        obtain ⟨⟨m_rows_1, m_facts_1, m_pile_1, m_best_1, m_losses_1⟩, hc_, hM⟩ := bd_e hM
        refine st_callV hR (k_X11_findLosses hc_) cf_X11_314 (rm_le (Nat.le_of_ble_eq_true rfl) (Nat.le_of_ble_eq_true rfl)) [0] rfl rfl rfl 0 0 10 30 rfl rfl rfl rfl (rest := []) rfl (Nat.le_of_ble_eq_true rfl) dX11_findGame_17 (pc' := 20) rfl (Wn := [wX11 G q_m m_thrown m_tape m_taped m_size m_sort m_place m_value m_at m_fault m_words m_rows_1 m_op m_arg m_codes m_names m_ofFeed m_teeth m_feedWords m_goWords m_facts_1 m_pile_1 l2 m_best_1 m_losses_1 m_lossOf m_wasThere m_groupMany m_groupRow m_groupLoss m_isMarked]) rfl ?_
        refine st_iconst hR dX11_findGame_20 (v := 0) rfl (pc' := 21) rfl ?_
        refine st_istore_n hR dX11_findGame_21 rfl (Nat.le_of_ble_eq_true rfl) [1, 2, 3, 0] (lv' := [(0, .ref (q_m 0)), (1, .int l1), (2, .int l2), (3, .int 0)]) rfl (pc' := 22) rfl ?_
        exact L22 FU _ _ _ _ _ _ _ _ _ _ hM
  refine st_iconst hR dX11_findGame_0 (v := 0) rfl (pc' := 1) rfl ?_
  refine st_istore_n hR dX11_findGame_1 rfl (Nat.le_of_ble_eq_true rfl) [1, 2, 0] (lv' := [(0, .ref (q_m 0)), (1, .int l1), (2, .int 0)]) rfl (pc' := 2) rfl ?_
  exact L2 FU _ _ _ _ _ _ _ _ _ hM
set_option maxHeartbeats 16000000 in
set_option maxRecDepth 100000 in
theorem k_X11_level {l : Launch} {G : GG} {q_m : Nat → Nat} {m_thrown m_taped m_size m_at m_fault m_codes m_ofFeed m_teeth m_levels m_groupMany : Int32} {m_tape m_sort m_place m_rows m_op m_arg m_feedWords m_goWords m_facts m_pile m_best m_losses m_lossOf m_wasThere m_groupRow m_groupLoss m_isMarked : Nat → Int32} {m_value m_words m_names : Nat → Int64} {l1 l2 l3 : Int32} {o_r : Int32} {o_m_thrown : Int32} {o_m_rows : Nat → Int32} {o_m_facts : Nat → Int32} {o_m_pile : Nat → Int32} {o_m_levels : Int32} {o_m_best : Nat → Int32} {o_m_losses : Nat → Int32} (hM : f_X11_level m_op m_arg m_thrown m_rows m_facts m_pile m_levels m_best m_losses l1 l2 l3 = some (o_r, o_m_thrown, o_m_rows, o_m_facts, o_m_pile, o_m_levels, o_m_best, o_m_losses)) : MC l G yX11_level cX11_level 4 (some .int) (RM 7) [.ref (q_m 0), .int l1, .int l2, .int l3] [wX11 G q_m m_thrown m_tape m_taped m_size m_sort m_place m_value m_at m_fault m_words m_rows m_op m_arg m_codes m_names m_ofFeed m_teeth m_feedWords m_goWords m_facts m_pile m_levels m_best m_losses m_lossOf m_wasThere m_groupMany m_groupRow m_groupLoss m_isMarked] (some (.int o_r)) [wX11 G q_m o_m_thrown m_tape m_taped m_size m_sort m_place m_value m_at m_fault m_words o_m_rows m_op m_arg m_codes m_names m_ofFeed m_teeth m_feedWords m_goWords o_m_facts o_m_pile o_m_levels o_m_best o_m_losses m_lossOf m_wasThere m_groupMany m_groupRow m_groupLoss m_isMarked] := by
  refine MC.of pn_X11 (Nat.le_of_ble_eq_true rfl) (fun K hR hret => ?_)
  have hR : Rl l G RX11 cX11_level 4 (RM 7) K := hR
  show K [wX11 G q_m m_thrown m_tape m_taped m_size m_sort m_place m_value m_at m_fault m_words m_rows m_op m_arg m_codes m_names m_ofFeed m_teeth m_feedWords m_goWords m_facts m_pile m_levels m_best m_losses m_lossOf m_wasThere m_groupMany m_groupRow m_groupLoss m_isMarked] [(0, .ref (q_m 0)), (1, .int l1), (2, .int l2), (3, .int l3)] 0 []
  refine st_aload_n hR dX11_level_0 0 rfl rfl (pc' := 1) rfl ?_
  refine st_iconst hR dX11_level_1 (v := 0) rfl (pc' := 2) rfl ?_
  refine st_put hR dX11_level_2 fp_X11_1_10_0 0 0 rfl rfl (Nat.le_of_ble_eq_true rfl) rfl rfl (pc' := 5) rfl (W' := [wX11 G q_m 0 m_tape m_taped m_size m_sort m_place m_value m_at m_fault m_words m_rows m_op m_arg m_codes m_names m_ofFeed m_teeth m_feedWords m_goWords m_facts m_pile m_levels m_best m_losses m_lossOf m_wasThere m_groupMany m_groupRow m_groupLoss m_isMarked]) rfl ?_
  refine st_aload_n hR dX11_level_5 0 rfl rfl (pc' := 6) rfl ?_
  refine st_iload_n hR dX11_level_6 3 rfl rfl (pc' := 7) rfl ?_
  obtain ⟨r_1, hc_, hM⟩ := bd_e hM
  refine st_callV hR (k_X11_isGame hc_) cf_X11_320 (rm_le (Nat.le_of_ble_eq_true rfl) (Nat.le_of_ble_eq_true rfl)) [0] rfl rfl rfl 0 0 10 30 rfl rfl rfl rfl (rest := []) rfl (Nat.le_of_ble_eq_true rfl) dX11_level_7 (pc' := 10) rfl (Wn := [wX11 G q_m 0 m_tape m_taped m_size m_sort m_place m_value m_at m_fault m_words m_rows m_op m_arg m_codes m_names m_ofFeed m_teeth m_feedWords m_goWords m_facts m_pile m_levels m_best m_losses m_lossOf m_wasThere m_groupMany m_groupRow m_groupLoss m_isMarked]) rfl ?_
  refine st_if_eq hR dX11_level_10 (tgt := 33) (by decide) (pc' := 13) rfl (fun c_ => ?_) (fun c_ => ?_)
  · have hM := it_t c_ hM
    refine st_iconst hR dX11_level_33 (v := (-1)) (by decide) (pc' := 34) rfl ?_
    cases hM
    exact hret _ _ dX11_level_34 (ro_i _)
  · have hM := it_f c_ hM
    refine st_aload_n hR dX11_level_13 0 rfl rfl (pc' := 14) rfl ?_
    refine st_iload_n hR dX11_level_14 2 rfl rfl (pc' := 15) rfl ?_
    obtain ⟨r_2, hc_, hM⟩ := bd_e hM
    refine st_callV hR (k_X11_isFarm hc_) cf_X11_298 (rm_le (Nat.le_of_ble_eq_true rfl) (Nat.le_of_ble_eq_true rfl)) [0] rfl rfl rfl 0 0 10 30 rfl rfl rfl rfl (rest := []) rfl (Nat.le_of_ble_eq_true rfl) dX11_level_15 (pc' := 18) rfl (Wn := [wX11 G q_m 0 m_tape m_taped m_size m_sort m_place m_value m_at m_fault m_words m_rows m_op m_arg m_codes m_names m_ofFeed m_teeth m_feedWords m_goWords m_facts m_pile m_levels m_best m_losses m_lossOf m_wasThere m_groupMany m_groupRow m_groupLoss m_isMarked]) rfl ?_
    refine st_if_eq hR dX11_level_18 (tgt := 33) (by decide) (pc' := 21) rfl (fun c_ => ?_) (fun c_ => ?_)
    · have hM := it_t c_ hM
      refine st_iconst hR dX11_level_33 (v := (-1)) (by decide) (pc' := 34) rfl ?_
      cases hM
      exact hret _ _ dX11_level_34 (ro_i _)
    · have hM := it_f c_ hM
      refine st_iload_n hR dX11_level_21 1 rfl rfl (pc' := 22) rfl ?_
      refine st_if_lt hR dX11_level_22 (tgt := 33) (by decide) (pc' := 25) rfl (fun c_ => ?_) (fun c_ => ?_)
      · have hM := it_t c_ hM
        refine st_iconst hR dX11_level_33 (v := (-1)) (by decide) (pc' := 34) rfl ?_
        cases hM
        exact hret _ _ dX11_level_34 (ro_i _)
      · have hM := it_f c_ hM
        refine st_iload_n hR dX11_level_25 1 rfl rfl (pc' := 26) rfl ?_
        refine st_aload_n hR dX11_level_26 0 rfl rfl (pc' := 27) rfl ?_
        obtain ⟨r_3, hc_, hM⟩ := bd_e hM
        refine st_callV hR (k_X11_gameRows hc_) cf_X11_317 (rm_le (Nat.le_of_ble_eq_true rfl) (Nat.le_of_ble_eq_true rfl)) [0] rfl rfl rfl 0 0 10 30 rfl rfl rfl rfl (rest := [.int l1]) rfl (Nat.le_of_ble_eq_true rfl) dX11_level_27 (pc' := 30) rfl (Wn := [wX11 G q_m 0 m_tape m_taped m_size m_sort m_place m_value m_at m_fault m_words m_rows m_op m_arg m_codes m_names m_ofFeed m_teeth m_feedWords m_goWords m_facts m_pile m_levels m_best m_losses m_lossOf m_wasThere m_groupMany m_groupRow m_groupLoss m_isMarked]) rfl ?_
        refine st_icmp_lt hR dX11_level_30 (tgt := 35) (by decide) (pc' := 33) rfl (fun c_ => ?_) (fun c_ => ?_)
        · have hM := it_t c_ hM
          refine st_aload_n hR dX11_level_35 0 rfl rfl (pc' := 36) rfl ?_
          refine st_iload_n hR dX11_level_36 1 rfl rfl (pc' := 37) rfl ?_
          refine st_put hR dX11_level_37 fp_X11_93_10_21 0 0 rfl rfl (Nat.le_of_ble_eq_true rfl) rfl rfl (pc' := 40) rfl (W' := [wX11 G q_m 0 m_tape m_taped m_size m_sort m_place m_value m_at m_fault m_words m_rows m_op m_arg m_codes m_names m_ofFeed m_teeth m_feedWords m_goWords m_facts m_pile l1 m_best m_losses m_lossOf m_wasThere m_groupMany m_groupRow m_groupLoss m_isMarked]) rfl ?_
          refine st_aload_n hR dX11_level_40 0 rfl rfl (pc' := 41) rfl ?_
          refine st_iload_n hR dX11_level_41 3 rfl rfl (pc' := 42) rfl ?_
          obtain ⟨⟨m_rows_1, m_facts_1, m_pile_1, m_best_1, m_losses_1⟩, hc_, hM⟩ := bd_e hM
          refine st_callV hR (k_X11_findLosses hc_) cf_X11_314 (rm_le (Nat.le_of_ble_eq_true rfl) (Nat.le_of_ble_eq_true rfl)) [0] rfl rfl rfl 0 0 10 30 rfl rfl rfl rfl (rest := []) rfl (Nat.le_of_ble_eq_true rfl) dX11_level_42 (pc' := 45) rfl (Wn := [wX11 G q_m 0 m_tape m_taped m_size m_sort m_place m_value m_at m_fault m_words m_rows_1 m_op m_arg m_codes m_names m_ofFeed m_teeth m_feedWords m_goWords m_facts_1 m_pile_1 l1 m_best_1 m_losses_1 m_lossOf m_wasThere m_groupMany m_groupRow m_groupLoss m_isMarked]) rfl ?_
          refine st_aload_n hR dX11_level_45 0 rfl rfl (pc' := 46) rfl ?_
          refine st_iconst hR dX11_level_46 (v := (-1)) (by decide) (pc' := 47) rfl ?_
          refine st_put hR dX11_level_47 fp_X11_93_10_21 0 0 rfl rfl (Nat.le_of_ble_eq_true rfl) rfl rfl (pc' := 50) rfl (W' := [wX11 G q_m 0 m_tape m_taped m_size m_sort m_place m_value m_at m_fault m_words m_rows_1 m_op m_arg m_codes m_names m_ofFeed m_teeth m_feedWords m_goWords m_facts_1 m_pile_1 (-1) m_best_1 m_losses_1 m_lossOf m_wasThere m_groupMany m_groupRow m_groupLoss m_isMarked]) rfl ?_
          refine st_aload_n hR dX11_level_50 0 rfl rfl (pc' := 51) rfl ?_
          refine st_get hR dX11_level_51 fg_X11_99_10_23 0 0 rfl rfl rfl (pc' := 54) rfl ?_
          refine st_iload_n hR dX11_level_54 2 rfl rfl (pc' := 55) rfl ?_
          obtain ⟨hin_, hM⟩ := g_in_e hM
          refine st_iald hR dX11_level_55 0 15 rfl rfl hin_ (v := m_losses_1 (ix l2)) rfl (pc' := 56) rfl ?_
          cases hM
          exact hret _ _ dX11_level_56 (ro_i _)
        · have hM := it_f c_ hM
          refine st_iconst hR dX11_level_33 (v := (-1)) (by decide) (pc' := 34) rfl ?_
          cases hM
          exact hret _ _ dX11_level_34 (ro_i _)
set_option maxHeartbeats 16000000 in
set_option maxRecDepth 100000 in
theorem k_X11_with {l : Launch} {G : GG}  {l0 l1 l2 : Int32} {o_r : Int32} (hM : f_X11_with l0 l1 l2 = some o_r) : MC l G yX11_with cX11_with 3 (some .int) (RM 0) [.int l0, .int l1, .int l2] [] (some (.int o_r)) [] := by
  refine MC.of pn_X11 (Nat.le_of_ble_eq_true rfl) (fun K hR hret => ?_)
  have hR : Rl l G RX11 cX11_with 3 (RM 0) K := hR
  show K [] [(0, .int l0), (1, .int l1), (2, .int l2)] 0 []
  refine st_iload_n hR dX11_with_0 0 rfl rfl (pc' := 1) rfl ?_
  refine st_iconst hR dX11_with_1 (v := 3) rfl (pc' := 2) rfl ?_
  refine st_iconst hR dX11_with_2 (v := 2) rfl (pc' := 3) rfl ?_
  refine st_iload_n hR dX11_with_3 1 rfl rfl (pc' := 4) rfl ?_
  refine st_imul hR dX11_with_4 (pc' := 5) rfl ?_
  refine st_ishl hR dX11_with_5 (pc' := 6) rfl ?_
  refine st_iconst hR dX11_with_6 (v := (-1)) (by decide) (pc' := 7) rfl ?_
  refine st_ixor hR dX11_with_7 (pc' := 8) rfl ?_
  refine st_iand hR dX11_with_8 (pc' := 9) rfl ?_
  refine st_iload_n hR dX11_with_9 2 rfl rfl (pc' := 10) rfl ?_
  refine st_iconst hR dX11_with_10 (v := 2) rfl (pc' := 11) rfl ?_
  refine st_iload_n hR dX11_with_11 1 rfl rfl (pc' := 12) rfl ?_
  refine st_imul hR dX11_with_12 (pc' := 13) rfl ?_
  refine st_ishl hR dX11_with_13 (pc' := 14) rfl ?_
  refine st_ior hR dX11_with_14 (pc' := 15) rfl ?_
  cases hM
  exact hret _ _ dX11_with_15 (ro_i _)
set_option maxHeartbeats 16000000 in
set_option maxRecDepth 100000 in
theorem k_X11_bestLevel {l : Launch} {G : GG} {q_m : Nat → Nat} {m_thrown m_taped m_size m_at m_fault m_codes m_ofFeed m_teeth m_levels m_groupMany : Int32} {m_tape m_sort m_place m_rows m_op m_arg m_feedWords m_goWords m_facts m_pile m_best m_losses m_lossOf m_wasThere m_groupRow m_groupLoss m_isMarked : Nat → Int32} {m_value m_words m_names : Nat → Int64} {l1 l2 : Int32} {o_r : Int32} (hM : f_X11_bestLevel m_lossOf l1 l2 = some o_r) : MC l G yX11_bestLevel cX11_bestLevel 7 (some .int) (RM 1) [.ref (q_m 0), .int l1, .int l2] [wX11 G q_m m_thrown m_tape m_taped m_size m_sort m_place m_value m_at m_fault m_words m_rows m_op m_arg m_codes m_names m_ofFeed m_teeth m_feedWords m_goWords m_facts m_pile m_levels m_best m_losses m_lossOf m_wasThere m_groupMany m_groupRow m_groupLoss m_isMarked] (some (.int o_r)) [wX11 G q_m m_thrown m_tape m_taped m_size m_sort m_place m_value m_at m_fault m_words m_rows m_op m_arg m_codes m_names m_ofFeed m_teeth m_feedWords m_goWords m_facts m_pile m_levels m_best m_losses m_lossOf m_wasThere m_groupMany m_groupRow m_groupLoss m_isMarked] := by
  refine MC.of pn_X11 (Nat.le_of_ble_eq_true rfl) (fun K hR hret => ?_)
  have hR : Rl l G RX11 cX11_bestLevel 7 (RM 1) K := hR
  show K [wX11 G q_m m_thrown m_tape m_taped m_size m_sort m_place m_value m_at m_fault m_words m_rows m_op m_arg m_codes m_names m_ofFeed m_teeth m_feedWords m_goWords m_facts m_pile m_levels m_best m_losses m_lossOf m_wasThere m_groupMany m_groupRow m_groupLoss m_isMarked] [(0, .ref (q_m 0)), (1, .int l1), (2, .int l2)] 0 []
  have L23 : ∀ (n23 : Nat) (l1 : Int32) (l2 : Int32) (l3 : Int32) (l4 : Int32) (l5 : Int32), f_X11_bestLevel_L23  m_lossOf n23 l1 l2 l3 l4 l5 = some o_r → K [wX11 G q_m m_thrown m_tape m_taped m_size m_sort m_place m_value m_at m_fault m_words m_rows m_op m_arg m_codes m_names m_ofFeed m_teeth m_feedWords m_goWords m_facts m_pile m_levels m_best m_losses m_lossOf m_wasThere m_groupMany m_groupRow m_groupLoss m_isMarked] [(0, .ref (q_m 0)), (1, .int l1), (2, .int l2), (3, .int l3), (4, .int l4), (5, .int l5)] 23 [] := by
    intro n23
    induction n23 with
    | zero => intro l1 l2 l3 l4 l5 hM; exact no_some hM
    | succ n23 ih23 =>
      have J75 : ∀ (l1 : Int32) (l2 : Int32) (l3 : Int32) (l5 : Int32) (s0 : Int32), f_X11_bestLevel_B75  (f_X11_bestLevel_L23  m_lossOf n23) m_lossOf l1 l2 l3 l5 s0 = some o_r → K [wX11 G q_m m_thrown m_tape m_taped m_size m_sort m_place m_value m_at m_fault m_words m_rows m_op m_arg m_codes m_names m_ofFeed m_teeth m_feedWords m_goWords m_facts m_pile m_levels m_best m_losses m_lossOf m_wasThere m_groupMany m_groupRow m_groupLoss m_isMarked] [(0, .ref (q_m 0)), (1, .int l1), (2, .int l2), (3, .int l3), (5, .int l5)] 75 [.int s0] := by
        intro l1 l2 l3 l5 s0 hM
        refine st_istore hR dX11_bestLevel_75 (Nat.le_of_ble_eq_true rfl) [1, 2, 3, 4, 0, 5] (lv' := [(0, .ref (q_m 0)), (1, .int l1), (2, .int l2), (3, .int l3), (4, .int s0), (5, .int l5)]) rfl (pc' := 77) rfl ?_
        obtain ⟨l5_1, e_⟩ : ∃ y : Int32, y = l5 + 1 := ⟨_, rfl⟩
        refine st_iinc hR dX11_bestLevel_77 (Nat.le_of_ble_eq_true rfl) 5 [1, 2, 3, 4, 5, 0] (v := l5_1) rfl (by rw [e_]; rfl) (lv' := [(0, .ref (q_m 0)), (1, .int l1), (2, .int l2), (3, .int l3), (4, .int s0), (5, .int l5_1)]) rfl (pc' := 80) rfl ?_
        have hM := lt_e e_ hM
        refine st_goto hR dX11_bestLevel_80 (tgt := 23) (by decide) ?_
        exact ih23 _ _ _ _ _ hM
      have J60 : ∀ (l1 : Int32) (l2 : Int32) (l4 : Int32) (l5 : Int32) (l6 : Int32) (s0 : Int32), f_X11_bestLevel_B60  (f_X11_bestLevel_L23  m_lossOf n23) m_lossOf l1 l2 l4 l5 l6 s0 = some o_r → K [wX11 G q_m m_thrown m_tape m_taped m_size m_sort m_place m_value m_at m_fault m_words m_rows m_op m_arg m_codes m_names m_ofFeed m_teeth m_feedWords m_goWords m_facts m_pile m_levels m_best m_losses m_lossOf m_wasThere m_groupMany m_groupRow m_groupLoss m_isMarked] [(0, .ref (q_m 0)), (1, .int l1), (2, .int l2), (4, .int l4), (5, .int l5), (6, .int l6)] 60 [.int s0] := by
        intro l1 l2 l4 l5 l6 s0 hM
        refine st_istore_n hR dX11_bestLevel_60 rfl (Nat.le_of_ble_eq_true rfl) [1, 2, 3, 0, 4, 5, 6] (lv' := [(0, .ref (q_m 0)), (1, .int l1), (2, .int l2), (3, .int s0), (4, .int l4), (5, .int l5), (6, .int l6)]) rfl (pc' := 61) rfl ?_
        refine st_iload hR dX11_bestLevel_61 6 rfl (pc' := 63) rfl ?_
        refine st_iload hR dX11_bestLevel_63 4 rfl (pc' := 65) rfl ?_
        refine st_icmp_ge hR dX11_bestLevel_65 (tgt := 73) (by decide) (pc' := 68) rfl (fun c_ => ?_) (fun c_ => ?_)
        · have hM := it_t c_ hM
          refine st_iload hR dX11_bestLevel_73 4 rfl (pc' := 75) rfl ?_
          exact st_lv hR [0, 1, 2, 3, 5] rfl (J75 _ _ _ _ _ hM)
        · have hM := it_f c_ hM
          refine st_iload hR dX11_bestLevel_68 6 rfl (pc' := 70) rfl ?_
          refine st_goto hR dX11_bestLevel_70 (tgt := 75) (by decide) ?_
          exact st_lv hR [0, 1, 2, 3, 5] rfl (J75 _ _ _ _ _ hM)
      intro l1 l2 l3 l4 l5 hM
      have hM : f_X11_bestLevel_L23b  (f_X11_bestLevel_L23  m_lossOf n23) m_lossOf l1 l2 l3 l4 l5 = some o_r := hM
      refine st_iload hR dX11_bestLevel_23 5 rfl (pc' := 25) rfl ?_
      refine st_iconst hR dX11_bestLevel_25 (v := 4) rfl (pc' := 26) rfl ?_
      refine st_icmp_ge hR dX11_bestLevel_26 (tgt := 83) (by decide) (pc' := 29) rfl (fun c_ => ?_) (fun c_ => ?_)
      · have hM := it_t c_ hM
        refine st_iload_n hR dX11_bestLevel_83 3 rfl rfl (pc' := 84) rfl ?_
        cases hM
        exact hret _ _ dX11_bestLevel_84 (ro_i _)
      · have hM := it_f c_ hM
        refine st_aload_n hR dX11_bestLevel_29 0 rfl rfl (pc' := 30) rfl ?_
        refine st_get hR dX11_bestLevel_30 fg_X11_102_10_24 0 0 rfl rfl rfl (pc' := 33) rfl ?_
        refine st_iconst hR dX11_bestLevel_33 (v := 4) rfl (pc' := 34) rfl ?_
        refine st_iload_n hR dX11_bestLevel_34 1 rfl rfl (pc' := 35) rfl ?_
        refine st_iload_n hR dX11_bestLevel_35 2 rfl rfl (pc' := 36) rfl ?_
        refine st_iload hR dX11_bestLevel_36 5 rfl (pc' := 38) rfl ?_
        obtain ⟨r_1, hc_, hM⟩ := bd_e hM
        refine st_callS hR (k_X11_with hc_) cf_X11_323 (rm_le (Nat.le_of_ble_eq_true rfl) (Nat.le_of_ble_eq_true rfl)) [] rfl rfl rfl rfl (rest := [.int 4, .ref (q_m 16)]) rfl (Nat.le_of_ble_eq_true rfl) dX11_bestLevel_38 (pc' := 41) rfl (Wn := [wX11 G q_m m_thrown m_tape m_taped m_size m_sort m_place m_value m_at m_fault m_words m_rows m_op m_arg m_codes m_names m_ofFeed m_teeth m_feedWords m_goWords m_facts m_pile m_levels m_best m_losses m_lossOf m_wasThere m_groupMany m_groupRow m_groupLoss m_isMarked]) rfl ?_
        refine st_imul hR dX11_bestLevel_41 (pc' := 42) rfl ?_
        refine st_iload_n hR dX11_bestLevel_42 2 rfl rfl (pc' := 43) rfl ?_
        refine st_iadd hR dX11_bestLevel_43 (pc' := 44) rfl ?_
        obtain ⟨hin_, hM⟩ := g_in_e hM
        refine st_iald hR dX11_bestLevel_44 0 16 rfl rfl hin_ (v := m_lossOf (ix ((4 * r_1) + l2))) rfl (pc' := 45) rfl ?_
        refine st_topi (fun l6_1 e_ => ?_)
        have hM := lt_e e_ hM
        refine st_istore hR dX11_bestLevel_45 (Nat.le_of_ble_eq_true rfl) [1, 2, 3, 4, 5, 6, 0] (lv' := [(0, .ref (q_m 0)), (1, .int l1), (2, .int l2), (3, .int l3), (4, .int l4), (5, .int l5), (6, .int l6_1)]) rfl (pc' := 47) rfl ?_
        refine st_iload hR dX11_bestLevel_47 6 rfl (pc' := 49) rfl ?_
        refine st_iload hR dX11_bestLevel_49 4 rfl (pc' := 51) rfl ?_
        refine st_icmp_ge hR dX11_bestLevel_51 (tgt := 59) (by decide) (pc' := 54) rfl (fun c_ => ?_) (fun c_ => ?_)
        · have hM := it_t c_ hM
          refine st_iload_n hR dX11_bestLevel_59 3 rfl rfl (pc' := 60) rfl ?_
          exact st_lv hR [0, 1, 2, 4, 5, 6] rfl (J60 _ _ _ _ _ _ hM)
        · have hM := it_f c_ hM
          refine st_iload hR dX11_bestLevel_54 5 rfl (pc' := 56) rfl ?_
          refine st_goto hR dX11_bestLevel_56 (tgt := 60) (by decide) ?_
          exact st_lv hR [0, 1, 2, 4, 5, 6] rfl (J60 _ _ _ _ _ _ hM)
  refine st_iload_n hR dX11_bestLevel_0 1 rfl rfl (pc' := 1) rfl ?_
  refine st_iconst hR dX11_bestLevel_1 (v := 2) rfl (pc' := 2) rfl ?_
  refine st_iload_n hR dX11_bestLevel_2 2 rfl rfl (pc' := 3) rfl ?_
  refine st_imul hR dX11_bestLevel_3 (pc' := 4) rfl ?_
  refine st_ishr hR dX11_bestLevel_4 (pc' := 5) rfl ?_
  refine st_iconst hR dX11_bestLevel_5 (v := 3) rfl (pc' := 6) rfl ?_
  refine st_iand hR dX11_bestLevel_6 (pc' := 7) rfl ?_
  refine st_topi (fun l3_1 e_ => ?_)
  have hM := lt_e e_ hM
  refine st_istore_n hR dX11_bestLevel_7 rfl (Nat.le_of_ble_eq_true rfl) [1, 2, 3, 0] (lv' := [(0, .ref (q_m 0)), (1, .int l1), (2, .int l2), (3, .int l3_1)]) rfl (pc' := 8) rfl ?_
  refine st_aload_n hR dX11_bestLevel_8 0 rfl rfl (pc' := 9) rfl ?_
  refine st_get hR dX11_bestLevel_9 fg_X11_102_10_24 0 0 rfl rfl rfl (pc' := 12) rfl ?_
  refine st_iconst hR dX11_bestLevel_12 (v := 4) rfl (pc' := 13) rfl ?_
  refine st_iload_n hR dX11_bestLevel_13 1 rfl rfl (pc' := 14) rfl ?_
  refine st_imul hR dX11_bestLevel_14 (pc' := 15) rfl ?_
  refine st_iload_n hR dX11_bestLevel_15 2 rfl rfl (pc' := 16) rfl ?_
  refine st_iadd hR dX11_bestLevel_16 (pc' := 17) rfl ?_
  obtain ⟨hin_, hM⟩ := g_in_e hM
  refine st_iald hR dX11_bestLevel_17 0 16 rfl rfl hin_ (v := m_lossOf (ix ((4 * l1) + l2))) rfl (pc' := 18) rfl ?_
  refine st_topi (fun l4_1 e_ => ?_)
  have hM := lt_e e_ hM
  refine st_istore hR dX11_bestLevel_18 (Nat.le_of_ble_eq_true rfl) [1, 2, 3, 4, 0] (lv' := [(0, .ref (q_m 0)), (1, .int l1), (2, .int l2), (3, .int l3_1), (4, .int l4_1)]) rfl (pc' := 20) rfl ?_
  refine st_iconst hR dX11_bestLevel_20 (v := 0) rfl (pc' := 21) rfl ?_
  refine st_istore hR dX11_bestLevel_21 (Nat.le_of_ble_eq_true rfl) [1, 2, 3, 4, 5, 0] (lv' := [(0, .ref (q_m 0)), (1, .int l1), (2, .int l2), (3, .int l3_1), (4, .int l4_1), (5, .int 0)]) rfl (pc' := 23) rfl ?_
  exact L23 FU _ _ _ _ _ hM
set_option maxHeartbeats 16000000 in
set_option maxRecDepth 100000 in
theorem k_X11_isRest {l : Launch} {G : GG} {q_m : Nat → Nat} {m_thrown m_taped m_size m_at m_fault m_codes m_ofFeed m_teeth m_levels m_groupMany : Int32} {m_tape m_sort m_place m_rows m_op m_arg m_feedWords m_goWords m_facts m_pile m_best m_losses m_lossOf m_wasThere m_groupRow m_groupLoss m_isMarked : Nat → Int32} {m_value m_words m_names : Nat → Int64} {l1 : Int32} {o_r : Int32} (hM : f_X11_isRest m_rows m_lossOf l1 = some o_r) : MC l G yX11_isRest cX11_isRest 4 (some .boolean) (RM 2) [.ref (q_m 0), .int l1] [wX11 G q_m m_thrown m_tape m_taped m_size m_sort m_place m_value m_at m_fault m_words m_rows m_op m_arg m_codes m_names m_ofFeed m_teeth m_feedWords m_goWords m_facts m_pile m_levels m_best m_losses m_lossOf m_wasThere m_groupMany m_groupRow m_groupLoss m_isMarked] (some (.int o_r)) [wX11 G q_m m_thrown m_tape m_taped m_size m_sort m_place m_value m_at m_fault m_words m_rows m_op m_arg m_codes m_names m_ofFeed m_teeth m_feedWords m_goWords m_facts m_pile m_levels m_best m_losses m_lossOf m_wasThere m_groupMany m_groupRow m_groupLoss m_isMarked] := by
  refine MC.of pn_X11 (Nat.le_of_ble_eq_true rfl) (fun K hR hret => ?_)
  have hR : Rl l G RX11 cX11_isRest 4 (RM 2) K := hR
  show K [wX11 G q_m m_thrown m_tape m_taped m_size m_sort m_place m_value m_at m_fault m_words m_rows m_op m_arg m_codes m_names m_ofFeed m_teeth m_feedWords m_goWords m_facts m_pile m_levels m_best m_losses m_lossOf m_wasThere m_groupMany m_groupRow m_groupLoss m_isMarked] [(0, .ref (q_m 0)), (1, .int l1)] 0 []
  have L4 : ∀ (n4 : Nat) (l1 : Int32) (l2 : Int32) (l3 : Int32), f_X11_isRest_L4  m_rows m_lossOf n4 l1 l2 l3 = some o_r → K [wX11 G q_m m_thrown m_tape m_taped m_size m_sort m_place m_value m_at m_fault m_words m_rows m_op m_arg m_codes m_names m_ofFeed m_teeth m_feedWords m_goWords m_facts m_pile m_levels m_best m_losses m_lossOf m_wasThere m_groupMany m_groupRow m_groupLoss m_isMarked] [(0, .ref (q_m 0)), (1, .int l1), (2, .int l2), (3, .int l3)] 4 [] := by
    intro n4
    induction n4 with
    | zero => intro l1 l2 l3 hM; exact no_some hM
    | succ n4 ih4 =>
      have J37 : ∀ (l1 : Int32) (l3 : Int32) (s0 : Int32), f_X11_isRest_B37  (f_X11_isRest_L4  m_rows m_lossOf n4) m_rows m_lossOf l1 l3 s0 = some o_r → K [wX11 G q_m m_thrown m_tape m_taped m_size m_sort m_place m_value m_at m_fault m_words m_rows m_op m_arg m_codes m_names m_ofFeed m_teeth m_feedWords m_goWords m_facts m_pile m_levels m_best m_losses m_lossOf m_wasThere m_groupMany m_groupRow m_groupLoss m_isMarked] [(0, .ref (q_m 0)), (1, .int l1), (3, .int l3)] 37 [.int s0] := by
        intro l1 l3 s0 hM
        refine st_istore_n hR dX11_isRest_37 rfl (Nat.le_of_ble_eq_true rfl) [1, 2, 0, 3] (lv' := [(0, .ref (q_m 0)), (1, .int l1), (2, .int s0), (3, .int l3)]) rfl (pc' := 38) rfl ?_
        obtain ⟨l3_1, e_⟩ : ∃ y : Int32, y = l3 + 1 := ⟨_, rfl⟩
        refine st_iinc hR dX11_isRest_38 (Nat.le_of_ble_eq_true rfl) 3 [1, 2, 3, 0] (v := l3_1) rfl (by rw [e_]; rfl) (lv' := [(0, .ref (q_m 0)), (1, .int l1), (2, .int s0), (3, .int l3_1)]) rfl (pc' := 41) rfl ?_
        have hM := lt_e e_ hM
        refine st_goto hR dX11_isRest_41 (tgt := 4) (by decide) ?_
        exact ih4 _ _ _ hM
      have J36 : ∀ (l1 : Int32) (l3 : Int32), f_X11_isRest_B36  (f_X11_isRest_L4  m_rows m_lossOf n4) m_rows m_lossOf l1 l3 = some o_r → K [wX11 G q_m m_thrown m_tape m_taped m_size m_sort m_place m_value m_at m_fault m_words m_rows m_op m_arg m_codes m_names m_ofFeed m_teeth m_feedWords m_goWords m_facts m_pile m_levels m_best m_losses m_lossOf m_wasThere m_groupMany m_groupRow m_groupLoss m_isMarked] [(0, .ref (q_m 0)), (1, .int l1), (3, .int l3)] 36 [] := by
        intro l1 l3 hM
        refine st_iconst hR dX11_isRest_36 (v := 0) rfl (pc' := 37) rfl ?_
        exact J37 _ _ _ hM
      intro l1 l2 l3 hM
      have hM : f_X11_isRest_L4b  (f_X11_isRest_L4  m_rows m_lossOf n4) m_rows m_lossOf l1 l2 l3 = some o_r := hM
      refine st_iload_n hR dX11_isRest_4 3 rfl rfl (pc' := 5) rfl ?_
      refine st_aload_n hR dX11_isRest_5 0 rfl rfl (pc' := 6) rfl ?_
      obtain ⟨r_1, hc_, hM⟩ := bd_e hM
      refine st_callV hR (k_X11_farms hc_) cf_X11_248 (rm_le (Nat.le_of_ble_eq_true rfl) (Nat.le_of_ble_eq_true rfl)) [0] rfl rfl rfl 0 0 10 30 rfl rfl rfl rfl (rest := [.int l3]) rfl (Nat.le_of_ble_eq_true rfl) dX11_isRest_6 (pc' := 9) rfl (Wn := [wX11 G q_m m_thrown m_tape m_taped m_size m_sort m_place m_value m_at m_fault m_words m_rows m_op m_arg m_codes m_names m_ofFeed m_teeth m_feedWords m_goWords m_facts m_pile m_levels m_best m_losses m_lossOf m_wasThere m_groupMany m_groupRow m_groupLoss m_isMarked]) rfl ?_
      refine st_icmp_ge hR dX11_isRest_9 (tgt := 44) (by decide) (pc' := 12) rfl (fun c_ => ?_) (fun c_ => ?_)
      · have hM := it_t c_ hM
        refine st_iload_n hR dX11_isRest_44 2 rfl rfl (pc' := 45) rfl ?_
        obtain ⟨hz_, hM⟩ := g_z_e hM
        cases hM
        exact hret _ _ dX11_isRest_45 (ro_z hz_)
      · have hM := it_f c_ hM
        refine st_iload_n hR dX11_isRest_12 2 rfl rfl (pc' := 13) rfl ?_
        refine st_if_eq hR dX11_isRest_13 (tgt := 36) (by decide) (pc' := 16) rfl (fun c_ => ?_) (fun c_ => ?_)
        · have hM := it_t c_ hM
          exact st_lv hR [0, 1, 3] rfl (J36 _ _ hM)
        · have hM := it_f c_ hM
          refine st_aload_n hR dX11_isRest_16 0 rfl rfl (pc' := 17) rfl ?_
          refine st_iload_n hR dX11_isRest_17 1 rfl rfl (pc' := 18) rfl ?_
          refine st_iload_n hR dX11_isRest_18 3 rfl rfl (pc' := 19) rfl ?_
          obtain ⟨r_2, hc_, hM⟩ := bd_e hM
          refine st_callV hR (k_X11_bestLevel hc_) cf_X11_326 (rm_le (Nat.le_of_ble_eq_true rfl) (Nat.le_of_ble_eq_true rfl)) [0] rfl rfl rfl 0 0 10 30 rfl rfl rfl rfl (rest := []) rfl (Nat.le_of_ble_eq_true rfl) dX11_isRest_19 (pc' := 22) rfl (Wn := [wX11 G q_m m_thrown m_tape m_taped m_size m_sort m_place m_value m_at m_fault m_words m_rows m_op m_arg m_codes m_names m_ofFeed m_teeth m_feedWords m_goWords m_facts m_pile m_levels m_best m_losses m_lossOf m_wasThere m_groupMany m_groupRow m_groupLoss m_isMarked]) rfl ?_
          refine st_iload_n hR dX11_isRest_22 1 rfl rfl (pc' := 23) rfl ?_
          refine st_iconst hR dX11_isRest_23 (v := 2) rfl (pc' := 24) rfl ?_
          refine st_iload_n hR dX11_isRest_24 3 rfl rfl (pc' := 25) rfl ?_
          refine st_imul hR dX11_isRest_25 (pc' := 26) rfl ?_
          refine st_ishr hR dX11_isRest_26 (pc' := 27) rfl ?_
          refine st_iconst hR dX11_isRest_27 (v := 3) rfl (pc' := 28) rfl ?_
          refine st_iand hR dX11_isRest_28 (pc' := 29) rfl ?_
          refine st_icmp_ne hR dX11_isRest_29 (tgt := 36) (by decide) (pc' := 32) rfl (fun c_ => ?_) (fun c_ => ?_)
          · have hM := it_f c_ hM
            exact st_lv hR [0, 1, 3] rfl (J36 _ _ hM)
          · have hM := it_t c_ hM
            refine st_iconst hR dX11_isRest_32 (v := 1) rfl (pc' := 33) rfl ?_
            refine st_goto hR dX11_isRest_33 (tgt := 37) (by decide) ?_
            exact st_lv hR [0, 1, 3] rfl (J37 _ _ _ hM)
  refine st_iconst hR dX11_isRest_0 (v := 1) rfl (pc' := 1) rfl ?_
  refine st_istore_n hR dX11_isRest_1 rfl (Nat.le_of_ble_eq_true rfl) [1, 2, 0] (lv' := [(0, .ref (q_m 0)), (1, .int l1), (2, .int 1)]) rfl (pc' := 2) rfl ?_
  refine st_iconst hR dX11_isRest_2 (v := 0) rfl (pc' := 3) rfl ?_
  refine st_istore_n hR dX11_isRest_3 rfl (Nat.le_of_ble_eq_true rfl) [1, 2, 3, 0] (lv' := [(0, .ref (q_m 0)), (1, .int l1), (2, .int 1), (3, .int 0)]) rfl (pc' := 4) rfl ?_
  exact L4 FU _ _ _ hM
set_option maxHeartbeats 16000000 in
set_option maxRecDepth 100000 in
theorem k_X11_rests {l : Launch} {G : GG} {q_m : Nat → Nat} {m_thrown m_taped m_size m_at m_fault m_codes m_ofFeed m_teeth m_levels m_groupMany : Int32} {m_tape m_sort m_place m_rows m_op m_arg m_feedWords m_goWords m_facts m_pile m_best m_losses m_lossOf m_wasThere m_groupRow m_groupLoss m_isMarked : Nat → Int32} {m_value m_words m_names : Nat → Int64} {l1 : Int32} {o_r : Int32} {o_m_thrown : Int32} {o_m_rows : Nat → Int32} {o_m_facts : Nat → Int32} {o_m_pile : Nat → Int32} {o_m_levels : Int32} {o_m_best : Nat → Int32} {o_m_losses : Nat → Int32} {o_m_lossOf : Nat → Int32} (hM : f_X11_rests m_op m_arg m_thrown m_rows m_facts m_pile m_levels m_best m_losses m_lossOf l1 = some (o_r, o_m_thrown, o_m_rows, o_m_facts, o_m_pile, o_m_levels, o_m_best, o_m_losses, o_m_lossOf)) : MC l G yX11_rests cX11_rests 4 (some .int) (RM 8) [.ref (q_m 0), .int l1] [wX11 G q_m m_thrown m_tape m_taped m_size m_sort m_place m_value m_at m_fault m_words m_rows m_op m_arg m_codes m_names m_ofFeed m_teeth m_feedWords m_goWords m_facts m_pile m_levels m_best m_losses m_lossOf m_wasThere m_groupMany m_groupRow m_groupLoss m_isMarked] (some (.int o_r)) [wX11 G q_m o_m_thrown m_tape m_taped m_size m_sort m_place m_value m_at m_fault m_words o_m_rows m_op m_arg m_codes m_names m_ofFeed m_teeth m_feedWords m_goWords o_m_facts o_m_pile o_m_levels o_m_best o_m_losses o_m_lossOf m_wasThere m_groupMany m_groupRow m_groupLoss m_isMarked] := by
  refine MC.of pn_X11 (Nat.le_of_ble_eq_true rfl) (fun K hR hret => ?_)
  have hR : Rl l G RX11 cX11_rests 4 (RM 8) K := hR
  show K [wX11 G q_m m_thrown m_tape m_taped m_size m_sort m_place m_value m_at m_fault m_words m_rows m_op m_arg m_codes m_names m_ofFeed m_teeth m_feedWords m_goWords m_facts m_pile m_levels m_best m_losses m_lossOf m_wasThere m_groupMany m_groupRow m_groupLoss m_isMarked] [(0, .ref (q_m 0)), (1, .int l1)] 0 []
  have L24 : ∀ (n24 : Nat) (m_thrown : Int32) (m_rows : Nat → Int32) (m_facts : Nat → Int32) (m_pile : Nat → Int32) (m_levels : Int32) (m_best : Nat → Int32) (m_losses : Nat → Int32) (m_lossOf : Nat → Int32) (l2 : Int32) (l3 : Int32), f_X11_rests_L24  m_op m_arg n24 m_thrown m_rows m_facts m_pile m_levels m_best m_losses m_lossOf l2 l3 = some (o_r, o_m_thrown, o_m_rows, o_m_facts, o_m_pile, o_m_levels, o_m_best, o_m_losses, o_m_lossOf) → K [wX11 G q_m m_thrown m_tape m_taped m_size m_sort m_place m_value m_at m_fault m_words m_rows m_op m_arg m_codes m_names m_ofFeed m_teeth m_feedWords m_goWords m_facts m_pile m_levels m_best m_losses m_lossOf m_wasThere m_groupMany m_groupRow m_groupLoss m_isMarked] [(0, .ref (q_m 0)), (2, .int l2), (3, .int l3)] 24 [] := by
    intro n24
    induction n24 with
    | zero => intro m_thrown m_rows m_facts m_pile m_levels m_best m_losses m_lossOf l2 l3 hM; exact no_some hM
    | succ n24 ih24 =>
      have J46 : ∀ (m_thrown : Int32) (m_rows : Nat → Int32) (m_facts : Nat → Int32) (m_pile : Nat → Int32) (m_levels : Int32) (m_best : Nat → Int32) (m_losses : Nat → Int32) (m_lossOf : Nat → Int32) (l3 : Int32) (s0 : Int32) (s1 : Int32), f_X11_rests_B46  (f_X11_rests_L24  m_op m_arg n24) m_op m_arg m_thrown m_rows m_facts m_pile m_levels m_best m_losses m_lossOf l3 s0 s1 = some (o_r, o_m_thrown, o_m_rows, o_m_facts, o_m_pile, o_m_levels, o_m_best, o_m_losses, o_m_lossOf) → K [wX11 G q_m m_thrown m_tape m_taped m_size m_sort m_place m_value m_at m_fault m_words m_rows m_op m_arg m_codes m_names m_ofFeed m_teeth m_feedWords m_goWords m_facts m_pile m_levels m_best m_losses m_lossOf m_wasThere m_groupMany m_groupRow m_groupLoss m_isMarked] [(0, .ref (q_m 0)), (3, .int l3)] 46 [.int s0, .int s1] := by
        intro m_thrown m_rows m_facts m_pile m_levels m_best m_losses m_lossOf l3 s0 s1 hM
        refine st_iadd hR dX11_rests_46 (pc' := 47) rfl ?_
        refine st_topi (fun l2_1 e_ => ?_)
        have hM := lt_e e_ hM
        refine st_istore_n hR dX11_rests_47 rfl (Nat.le_of_ble_eq_true rfl) [1, 0, 2] (lv' := [(0, .ref (q_m 0)), (2, .int l2_1), (3, .int l3)]) rfl (pc' := 48) rfl ?_
        obtain ⟨l3_1, e_⟩ : ∃ y : Int32, y = l3 + 1 := ⟨_, rfl⟩
        refine st_iinc hR dX11_rests_48 (Nat.le_of_ble_eq_true rfl) 2 [1, 2, 0] (v := l3_1) rfl (by rw [e_]; rfl) (lv' := [(0, .ref (q_m 0)), (2, .int l2_1), (3, .int l3_1)]) rfl (pc' := 51) rfl ?_
        have hM := lt_e e_ hM
        refine st_goto hR dX11_rests_51 (tgt := 24) (by decide) ?_
        exact ih24 _ _ _ _ _ _ _ _ _ _ hM
      intro m_thrown m_rows m_facts m_pile m_levels m_best m_losses m_lossOf l2 l3 hM
      have hM : f_X11_rests_L24b  (f_X11_rests_L24  m_op m_arg n24) m_op m_arg m_thrown m_rows m_facts m_pile m_levels m_best m_losses m_lossOf l2 l3 = some (o_r, o_m_thrown, o_m_rows, o_m_facts, o_m_pile, o_m_levels, o_m_best, o_m_losses, o_m_lossOf) := hM
      refine st_iload_n hR dX11_rests_24 2 rfl rfl (pc' := 25) rfl ?_
      refine st_aload_n hR dX11_rests_25 0 rfl rfl (pc' := 26) rfl ?_
      obtain ⟨r_1, hc_, hM⟩ := bd_e hM
      refine st_callV hR (k_X11_gameRows hc_) cf_X11_317 (rm_le (Nat.le_of_ble_eq_true rfl) (Nat.le_of_ble_eq_true rfl)) [0] rfl rfl rfl 0 0 10 30 rfl rfl rfl rfl (rest := [.int l3]) rfl (Nat.le_of_ble_eq_true rfl) dX11_rests_26 (pc' := 29) rfl (Wn := [wX11 G q_m m_thrown m_tape m_taped m_size m_sort m_place m_value m_at m_fault m_words m_rows m_op m_arg m_codes m_names m_ofFeed m_teeth m_feedWords m_goWords m_facts m_pile m_levels m_best m_losses m_lossOf m_wasThere m_groupMany m_groupRow m_groupLoss m_isMarked]) rfl ?_
      refine st_icmp_ge hR dX11_rests_29 (tgt := 54) (by decide) (pc' := 32) rfl (fun c_ => ?_) (fun c_ => ?_)
      · have hM := it_t c_ hM
        refine st_iload_n hR dX11_rests_54 1 rfl rfl (pc' := 55) rfl ?_
        cases hM
        exact hret _ _ dX11_rests_55 (ro_i _)
      · have hM := it_f c_ hM
        refine st_iload_n hR dX11_rests_32 1 rfl rfl (pc' := 33) rfl ?_
        refine st_aload_n hR dX11_rests_33 0 rfl rfl (pc' := 34) rfl ?_
        refine st_iload_n hR dX11_rests_34 2 rfl rfl (pc' := 35) rfl ?_
        obtain ⟨r_2, hc_, hM⟩ := bd_e hM
        refine st_callV hR (k_X11_isRest hc_) cf_X11_332 (rm_le (Nat.le_of_ble_eq_true rfl) (Nat.le_of_ble_eq_true rfl)) [0] rfl rfl rfl 0 0 10 30 rfl rfl rfl rfl (rest := [.int l2]) rfl (Nat.le_of_ble_eq_true rfl) dX11_rests_35 (pc' := 38) rfl (Wn := [wX11 G q_m m_thrown m_tape m_taped m_size m_sort m_place m_value m_at m_fault m_words m_rows m_op m_arg m_codes m_names m_ofFeed m_teeth m_feedWords m_goWords m_facts m_pile m_levels m_best m_losses m_lossOf m_wasThere m_groupMany m_groupRow m_groupLoss m_isMarked]) rfl ?_
        refine st_if_eq hR dX11_rests_38 (tgt := 45) (by decide) (pc' := 41) rfl (fun c_ => ?_) (fun c_ => ?_)
        · have hM := it_t c_ hM
          refine st_iconst hR dX11_rests_45 (v := 0) rfl (pc' := 46) rfl ?_
          exact st_lv hR [0, 2] rfl (J46 _ _ _ _ _ _ _ _ _ _ _ hM)
        · have hM := it_f c_ hM
          refine st_iconst hR dX11_rests_41 (v := 1) rfl (pc' := 42) rfl ?_
          refine st_goto hR dX11_rests_42 (tgt := 46) (by decide) ?_
          exact st_lv hR [0, 2] rfl (J46 _ _ _ _ _ _ _ _ _ _ _ hM)
  refine st_aload_n hR dX11_rests_0 0 rfl rfl (pc' := 1) rfl ?_
  refine st_iconst hR dX11_rests_1 (v := 0) rfl (pc' := 2) rfl ?_
  refine st_put hR dX11_rests_2 fp_X11_1_10_0 0 0 rfl rfl (Nat.le_of_ble_eq_true rfl) rfl rfl (pc' := 5) rfl (W' := [wX11 G q_m 0 m_tape m_taped m_size m_sort m_place m_value m_at m_fault m_words m_rows m_op m_arg m_codes m_names m_ofFeed m_teeth m_feedWords m_goWords m_facts m_pile m_levels m_best m_losses m_lossOf m_wasThere m_groupMany m_groupRow m_groupLoss m_isMarked]) rfl ?_
  refine st_aload_n hR dX11_rests_5 0 rfl rfl (pc' := 6) rfl ?_
  refine st_iload_n hR dX11_rests_6 1 rfl rfl (pc' := 7) rfl ?_
  obtain ⟨r_1, hc_, hM⟩ := bd_e hM
  refine st_callV hR (k_X11_isGame hc_) cf_X11_320 (rm_le (Nat.le_of_ble_eq_true rfl) (Nat.le_of_ble_eq_true rfl)) [0] rfl rfl rfl 0 0 10 30 rfl rfl rfl rfl (rest := []) rfl (Nat.le_of_ble_eq_true rfl) dX11_rests_7 (pc' := 10) rfl (Wn := [wX11 G q_m 0 m_tape m_taped m_size m_sort m_place m_value m_at m_fault m_words m_rows m_op m_arg m_codes m_names m_ofFeed m_teeth m_feedWords m_goWords m_facts m_pile m_levels m_best m_losses m_lossOf m_wasThere m_groupMany m_groupRow m_groupLoss m_isMarked]) rfl ?_
  refine st_if_ne hR dX11_rests_10 (tgt := 15) (by decide) (pc' := 13) rfl (fun c_ => ?_) (fun c_ => ?_)
  · have hM := it_f c_ hM
    refine st_aload_n hR dX11_rests_15 0 rfl rfl (pc' := 16) rfl ?_
    refine st_iload_n hR dX11_rests_16 1 rfl rfl (pc' := 17) rfl ?_
    obtain ⟨⟨m_rows_1, m_facts_1, m_pile_1, m_levels_1, m_best_1, m_losses_1, m_lossOf_1⟩, hc_, hM⟩ := bd_e hM
    refine st_callV hR (k_X11_findGame hc_) cf_X11_329 (rm_le (Nat.le_of_ble_eq_true rfl) (Nat.le_of_ble_eq_true rfl)) [0] rfl rfl rfl 0 0 10 30 rfl rfl rfl rfl (rest := []) rfl (Nat.le_of_ble_eq_true rfl) dX11_rests_17 (pc' := 20) rfl (Wn := [wX11 G q_m 0 m_tape m_taped m_size m_sort m_place m_value m_at m_fault m_words m_rows_1 m_op m_arg m_codes m_names m_ofFeed m_teeth m_feedWords m_goWords m_facts_1 m_pile_1 m_levels_1 m_best_1 m_losses_1 m_lossOf_1 m_wasThere m_groupMany m_groupRow m_groupLoss m_isMarked]) rfl ?_
    refine st_iconst hR dX11_rests_20 (v := 0) rfl (pc' := 21) rfl ?_
    refine st_istore_n hR dX11_rests_21 rfl (Nat.le_of_ble_eq_true rfl) [1, 2, 0] (lv' := [(0, .ref (q_m 0)), (1, .int l1), (2, .int 0)]) rfl (pc' := 22) rfl ?_
    refine st_iconst hR dX11_rests_22 (v := 0) rfl (pc' := 23) rfl ?_
    refine st_istore_n hR dX11_rests_23 rfl (Nat.le_of_ble_eq_true rfl) [1, 2, 3, 0] (lv' := [(0, .ref (q_m 0)), (1, .int l1), (2, .int 0), (3, .int 0)]) rfl (pc' := 24) rfl ?_
    exact st_lv hR [0, 2, 3] rfl (L24 FU _ _ _ _ _ _ _ _ _ _ hM)
  · have hM := it_t c_ hM
    refine st_iconst hR dX11_rests_13 (v := (-1)) (by decide) (pc' := 14) rfl ?_
    cases hM
    exact hret _ _ dX11_rests_14 (ro_i _)
set_option maxHeartbeats 16000000 in
set_option maxRecDepth 100000 in
theorem k_X11_rest {l : Launch} {G : GG} {q_m : Nat → Nat} {m_thrown m_taped m_size m_at m_fault m_codes m_ofFeed m_teeth m_levels m_groupMany : Int32} {m_tape m_sort m_place m_rows m_op m_arg m_feedWords m_goWords m_facts m_pile m_best m_losses m_lossOf m_wasThere m_groupRow m_groupLoss m_isMarked : Nat → Int32} {m_value m_words m_names : Nat → Int64} {l1 l2 : Int32} {o_r : Int32} {o_m_thrown : Int32} {o_m_rows : Nat → Int32} {o_m_facts : Nat → Int32} {o_m_pile : Nat → Int32} {o_m_levels : Int32} {o_m_best : Nat → Int32} {o_m_losses : Nat → Int32} {o_m_lossOf : Nat → Int32} (hM : f_X11_rest m_op m_arg m_thrown m_rows m_facts m_pile m_levels m_best m_losses m_lossOf l1 l2 = some (o_r, o_m_thrown, o_m_rows, o_m_facts, o_m_pile, o_m_levels, o_m_best, o_m_losses, o_m_lossOf)) : MC l G yX11_rest cX11_rest 5 (some .int) (RM 8) [.ref (q_m 0), .int l1, .int l2] [wX11 G q_m m_thrown m_tape m_taped m_size m_sort m_place m_value m_at m_fault m_words m_rows m_op m_arg m_codes m_names m_ofFeed m_teeth m_feedWords m_goWords m_facts m_pile m_levels m_best m_losses m_lossOf m_wasThere m_groupMany m_groupRow m_groupLoss m_isMarked] (some (.int o_r)) [wX11 G q_m o_m_thrown m_tape m_taped m_size m_sort m_place m_value m_at m_fault m_words o_m_rows m_op m_arg m_codes m_names m_ofFeed m_teeth m_feedWords m_goWords o_m_facts o_m_pile o_m_levels o_m_best o_m_losses o_m_lossOf m_wasThere m_groupMany m_groupRow m_groupLoss m_isMarked] := by
  refine MC.of pn_X11 (Nat.le_of_ble_eq_true rfl) (fun K hR hret => ?_)
  have hR : Rl l G RX11 cX11_rest 5 (RM 8) K := hR
  show K [wX11 G q_m m_thrown m_tape m_taped m_size m_sort m_place m_value m_at m_fault m_words m_rows m_op m_arg m_codes m_names m_ofFeed m_teeth m_feedWords m_goWords m_facts m_pile m_levels m_best m_losses m_lossOf m_wasThere m_groupMany m_groupRow m_groupLoss m_isMarked] [(0, .ref (q_m 0)), (1, .int l1), (2, .int l2)] 0 []
  have L29 : ∀ (n29 : Nat) (m_thrown : Int32) (m_rows : Nat → Int32) (m_facts : Nat → Int32) (m_pile : Nat → Int32) (m_levels : Int32) (m_best : Nat → Int32) (m_losses : Nat → Int32) (m_lossOf : Nat → Int32) (l2 : Int32) (l3 : Int32) (l4 : Int32), f_X11_rest_L29  m_op m_arg n29 m_thrown m_rows m_facts m_pile m_levels m_best m_losses m_lossOf l2 l3 l4 = some (o_r, o_m_thrown, o_m_rows, o_m_facts, o_m_pile, o_m_levels, o_m_best, o_m_losses, o_m_lossOf) → K [wX11 G q_m m_thrown m_tape m_taped m_size m_sort m_place m_value m_at m_fault m_words m_rows m_op m_arg m_codes m_names m_ofFeed m_teeth m_feedWords m_goWords m_facts m_pile m_levels m_best m_losses m_lossOf m_wasThere m_groupMany m_groupRow m_groupLoss m_isMarked] [(0, .ref (q_m 0)), (2, .int l2), (3, .int l3), (4, .int l4)] 29 [] := by
    intro n29
    induction n29 with
    | zero => intro m_thrown m_rows m_facts m_pile m_levels m_best m_losses m_lossOf l2 l3 l4 hM; exact no_some hM
    | succ n29 ih29 =>
      have J58 : ∀ (m_thrown : Int32) (m_rows : Nat → Int32) (m_facts : Nat → Int32) (m_pile : Nat → Int32) (m_levels : Int32) (m_best : Nat → Int32) (m_losses : Nat → Int32) (m_lossOf : Nat → Int32) (l2 : Int32) (l3 : Int32) (l4 : Int32), f_X11_rest_B58  (f_X11_rest_L29  m_op m_arg n29) m_op m_arg m_thrown m_rows m_facts m_pile m_levels m_best m_losses m_lossOf l2 l3 l4 = some (o_r, o_m_thrown, o_m_rows, o_m_facts, o_m_pile, o_m_levels, o_m_best, o_m_losses, o_m_lossOf) → K [wX11 G q_m m_thrown m_tape m_taped m_size m_sort m_place m_value m_at m_fault m_words m_rows m_op m_arg m_codes m_names m_ofFeed m_teeth m_feedWords m_goWords m_facts m_pile m_levels m_best m_losses m_lossOf m_wasThere m_groupMany m_groupRow m_groupLoss m_isMarked] [(0, .ref (q_m 0)), (2, .int l2), (3, .int l3), (4, .int l4)] 58 [] := by
        intro m_thrown m_rows m_facts m_pile m_levels m_best m_losses m_lossOf l2 l3 l4 hM
        obtain ⟨l4_1, e_⟩ : ∃ y : Int32, y = l4 + 1 := ⟨_, rfl⟩
        refine st_iinc hR dX11_rest_58 (Nat.le_of_ble_eq_true rfl) 3 [1, 2, 3, 0] (v := l4_1) rfl (by rw [e_]; rfl) (lv' := [(0, .ref (q_m 0)), (2, .int l2), (3, .int l3), (4, .int l4_1)]) rfl (pc' := 61) rfl ?_
        have hM := lt_e e_ hM
        refine st_goto hR dX11_rest_61 (tgt := 29) (by decide) ?_
        exact ih29 _ _ _ _ _ _ _ _ _ _ _ hM
      intro m_thrown m_rows m_facts m_pile m_levels m_best m_losses m_lossOf l2 l3 l4 hM
      have hM : f_X11_rest_L29b  (f_X11_rest_L29  m_op m_arg n29) m_op m_arg m_thrown m_rows m_facts m_pile m_levels m_best m_losses m_lossOf l2 l3 l4 = some (o_r, o_m_thrown, o_m_rows, o_m_facts, o_m_pile, o_m_levels, o_m_best, o_m_losses, o_m_lossOf) := hM
      refine st_iload hR dX11_rest_29 3 rfl (pc' := 31) rfl ?_
      refine st_aload_n hR dX11_rest_31 0 rfl rfl (pc' := 32) rfl ?_
      obtain ⟨r_1, hc_, hM⟩ := bd_e hM
      refine st_callV hR (k_X11_gameRows hc_) cf_X11_317 (rm_le (Nat.le_of_ble_eq_true rfl) (Nat.le_of_ble_eq_true rfl)) [0] rfl rfl rfl 0 0 10 30 rfl rfl rfl rfl (rest := [.int l4]) rfl (Nat.le_of_ble_eq_true rfl) dX11_rest_32 (pc' := 35) rfl (Wn := [wX11 G q_m m_thrown m_tape m_taped m_size m_sort m_place m_value m_at m_fault m_words m_rows m_op m_arg m_codes m_names m_ofFeed m_teeth m_feedWords m_goWords m_facts m_pile m_levels m_best m_losses m_lossOf m_wasThere m_groupMany m_groupRow m_groupLoss m_isMarked]) rfl ?_
      refine st_icmp_ge hR dX11_rest_35 (tgt := 64) (by decide) (pc' := 38) rfl (fun c_ => ?_) (fun c_ => ?_)
      · have hM := it_t c_ hM
        refine st_iconst hR dX11_rest_64 (v := (-1)) (by decide) (pc' := 65) rfl ?_
        cases hM
        exact hret _ _ dX11_rest_65 (ro_i _)
      · have hM := it_f c_ hM
        refine st_aload_n hR dX11_rest_38 0 rfl rfl (pc' := 39) rfl ?_
        refine st_iload hR dX11_rest_39 3 rfl (pc' := 41) rfl ?_
        obtain ⟨r_2, hc_, hM⟩ := bd_e hM
        refine st_callV hR (k_X11_isRest hc_) cf_X11_332 (rm_le (Nat.le_of_ble_eq_true rfl) (Nat.le_of_ble_eq_true rfl)) [0] rfl rfl rfl 0 0 10 30 rfl rfl rfl rfl (rest := []) rfl (Nat.le_of_ble_eq_true rfl) dX11_rest_41 (pc' := 44) rfl (Wn := [wX11 G q_m m_thrown m_tape m_taped m_size m_sort m_place m_value m_at m_fault m_words m_rows m_op m_arg m_codes m_names m_ofFeed m_teeth m_feedWords m_goWords m_facts m_pile m_levels m_best m_losses m_lossOf m_wasThere m_groupMany m_groupRow m_groupLoss m_isMarked]) rfl ?_
        refine st_if_eq hR dX11_rest_44 (tgt := 58) (by decide) (pc' := 47) rfl (fun c_ => ?_) (fun c_ => ?_)
        · have hM := it_t c_ hM
          exact J58 _ _ _ _ _ _ _ _ _ _ _ hM
        · have hM := it_f c_ hM
          refine st_iload_n hR dX11_rest_47 2 rfl rfl (pc' := 48) rfl ?_
          refine st_iload_n hR dX11_rest_48 1 rfl rfl (pc' := 49) rfl ?_
          refine st_icmp_ne hR dX11_rest_49 (tgt := 55) (by decide) (pc' := 52) rfl (fun c_ => ?_) (fun c_ => ?_)
          · have hM := it_f c_ hM
            obtain ⟨l3_1, e_⟩ : ∃ y : Int32, y = l3 + 1 := ⟨_, rfl⟩
            refine st_iinc hR dX11_rest_55 (Nat.le_of_ble_eq_true rfl) 2 [1, 2, 0, 3] (v := l3_1) rfl (by rw [e_]; rfl) (lv' := [(0, .ref (q_m 0)), (2, .int l2), (3, .int l3_1), (4, .int l4)]) rfl (pc' := 58) rfl ?_
            have hM := lt_e e_ hM
            exact J58 _ _ _ _ _ _ _ _ _ _ _ hM
          · have hM := it_t c_ hM
            refine st_iload hR dX11_rest_52 3 rfl (pc' := 54) rfl ?_
            cases hM
            exact hret _ _ dX11_rest_54 (ro_i _)
  refine st_aload_n hR dX11_rest_0 0 rfl rfl (pc' := 1) rfl ?_
  refine st_iconst hR dX11_rest_1 (v := 0) rfl (pc' := 2) rfl ?_
  refine st_put hR dX11_rest_2 fp_X11_1_10_0 0 0 rfl rfl (Nat.le_of_ble_eq_true rfl) rfl rfl (pc' := 5) rfl (W' := [wX11 G q_m 0 m_tape m_taped m_size m_sort m_place m_value m_at m_fault m_words m_rows m_op m_arg m_codes m_names m_ofFeed m_teeth m_feedWords m_goWords m_facts m_pile m_levels m_best m_losses m_lossOf m_wasThere m_groupMany m_groupRow m_groupLoss m_isMarked]) rfl ?_
  refine st_aload_n hR dX11_rest_5 0 rfl rfl (pc' := 6) rfl ?_
  refine st_iload_n hR dX11_rest_6 1 rfl rfl (pc' := 7) rfl ?_
  obtain ⟨r_1, hc_, hM⟩ := bd_e hM
  refine st_callV hR (k_X11_isGame hc_) cf_X11_320 (rm_le (Nat.le_of_ble_eq_true rfl) (Nat.le_of_ble_eq_true rfl)) [0] rfl rfl rfl 0 0 10 30 rfl rfl rfl rfl (rest := []) rfl (Nat.le_of_ble_eq_true rfl) dX11_rest_7 (pc' := 10) rfl (Wn := [wX11 G q_m 0 m_tape m_taped m_size m_sort m_place m_value m_at m_fault m_words m_rows m_op m_arg m_codes m_names m_ofFeed m_teeth m_feedWords m_goWords m_facts m_pile m_levels m_best m_losses m_lossOf m_wasThere m_groupMany m_groupRow m_groupLoss m_isMarked]) rfl ?_
  refine st_if_eq hR dX11_rest_10 (tgt := 17) (by decide) (pc' := 13) rfl (fun c_ => ?_) (fun c_ => ?_)
  · have hM := it_t c_ hM
    refine st_iconst hR dX11_rest_17 (v := (-1)) (by decide) (pc' := 18) rfl ?_
    cases hM
    exact hret _ _ dX11_rest_18 (ro_i _)
  · have hM := it_f c_ hM
    refine st_iload_n hR dX11_rest_13 2 rfl rfl (pc' := 14) rfl ?_
    refine st_if_ge hR dX11_rest_14 (tgt := 19) (by decide) (pc' := 17) rfl (fun c_ => ?_) (fun c_ => ?_)
    · have hM := it_t c_ hM
      refine st_aload_n hR dX11_rest_19 0 rfl rfl (pc' := 20) rfl ?_
      refine st_iload_n hR dX11_rest_20 1 rfl rfl (pc' := 21) rfl ?_
      obtain ⟨⟨m_rows_1, m_facts_1, m_pile_1, m_levels_1, m_best_1, m_losses_1, m_lossOf_1⟩, hc_, hM⟩ := bd_e hM
      refine st_callV hR (k_X11_findGame hc_) cf_X11_329 (rm_le (Nat.le_of_ble_eq_true rfl) (Nat.le_of_ble_eq_true rfl)) [0] rfl rfl rfl 0 0 10 30 rfl rfl rfl rfl (rest := []) rfl (Nat.le_of_ble_eq_true rfl) dX11_rest_21 (pc' := 24) rfl (Wn := [wX11 G q_m 0 m_tape m_taped m_size m_sort m_place m_value m_at m_fault m_words m_rows_1 m_op m_arg m_codes m_names m_ofFeed m_teeth m_feedWords m_goWords m_facts_1 m_pile_1 m_levels_1 m_best_1 m_losses_1 m_lossOf_1 m_wasThere m_groupMany m_groupRow m_groupLoss m_isMarked]) rfl ?_
      refine st_iconst hR dX11_rest_24 (v := 0) rfl (pc' := 25) rfl ?_
      refine st_istore_n hR dX11_rest_25 rfl (Nat.le_of_ble_eq_true rfl) [1, 2, 3, 0] (lv' := [(0, .ref (q_m 0)), (1, .int l1), (2, .int l2), (3, .int 0)]) rfl (pc' := 26) rfl ?_
      refine st_iconst hR dX11_rest_26 (v := 0) rfl (pc' := 27) rfl ?_
      refine st_istore hR dX11_rest_27 (Nat.le_of_ble_eq_true rfl) [1, 2, 3, 4, 0] (lv' := [(0, .ref (q_m 0)), (1, .int l1), (2, .int l2), (3, .int 0), (4, .int 0)]) rfl (pc' := 29) rfl ?_
      exact st_lv hR [0, 2, 3, 4] rfl (L29 FU _ _ _ _ _ _ _ _ _ _ _ hM)
    · have hM := it_f c_ hM
      refine st_iconst hR dX11_rest_17 (v := (-1)) (by decide) (pc' := 18) rfl ?_
      cases hM
      exact hret _ _ dX11_rest_18 (ro_i _)
set_option maxHeartbeats 16000000 in
set_option maxRecDepth 100000 in
theorem k_X11_played {l : Launch} {G : GG} {q_m : Nat → Nat} {m_thrown m_taped m_size m_at m_fault m_codes m_ofFeed m_teeth m_levels m_groupMany : Int32} {m_tape m_sort m_place m_rows m_op m_arg m_feedWords m_goWords m_facts m_pile m_best m_losses m_lossOf m_wasThere m_groupRow m_groupLoss m_isMarked : Nat → Int32} {m_value m_words m_names : Nat → Int64} {l1 l2 l3 : Int32} {o_r : Int32} {o_m_thrown : Int32} {o_m_rows : Nat → Int32} {o_m_facts : Nat → Int32} {o_m_pile : Nat → Int32} {o_m_levels : Int32} {o_m_best : Nat → Int32} {o_m_losses : Nat → Int32} {o_m_lossOf : Nat → Int32} {o_m_wasThere : Nat → Int32} (hM : f_X11_played m_op m_arg m_thrown m_rows m_facts m_pile m_levels m_best m_losses m_lossOf m_wasThere l1 l2 l3 = some (o_r, o_m_thrown, o_m_rows, o_m_facts, o_m_pile, o_m_levels, o_m_best, o_m_losses, o_m_lossOf, o_m_wasThere)) : MC l G yX11_played cX11_played 8 (some .int) (RM 8) [.ref (q_m 0), .int l1, .int l2, .int l3] [wX11 G q_m m_thrown m_tape m_taped m_size m_sort m_place m_value m_at m_fault m_words m_rows m_op m_arg m_codes m_names m_ofFeed m_teeth m_feedWords m_goWords m_facts m_pile m_levels m_best m_losses m_lossOf m_wasThere m_groupMany m_groupRow m_groupLoss m_isMarked] (some (.int o_r)) [wX11 G q_m o_m_thrown m_tape m_taped m_size m_sort m_place m_value m_at m_fault m_words o_m_rows m_op m_arg m_codes m_names m_ofFeed m_teeth m_feedWords m_goWords o_m_facts o_m_pile o_m_levels o_m_best o_m_losses o_m_lossOf o_m_wasThere m_groupMany m_groupRow m_groupLoss m_isMarked] := by
  refine MC.of pn_X11 (Nat.le_of_ble_eq_true rfl) (fun K hR hret => ?_)
  have hR : Rl l G RX11 cX11_played 8 (RM 8) K := hR
  show K [wX11 G q_m m_thrown m_tape m_taped m_size m_sort m_place m_value m_at m_fault m_words m_rows m_op m_arg m_codes m_names m_ofFeed m_teeth m_feedWords m_goWords m_facts m_pile m_levels m_best m_losses m_lossOf m_wasThere m_groupMany m_groupRow m_groupLoss m_isMarked] [(0, .ref (q_m 0)), (1, .int l1), (2, .int l2), (3, .int l3)] 0 []
  have L82 : ∀ (n82 : Nat) (m_thrown : Int32) (m_rows : Nat → Int32) (m_facts : Nat → Int32) (m_pile : Nat → Int32) (m_levels : Int32) (m_best : Nat → Int32) (m_losses : Nat → Int32) (m_lossOf : Nat → Int32) (m_wasThere : Nat → Int32) (l3 : Int32) (l4 : Int32) (l5 : Int32), f_X11_played_L82  m_op m_arg n82 m_thrown m_rows m_facts m_pile m_levels m_best m_losses m_lossOf m_wasThere l3 l4 l5 = some (o_r, o_m_thrown, o_m_rows, o_m_facts, o_m_pile, o_m_levels, o_m_best, o_m_losses, o_m_lossOf, o_m_wasThere) → K [wX11 G q_m m_thrown m_tape m_taped m_size m_sort m_place m_value m_at m_fault m_words m_rows m_op m_arg m_codes m_names m_ofFeed m_teeth m_feedWords m_goWords m_facts m_pile m_levels m_best m_losses m_lossOf m_wasThere m_groupMany m_groupRow m_groupLoss m_isMarked] [(0, .ref (q_m 0)), (3, .int l3), (4, .int l4), (5, .int l5)] 82 [] := by
    intro n82
    induction n82 with
    | zero => intro m_thrown m_rows m_facts m_pile m_levels m_best m_losses m_lossOf m_wasThere l3 l4 l5 hM; exact no_some hM
    | succ n82 ih82 =>
      have L89 : ∀ (n89 : Nat) (m_thrown : Int32) (m_rows : Nat → Int32) (m_facts : Nat → Int32) (m_pile : Nat → Int32) (m_levels : Int32) (m_best : Nat → Int32) (m_losses : Nat → Int32) (m_lossOf : Nat → Int32) (m_wasThere : Nat → Int32) (l3 : Int32) (l4 : Int32) (l5 : Int32) (l6 : Int32) (l7 : Int32), f_X11_played_L89  (f_X11_played_L82  m_op m_arg n82) m_op m_arg n89 m_thrown m_rows m_facts m_pile m_levels m_best m_losses m_lossOf m_wasThere l3 l4 l5 l6 l7 = some (o_r, o_m_thrown, o_m_rows, o_m_facts, o_m_pile, o_m_levels, o_m_best, o_m_losses, o_m_lossOf, o_m_wasThere) → K [wX11 G q_m m_thrown m_tape m_taped m_size m_sort m_place m_value m_at m_fault m_words m_rows m_op m_arg m_codes m_names m_ofFeed m_teeth m_feedWords m_goWords m_facts m_pile m_levels m_best m_losses m_lossOf m_wasThere m_groupMany m_groupRow m_groupLoss m_isMarked] [(0, .ref (q_m 0)), (3, .int l3), (4, .int l4), (5, .int l5), (6, .int l6), (7, .int l7)] 89 [] := by
        intro n89
        induction n89 with
        | zero => intro m_thrown m_rows m_facts m_pile m_levels m_best m_losses m_lossOf m_wasThere l3 l4 l5 l6 l7 hM; exact no_some hM
        | succ n89 ih89 =>
          intro m_thrown m_rows m_facts m_pile m_levels m_best m_losses m_lossOf m_wasThere l3 l4 l5 l6 l7 hM
          have hM : f_X11_played_L89b  (f_X11_played_L82  m_op m_arg n82) (f_X11_played_L89  (f_X11_played_L82  m_op m_arg n82) m_op m_arg n89) m_op m_arg m_thrown m_rows m_facts m_pile m_levels m_best m_losses m_lossOf m_wasThere l3 l4 l5 l6 l7 = some (o_r, o_m_thrown, o_m_rows, o_m_facts, o_m_pile, o_m_levels, o_m_best, o_m_losses, o_m_lossOf, o_m_wasThere) := hM
          refine st_iload hR dX11_played_89 5 rfl (pc' := 91) rfl ?_
          refine st_aload_n hR dX11_played_91 0 rfl rfl (pc' := 92) rfl ?_
          obtain ⟨r_1, hc_, hM⟩ := bd_e hM
          refine st_callV hR (k_X11_farms hc_) cf_X11_248 (rm_le (Nat.le_of_ble_eq_true rfl) (Nat.le_of_ble_eq_true rfl)) [0] rfl rfl rfl 0 0 10 30 rfl rfl rfl rfl (rest := [.int l7]) rfl (Nat.le_of_ble_eq_true rfl) dX11_played_92 (pc' := 95) rfl (Wn := [wX11 G q_m m_thrown m_tape m_taped m_size m_sort m_place m_value m_at m_fault m_words m_rows m_op m_arg m_codes m_names m_ofFeed m_teeth m_feedWords m_goWords m_facts m_pile m_levels m_best m_losses m_lossOf m_wasThere m_groupMany m_groupRow m_groupLoss m_isMarked]) rfl ?_
          refine st_icmp_ge hR dX11_played_95 (tgt := 121) (by decide) (pc' := 98) rfl (fun c_ => ?_) (fun c_ => ?_)
          · have hM := it_t c_ hM
            obtain ⟨l5_1, e_⟩ : ∃ y : Int32, y = l5 + 1 := ⟨_, rfl⟩
            refine st_iinc hR dX11_played_121 (Nat.le_of_ble_eq_true rfl) 3 [1, 2, 3, 0, 4, 5] (v := l5_1) rfl (by rw [e_]; rfl) (lv' := [(0, .ref (q_m 0)), (3, .int l3), (4, .int l4), (5, .int l5_1), (6, .int l6), (7, .int l7)]) rfl (pc' := 124) rfl ?_
            have hM := lt_e e_ hM
            refine st_iload hR dX11_played_124 2 rfl (pc' := 126) rfl ?_
            refine st_iload hR dX11_played_126 4 rfl (pc' := 128) rfl ?_
            refine st_icmp_ne hR dX11_played_128 (tgt := 143) (by decide) (pc' := 131) rfl (fun c_ => ?_) (fun c_ => ?_)
            · have hM := it_f c_ hM
              refine st_aload_n hR dX11_played_143 0 rfl rfl (pc' := 144) rfl ?_
              refine st_get hR dX11_played_144 fg_X11_105_10_25 0 0 rfl rfl rfl (pc' := 147) rfl ?_
              refine st_iload hR dX11_played_147 2 rfl (pc' := 149) rfl ?_
              obtain ⟨hin_, hM⟩ := g_in_e hM
              refine st_zald hR dX11_played_149 0 17 rfl rfl hin_ (v := m_wasThere (ix l4)) rfl (pc' := 150) rfl ?_
              refine st_if_eq hR dX11_played_150 (tgt := 164) (by decide) (pc' := 153) rfl (fun c_ => ?_) (fun c_ => ?_)
              · have hM := it_t c_ hM
                refine st_aload_n hR dX11_played_164 0 rfl rfl (pc' := 165) rfl ?_
                refine st_get hR dX11_played_165 fg_X11_105_10_25 0 0 rfl rfl rfl (pc' := 168) rfl ?_
                refine st_iload hR dX11_played_168 2 rfl (pc' := 170) rfl ?_
                refine st_iconst hR dX11_played_170 (v := 1) rfl (pc' := 171) rfl ?_
                obtain ⟨hin_, hM⟩ := g_in_e hM
                refine st_zast hR dX11_played_171 0 17 rfl rfl hin_ (ix := (ix l4)) rfl (pc' := 172) rfl (fun m_wasThere_1 => [wX11 G q_m m_thrown m_tape m_taped m_size m_sort m_place m_value m_at m_fault m_words m_rows m_op m_arg m_codes m_names m_ofFeed m_teeth m_feedWords m_goWords m_facts m_pile m_levels m_best m_losses m_lossOf m_wasThere_1 m_groupMany m_groupRow m_groupLoss m_isMarked]) (fun _ => rfl) (fun m_wasThere_1 e_ => ?_)
                have hM := lt_e e_ hM
                refine st_goto hR dX11_played_172 (tgt := 82) (by decide) ?_
                exact st_lv hR [0, 1, 2, 3] rfl (ih82 _ _ _ _ _ _ _ _ _ _ _ _ hM)
              · have hM := it_f c_ hM
                refine st_iload_n hR dX11_played_153 1 rfl rfl (pc' := 154) rfl ?_
                refine st_if_ne hR dX11_played_154 (tgt := 161) (by decide) (pc' := 157) rfl (fun c_ => ?_) (fun c_ => ?_)
                · have hM := it_f c_ hM
                  refine st_iload hR dX11_played_161 3 rfl (pc' := 163) rfl ?_
                  cases hM
                  exact hret _ _ dX11_played_163 (ro_i _)
                · have hM := it_t c_ hM
                  refine st_iconst hR dX11_played_157 (v := (-1)) (by decide) (pc' := 158) rfl ?_
                  refine st_goto hR dX11_played_158 (tgt := 163) (by decide) ?_
                  cases hM
                  exact hret _ _ dX11_played_163 (ro_i _)
            · have hM := it_t c_ hM
              refine st_iload_n hR dX11_played_131 1 rfl rfl (pc' := 132) rfl ?_
              refine st_if_ne hR dX11_played_132 (tgt := 140) (by decide) (pc' := 135) rfl (fun c_ => ?_) (fun c_ => ?_)
              · have hM := it_f c_ hM
                refine st_iload hR dX11_played_140 3 rfl (pc' := 142) rfl ?_
                cases hM
                exact hret _ _ dX11_played_142 (ro_i _)
              · have hM := it_t c_ hM
                refine st_iload hR dX11_played_135 2 rfl (pc' := 137) rfl ?_
                refine st_goto hR dX11_played_137 (tgt := 142) (by decide) ?_
                cases hM
                exact hret _ _ dX11_played_142 (ro_i _)
          · have hM := it_f c_ hM
            refine st_iload hR dX11_played_98 2 rfl (pc' := 100) rfl ?_
            refine st_iload hR dX11_played_100 5 rfl (pc' := 102) rfl ?_
            refine st_aload_n hR dX11_played_102 0 rfl rfl (pc' := 103) rfl ?_
            refine st_iload hR dX11_played_103 2 rfl (pc' := 105) rfl ?_
            refine st_iload hR dX11_played_105 5 rfl (pc' := 107) rfl ?_
            obtain ⟨r_2, hc_, hM⟩ := bd_e hM
            refine st_callV hR (k_X11_bestLevel hc_) cf_X11_326 (rm_le (Nat.le_of_ble_eq_true rfl) (Nat.le_of_ble_eq_true rfl)) [0] rfl rfl rfl 0 0 10 30 rfl rfl rfl rfl (rest := [.int l7, .int l4]) rfl (Nat.le_of_ble_eq_true rfl) dX11_played_107 (pc' := 110) rfl (Wn := [wX11 G q_m m_thrown m_tape m_taped m_size m_sort m_place m_value m_at m_fault m_words m_rows m_op m_arg m_codes m_names m_ofFeed m_teeth m_feedWords m_goWords m_facts m_pile m_levels m_best m_losses m_lossOf m_wasThere m_groupMany m_groupRow m_groupLoss m_isMarked]) rfl ?_
            obtain ⟨r_3, hc_, hM⟩ := bd_e hM
            refine st_callS hR (k_X11_with hc_) cf_X11_323 (rm_le (Nat.le_of_ble_eq_true rfl) (Nat.le_of_ble_eq_true rfl)) [] rfl rfl rfl rfl (rest := []) rfl (Nat.le_of_ble_eq_true rfl) dX11_played_110 (pc' := 113) rfl (Wn := [wX11 G q_m m_thrown m_tape m_taped m_size m_sort m_place m_value m_at m_fault m_words m_rows m_op m_arg m_codes m_names m_ofFeed m_teeth m_feedWords m_goWords m_facts m_pile m_levels m_best m_losses m_lossOf m_wasThere m_groupMany m_groupRow m_groupLoss m_isMarked]) rfl ?_
            refine st_istore hR dX11_played_113 (Nat.le_of_ble_eq_true rfl) [1, 2, 0, 3, 4, 5] (lv' := [(0, .ref (q_m 0)), (3, .int l3), (4, .int r_3), (5, .int l5), (6, .int l6), (7, .int l7)]) rfl (pc' := 115) rfl ?_
            obtain ⟨l7_1, e_⟩ : ∃ y : Int32, y = l7 + 1 := ⟨_, rfl⟩
            refine st_iinc hR dX11_played_115 (Nat.le_of_ble_eq_true rfl) 5 [1, 2, 3, 4, 5, 0] (v := l7_1) rfl (by rw [e_]; rfl) (lv' := [(0, .ref (q_m 0)), (3, .int l3), (4, .int r_3), (5, .int l5), (6, .int l6), (7, .int l7_1)]) rfl (pc' := 118) rfl ?_
            have hM := lt_e e_ hM
            refine st_goto hR dX11_played_118 (tgt := 89) (by decide) ?_
            exact ih89 _ _ _ _ _ _ _ _ _ _ _ _ _ _ hM
      intro m_thrown m_rows m_facts m_pile m_levels m_best m_losses m_lossOf m_wasThere l3 l4 l5 hM
      have hM : f_X11_played_L82b  (f_X11_played_L82  m_op m_arg n82) m_op m_arg m_thrown m_rows m_facts m_pile m_levels m_best m_losses m_lossOf m_wasThere l3 l4 l5 = some (o_r, o_m_thrown, o_m_rows, o_m_facts, o_m_pile, o_m_levels, o_m_best, o_m_losses, o_m_lossOf, o_m_wasThere) := hM
      refine st_iload hR dX11_played_82 2 rfl (pc' := 84) rfl ?_
      refine st_istore hR dX11_played_84 (Nat.le_of_ble_eq_true rfl) [1, 2, 3, 4, 0] (lv' := [(0, .ref (q_m 0)), (3, .int l3), (4, .int l4), (5, .int l5), (6, .int l4)]) rfl (pc' := 86) rfl ?_
      refine st_iconst hR dX11_played_86 (v := 0) rfl (pc' := 87) rfl ?_
      refine st_istore hR dX11_played_87 (Nat.le_of_ble_eq_true rfl) [1, 2, 3, 4, 5, 0] (lv' := [(0, .ref (q_m 0)), (3, .int l3), (4, .int l4), (5, .int l5), (6, .int l4), (7, .int 0)]) rfl (pc' := 89) rfl ?_
      exact L89 FU _ _ _ _ _ _ _ _ _ _ _ _ _ _ hM
  have L44 : ∀ (n44 : Nat) (m_thrown : Int32) (m_rows : Nat → Int32) (m_facts : Nat → Int32) (m_pile : Nat → Int32) (m_levels : Int32) (m_best : Nat → Int32) (m_losses : Nat → Int32) (m_lossOf : Nat → Int32) (m_wasThere : Nat → Int32) (l1 : Int32) (l3 : Int32) (l4 : Int32), f_X11_played_L44  m_op m_arg n44 m_thrown m_rows m_facts m_pile m_levels m_best m_losses m_lossOf m_wasThere l1 l3 l4 = some (o_r, o_m_thrown, o_m_rows, o_m_facts, o_m_pile, o_m_levels, o_m_best, o_m_losses, o_m_lossOf, o_m_wasThere) → K [wX11 G q_m m_thrown m_tape m_taped m_size m_sort m_place m_value m_at m_fault m_words m_rows m_op m_arg m_codes m_names m_ofFeed m_teeth m_feedWords m_goWords m_facts m_pile m_levels m_best m_losses m_lossOf m_wasThere m_groupMany m_groupRow m_groupLoss m_isMarked] [(0, .ref (q_m 0)), (1, .int l1), (3, .int l3), (4, .int l4)] 44 [] := by
    intro n44
    induction n44 with
    | zero => intro m_thrown m_rows m_facts m_pile m_levels m_best m_losses m_lossOf m_wasThere l1 l3 l4 hM; exact no_some hM
    | succ n44 ih44 =>
      have J69 : ∀ (m_thrown : Int32) (m_rows : Nat → Int32) (m_facts : Nat → Int32) (m_pile : Nat → Int32) (m_levels : Int32) (m_best : Nat → Int32) (m_losses : Nat → Int32) (m_lossOf : Nat → Int32) (m_wasThere : Nat → Int32) (l1 : Int32) (l3 : Int32) (l4 : Int32) (s0 : Int32) (s1 : Int32), f_X11_played_B69  (f_X11_played_L44  m_op m_arg n44) m_op m_arg m_thrown m_rows m_facts m_pile m_levels m_best m_losses m_lossOf m_wasThere l1 l3 l4 s0 s1 = some (o_r, o_m_thrown, o_m_rows, o_m_facts, o_m_pile, o_m_levels, o_m_best, o_m_losses, o_m_lossOf, o_m_wasThere) → K [wX11 G q_m m_thrown m_tape m_taped m_size m_sort m_place m_value m_at m_fault m_words m_rows m_op m_arg m_codes m_names m_ofFeed m_teeth m_feedWords m_goWords m_facts m_pile m_levels m_best m_losses m_lossOf m_wasThere m_groupMany m_groupRow m_groupLoss m_isMarked] [(0, .ref (q_m 0)), (1, .int l1), (3, .int l3), (4, .int l4)] 69 [.int s0, .int s1, .ref (q_m 17)] := by
        intro m_thrown m_rows m_facts m_pile m_levels m_best m_losses m_lossOf m_wasThere l1 l3 l4 s0 s1 hM
        obtain ⟨hin_, hM⟩ := g_in_e hM
        refine st_zast hR dX11_played_69 0 17 rfl rfl hin_ (ix := (ix s1)) rfl (pc' := 70) rfl (fun m_wasThere_1 => [wX11 G q_m m_thrown m_tape m_taped m_size m_sort m_place m_value m_at m_fault m_words m_rows m_op m_arg m_codes m_names m_ofFeed m_teeth m_feedWords m_goWords m_facts m_pile m_levels m_best m_losses m_lossOf m_wasThere_1 m_groupMany m_groupRow m_groupLoss m_isMarked]) (fun _ => rfl) (fun m_wasThere_1 e_ => ?_)
        have hM := lt_e e_ hM
        obtain ⟨l4_1, e_⟩ : ∃ y : Int32, y = l4 + 1 := ⟨_, rfl⟩
        refine st_iinc hR dX11_played_70 (Nat.le_of_ble_eq_true rfl) 3 [1, 2, 3, 0] (v := l4_1) rfl (by rw [e_]; rfl) (lv' := [(0, .ref (q_m 0)), (1, .int l1), (3, .int l3), (4, .int l4_1)]) rfl (pc' := 73) rfl ?_
        have hM := lt_e e_ hM
        refine st_goto hR dX11_played_73 (tgt := 44) (by decide) ?_
        exact ih44 _ _ _ _ _ _ _ _ _ _ _ _ hM
      intro m_thrown m_rows m_facts m_pile m_levels m_best m_losses m_lossOf m_wasThere l1 l3 l4 hM
      have hM : f_X11_played_L44b  (f_X11_played_L44  m_op m_arg n44) m_op m_arg m_thrown m_rows m_facts m_pile m_levels m_best m_losses m_lossOf m_wasThere l1 l3 l4 = some (o_r, o_m_thrown, o_m_rows, o_m_facts, o_m_pile, o_m_levels, o_m_best, o_m_losses, o_m_lossOf, o_m_wasThere) := hM
      refine st_iload hR dX11_played_44 3 rfl (pc' := 46) rfl ?_
      refine st_sipush hR dX11_played_46 (v := 256) rfl (pc' := 49) rfl ?_
      refine st_icmp_ge hR dX11_played_49 (tgt := 76) (by decide) (pc' := 52) rfl (fun c_ => ?_) (fun c_ => ?_)
      · have hM := it_t c_ hM
        refine st_iload_n hR dX11_played_76 1 rfl rfl (pc' := 77) rfl ?_
        refine st_istore hR dX11_played_77 (Nat.le_of_ble_eq_true rfl) [1, 2, 3, 0] (lv' := [(0, .ref (q_m 0)), (1, .int l1), (3, .int l3), (4, .int l1)]) rfl (pc' := 79) rfl ?_
        refine st_iconst hR dX11_played_79 (v := 0) rfl (pc' := 80) rfl ?_
        refine st_istore hR dX11_played_80 (Nat.le_of_ble_eq_true rfl) [1, 2, 3, 4, 0] (lv' := [(0, .ref (q_m 0)), (1, .int l1), (3, .int l3), (4, .int l1), (5, .int 0)]) rfl (pc' := 82) rfl ?_
        exact st_lv hR [0, 2, 3, 4] rfl (L82 FU _ _ _ _ _ _ _ _ _ _ _ _ hM)
      · have hM := it_f c_ hM
        refine st_aload_n hR dX11_played_52 0 rfl rfl (pc' := 53) rfl ?_
        refine st_get hR dX11_played_53 fg_X11_105_10_25 0 0 rfl rfl rfl (pc' := 56) rfl ?_
        refine st_iload hR dX11_played_56 3 rfl (pc' := 58) rfl ?_
        refine st_iload hR dX11_played_58 3 rfl (pc' := 60) rfl ?_
        refine st_iload_n hR dX11_played_60 1 rfl rfl (pc' := 61) rfl ?_
        refine st_icmp_ne hR dX11_played_61 (tgt := 68) (by decide) (pc' := 64) rfl (fun c_ => ?_) (fun c_ => ?_)
        · have hM := it_f c_ hM
          refine st_iconst hR dX11_played_68 (v := 0) rfl (pc' := 69) rfl ?_
          exact J69 _ _ _ _ _ _ _ _ _ _ _ _ _ _ hM
        · have hM := it_t c_ hM
          refine st_iconst hR dX11_played_64 (v := 1) rfl (pc' := 65) rfl ?_
          refine st_goto hR dX11_played_65 (tgt := 69) (by decide) ?_
          exact J69 _ _ _ _ _ _ _ _ _ _ _ _ _ _ hM
  refine st_aload_n hR dX11_played_0 0 rfl rfl (pc' := 1) rfl ?_
  refine st_iconst hR dX11_played_1 (v := 0) rfl (pc' := 2) rfl ?_
  refine st_put hR dX11_played_2 fp_X11_1_10_0 0 0 rfl rfl (Nat.le_of_ble_eq_true rfl) rfl rfl (pc' := 5) rfl (W' := [wX11 G q_m 0 m_tape m_taped m_size m_sort m_place m_value m_at m_fault m_words m_rows m_op m_arg m_codes m_names m_ofFeed m_teeth m_feedWords m_goWords m_facts m_pile m_levels m_best m_losses m_lossOf m_wasThere m_groupMany m_groupRow m_groupLoss m_isMarked]) rfl ?_
  refine st_aload_n hR dX11_played_5 0 rfl rfl (pc' := 6) rfl ?_
  refine st_iload_n hR dX11_played_6 2 rfl rfl (pc' := 7) rfl ?_
  obtain ⟨r_1, hc_, hM⟩ := bd_e hM
  refine st_callV hR (k_X11_isGame hc_) cf_X11_320 (rm_le (Nat.le_of_ble_eq_true rfl) (Nat.le_of_ble_eq_true rfl)) [0] rfl rfl rfl 0 0 10 30 rfl rfl rfl rfl (rest := []) rfl (Nat.le_of_ble_eq_true rfl) dX11_played_7 (pc' := 10) rfl (Wn := [wX11 G q_m 0 m_tape m_taped m_size m_sort m_place m_value m_at m_fault m_words m_rows m_op m_arg m_codes m_names m_ofFeed m_teeth m_feedWords m_goWords m_facts m_pile m_levels m_best m_losses m_lossOf m_wasThere m_groupMany m_groupRow m_groupLoss m_isMarked]) rfl ?_
  refine st_if_eq hR dX11_played_10 (tgt := 34) (by decide) (pc' := 13) rfl (fun c_ => ?_) (fun c_ => ?_)
  · have hM := it_t c_ hM
    refine st_iconst hR dX11_played_34 (v := (-1)) (by decide) (pc' := 35) rfl ?_
    cases hM
    exact hret _ _ dX11_played_35 (ro_i _)
  · have hM := it_f c_ hM
    refine st_iload_n hR dX11_played_13 1 rfl rfl (pc' := 14) rfl ?_
    refine st_if_lt hR dX11_played_14 (tgt := 34) (by decide) (pc' := 17) rfl (fun c_ => ?_) (fun c_ => ?_)
    · have hM := it_t c_ hM
      refine st_iconst hR dX11_played_34 (v := (-1)) (by decide) (pc' := 35) rfl ?_
      cases hM
      exact hret _ _ dX11_played_35 (ro_i _)
    · have hM := it_f c_ hM
      refine st_iload_n hR dX11_played_17 1 rfl rfl (pc' := 18) rfl ?_
      refine st_aload_n hR dX11_played_18 0 rfl rfl (pc' := 19) rfl ?_
      obtain ⟨r_2, hc_, hM⟩ := bd_e hM
      refine st_callV hR (k_X11_gameRows hc_) cf_X11_317 (rm_le (Nat.le_of_ble_eq_true rfl) (Nat.le_of_ble_eq_true rfl)) [0] rfl rfl rfl 0 0 10 30 rfl rfl rfl rfl (rest := [.int l1]) rfl (Nat.le_of_ble_eq_true rfl) dX11_played_19 (pc' := 22) rfl (Wn := [wX11 G q_m 0 m_tape m_taped m_size m_sort m_place m_value m_at m_fault m_words m_rows m_op m_arg m_codes m_names m_ofFeed m_teeth m_feedWords m_goWords m_facts m_pile m_levels m_best m_losses m_lossOf m_wasThere m_groupMany m_groupRow m_groupLoss m_isMarked]) rfl ?_
      refine st_icmp_ge hR dX11_played_22 (tgt := 34) (by decide) (pc' := 25) rfl (fun c_ => ?_) (fun c_ => ?_)
      · have hM := it_t c_ hM
        refine st_iconst hR dX11_played_34 (v := (-1)) (by decide) (pc' := 35) rfl ?_
        cases hM
        exact hret _ _ dX11_played_35 (ro_i _)
      · have hM := it_f c_ hM
        refine st_iload_n hR dX11_played_25 3 rfl rfl (pc' := 26) rfl ?_
        refine st_iconst hR dX11_played_26 (v := 0) rfl (pc' := 27) rfl ?_
        refine st_iconst hR dX11_played_27 (v := 1) rfl (pc' := 28) rfl ?_
        obtain ⟨r_3, hc_, hM⟩ := bd_e hM
        refine st_callS hR (k_X11_within hc_) cf_X11_301 (rm_le (Nat.le_of_ble_eq_true rfl) (Nat.le_of_ble_eq_true rfl)) [] rfl rfl rfl rfl (rest := []) rfl (Nat.le_of_ble_eq_true rfl) dX11_played_28 (pc' := 31) rfl (Wn := [wX11 G q_m 0 m_tape m_taped m_size m_sort m_place m_value m_at m_fault m_words m_rows m_op m_arg m_codes m_names m_ofFeed m_teeth m_feedWords m_goWords m_facts m_pile m_levels m_best m_losses m_lossOf m_wasThere m_groupMany m_groupRow m_groupLoss m_isMarked]) rfl ?_
        refine st_if_ne hR dX11_played_31 (tgt := 36) (by decide) (pc' := 34) rfl (fun c_ => ?_) (fun c_ => ?_)
        · have hM := it_f c_ hM
          refine st_aload_n hR dX11_played_36 0 rfl rfl (pc' := 37) rfl ?_
          refine st_iload_n hR dX11_played_37 2 rfl rfl (pc' := 38) rfl ?_
          obtain ⟨⟨m_rows_1, m_facts_1, m_pile_1, m_levels_1, m_best_1, m_losses_1, m_lossOf_1⟩, hc_, hM⟩ := bd_e hM
          refine st_callV hR (k_X11_findGame hc_) cf_X11_329 (rm_le (Nat.le_of_ble_eq_true rfl) (Nat.le_of_ble_eq_true rfl)) [0] rfl rfl rfl 0 0 10 30 rfl rfl rfl rfl (rest := []) rfl (Nat.le_of_ble_eq_true rfl) dX11_played_38 (pc' := 41) rfl (Wn := [wX11 G q_m 0 m_tape m_taped m_size m_sort m_place m_value m_at m_fault m_words m_rows_1 m_op m_arg m_codes m_names m_ofFeed m_teeth m_feedWords m_goWords m_facts_1 m_pile_1 m_levels_1 m_best_1 m_losses_1 m_lossOf_1 m_wasThere m_groupMany m_groupRow m_groupLoss m_isMarked]) rfl ?_
          refine st_iconst hR dX11_played_41 (v := 0) rfl (pc' := 42) rfl ?_
          refine st_istore hR dX11_played_42 (Nat.le_of_ble_eq_true rfl) [1, 2, 3, 4, 0] (lv' := [(0, .ref (q_m 0)), (1, .int l1), (2, .int l2), (3, .int l3), (4, .int 0)]) rfl (pc' := 44) rfl ?_
          exact st_lv hR [0, 1, 3, 4] rfl (L44 FU _ _ _ _ _ _ _ _ _ _ _ _ hM)
        · have hM := it_t c_ hM
          refine st_iconst hR dX11_played_34 (v := (-1)) (by decide) (pc' := 35) rfl ?_
          cases hM
          exact hret _ _ dX11_played_35 (ro_i _)
def HR_X11_findGroups (l : Launch) (G : GG) (n : Nat) : Prop := ∀ ⦃q_m : Nat → Nat⦄ ⦃m_thrown m_taped m_size m_at m_fault m_codes m_ofFeed m_teeth m_levels m_groupMany : Int32⦄ ⦃m_tape m_sort m_place m_rows m_op m_arg m_feedWords m_goWords m_facts m_pile m_best m_losses m_lossOf m_wasThere m_groupRow m_groupLoss m_isMarked : Nat → Int32⦄ ⦃m_value m_words m_names : Nat → Int64⦄ ⦃l1 l2 l3 : Int32⦄ ⦃o_m_groupMany : Int32⦄ ⦃o_m_groupRow : Nat → Int32⦄, f_X11_findGroups n m_rows m_groupMany m_groupRow l1 l2 l3 = some (o_m_groupMany, o_m_groupRow) → MC l G yX11_findGroups cX11_findGroups 5 none (RM (6 * n + 10)) [.ref (q_m 0), .int l1, .int l2, .int l3] [wX11 G q_m m_thrown m_tape m_taped m_size m_sort m_place m_value m_at m_fault m_words m_rows m_op m_arg m_codes m_names m_ofFeed m_teeth m_feedWords m_goWords m_facts m_pile m_levels m_best m_losses m_lossOf m_wasThere m_groupMany m_groupRow m_groupLoss m_isMarked] none [wX11 G q_m m_thrown m_tape m_taped m_size m_sort m_place m_value m_at m_fault m_words m_rows m_op m_arg m_codes m_names m_ofFeed m_teeth m_feedWords m_goWords m_facts m_pile m_levels m_best m_losses m_lossOf m_wasThere o_m_groupMany o_m_groupRow m_groupLoss m_isMarked]
set_option maxHeartbeats 16000000 in
set_option maxRecDepth 100000 in
theorem k_X11_findGroups_s {l : Launch} {G : GG} {q_m : Nat → Nat} {m_thrown m_taped m_size m_at m_fault m_codes m_ofFeed m_teeth m_levels m_groupMany : Int32} {m_tape m_sort m_place m_rows m_op m_arg m_feedWords m_goWords m_facts m_pile m_best m_losses m_lossOf m_wasThere m_groupRow m_groupLoss m_isMarked : Nat → Int32} {m_value m_words m_names : Nat → Int64} {l1 l2 l3 : Int32} {o_m_groupMany : Int32} {o_m_groupRow : Nat → Int32} {n : Nat} (hrec : HR_X11_findGroups l G n) (hM : f_X11_findGroups_b (f_X11_findGroups n) m_rows m_groupMany m_groupRow l1 l2 l3 = some (o_m_groupMany, o_m_groupRow)) : MC l G yX11_findGroups cX11_findGroups 5 none (RM (6 * n + 16)) [.ref (q_m 0), .int l1, .int l2, .int l3] [wX11 G q_m m_thrown m_tape m_taped m_size m_sort m_place m_value m_at m_fault m_words m_rows m_op m_arg m_codes m_names m_ofFeed m_teeth m_feedWords m_goWords m_facts m_pile m_levels m_best m_losses m_lossOf m_wasThere m_groupMany m_groupRow m_groupLoss m_isMarked] none [wX11 G q_m m_thrown m_tape m_taped m_size m_sort m_place m_value m_at m_fault m_words m_rows m_op m_arg m_codes m_names m_ofFeed m_teeth m_feedWords m_goWords m_facts m_pile m_levels m_best m_losses m_lossOf m_wasThere o_m_groupMany o_m_groupRow m_groupLoss m_isMarked] := by
  refine MC.of pn_X11 (Nat.le_of_ble_eq_true rfl) (fun K hR hret => ?_)
  have hR : Rl l G RX11 cX11_findGroups 5 (RM (6 * n + 16)) K := hR
  show K [wX11 G q_m m_thrown m_tape m_taped m_size m_sort m_place m_value m_at m_fault m_words m_rows m_op m_arg m_codes m_names m_ofFeed m_teeth m_feedWords m_goWords m_facts m_pile m_levels m_best m_losses m_lossOf m_wasThere m_groupMany m_groupRow m_groupLoss m_isMarked] [(0, .ref (q_m 0)), (1, .int l1), (2, .int l2), (3, .int l3)] 0 []
  have L32 : ∀ (n32 : Nat) (m_groupMany : Int32) (m_groupRow : Nat → Int32) (l1 : Int32) (l2 : Int32) (l3 : Int32) (l4 : Int32), f_X11_findGroups_L32 (f_X11_findGroups n) m_rows n32 m_groupMany m_groupRow l1 l2 l3 l4 = some (o_m_groupMany, o_m_groupRow) → K [wX11 G q_m m_thrown m_tape m_taped m_size m_sort m_place m_value m_at m_fault m_words m_rows m_op m_arg m_codes m_names m_ofFeed m_teeth m_feedWords m_goWords m_facts m_pile m_levels m_best m_losses m_lossOf m_wasThere m_groupMany m_groupRow m_groupLoss m_isMarked] [(0, .ref (q_m 0)), (1, .int l1), (2, .int l2), (3, .int l3), (4, .int l4)] 32 [] := by
    intro n32
    induction n32 with
    | zero => intro m_groupMany m_groupRow l1 l2 l3 l4 hM; exact no_some hM
    | succ n32 ih32 =>
      have J63 : ∀ (m_groupMany : Int32) (m_groupRow : Nat → Int32) (l1 : Int32) (l2 : Int32) (l3 : Int32) (l4 : Int32) (s0 : Int32) (s1 : Int32) (s2 : Int32), f_X11_findGroups_B63 (f_X11_findGroups n) (f_X11_findGroups_L32 (f_X11_findGroups n) m_rows n32) m_rows m_groupMany m_groupRow l1 l2 l3 l4 s0 s1 s2 = some (o_m_groupMany, o_m_groupRow) → K [wX11 G q_m m_thrown m_tape m_taped m_size m_sort m_place m_value m_at m_fault m_words m_rows m_op m_arg m_codes m_names m_ofFeed m_teeth m_feedWords m_goWords m_facts m_pile m_levels m_best m_losses m_lossOf m_wasThere m_groupMany m_groupRow m_groupLoss m_isMarked] [(0, .ref (q_m 0)), (1, .int l1), (2, .int l2), (3, .int l3), (4, .int l4)] 63 [.int s0, .int s1, .int s2, .ref (q_m 0)] := by
        intro m_groupMany m_groupRow l1 l2 l3 l4 s0 s1 s2 hM
        obtain ⟨⟨m_groupMany_1, m_groupRow_1⟩, hc_, hM⟩ := bd_e hM
        refine st_callV hR (hrec hc_) cf_X11_338 (rm_le (by omega) (by decide)) [0] rfl rfl rfl 0 0 10 30 rfl rfl rfl rfl (rest := []) rfl (Nat.le_of_ble_eq_true rfl) dX11_findGroups_63 (pc' := 66) rfl (Wn := [wX11 G q_m m_thrown m_tape m_taped m_size m_sort m_place m_value m_at m_fault m_words m_rows m_op m_arg m_codes m_names m_ofFeed m_teeth m_feedWords m_goWords m_facts m_pile m_levels m_best m_losses m_lossOf m_wasThere m_groupMany_1 m_groupRow_1 m_groupLoss m_isMarked]) rfl ?_
        obtain ⟨l4_1, e_⟩ : ∃ y : Int32, y = l4 + 1 := ⟨_, rfl⟩
        refine st_iinc hR dX11_findGroups_66 (Nat.le_of_ble_eq_true rfl) 4 [1, 2, 3, 4, 0] (v := l4_1) rfl (by rw [e_]; rfl) (lv' := [(0, .ref (q_m 0)), (1, .int l1), (2, .int l2), (3, .int l3), (4, .int l4_1)]) rfl (pc' := 69) rfl ?_
        have hM := lt_e e_ hM
        refine st_goto hR dX11_findGroups_69 (tgt := 32) (by decide) ?_
        exact ih32 _ _ _ _ _ _ hM
      intro m_groupMany m_groupRow l1 l2 l3 l4 hM
      have hM : f_X11_findGroups_L32b (f_X11_findGroups n) (f_X11_findGroups_L32 (f_X11_findGroups n) m_rows n32) m_rows m_groupMany m_groupRow l1 l2 l3 l4 = some (o_m_groupMany, o_m_groupRow) := hM
      refine st_iload hR dX11_findGroups_32 4 rfl (pc' := 34) rfl ?_
      refine st_iload_n hR dX11_findGroups_34 3 rfl rfl (pc' := 35) rfl ?_
      refine st_icmp_gt hR dX11_findGroups_35 (tgt := 72) (by decide) (pc' := 38) rfl (fun c_ => ?_) (fun c_ => ?_)
      · have hM := it_t c_ hM
        cases hM
        exact hret _ _ dX11_findGroups_72 ro_v
      · have hM := it_f c_ hM
        refine st_aload_n hR dX11_findGroups_38 0 rfl rfl (pc' := 39) rfl ?_
        refine st_iload_n hR dX11_findGroups_39 1 rfl rfl (pc' := 40) rfl ?_
        refine st_iconst hR dX11_findGroups_40 (v := 1) rfl (pc' := 41) rfl ?_
        refine st_iadd hR dX11_findGroups_41 (pc' := 42) rfl ?_
        refine st_iload_n hR dX11_findGroups_42 2 rfl rfl (pc' := 43) rfl ?_
        refine st_iload hR dX11_findGroups_43 4 rfl (pc' := 45) rfl ?_
        refine st_iconst hR dX11_findGroups_45 (v := 3) rfl (pc' := 46) rfl ?_
        refine st_iload_n hR dX11_findGroups_46 1 rfl rfl (pc' := 47) rfl ?_
        refine st_imul hR dX11_findGroups_47 (pc' := 48) rfl ?_
        refine st_ishl hR dX11_findGroups_48 (pc' := 49) rfl ?_
        refine st_ior hR dX11_findGroups_49 (pc' := 50) rfl ?_
        refine st_iload hR dX11_findGroups_50 4 rfl (pc' := 52) rfl ?_
        refine st_iload_n hR dX11_findGroups_52 3 rfl rfl (pc' := 53) rfl ?_
        refine st_icmp_ne hR dX11_findGroups_53 (tgt := 62) (by decide) (pc' := 56) rfl (fun c_ => ?_) (fun c_ => ?_)
        · have hM := it_f c_ hM
          refine st_iload_n hR dX11_findGroups_62 3 rfl rfl (pc' := 63) rfl ?_
          exact J63 _ _ _ _ _ _ _ _ _ hM
        · have hM := it_t c_ hM
          refine st_iload_n hR dX11_findGroups_56 3 rfl rfl (pc' := 57) rfl ?_
          refine st_iconst hR dX11_findGroups_57 (v := 1) rfl (pc' := 58) rfl ?_
          refine st_iadd hR dX11_findGroups_58 (pc' := 59) rfl ?_
          refine st_goto hR dX11_findGroups_59 (tgt := 63) (by decide) ?_
          exact J63 _ _ _ _ _ _ _ _ _ hM
  refine st_iload_n hR dX11_findGroups_0 1 rfl rfl (pc' := 1) rfl ?_
  refine st_aload_n hR dX11_findGroups_1 0 rfl rfl (pc' := 2) rfl ?_
  obtain ⟨r_1, hc_, hM⟩ := bd_e hM
  refine st_callV hR (k_X11_farms hc_) cf_X11_248 (rm_le (by omega) (by decide)) [0] rfl rfl rfl 0 0 10 30 rfl rfl rfl rfl (rest := [.int l1]) rfl (Nat.le_of_ble_eq_true rfl) dX11_findGroups_2 (pc' := 5) rfl (Wn := [wX11 G q_m m_thrown m_tape m_taped m_size m_sort m_place m_value m_at m_fault m_words m_rows m_op m_arg m_codes m_names m_ofFeed m_teeth m_feedWords m_goWords m_facts m_pile m_levels m_best m_losses m_lossOf m_wasThere m_groupMany m_groupRow m_groupLoss m_isMarked]) rfl ?_
  refine st_icmp_ne hR dX11_findGroups_5 (tgt := 29) (by decide) (pc' := 8) rfl (fun c_ => ?_) (fun c_ => ?_)
  · have hM := it_f c_ hM
    refine st_iconst hR dX11_findGroups_29 (v := 0) rfl (pc' := 30) rfl ?_
    refine st_istore hR dX11_findGroups_30 (Nat.le_of_ble_eq_true rfl) [1, 2, 3, 4, 0] (lv' := [(0, .ref (q_m 0)), (1, .int l1), (2, .int l2), (3, .int l3), (4, .int 0)]) rfl (pc' := 32) rfl ?_
    exact L32 FU _ _ _ _ _ _ hM
  · have hM := it_t c_ hM
    refine st_aload_n hR dX11_findGroups_8 0 rfl rfl (pc' := 9) rfl ?_
    refine st_get hR dX11_findGroups_9 fg_X11_109_10_27 0 0 rfl rfl rfl (pc' := 12) rfl ?_
    refine st_aload_n hR dX11_findGroups_12 0 rfl rfl (pc' := 13) rfl ?_
    refine st_get hR dX11_findGroups_13 fg_X11_335_10_26 0 0 rfl rfl rfl (pc' := 16) rfl ?_
    refine st_iload_n hR dX11_findGroups_16 2 rfl rfl (pc' := 17) rfl ?_
    obtain ⟨hin_, hM⟩ := g_in_e hM
    refine st_iast hR dX11_findGroups_17 0 18 rfl rfl hin_ (ix := (ix m_groupMany)) rfl (pc' := 18) rfl (fun m_groupRow_1 => [wX11 G q_m m_thrown m_tape m_taped m_size m_sort m_place m_value m_at m_fault m_words m_rows m_op m_arg m_codes m_names m_ofFeed m_teeth m_feedWords m_goWords m_facts m_pile m_levels m_best m_losses m_lossOf m_wasThere m_groupMany m_groupRow_1 m_groupLoss m_isMarked]) (fun _ => rfl) (fun m_groupRow_1 e_ => ?_)
    have hM := lt_e e_ hM
    refine st_aload_n hR dX11_findGroups_18 0 rfl rfl (pc' := 19) rfl ?_
    refine st_dup hR dX11_findGroups_19 (pc' := 20) rfl rfl ?_
    refine st_get hR dX11_findGroups_20 fg_X11_335_10_26 0 0 rfl rfl rfl (pc' := 23) rfl ?_
    refine st_iconst hR dX11_findGroups_23 (v := 1) rfl (pc' := 24) rfl ?_
    refine st_iadd hR dX11_findGroups_24 (pc' := 25) rfl ?_
    refine st_topi (fun m_groupMany_1 e_ => ?_)
    have hM := lt_e e_ hM
    refine st_put hR dX11_findGroups_25 fp_X11_335_10_26 0 0 rfl rfl (Nat.le_of_ble_eq_true rfl) rfl rfl (pc' := 28) rfl (W' := [wX11 G q_m m_thrown m_tape m_taped m_size m_sort m_place m_value m_at m_fault m_words m_rows m_op m_arg m_codes m_names m_ofFeed m_teeth m_feedWords m_goWords m_facts m_pile m_levels m_best m_losses m_lossOf m_wasThere m_groupMany_1 m_groupRow_1 m_groupLoss m_isMarked]) rfl ?_
    cases hM
    exact hret _ _ dX11_findGroups_28 ro_v
theorem k_X11_findGroups_a (l : Launch) (G : GG) : ∀ n, HR_X11_findGroups l G n := by
  intro n
  induction n with
  | zero => intro q_m m_thrown m_taped m_size m_at m_fault m_codes m_ofFeed m_teeth m_levels m_groupMany m_tape m_sort m_place m_rows m_op m_arg m_feedWords m_goWords m_facts m_pile m_best m_losses m_lossOf m_wasThere m_groupRow m_groupLoss m_isMarked m_value m_words m_names l1 l2 l3 o_m_groupMany o_m_groupRow hM; exact no_some hM
  | succ n ih => intro q_m m_thrown m_taped m_size m_at m_fault m_codes m_ofFeed m_teeth m_levels m_groupMany m_tape m_sort m_place m_rows m_op m_arg m_feedWords m_goWords m_facts m_pile m_best m_losses m_lossOf m_wasThere m_groupRow m_groupLoss m_isMarked m_value m_words m_names l1 l2 l3 o_m_groupMany o_m_groupRow hM; exact k_X11_findGroups_s ih hM
theorem k_X11_findGroups {l : Launch} {G : GG} {q_m : Nat → Nat} {m_thrown m_taped m_size m_at m_fault m_codes m_ofFeed m_teeth m_levels m_groupMany : Int32} {m_tape m_sort m_place m_rows m_op m_arg m_feedWords m_goWords m_facts m_pile m_best m_losses m_lossOf m_wasThere m_groupRow m_groupLoss m_isMarked : Nat → Int32} {m_value m_words m_names : Nat → Int64} {l1 l2 l3 : Int32} {o_m_groupMany : Int32} {o_m_groupRow : Nat → Int32} (hM : f_X11_findGroups RU m_rows m_groupMany m_groupRow l1 l2 l3 = some (o_m_groupMany, o_m_groupRow)) : MC l G yX11_findGroups cX11_findGroups 5 none (RM (6 * RU + 10)) [.ref (q_m 0), .int l1, .int l2, .int l3] [wX11 G q_m m_thrown m_tape m_taped m_size m_sort m_place m_value m_at m_fault m_words m_rows m_op m_arg m_codes m_names m_ofFeed m_teeth m_feedWords m_goWords m_facts m_pile m_levels m_best m_losses m_lossOf m_wasThere m_groupMany m_groupRow m_groupLoss m_isMarked] none [wX11 G q_m m_thrown m_tape m_taped m_size m_sort m_place m_value m_at m_fault m_words m_rows m_op m_arg m_codes m_names m_ofFeed m_teeth m_feedWords m_goWords m_facts m_pile m_levels m_best m_losses m_lossOf m_wasThere o_m_groupMany o_m_groupRow m_groupLoss m_isMarked] := k_X11_findGroups_a l G RU hM
set_option maxHeartbeats 16000000 in
set_option maxRecDepth 100000 in
theorem k_X11_groupOf {l : Launch} {G : GG}  {l0 l1 : Int32} {o_r : Int32} (hM : f_X11_groupOf l0 l1 = some o_r) : MC l G yX11_groupOf cX11_groupOf 2 (some .int) (RM 0) [.int l0, .int l1] [] (some (.int o_r)) [] := by
  refine MC.of pn_X11 (Nat.le_of_ble_eq_true rfl) (fun K hR hret => ?_)
  have hR : Rl l G RX11 cX11_groupOf 2 (RM 0) K := hR
  show K [] [(0, .int l0), (1, .int l1)] 0 []
  refine st_iload_n hR dX11_groupOf_0 0 rfl rfl (pc' := 1) rfl ?_
  refine st_iconst hR dX11_groupOf_1 (v := 3) rfl (pc' := 2) rfl ?_
  refine st_iload_n hR dX11_groupOf_2 1 rfl rfl (pc' := 3) rfl ?_
  refine st_imul hR dX11_groupOf_3 (pc' := 4) rfl ?_
  refine st_ishr hR dX11_groupOf_4 (pc' := 5) rfl ?_
  refine st_bipush hR dX11_groupOf_5 (v := 7) rfl (pc' := 7) rfl ?_
  refine st_iand hR dX11_groupOf_7 (pc' := 8) rfl ?_
  cases hM
  exact hret _ _ dX11_groupOf_8 (ro_i _)
set_option maxHeartbeats 16000000 in
set_option maxRecDepth 100000 in
theorem k_X11_findJoined {l : Launch} {G : GG} {q_m : Nat → Nat} {m_thrown m_taped m_size m_at m_fault m_codes m_ofFeed m_teeth m_levels m_groupMany : Int32} {m_tape m_sort m_place m_rows m_op m_arg m_feedWords m_goWords m_facts m_pile m_best m_losses m_lossOf m_wasThere m_groupRow m_groupLoss m_isMarked : Nat → Int32} {m_value m_words m_names : Nat → Int64} {l1 : Int32} {o_m_rows : Nat → Int32} {o_m_facts : Nat → Int32} {o_m_pile : Nat → Int32} {o_m_best : Nat → Int32} {o_m_losses : Nat → Int32} {o_m_groupMany : Int32} {o_m_groupRow : Nat → Int32} {o_m_groupLoss : Nat → Int32} (hM : f_X11_findJoined m_op m_arg m_levels m_rows m_facts m_pile m_best m_losses m_groupMany m_groupRow m_groupLoss l1 = some (o_m_rows, o_m_facts, o_m_pile, o_m_best, o_m_losses, o_m_groupMany, o_m_groupRow, o_m_groupLoss)) : MC l G yX11_findJoined cX11_findJoined 5 none (RM 71) [.ref (q_m 0), .int l1] [wX11 G q_m m_thrown m_tape m_taped m_size m_sort m_place m_value m_at m_fault m_words m_rows m_op m_arg m_codes m_names m_ofFeed m_teeth m_feedWords m_goWords m_facts m_pile m_levels m_best m_losses m_lossOf m_wasThere m_groupMany m_groupRow m_groupLoss m_isMarked] none [wX11 G q_m m_thrown m_tape m_taped m_size m_sort m_place m_value m_at m_fault m_words o_m_rows m_op m_arg m_codes m_names m_ofFeed m_teeth m_feedWords m_goWords o_m_facts o_m_pile m_levels o_m_best o_m_losses m_lossOf m_wasThere o_m_groupMany o_m_groupRow o_m_groupLoss m_isMarked] := by
  refine MC.of pn_X11 (Nat.le_of_ble_eq_true rfl) (fun K hR hret => ?_)
  have hR : Rl l G RX11 cX11_findJoined 5 (RM 71) K := hR
  show K [wX11 G q_m m_thrown m_tape m_taped m_size m_sort m_place m_value m_at m_fault m_words m_rows m_op m_arg m_codes m_names m_ofFeed m_teeth m_feedWords m_goWords m_facts m_pile m_levels m_best m_losses m_lossOf m_wasThere m_groupMany m_groupRow m_groupLoss m_isMarked] [(0, .ref (q_m 0)), (1, .int l1)] 0 []
  have L20 : ∀ (n20 : Nat) (m_rows : Nat → Int32) (m_facts : Nat → Int32) (m_pile : Nat → Int32) (m_best : Nat → Int32) (m_losses : Nat → Int32) (m_groupMany : Int32) (m_groupRow : Nat → Int32) (m_groupLoss : Nat → Int32) (l1 : Int32) (l2 : Int32), f_X11_findJoined_L20  m_op m_arg m_levels n20 m_rows m_facts m_pile m_best m_losses m_groupMany m_groupRow m_groupLoss l1 l2 = some (o_m_rows, o_m_facts, o_m_pile, o_m_best, o_m_losses, o_m_groupMany, o_m_groupRow, o_m_groupLoss) → K [wX11 G q_m m_thrown m_tape m_taped m_size m_sort m_place m_value m_at m_fault m_words m_rows m_op m_arg m_codes m_names m_ofFeed m_teeth m_feedWords m_goWords m_facts m_pile m_levels m_best m_losses m_lossOf m_wasThere m_groupMany m_groupRow m_groupLoss m_isMarked] [(0, .ref (q_m 0)), (1, .int l1), (2, .int l2)] 20 [] := by
    intro n20
    induction n20 with
    | zero => intro m_rows m_facts m_pile m_best m_losses m_groupMany m_groupRow m_groupLoss l1 l2 hM; exact no_some hM
    | succ n20 ih20 =>
      have L119 : ∀ (n119 : Nat) (m_rows : Nat → Int32) (m_facts : Nat → Int32) (m_pile : Nat → Int32) (m_best : Nat → Int32) (m_losses : Nat → Int32) (m_groupMany : Int32) (m_groupRow : Nat → Int32) (m_groupLoss : Nat → Int32) (l1 : Int32) (l2 : Int32) (l3 : Int32), f_X11_findJoined_L119  (f_X11_findJoined_L20  m_op m_arg m_levels n20) m_op m_arg m_levels n119 m_rows m_facts m_pile m_best m_losses m_groupMany m_groupRow m_groupLoss l1 l2 l3 = some (o_m_rows, o_m_facts, o_m_pile, o_m_best, o_m_losses, o_m_groupMany, o_m_groupRow, o_m_groupLoss) → K [wX11 G q_m m_thrown m_tape m_taped m_size m_sort m_place m_value m_at m_fault m_words m_rows m_op m_arg m_codes m_names m_ofFeed m_teeth m_feedWords m_goWords m_facts m_pile m_levels m_best m_losses m_lossOf m_wasThere m_groupMany m_groupRow m_groupLoss m_isMarked] [(0, .ref (q_m 0)), (1, .int l1), (2, .int l2), (3, .int l3)] 119 [] := by
        intro n119
        induction n119 with
        | zero => intro m_rows m_facts m_pile m_best m_losses m_groupMany m_groupRow m_groupLoss l1 l2 l3 hM; exact no_some hM
        | succ n119 ih119 =>
          intro m_rows m_facts m_pile m_best m_losses m_groupMany m_groupRow m_groupLoss l1 l2 l3 hM
          have hM : f_X11_findJoined_L119b  (f_X11_findJoined_L20  m_op m_arg m_levels n20) (f_X11_findJoined_L119  (f_X11_findJoined_L20  m_op m_arg m_levels n20) m_op m_arg m_levels n119) m_op m_arg m_levels m_rows m_facts m_pile m_best m_losses m_groupMany m_groupRow m_groupLoss l1 l2 l3 = some (o_m_rows, o_m_facts, o_m_pile, o_m_best, o_m_losses, o_m_groupMany, o_m_groupRow, o_m_groupLoss) := hM
          refine st_iload_n hR dX11_findJoined_119 3 rfl rfl (pc' := 120) rfl ?_
          refine st_aload_n hR dX11_findJoined_120 0 rfl rfl (pc' := 121) rfl ?_
          obtain ⟨r_1, hc_, hM⟩ := bd_e hM
          refine st_callV hR (k_X11_farms hc_) cf_X11_248 (rm_le (Nat.le_of_ble_eq_true rfl) (Nat.le_of_ble_eq_true rfl)) [0] rfl rfl rfl 0 0 10 30 rfl rfl rfl rfl (rest := [.int l3]) rfl (Nat.le_of_ble_eq_true rfl) dX11_findJoined_121 (pc' := 124) rfl (Wn := [wX11 G q_m m_thrown m_tape m_taped m_size m_sort m_place m_value m_at m_fault m_words m_rows m_op m_arg m_codes m_names m_ofFeed m_teeth m_feedWords m_goWords m_facts m_pile m_levels m_best m_losses m_lossOf m_wasThere m_groupMany m_groupRow m_groupLoss m_isMarked]) rfl ?_
          refine st_icmp_ge hR dX11_findJoined_124 (tgt := 149) (by decide) (pc' := 127) rfl (fun c_ => ?_) (fun c_ => ?_)
          · have hM := it_t c_ hM
            obtain ⟨l2_1, e_⟩ : ∃ y : Int32, y = l2 + 1 := ⟨_, rfl⟩
            refine st_iinc hR dX11_findJoined_149 (Nat.le_of_ble_eq_true rfl) 2 [1, 2, 0, 3] (v := l2_1) rfl (by rw [e_]; rfl) (lv' := [(0, .ref (q_m 0)), (1, .int l1), (2, .int l2_1), (3, .int l3)]) rfl (pc' := 152) rfl ?_
            have hM := lt_e e_ hM
            refine st_goto hR dX11_findJoined_152 (tgt := 20) (by decide) ?_
            exact st_lv hR [0, 1, 2] rfl (ih20 _ _ _ _ _ _ _ _ _ _ hM)
          · have hM := it_f c_ hM
            refine st_aload_n hR dX11_findJoined_127 0 rfl rfl (pc' := 128) rfl ?_
            refine st_get hR dX11_findJoined_128 fg_X11_112_10_28 0 0 rfl rfl rfl (pc' := 131) rfl ?_
            refine st_iconst hR dX11_findJoined_131 (v := 5) rfl (pc' := 132) rfl ?_
            refine st_iload_n hR dX11_findJoined_132 2 rfl rfl (pc' := 133) rfl ?_
            refine st_imul hR dX11_findJoined_133 (pc' := 134) rfl ?_
            refine st_iload_n hR dX11_findJoined_134 3 rfl rfl (pc' := 135) rfl ?_
            refine st_iadd hR dX11_findJoined_135 (pc' := 136) rfl ?_
            refine st_aload_n hR dX11_findJoined_136 0 rfl rfl (pc' := 137) rfl ?_
            refine st_get hR dX11_findJoined_137 fg_X11_99_10_23 0 0 rfl rfl rfl (pc' := 140) rfl ?_
            refine st_iload_n hR dX11_findJoined_140 3 rfl rfl (pc' := 141) rfl ?_
            obtain ⟨hin_, hM⟩ := g_in_e hM
            refine st_iald hR dX11_findJoined_141 0 15 rfl rfl hin_ (v := m_losses (ix l3)) rfl (pc' := 142) rfl ?_
            obtain ⟨hin_, hM⟩ := g_in_e hM
            refine st_iast hR dX11_findJoined_142 0 19 rfl rfl hin_ (ix := (ix ((5 * l2) + l3))) rfl (pc' := 143) rfl (fun m_groupLoss_1 => [wX11 G q_m m_thrown m_tape m_taped m_size m_sort m_place m_value m_at m_fault m_words m_rows m_op m_arg m_codes m_names m_ofFeed m_teeth m_feedWords m_goWords m_facts m_pile m_levels m_best m_losses m_lossOf m_wasThere m_groupMany m_groupRow m_groupLoss_1 m_isMarked]) (fun _ => rfl) (fun m_groupLoss_1 e_ => ?_)
            have hM := lt_e e_ hM
            obtain ⟨l3_1, e_⟩ : ∃ y : Int32, y = l3 + 1 := ⟨_, rfl⟩
            refine st_iinc hR dX11_findJoined_143 (Nat.le_of_ble_eq_true rfl) 3 [1, 2, 3, 0] (v := l3_1) rfl (by rw [e_]; rfl) (lv' := [(0, .ref (q_m 0)), (1, .int l1), (2, .int l2), (3, .int l3_1)]) rfl (pc' := 146) rfl ?_
            have hM := lt_e e_ hM
            refine st_goto hR dX11_findJoined_146 (tgt := 119) (by decide) ?_
            exact ih119 _ _ _ _ _ _ _ _ _ _ _ hM
      have L30 : ∀ (n30 : Nat) (m_rows : Nat → Int32) (m_facts : Nat → Int32) (m_pile : Nat → Int32) (m_best : Nat → Int32) (m_losses : Nat → Int32) (m_groupMany : Int32) (m_groupRow : Nat → Int32) (m_groupLoss : Nat → Int32) (l1 : Int32) (l2 : Int32) (l3 : Int32), f_X11_findJoined_L30  (f_X11_findJoined_L20  m_op m_arg m_levels n20) m_op m_arg m_levels n30 m_rows m_facts m_pile m_best m_losses m_groupMany m_groupRow m_groupLoss l1 l2 l3 = some (o_m_rows, o_m_facts, o_m_pile, o_m_best, o_m_losses, o_m_groupMany, o_m_groupRow, o_m_groupLoss) → K [wX11 G q_m m_thrown m_tape m_taped m_size m_sort m_place m_value m_at m_fault m_words m_rows m_op m_arg m_codes m_names m_ofFeed m_teeth m_feedWords m_goWords m_facts m_pile m_levels m_best m_losses m_lossOf m_wasThere m_groupMany m_groupRow m_groupLoss m_isMarked] [(0, .ref (q_m 0)), (1, .int l1), (2, .int l2), (3, .int l3)] 30 [] := by
        intro n30
        induction n30 with
        | zero => intro m_rows m_facts m_pile m_best m_losses m_groupMany m_groupRow m_groupLoss l1 l2 l3 hM; exact no_some hM
        | succ n30 ih30 =>
          have L41 : ∀ (n41 : Nat) (m_rows : Nat → Int32) (m_facts : Nat → Int32) (m_pile : Nat → Int32) (m_best : Nat → Int32) (m_losses : Nat → Int32) (m_groupMany : Int32) (m_groupRow : Nat → Int32) (m_groupLoss : Nat → Int32) (l1 : Int32) (l2 : Int32) (l3 : Int32) (l4 : Int32), f_X11_findJoined_L41  (f_X11_findJoined_L20  m_op m_arg m_levels n20) (f_X11_findJoined_L30  (f_X11_findJoined_L20  m_op m_arg m_levels n20) m_op m_arg m_levels n30) m_op m_arg m_levels n41 m_rows m_facts m_pile m_best m_losses m_groupMany m_groupRow m_groupLoss l1 l2 l3 l4 = some (o_m_rows, o_m_facts, o_m_pile, o_m_best, o_m_losses, o_m_groupMany, o_m_groupRow, o_m_groupLoss) → K [wX11 G q_m m_thrown m_tape m_taped m_size m_sort m_place m_value m_at m_fault m_words m_rows m_op m_arg m_codes m_names m_ofFeed m_teeth m_feedWords m_goWords m_facts m_pile m_levels m_best m_losses m_lossOf m_wasThere m_groupMany m_groupRow m_groupLoss m_isMarked] [(0, .ref (q_m 0)), (1, .int l1), (2, .int l2), (3, .int l3), (4, .int l4)] 41 [] := by
            intro n41
            induction n41 with
            | zero => intro m_rows m_facts m_pile m_best m_losses m_groupMany m_groupRow m_groupLoss l1 l2 l3 l4 hM; exact no_some hM
            | succ n41 ih41 =>
              have J99 : ∀ (m_rows : Nat → Int32) (m_facts : Nat → Int32) (m_pile : Nat → Int32) (m_best : Nat → Int32) (m_losses : Nat → Int32) (m_groupMany : Int32) (m_groupRow : Nat → Int32) (m_groupLoss : Nat → Int32) (l1 : Int32) (l2 : Int32) (l3 : Int32) (l4 : Int32) (s0 : Int32) (s1 : Int32), f_X11_findJoined_B99  (f_X11_findJoined_L20  m_op m_arg m_levels n20) (f_X11_findJoined_L30  (f_X11_findJoined_L20  m_op m_arg m_levels n20) m_op m_arg m_levels n30) (f_X11_findJoined_L41  (f_X11_findJoined_L20  m_op m_arg m_levels n20) (f_X11_findJoined_L30  (f_X11_findJoined_L20  m_op m_arg m_levels n20) m_op m_arg m_levels n30) m_op m_arg m_levels n41) m_op m_arg m_levels m_rows m_facts m_pile m_best m_losses m_groupMany m_groupRow m_groupLoss l1 l2 l3 l4 s0 s1 = some (o_m_rows, o_m_facts, o_m_pile, o_m_best, o_m_losses, o_m_groupMany, o_m_groupRow, o_m_groupLoss) → K [wX11 G q_m m_thrown m_tape m_taped m_size m_sort m_place m_value m_at m_fault m_words m_rows m_op m_arg m_codes m_names m_ofFeed m_teeth m_feedWords m_goWords m_facts m_pile m_levels m_best m_losses m_lossOf m_wasThere m_groupMany m_groupRow m_groupLoss m_isMarked] [(0, .ref (q_m 0)), (1, .int l1), (2, .int l2), (3, .int l3), (4, .int l4)] 99 [.int s0, .int s1, .ref (q_m 6)] := by
                intro m_rows m_facts m_pile m_best m_losses m_groupMany m_groupRow m_groupLoss l1 l2 l3 l4 s0 s1 hM
                obtain ⟨hin_, hM⟩ := g_in_e hM
                refine st_iast hR dX11_findJoined_99 0 6 rfl rfl hin_ (ix := (ix s1)) rfl (pc' := 100) rfl (fun m_rows_1 => [wX11 G q_m m_thrown m_tape m_taped m_size m_sort m_place m_value m_at m_fault m_words m_rows_1 m_op m_arg m_codes m_names m_ofFeed m_teeth m_feedWords m_goWords m_facts m_pile m_levels m_best m_losses m_lossOf m_wasThere m_groupMany m_groupRow m_groupLoss m_isMarked]) (fun _ => rfl) (fun m_rows_1 e_ => ?_)
                have hM := lt_e e_ hM
                obtain ⟨l4_1, e_⟩ : ∃ y : Int32, y = l4 + 1 := ⟨_, rfl⟩
                refine st_iinc hR dX11_findJoined_100 (Nat.le_of_ble_eq_true rfl) 4 [1, 2, 3, 4, 0] (v := l4_1) rfl (by rw [e_]; rfl) (lv' := [(0, .ref (q_m 0)), (1, .int l1), (2, .int l2), (3, .int l3), (4, .int l4_1)]) rfl (pc' := 103) rfl ?_
                have hM := lt_e e_ hM
                refine st_goto hR dX11_findJoined_103 (tgt := 41) (by decide) ?_
                exact ih41 _ _ _ _ _ _ _ _ _ _ _ _ hM
              have J98 : ∀ (m_rows : Nat → Int32) (m_facts : Nat → Int32) (m_pile : Nat → Int32) (m_best : Nat → Int32) (m_losses : Nat → Int32) (m_groupMany : Int32) (m_groupRow : Nat → Int32) (m_groupLoss : Nat → Int32) (l1 : Int32) (l2 : Int32) (l3 : Int32) (l4 : Int32) (s0 : Int32), f_X11_findJoined_B98  (f_X11_findJoined_L20  m_op m_arg m_levels n20) (f_X11_findJoined_L30  (f_X11_findJoined_L20  m_op m_arg m_levels n20) m_op m_arg m_levels n30) (f_X11_findJoined_L41  (f_X11_findJoined_L20  m_op m_arg m_levels n20) (f_X11_findJoined_L30  (f_X11_findJoined_L20  m_op m_arg m_levels n20) m_op m_arg m_levels n30) m_op m_arg m_levels n41) m_op m_arg m_levels m_rows m_facts m_pile m_best m_losses m_groupMany m_groupRow m_groupLoss l1 l2 l3 l4 s0 = some (o_m_rows, o_m_facts, o_m_pile, o_m_best, o_m_losses, o_m_groupMany, o_m_groupRow, o_m_groupLoss) → K [wX11 G q_m m_thrown m_tape m_taped m_size m_sort m_place m_value m_at m_fault m_words m_rows m_op m_arg m_codes m_names m_ofFeed m_teeth m_feedWords m_goWords m_facts m_pile m_levels m_best m_losses m_lossOf m_wasThere m_groupMany m_groupRow m_groupLoss m_isMarked] [(0, .ref (q_m 0)), (1, .int l1), (2, .int l2), (3, .int l3), (4, .int l4)] 98 [.int s0, .ref (q_m 6)] := by
                intro m_rows m_facts m_pile m_best m_losses m_groupMany m_groupRow m_groupLoss l1 l2 l3 l4 s0 hM
                refine st_iconst hR dX11_findJoined_98 (v := 0) rfl (pc' := 99) rfl ?_
                exact J99 _ _ _ _ _ _ _ _ _ _ _ _ _ _ hM
              intro m_rows m_facts m_pile m_best m_losses m_groupMany m_groupRow m_groupLoss l1 l2 l3 l4 hM
              have hM : f_X11_findJoined_L41b  (f_X11_findJoined_L20  m_op m_arg m_levels n20) (f_X11_findJoined_L30  (f_X11_findJoined_L20  m_op m_arg m_levels n20) m_op m_arg m_levels n30) (f_X11_findJoined_L41  (f_X11_findJoined_L20  m_op m_arg m_levels n20) (f_X11_findJoined_L30  (f_X11_findJoined_L20  m_op m_arg m_levels n20) m_op m_arg m_levels n30) m_op m_arg m_levels n41) m_op m_arg m_levels m_rows m_facts m_pile m_best m_losses m_groupMany m_groupRow m_groupLoss l1 l2 l3 l4 = some (o_m_rows, o_m_facts, o_m_pile, o_m_best, o_m_losses, o_m_groupMany, o_m_groupRow, o_m_groupLoss) := hM
              refine st_iload hR dX11_findJoined_41 4 rfl (pc' := 43) rfl ?_
              refine st_aload_n hR dX11_findJoined_43 0 rfl rfl (pc' := 44) rfl ?_
              obtain ⟨r_1, hc_, hM⟩ := bd_e hM
              refine st_callV hR (k_X11_farms hc_) cf_X11_248 (rm_le (Nat.le_of_ble_eq_true rfl) (Nat.le_of_ble_eq_true rfl)) [0] rfl rfl rfl 0 0 10 30 rfl rfl rfl rfl (rest := [.int l4]) rfl (Nat.le_of_ble_eq_true rfl) dX11_findJoined_44 (pc' := 47) rfl (Wn := [wX11 G q_m m_thrown m_tape m_taped m_size m_sort m_place m_value m_at m_fault m_words m_rows m_op m_arg m_codes m_names m_ofFeed m_teeth m_feedWords m_goWords m_facts m_pile m_levels m_best m_losses m_lossOf m_wasThere m_groupMany m_groupRow m_groupLoss m_isMarked]) rfl ?_
              refine st_icmp_ge hR dX11_findJoined_47 (tgt := 106) (by decide) (pc' := 50) rfl (fun c_ => ?_) (fun c_ => ?_)
              · have hM := it_t c_ hM
                obtain ⟨l3_1, e_⟩ : ∃ y : Int32, y = l3 + 1 := ⟨_, rfl⟩
                refine st_iinc hR dX11_findJoined_106 (Nat.le_of_ble_eq_true rfl) 3 [1, 2, 3, 0, 4] (v := l3_1) rfl (by rw [e_]; rfl) (lv' := [(0, .ref (q_m 0)), (1, .int l1), (2, .int l2), (3, .int l3_1), (4, .int l4)]) rfl (pc' := 109) rfl ?_
                have hM := lt_e e_ hM
                refine st_goto hR dX11_findJoined_109 (tgt := 30) (by decide) ?_
                exact st_lv hR [0, 1, 2, 3] rfl (ih30 _ _ _ _ _ _ _ _ _ _ _ hM)
              · have hM := it_f c_ hM
                refine st_aload_n hR dX11_findJoined_50 0 rfl rfl (pc' := 51) rfl ?_
                refine st_get hR dX11_findJoined_51 fg_X11_69_10_10 0 0 rfl rfl rfl (pc' := 54) rfl ?_
                refine st_bipush hR dX11_findJoined_54 (v := 110) rfl (pc' := 56) rfl ?_
                refine st_bipush hR dX11_findJoined_56 (v := 6) rfl (pc' := 58) rfl ?_
                refine st_iload_n hR dX11_findJoined_58 3 rfl rfl (pc' := 59) rfl ?_
                refine st_imul hR dX11_findJoined_59 (pc' := 60) rfl ?_
                refine st_iadd hR dX11_findJoined_60 (pc' := 61) rfl ?_
                refine st_iload hR dX11_findJoined_61 4 rfl (pc' := 63) rfl ?_
                refine st_iadd hR dX11_findJoined_63 (pc' := 64) rfl ?_
                refine st_iload_n hR dX11_findJoined_64 3 rfl rfl (pc' := 65) rfl ?_
                refine st_iload hR dX11_findJoined_65 4 rfl (pc' := 67) rfl ?_
                refine st_icmp_eq hR dX11_findJoined_67 (tgt := 98) (by decide) (pc' := 70) rfl (fun c_ => ?_) (fun c_ => ?_)
                · have hM := it_t c_ hM
                  exact J98 _ _ _ _ _ _ _ _ _ _ _ _ _ hM
                · have hM := it_f c_ hM
                  refine st_aload_n hR dX11_findJoined_70 0 rfl rfl (pc' := 71) rfl ?_
                  refine st_get hR dX11_findJoined_71 fg_X11_109_10_27 0 0 rfl rfl rfl (pc' := 74) rfl ?_
                  refine st_iload_n hR dX11_findJoined_74 2 rfl rfl (pc' := 75) rfl ?_
                  obtain ⟨hin_, hM⟩ := g_in_e hM
                  refine st_iald hR dX11_findJoined_75 0 18 rfl rfl hin_ (v := m_groupRow (ix l2)) rfl (pc' := 76) rfl ?_
                  refine st_iload_n hR dX11_findJoined_76 3 rfl rfl (pc' := 77) rfl ?_
                  obtain ⟨r_2, hc_, hM⟩ := bd_e hM
                  refine st_callS hR (k_X11_groupOf hc_) cf_X11_341 (rm_le (Nat.le_of_ble_eq_true rfl) (Nat.le_of_ble_eq_true rfl)) [] rfl rfl rfl rfl (rest := [.int ((110 + (6 * l3)) + l4), .ref (q_m 6)]) rfl (Nat.le_of_ble_eq_true rfl) dX11_findJoined_77 (pc' := 80) rfl (Wn := [wX11 G q_m m_thrown m_tape m_taped m_size m_sort m_place m_value m_at m_fault m_words m_rows m_op m_arg m_codes m_names m_ofFeed m_teeth m_feedWords m_goWords m_facts m_pile m_levels m_best m_losses m_lossOf m_wasThere m_groupMany m_groupRow m_groupLoss m_isMarked]) rfl ?_
                  refine st_aload_n hR dX11_findJoined_80 0 rfl rfl (pc' := 81) rfl ?_
                  refine st_get hR dX11_findJoined_81 fg_X11_109_10_27 0 0 rfl rfl rfl (pc' := 84) rfl ?_
                  refine st_iload_n hR dX11_findJoined_84 2 rfl rfl (pc' := 85) rfl ?_
                  obtain ⟨hin_, hM⟩ := g_in_e hM
                  refine st_iald hR dX11_findJoined_85 0 18 rfl rfl hin_ (v := m_groupRow (ix l2)) rfl (pc' := 86) rfl ?_
                  refine st_iload hR dX11_findJoined_86 4 rfl (pc' := 88) rfl ?_
                  obtain ⟨r_3, hc_, hM⟩ := bd_e hM
                  refine st_callS hR (k_X11_groupOf hc_) cf_X11_341 (rm_le (Nat.le_of_ble_eq_true rfl) (Nat.le_of_ble_eq_true rfl)) [] rfl rfl rfl rfl (rest := [.int r_2, .int ((110 + (6 * l3)) + l4), .ref (q_m 6)]) rfl (Nat.le_of_ble_eq_true rfl) dX11_findJoined_88 (pc' := 91) rfl (Wn := [wX11 G q_m m_thrown m_tape m_taped m_size m_sort m_place m_value m_at m_fault m_words m_rows m_op m_arg m_codes m_names m_ofFeed m_teeth m_feedWords m_goWords m_facts m_pile m_levels m_best m_losses m_lossOf m_wasThere m_groupMany m_groupRow m_groupLoss m_isMarked]) rfl ?_
                  refine st_icmp_ne hR dX11_findJoined_91 (tgt := 98) (by decide) (pc' := 94) rfl (fun c_ => ?_) (fun c_ => ?_)
                  · have hM := it_f c_ hM
                    exact J98 _ _ _ _ _ _ _ _ _ _ _ _ _ hM
                  · have hM := it_t c_ hM
                    refine st_iconst hR dX11_findJoined_94 (v := 1) rfl (pc' := 95) rfl ?_
                    refine st_goto hR dX11_findJoined_95 (tgt := 99) (by decide) ?_
                    exact J99 _ _ _ _ _ _ _ _ _ _ _ _ _ _ hM
          intro m_rows m_facts m_pile m_best m_losses m_groupMany m_groupRow m_groupLoss l1 l2 l3 hM
          have hM : f_X11_findJoined_L30b  (f_X11_findJoined_L20  m_op m_arg m_levels n20) (f_X11_findJoined_L30  (f_X11_findJoined_L20  m_op m_arg m_levels n20) m_op m_arg m_levels n30) m_op m_arg m_levels m_rows m_facts m_pile m_best m_losses m_groupMany m_groupRow m_groupLoss l1 l2 l3 = some (o_m_rows, o_m_facts, o_m_pile, o_m_best, o_m_losses, o_m_groupMany, o_m_groupRow, o_m_groupLoss) := hM
          refine st_iload_n hR dX11_findJoined_30 3 rfl rfl (pc' := 31) rfl ?_
          refine st_aload_n hR dX11_findJoined_31 0 rfl rfl (pc' := 32) rfl ?_
          obtain ⟨r_1, hc_, hM⟩ := bd_e hM
          refine st_callV hR (k_X11_farms hc_) cf_X11_248 (rm_le (Nat.le_of_ble_eq_true rfl) (Nat.le_of_ble_eq_true rfl)) [0] rfl rfl rfl 0 0 10 30 rfl rfl rfl rfl (rest := [.int l3]) rfl (Nat.le_of_ble_eq_true rfl) dX11_findJoined_32 (pc' := 35) rfl (Wn := [wX11 G q_m m_thrown m_tape m_taped m_size m_sort m_place m_value m_at m_fault m_words m_rows m_op m_arg m_codes m_names m_ofFeed m_teeth m_feedWords m_goWords m_facts m_pile m_levels m_best m_losses m_lossOf m_wasThere m_groupMany m_groupRow m_groupLoss m_isMarked]) rfl ?_
          refine st_icmp_ge hR dX11_findJoined_35 (tgt := 112) (by decide) (pc' := 38) rfl (fun c_ => ?_) (fun c_ => ?_)
          · have hM := it_t c_ hM
            refine st_aload_n hR dX11_findJoined_112 0 rfl rfl (pc' := 113) rfl ?_
            refine st_iload_n hR dX11_findJoined_113 1 rfl rfl (pc' := 114) rfl ?_
            obtain ⟨⟨m_rows_1, m_facts_1, m_pile_1, m_best_1, m_losses_1⟩, hc_, hM⟩ := bd_e hM
            refine st_callV hR (k_X11_findLosses hc_) cf_X11_314 (rm_le (Nat.le_of_ble_eq_true rfl) (Nat.le_of_ble_eq_true rfl)) [0] rfl rfl rfl 0 0 10 30 rfl rfl rfl rfl (rest := []) rfl (Nat.le_of_ble_eq_true rfl) dX11_findJoined_114 (pc' := 117) rfl (Wn := [wX11 G q_m m_thrown m_tape m_taped m_size m_sort m_place m_value m_at m_fault m_words m_rows_1 m_op m_arg m_codes m_names m_ofFeed m_teeth m_feedWords m_goWords m_facts_1 m_pile_1 m_levels m_best_1 m_losses_1 m_lossOf m_wasThere m_groupMany m_groupRow m_groupLoss m_isMarked]) rfl ?_
            refine st_iconst hR dX11_findJoined_117 (v := 0) rfl (pc' := 118) rfl ?_
            refine st_istore_n hR dX11_findJoined_118 rfl (Nat.le_of_ble_eq_true rfl) [1, 2, 3, 0] (lv' := [(0, .ref (q_m 0)), (1, .int l1), (2, .int l2), (3, .int 0)]) rfl (pc' := 119) rfl ?_
            exact L119 FU _ _ _ _ _ _ _ _ _ _ _ hM
          · have hM := it_f c_ hM
            refine st_iconst hR dX11_findJoined_38 (v := 0) rfl (pc' := 39) rfl ?_
            refine st_istore hR dX11_findJoined_39 (Nat.le_of_ble_eq_true rfl) [1, 2, 3, 4, 0] (lv' := [(0, .ref (q_m 0)), (1, .int l1), (2, .int l2), (3, .int l3), (4, .int 0)]) rfl (pc' := 41) rfl ?_
            exact L41 FU _ _ _ _ _ _ _ _ _ _ _ _ hM
      intro m_rows m_facts m_pile m_best m_losses m_groupMany m_groupRow m_groupLoss l1 l2 hM
      have hM : f_X11_findJoined_L20b  (f_X11_findJoined_L20  m_op m_arg m_levels n20) m_op m_arg m_levels m_rows m_facts m_pile m_best m_losses m_groupMany m_groupRow m_groupLoss l1 l2 = some (o_m_rows, o_m_facts, o_m_pile, o_m_best, o_m_losses, o_m_groupMany, o_m_groupRow, o_m_groupLoss) := hM
      refine st_iload_n hR dX11_findJoined_20 2 rfl rfl (pc' := 21) rfl ?_
      refine st_aload_n hR dX11_findJoined_21 0 rfl rfl (pc' := 22) rfl ?_
      refine st_get hR dX11_findJoined_22 fg_X11_335_10_26 0 0 rfl rfl rfl (pc' := 25) rfl ?_
      refine st_icmp_ge hR dX11_findJoined_25 (tgt := 155) (by decide) (pc' := 28) rfl (fun c_ => ?_) (fun c_ => ?_)
      · have hM := it_t c_ hM
        refine st_aload_n hR dX11_findJoined_155 0 rfl rfl (pc' := 156) rfl ?_
        refine st_iconst hR dX11_findJoined_156 (v := 1) rfl (pc' := 157) rfl ?_
        refine st_iconst hR dX11_findJoined_157 (v := 0) rfl (pc' := 158) rfl ?_
        obtain ⟨m_rows_1, hc_, hM⟩ := bd_e hM
        refine st_callV hR (k_X11_carry hc_) cf_X11_182 (rm_le (Nat.le_of_ble_eq_true rfl) (Nat.le_of_ble_eq_true rfl)) [0] rfl rfl rfl 0 0 10 30 rfl rfl rfl rfl (rest := []) rfl (Nat.le_of_ble_eq_true rfl) dX11_findJoined_158 (pc' := 161) rfl (Wn := [wX11 G q_m m_thrown m_tape m_taped m_size m_sort m_place m_value m_at m_fault m_words m_rows_1 m_op m_arg m_codes m_names m_ofFeed m_teeth m_feedWords m_goWords m_facts m_pile m_levels m_best m_losses m_lossOf m_wasThere m_groupMany m_groupRow m_groupLoss m_isMarked]) rfl ?_
        cases hM
        exact hret _ _ dX11_findJoined_161 ro_v
      · have hM := it_f c_ hM
        refine st_iconst hR dX11_findJoined_28 (v := 0) rfl (pc' := 29) rfl ?_
        refine st_istore_n hR dX11_findJoined_29 rfl (Nat.le_of_ble_eq_true rfl) [1, 2, 3, 0] (lv' := [(0, .ref (q_m 0)), (1, .int l1), (2, .int l2), (3, .int 0)]) rfl (pc' := 30) rfl ?_
        exact L30 FU _ _ _ _ _ _ _ _ _ _ _ hM
  refine st_aload_n hR dX11_findJoined_0 0 rfl rfl (pc' := 1) rfl ?_
  refine st_iconst hR dX11_findJoined_1 (v := 0) rfl (pc' := 2) rfl ?_
  refine st_put hR dX11_findJoined_2 fp_X11_335_10_26 0 0 rfl rfl (Nat.le_of_ble_eq_true rfl) rfl rfl (pc' := 5) rfl (W' := [wX11 G q_m m_thrown m_tape m_taped m_size m_sort m_place m_value m_at m_fault m_words m_rows m_op m_arg m_codes m_names m_ofFeed m_teeth m_feedWords m_goWords m_facts m_pile m_levels m_best m_losses m_lossOf m_wasThere 0 m_groupRow m_groupLoss m_isMarked]) rfl ?_
  refine st_aload_n hR dX11_findJoined_5 0 rfl rfl (pc' := 6) rfl ?_
  refine st_iconst hR dX11_findJoined_6 (v := 0) rfl (pc' := 7) rfl ?_
  refine st_iconst hR dX11_findJoined_7 (v := 0) rfl (pc' := 8) rfl ?_
  refine st_iconst hR dX11_findJoined_8 (v := 0) rfl (pc' := 9) rfl ?_
  obtain ⟨⟨m_groupMany_1, m_groupRow_1⟩, hc_, hM⟩ := bd_e hM
  refine st_callV hR (k_X11_findGroups hc_) cf_X11_338 (rm_le (Nat.le_of_ble_eq_true rfl) (Nat.le_of_ble_eq_true rfl)) [0] rfl rfl rfl 0 0 10 30 rfl rfl rfl rfl (rest := []) rfl (Nat.le_of_ble_eq_true rfl) dX11_findJoined_9 (pc' := 12) rfl (Wn := [wX11 G q_m m_thrown m_tape m_taped m_size m_sort m_place m_value m_at m_fault m_words m_rows m_op m_arg m_codes m_names m_ofFeed m_teeth m_feedWords m_goWords m_facts m_pile m_levels m_best m_losses m_lossOf m_wasThere m_groupMany_1 m_groupRow_1 m_groupLoss m_isMarked]) rfl ?_
  refine st_aload_n hR dX11_findJoined_12 0 rfl rfl (pc' := 13) rfl ?_
  refine st_iconst hR dX11_findJoined_13 (v := 0) rfl (pc' := 14) rfl ?_
  refine st_iconst hR dX11_findJoined_14 (v := 1) rfl (pc' := 15) rfl ?_
  obtain ⟨m_rows_1, hc_, hM⟩ := bd_e hM
  refine st_callV hR (k_X11_carry hc_) cf_X11_182 (rm_le (Nat.le_of_ble_eq_true rfl) (Nat.le_of_ble_eq_true rfl)) [0] rfl rfl rfl 0 0 10 30 rfl rfl rfl rfl (rest := []) rfl (Nat.le_of_ble_eq_true rfl) dX11_findJoined_15 (pc' := 18) rfl (Wn := [wX11 G q_m m_thrown m_tape m_taped m_size m_sort m_place m_value m_at m_fault m_words m_rows_1 m_op m_arg m_codes m_names m_ofFeed m_teeth m_feedWords m_goWords m_facts m_pile m_levels m_best m_losses m_lossOf m_wasThere m_groupMany_1 m_groupRow_1 m_groupLoss m_isMarked]) rfl ?_
  refine st_iconst hR dX11_findJoined_18 (v := 0) rfl (pc' := 19) rfl ?_
  refine st_istore_n hR dX11_findJoined_19 rfl (Nat.le_of_ble_eq_true rfl) [1, 2, 0] (lv' := [(0, .ref (q_m 0)), (1, .int l1), (2, .int 0)]) rfl (pc' := 20) rfl ?_
  exact L20 FU _ _ _ _ _ _ _ _ _ _ hM
