set_option maxHeartbeats 16000000 in
set_option maxRecDepth 100000 in
theorem k_X11_without {l : Launch} {G : GG} {q_m : Nat → Nat} {m_thrown m_taped m_size m_at m_fault m_codes m_ofFeed m_teeth m_levels m_groupMany : Int32} {m_tape m_sort m_place m_rows m_op m_arg m_feedWords m_goWords m_facts m_pile m_best m_losses m_lossOf m_wasThere m_groupRow m_groupLoss m_isMarked : Nat → Int32} {m_value m_words m_names : Nat → Int64} {l1 l2 : Int32} {o_r : Int32} (hM : f_X11_without m_rows m_groupRow l1 l2 = some o_r) : MC l G yX11_without cX11_without 10 (some .int) (RM 1) [.ref (q_m 0), .int l1, .int l2] [wX11 G q_m m_thrown m_tape m_taped m_size m_sort m_place m_value m_at m_fault m_words m_rows m_op m_arg m_codes m_names m_ofFeed m_teeth m_feedWords m_goWords m_facts m_pile m_levels m_best m_losses m_lossOf m_wasThere m_groupMany m_groupRow m_groupLoss m_isMarked] (some (.int o_r)) [wX11 G q_m m_thrown m_tape m_taped m_size m_sort m_place m_value m_at m_fault m_words m_rows m_op m_arg m_codes m_names m_ofFeed m_teeth m_feedWords m_goWords m_facts m_pile m_levels m_best m_losses m_lossOf m_wasThere m_groupMany m_groupRow m_groupLoss m_isMarked] := by
  refine MC.of pn_X11 (Nat.le_of_ble_eq_true rfl) (fun K hR hret => ?_)
  have hR : Rl l G RX11 cX11_without 10 (RM 1) K := hR
  show K [wX11 G q_m m_thrown m_tape m_taped m_size m_sort m_place m_value m_at m_fault m_words m_rows m_op m_arg m_codes m_names m_ofFeed m_teeth m_feedWords m_goWords m_facts m_pile m_levels m_best m_losses m_lossOf m_wasThere m_groupMany m_groupRow m_groupLoss m_isMarked] [(0, .ref (q_m 0)), (1, .int l1), (2, .int l2)] 0 []
  have L180 : ∀ (n180 : Nat) (l3 : Int32) (l5 : Int32), f_X11_without_L180  m_rows m_groupRow n180 l3 l5 = some o_r → K [wX11 G q_m m_thrown m_tape m_taped m_size m_sort m_place m_value m_at m_fault m_words m_rows m_op m_arg m_codes m_names m_ofFeed m_teeth m_feedWords m_goWords m_facts m_pile m_levels m_best m_losses m_lossOf m_wasThere m_groupMany m_groupRow m_groupLoss m_isMarked] [(0, .ref (q_m 0)), (3, .int l3), (5, .int l5)] 180 [] := by
    intro n180
    induction n180 with
    | zero => intro l3 l5 hM; exact no_some hM
    | succ n180 ih180 =>
      intro l3 l5 hM
      have hM : f_X11_without_L180b  (f_X11_without_L180  m_rows m_groupRow n180) m_rows m_groupRow l3 l5 = some o_r := hM
      refine st_aload_n hR dX11_without_180 0 rfl rfl (pc' := 181) rfl ?_
      refine st_get hR dX11_without_181 fg_X11_109_10_27 0 0 rfl rfl rfl (pc' := 184) rfl ?_
      refine st_iload hR dX11_without_184 2 rfl (pc' := 186) rfl ?_
      obtain ⟨hin_, hM⟩ := g_in_e hM
      refine st_iald hR dX11_without_186 0 18 rfl rfl hin_ (v := m_groupRow (ix l5)) rfl (pc' := 187) rfl ?_
      refine st_iload_n hR dX11_without_187 1 rfl rfl (pc' := 188) rfl ?_
      refine st_icmp_eq hR dX11_without_188 (tgt := 197) (by decide) (pc' := 191) rfl (fun c_ => ?_) (fun c_ => ?_)
      · have hM := it_t c_ hM
        refine st_iload hR dX11_without_197 2 rfl (pc' := 199) rfl ?_
        cases hM
        exact hret _ _ dX11_without_199 (ro_i _)
      · have hM := it_f c_ hM
        obtain ⟨l5_1, e_⟩ : ∃ y : Int32, y = l5 + 1 := ⟨_, rfl⟩
        refine st_iinc hR dX11_without_191 (Nat.le_of_ble_eq_true rfl) 2 [1, 2, 0] (v := l5_1) rfl (by rw [e_]; rfl) (lv' := [(0, .ref (q_m 0)), (3, .int l3), (5, .int l5_1)]) rfl (pc' := 194) rfl ?_
        have hM := lt_e e_ hM
        refine st_goto hR dX11_without_194 (tgt := 180) (by decide) ?_
        exact ih180 _ _ hM
  have L8 : ∀ (n8 : Nat) (l1 : Int32) (l2 : Int32) (l3 : Int32) (l4 : Int32) (l5 : Int32), f_X11_without_L8  m_rows m_groupRow n8 l1 l2 l3 l4 l5 = some o_r → K [wX11 G q_m m_thrown m_tape m_taped m_size m_sort m_place m_value m_at m_fault m_words m_rows m_op m_arg m_codes m_names m_ofFeed m_teeth m_feedWords m_goWords m_facts m_pile m_levels m_best m_losses m_lossOf m_wasThere m_groupMany m_groupRow m_groupLoss m_isMarked] [(0, .ref (q_m 0)), (1, .int l1), (2, .int l2), (3, .int l3), (4, .int l4), (5, .int l5)] 8 [] := by
    intro n8
    induction n8 with
    | zero => intro l1 l2 l3 l4 l5 hM; exact no_some hM
    | succ n8 ih8 =>
      have J168 : ∀ (l1 : Int32) (l2 : Int32) (l3 : Int32) (l5 : Int32) (s0 : Int32) (s1 : Int32), f_X11_without_B168  (f_X11_without_L8  m_rows m_groupRow n8) m_rows m_groupRow l1 l2 l3 l5 s0 s1 = some o_r → K [wX11 G q_m m_thrown m_tape m_taped m_size m_sort m_place m_value m_at m_fault m_words m_rows m_op m_arg m_codes m_names m_ofFeed m_teeth m_feedWords m_goWords m_facts m_pile m_levels m_best m_losses m_lossOf m_wasThere m_groupMany m_groupRow m_groupLoss m_isMarked] [(0, .ref (q_m 0)), (1, .int l1), (2, .int l2), (3, .int l3), (5, .int l5)] 168 [.int s0, .int s1] := by
        intro l1 l2 l3 l5 s0 s1 hM
        refine st_iadd hR dX11_without_168 (pc' := 169) rfl ?_
        refine st_topi (fun l4_1 e_ => ?_)
        have hM := lt_e e_ hM
        refine st_istore hR dX11_without_169 (Nat.le_of_ble_eq_true rfl) [1, 2, 3, 4, 0, 5] (lv' := [(0, .ref (q_m 0)), (1, .int l1), (2, .int l2), (3, .int l3), (4, .int l4_1), (5, .int l5)]) rfl (pc' := 171) rfl ?_
        obtain ⟨l5_1, e_⟩ : ∃ y : Int32, y = l5 + 1 := ⟨_, rfl⟩
        refine st_iinc hR dX11_without_171 (Nat.le_of_ble_eq_true rfl) 5 [1, 2, 3, 4, 5, 0] (v := l5_1) rfl (by rw [e_]; rfl) (lv' := [(0, .ref (q_m 0)), (1, .int l1), (2, .int l2), (3, .int l3), (4, .int l4_1), (5, .int l5_1)]) rfl (pc' := 174) rfl ?_
        have hM := lt_e e_ hM
        refine st_goto hR dX11_without_174 (tgt := 8) (by decide) ?_
        exact ih8 _ _ _ _ _ hM
      have J149 : ∀ (l1 : Int32) (l2 : Int32) (l4 : Int32) (l5 : Int32) (l6 : Int32) (s0 : Int32) (s1 : Int32), f_X11_without_B149  (f_X11_without_L8  m_rows m_groupRow n8) m_rows m_groupRow l1 l2 l4 l5 l6 s0 s1 = some o_r → K [wX11 G q_m m_thrown m_tape m_taped m_size m_sort m_place m_value m_at m_fault m_words m_rows m_op m_arg m_codes m_names m_ofFeed m_teeth m_feedWords m_goWords m_facts m_pile m_levels m_best m_losses m_lossOf m_wasThere m_groupMany m_groupRow m_groupLoss m_isMarked] [(0, .ref (q_m 0)), (1, .int l1), (2, .int l2), (4, .int l4), (5, .int l5), (6, .int l6)] 149 [.int s0, .int s1] := by
        intro l1 l2 l4 l5 l6 s0 s1 hM
        refine st_iconst hR dX11_without_149 (v := 3) rfl (pc' := 150) rfl ?_
        refine st_iload hR dX11_without_150 4 rfl (pc' := 152) rfl ?_
        refine st_imul hR dX11_without_152 (pc' := 153) rfl ?_
        refine st_ishl hR dX11_without_153 (pc' := 154) rfl ?_
        refine st_ior hR dX11_without_154 (pc' := 155) rfl ?_
        refine st_topi (fun l3_1 e_ => ?_)
        have hM := lt_e e_ hM
        refine st_istore_n hR dX11_without_155 rfl (Nat.le_of_ble_eq_true rfl) [1, 2, 3, 0, 4, 5, 6] (lv' := [(0, .ref (q_m 0)), (1, .int l1), (2, .int l2), (3, .int l3_1), (4, .int l4), (5, .int l5), (6, .int l6)]) rfl (pc' := 156) rfl ?_
        refine st_iload hR dX11_without_156 4 rfl (pc' := 158) rfl ?_
        refine st_iload hR dX11_without_158 6 rfl (pc' := 160) rfl ?_
        refine st_if_ge hR dX11_without_160 (tgt := 167) (by decide) (pc' := 163) rfl (fun c_ => ?_) (fun c_ => ?_)
        · have hM := it_t c_ hM
          refine st_iconst hR dX11_without_167 (v := 0) rfl (pc' := 168) rfl ?_
          exact st_lv hR [0, 1, 2, 3, 5] rfl (J168 _ _ _ _ _ _ hM)
        · have hM := it_f c_ hM
          refine st_iconst hR dX11_without_163 (v := 1) rfl (pc' := 164) rfl ?_
          refine st_goto hR dX11_without_164 (tgt := 168) (by decide) ?_
          exact st_lv hR [0, 1, 2, 3, 5] rfl (J168 _ _ _ _ _ _ hM)
      have L23 : ∀ (n23 : Nat) (l1 : Int32) (l2 : Int32) (l3 : Int32) (l4 : Int32) (l5 : Int32) (l6 : Int32) (l7 : Int32), f_X11_without_L23  (f_X11_without_L8  m_rows m_groupRow n8) m_rows m_groupRow n23 l1 l2 l3 l4 l5 l6 l7 = some o_r → K [wX11 G q_m m_thrown m_tape m_taped m_size m_sort m_place m_value m_at m_fault m_words m_rows m_op m_arg m_codes m_names m_ofFeed m_teeth m_feedWords m_goWords m_facts m_pile m_levels m_best m_losses m_lossOf m_wasThere m_groupMany m_groupRow m_groupLoss m_isMarked] [(0, .ref (q_m 0)), (1, .int l1), (2, .int l2), (3, .int l3), (4, .int l4), (5, .int l5), (6, .int l6), (7, .int l7)] 23 [] := by
        intro n23
        induction n23 with
        | zero => intro l1 l2 l3 l4 l5 l6 l7 hM; exact no_some hM
        | succ n23 ih23 =>
          have J128 : ∀ (l1 : Int32) (l2 : Int32) (l3 : Int32) (l4 : Int32) (l5 : Int32) (l7 : Int32) (s0 : Int32), f_X11_without_B128  (f_X11_without_L8  m_rows m_groupRow n8) (f_X11_without_L23  (f_X11_without_L8  m_rows m_groupRow n8) m_rows m_groupRow n23) m_rows m_groupRow l1 l2 l3 l4 l5 l7 s0 = some o_r → K [wX11 G q_m m_thrown m_tape m_taped m_size m_sort m_place m_value m_at m_fault m_words m_rows m_op m_arg m_codes m_names m_ofFeed m_teeth m_feedWords m_goWords m_facts m_pile m_levels m_best m_losses m_lossOf m_wasThere m_groupMany m_groupRow m_groupLoss m_isMarked] [(0, .ref (q_m 0)), (1, .int l1), (2, .int l2), (3, .int l3), (4, .int l4), (5, .int l5), (7, .int l7)] 128 [.int s0] := by
            intro l1 l2 l3 l4 l5 l7 s0 hM
            refine st_istore hR dX11_without_128 (Nat.le_of_ble_eq_true rfl) [1, 2, 3, 4, 5, 6, 0, 7] (lv' := [(0, .ref (q_m 0)), (1, .int l1), (2, .int l2), (3, .int l3), (4, .int l4), (5, .int l5), (6, .int s0), (7, .int l7)]) rfl (pc' := 130) rfl ?_
            obtain ⟨l7_1, e_⟩ : ∃ y : Int32, y = l7 + 1 := ⟨_, rfl⟩
            refine st_iinc hR dX11_without_130 (Nat.le_of_ble_eq_true rfl) 7 [1, 2, 3, 4, 5, 6, 7, 0] (v := l7_1) rfl (by rw [e_]; rfl) (lv' := [(0, .ref (q_m 0)), (1, .int l1), (2, .int l2), (3, .int l3), (4, .int l4), (5, .int l5), (6, .int s0), (7, .int l7_1)]) rfl (pc' := 133) rfl ?_
            have hM := lt_e e_ hM
            refine st_goto hR dX11_without_133 (tgt := 23) (by decide) ?_
            exact ih23 _ _ _ _ _ _ _ hM
          have J117 : ∀ (l1 : Int32) (l2 : Int32) (l3 : Int32) (l4 : Int32) (l5 : Int32) (l7 : Int32), f_X11_without_B117  (f_X11_without_L8  m_rows m_groupRow n8) (f_X11_without_L23  (f_X11_without_L8  m_rows m_groupRow n8) m_rows m_groupRow n23) m_rows m_groupRow l1 l2 l3 l4 l5 l7 = some o_r → K [wX11 G q_m m_thrown m_tape m_taped m_size m_sort m_place m_value m_at m_fault m_words m_rows m_op m_arg m_codes m_names m_ofFeed m_teeth m_feedWords m_goWords m_facts m_pile m_levels m_best m_losses m_lossOf m_wasThere m_groupMany m_groupRow m_groupLoss m_isMarked] [(0, .ref (q_m 0)), (1, .int l1), (2, .int l2), (3, .int l3), (4, .int l4), (5, .int l5), (7, .int l7)] 117 [] := by
            intro l1 l2 l3 l4 l5 l7 hM
            refine st_iload_n hR dX11_without_117 3 rfl rfl (pc' := 118) rfl ?_
            refine st_iload hR dX11_without_118 6 rfl (pc' := 120) rfl ?_
            obtain ⟨r_1, hc_, hM⟩ := bd_e hM
            refine st_callS hR (k_X11_groupOf hc_) cf_X11_341 (rm_le (Nat.le_of_ble_eq_true rfl) (Nat.le_of_ble_eq_true rfl)) [] rfl rfl rfl rfl (rest := []) rfl (Nat.le_of_ble_eq_true rfl) dX11_without_120 (pc' := 123) rfl (Wn := [wX11 G q_m m_thrown m_tape m_taped m_size m_sort m_place m_value m_at m_fault m_words m_rows m_op m_arg m_codes m_names m_ofFeed m_teeth m_feedWords m_goWords m_facts m_pile m_levels m_best m_losses m_lossOf m_wasThere m_groupMany m_groupRow m_groupLoss m_isMarked]) rfl ?_
            refine st_goto hR dX11_without_123 (tgt := 128) (by decide) ?_
            exact J128 _ _ _ _ _ _ _ hM
          have J105 : ∀ (l1 : Int32) (l2 : Int32) (l3 : Int32) (l4 : Int32) (l5 : Int32) (l6 : Int32) (l7 : Int32) (l8 : Int32) (s0 : Int32), f_X11_without_B105  (f_X11_without_L8  m_rows m_groupRow n8) (f_X11_without_L23  (f_X11_without_L8  m_rows m_groupRow n8) m_rows m_groupRow n23) m_rows m_groupRow l1 l2 l3 l4 l5 l6 l7 l8 s0 = some o_r → K [wX11 G q_m m_thrown m_tape m_taped m_size m_sort m_place m_value m_at m_fault m_words m_rows m_op m_arg m_codes m_names m_ofFeed m_teeth m_feedWords m_goWords m_facts m_pile m_levels m_best m_losses m_lossOf m_wasThere m_groupMany m_groupRow m_groupLoss m_isMarked] [(0, .ref (q_m 0)), (1, .int l1), (2, .int l2), (3, .int l3), (4, .int l4), (5, .int l5), (6, .int l6), (7, .int l7), (8, .int l8)] 105 [.int s0] := by
            intro l1 l2 l3 l4 l5 l6 l7 l8 s0 hM
            refine st_istore hR dX11_without_105 (Nat.le_of_ble_eq_true rfl) [1, 2, 3, 4, 5, 6, 7, 8, 9, 0] (lv' := [(0, .ref (q_m 0)), (1, .int l1), (2, .int l2), (3, .int l3), (4, .int l4), (5, .int l5), (6, .int l6), (7, .int l7), (8, .int l8), (9, .int s0)]) rfl (pc' := 107) rfl ?_
            refine st_iload hR dX11_without_107 8 rfl (pc' := 109) rfl ?_
            refine st_if_ne hR dX11_without_109 (tgt := 117) (by decide) (pc' := 112) rfl (fun c_ => ?_) (fun c_ => ?_)
            · have hM := it_f c_ hM
              exact st_lv hR [0, 1, 2, 3, 4, 5, 7] rfl (J117 _ _ _ _ _ _ hM)
            · have hM := it_t c_ hM
              refine st_iload hR dX11_without_112 9 rfl (pc' := 114) rfl ?_
              refine st_if_eq hR dX11_without_114 (tgt := 126) (by decide) (pc' := 117) rfl (fun c_ => ?_) (fun c_ => ?_)
              · have hM := it_t c_ hM
                refine st_iload hR dX11_without_126 6 rfl (pc' := 128) rfl ?_
                exact st_lv hR [0, 1, 2, 3, 4, 5, 7] rfl (J128 _ _ _ _ _ _ _ hM)
              · have hM := it_f c_ hM
                exact st_lv hR [0, 1, 2, 3, 4, 5, 7] rfl (J117 _ _ _ _ _ _ hM)
          have J104 : ∀ (l1 : Int32) (l2 : Int32) (l3 : Int32) (l4 : Int32) (l5 : Int32) (l6 : Int32) (l7 : Int32) (l8 : Int32), f_X11_without_B104  (f_X11_without_L8  m_rows m_groupRow n8) (f_X11_without_L23  (f_X11_without_L8  m_rows m_groupRow n8) m_rows m_groupRow n23) m_rows m_groupRow l1 l2 l3 l4 l5 l6 l7 l8 = some o_r → K [wX11 G q_m m_thrown m_tape m_taped m_size m_sort m_place m_value m_at m_fault m_words m_rows m_op m_arg m_codes m_names m_ofFeed m_teeth m_feedWords m_goWords m_facts m_pile m_levels m_best m_losses m_lossOf m_wasThere m_groupMany m_groupRow m_groupLoss m_isMarked] [(0, .ref (q_m 0)), (1, .int l1), (2, .int l2), (3, .int l3), (4, .int l4), (5, .int l5), (6, .int l6), (7, .int l7), (8, .int l8)] 104 [] := by
            intro l1 l2 l3 l4 l5 l6 l7 l8 hM
            refine st_iconst hR dX11_without_104 (v := 0) rfl (pc' := 105) rfl ?_
            exact J105 _ _ _ _ _ _ _ _ _ hM
          have J55 : ∀ (l1 : Int32) (l2 : Int32) (l3 : Int32) (l4 : Int32) (l5 : Int32) (l6 : Int32) (l7 : Int32) (s0 : Int32), f_X11_without_B55  (f_X11_without_L8  m_rows m_groupRow n8) (f_X11_without_L23  (f_X11_without_L8  m_rows m_groupRow n8) m_rows m_groupRow n23) m_rows m_groupRow l1 l2 l3 l4 l5 l6 l7 s0 = some o_r → K [wX11 G q_m m_thrown m_tape m_taped m_size m_sort m_place m_value m_at m_fault m_words m_rows m_op m_arg m_codes m_names m_ofFeed m_teeth m_feedWords m_goWords m_facts m_pile m_levels m_best m_losses m_lossOf m_wasThere m_groupMany m_groupRow m_groupLoss m_isMarked] [(0, .ref (q_m 0)), (1, .int l1), (2, .int l2), (3, .int l3), (4, .int l4), (5, .int l5), (6, .int l6), (7, .int l7)] 55 [.int s0] := by
            intro l1 l2 l3 l4 l5 l6 l7 s0 hM
            refine st_istore hR dX11_without_55 (Nat.le_of_ble_eq_true rfl) [1, 2, 3, 4, 5, 6, 7, 8, 0] (lv' := [(0, .ref (q_m 0)), (1, .int l1), (2, .int l2), (3, .int l3), (4, .int l4), (5, .int l5), (6, .int l6), (7, .int l7), (8, .int s0)]) rfl (pc' := 57) rfl ?_
            refine st_iload_n hR dX11_without_57 2 rfl rfl (pc' := 58) rfl ?_
            refine st_iload hR dX11_without_58 5 rfl (pc' := 60) rfl ?_
            refine st_ishr hR dX11_without_60 (pc' := 61) rfl ?_
            refine st_iconst hR dX11_without_61 (v := 1) rfl (pc' := 62) rfl ?_
            refine st_iand hR dX11_without_62 (pc' := 63) rfl ?_
            refine st_if_ne hR dX11_without_63 (tgt := 104) (by decide) (pc' := 66) rfl (fun c_ => ?_) (fun c_ => ?_)
            · have hM := it_f c_ hM
              exact J104 _ _ _ _ _ _ _ _ hM
            · have hM := it_t c_ hM
              refine st_iload_n hR dX11_without_66 2 rfl rfl (pc' := 67) rfl ?_
              refine st_iload hR dX11_without_67 7 rfl (pc' := 69) rfl ?_
              refine st_ishr hR dX11_without_69 (pc' := 70) rfl ?_
              refine st_iconst hR dX11_without_70 (v := 1) rfl (pc' := 71) rfl ?_
              refine st_iand hR dX11_without_71 (pc' := 72) rfl ?_
              refine st_if_ne hR dX11_without_72 (tgt := 104) (by decide) (pc' := 75) rfl (fun c_ => ?_) (fun c_ => ?_)
              · have hM := it_f c_ hM
                exact J104 _ _ _ _ _ _ _ _ hM
              · have hM := it_t c_ hM
                refine st_aload_n hR dX11_without_75 0 rfl rfl (pc' := 76) rfl ?_
                refine st_get hR dX11_without_76 fg_X11_109_10_27 0 0 rfl rfl rfl (pc' := 79) rfl ?_
                refine st_iload_n hR dX11_without_79 1 rfl rfl (pc' := 80) rfl ?_
                obtain ⟨hin_, hM⟩ := g_in_e hM
                refine st_iald hR dX11_without_80 0 18 rfl rfl hin_ (v := m_groupRow (ix l1)) rfl (pc' := 81) rfl ?_
                refine st_iload hR dX11_without_81 5 rfl (pc' := 83) rfl ?_
                obtain ⟨r_1, hc_, hM⟩ := bd_e hM
                refine st_callS hR (k_X11_groupOf hc_) cf_X11_341 (rm_le (Nat.le_of_ble_eq_true rfl) (Nat.le_of_ble_eq_true rfl)) [] rfl rfl rfl rfl (rest := []) rfl (Nat.le_of_ble_eq_true rfl) dX11_without_83 (pc' := 86) rfl (Wn := [wX11 G q_m m_thrown m_tape m_taped m_size m_sort m_place m_value m_at m_fault m_words m_rows m_op m_arg m_codes m_names m_ofFeed m_teeth m_feedWords m_goWords m_facts m_pile m_levels m_best m_losses m_lossOf m_wasThere m_groupMany m_groupRow m_groupLoss m_isMarked]) rfl ?_
                refine st_aload_n hR dX11_without_86 0 rfl rfl (pc' := 87) rfl ?_
                refine st_get hR dX11_without_87 fg_X11_109_10_27 0 0 rfl rfl rfl (pc' := 90) rfl ?_
                refine st_iload_n hR dX11_without_90 1 rfl rfl (pc' := 91) rfl ?_
                obtain ⟨hin_, hM⟩ := g_in_e hM
                refine st_iald hR dX11_without_91 0 18 rfl rfl hin_ (v := m_groupRow (ix l1)) rfl (pc' := 92) rfl ?_
                refine st_iload hR dX11_without_92 7 rfl (pc' := 94) rfl ?_
                obtain ⟨r_2, hc_, hM⟩ := bd_e hM
                refine st_callS hR (k_X11_groupOf hc_) cf_X11_341 (rm_le (Nat.le_of_ble_eq_true rfl) (Nat.le_of_ble_eq_true rfl)) [] rfl rfl rfl rfl (rest := [.int r_1]) rfl (Nat.le_of_ble_eq_true rfl) dX11_without_94 (pc' := 97) rfl (Wn := [wX11 G q_m m_thrown m_tape m_taped m_size m_sort m_place m_value m_at m_fault m_words m_rows m_op m_arg m_codes m_names m_ofFeed m_teeth m_feedWords m_goWords m_facts m_pile m_levels m_best m_losses m_lossOf m_wasThere m_groupMany m_groupRow m_groupLoss m_isMarked]) rfl ?_
                refine st_icmp_ne hR dX11_without_97 (tgt := 104) (by decide) (pc' := 100) rfl (fun c_ => ?_) (fun c_ => ?_)
                · have hM := it_f c_ hM
                  exact J104 _ _ _ _ _ _ _ _ hM
                · have hM := it_t c_ hM
                  refine st_iconst hR dX11_without_100 (v := 1) rfl (pc' := 101) rfl ?_
                  refine st_goto hR dX11_without_101 (tgt := 105) (by decide) ?_
                  exact J105 _ _ _ _ _ _ _ _ _ hM
          have J54 : ∀ (l1 : Int32) (l2 : Int32) (l3 : Int32) (l4 : Int32) (l5 : Int32) (l6 : Int32) (l7 : Int32), f_X11_without_B54  (f_X11_without_L8  m_rows m_groupRow n8) (f_X11_without_L23  (f_X11_without_L8  m_rows m_groupRow n8) m_rows m_groupRow n23) m_rows m_groupRow l1 l2 l3 l4 l5 l6 l7 = some o_r → K [wX11 G q_m m_thrown m_tape m_taped m_size m_sort m_place m_value m_at m_fault m_words m_rows m_op m_arg m_codes m_names m_ofFeed m_teeth m_feedWords m_goWords m_facts m_pile m_levels m_best m_losses m_lossOf m_wasThere m_groupMany m_groupRow m_groupLoss m_isMarked] [(0, .ref (q_m 0)), (1, .int l1), (2, .int l2), (3, .int l3), (4, .int l4), (5, .int l5), (6, .int l6), (7, .int l7)] 54 [] := by
            intro l1 l2 l3 l4 l5 l6 l7 hM
            refine st_iconst hR dX11_without_54 (v := 0) rfl (pc' := 55) rfl ?_
            exact J55 _ _ _ _ _ _ _ _ hM
          intro l1 l2 l3 l4 l5 l6 l7 hM
          have hM : f_X11_without_L23b  (f_X11_without_L8  m_rows m_groupRow n8) (f_X11_without_L23  (f_X11_without_L8  m_rows m_groupRow n8) m_rows m_groupRow n23) m_rows m_groupRow l1 l2 l3 l4 l5 l6 l7 = some o_r := hM
          refine st_iload hR dX11_without_23 7 rfl (pc' := 25) rfl ?_
          refine st_iload hR dX11_without_25 5 rfl (pc' := 27) rfl ?_
          refine st_icmp_ge hR dX11_without_27 (tgt := 136) (by decide) (pc' := 30) rfl (fun c_ => ?_) (fun c_ => ?_)
          · have hM := it_t c_ hM
            refine st_iload_n hR dX11_without_136 3 rfl rfl (pc' := 137) rfl ?_
            refine st_iload hR dX11_without_137 6 rfl (pc' := 139) rfl ?_
            refine st_if_ge hR dX11_without_139 (tgt := 147) (by decide) (pc' := 142) rfl (fun c_ => ?_) (fun c_ => ?_)
            · have hM := it_t c_ hM
              refine st_iload hR dX11_without_147 6 rfl (pc' := 149) rfl ?_
              exact st_lv hR [0, 1, 2, 4, 5, 6] rfl (J149 _ _ _ _ _ _ _ hM)
            · have hM := it_f c_ hM
              refine st_iload hR dX11_without_142 4 rfl (pc' := 144) rfl ?_
              refine st_goto hR dX11_without_144 (tgt := 149) (by decide) ?_
              exact st_lv hR [0, 1, 2, 4, 5, 6] rfl (J149 _ _ _ _ _ _ _ hM)
          · have hM := it_f c_ hM
            refine st_iload_n hR dX11_without_30 2 rfl rfl (pc' := 31) rfl ?_
            refine st_iload hR dX11_without_31 5 rfl (pc' := 33) rfl ?_
            refine st_ishr hR dX11_without_33 (pc' := 34) rfl ?_
            refine st_iconst hR dX11_without_34 (v := 1) rfl (pc' := 35) rfl ?_
            refine st_iand hR dX11_without_35 (pc' := 36) rfl ?_
            refine st_iconst hR dX11_without_36 (v := 1) rfl (pc' := 37) rfl ?_
            refine st_icmp_ne hR dX11_without_37 (tgt := 54) (by decide) (pc' := 40) rfl (fun c_ => ?_) (fun c_ => ?_)
            · have hM := it_f c_ hM
              exact J54 _ _ _ _ _ _ _ hM
            · have hM := it_t c_ hM
              refine st_iload_n hR dX11_without_40 2 rfl rfl (pc' := 41) rfl ?_
              refine st_iload hR dX11_without_41 7 rfl (pc' := 43) rfl ?_
              refine st_ishr hR dX11_without_43 (pc' := 44) rfl ?_
              refine st_iconst hR dX11_without_44 (v := 1) rfl (pc' := 45) rfl ?_
              refine st_iand hR dX11_without_45 (pc' := 46) rfl ?_
              refine st_iconst hR dX11_without_46 (v := 1) rfl (pc' := 47) rfl ?_
              refine st_icmp_ne hR dX11_without_47 (tgt := 54) (by decide) (pc' := 50) rfl (fun c_ => ?_) (fun c_ => ?_)
              · have hM := it_f c_ hM
                exact J54 _ _ _ _ _ _ _ hM
              · have hM := it_t c_ hM
                refine st_iconst hR dX11_without_50 (v := 1) rfl (pc' := 51) rfl ?_
                refine st_goto hR dX11_without_51 (tgt := 55) (by decide) ?_
                exact J55 _ _ _ _ _ _ _ _ hM
      intro l1 l2 l3 l4 l5 hM
      have hM : f_X11_without_L8b  (f_X11_without_L8  m_rows m_groupRow n8) m_rows m_groupRow l1 l2 l3 l4 l5 = some o_r := hM
      refine st_iload hR dX11_without_8 5 rfl (pc' := 10) rfl ?_
      refine st_aload_n hR dX11_without_10 0 rfl rfl (pc' := 11) rfl ?_
      obtain ⟨r_1, hc_, hM⟩ := bd_e hM
      refine st_callV hR (k_X11_farms hc_) cf_X11_248 (rm_le (Nat.le_of_ble_eq_true rfl) (Nat.le_of_ble_eq_true rfl)) [0] rfl rfl rfl 0 0 10 30 rfl rfl rfl rfl (rest := [.int l5]) rfl (Nat.le_of_ble_eq_true rfl) dX11_without_11 (pc' := 14) rfl (Wn := [wX11 G q_m m_thrown m_tape m_taped m_size m_sort m_place m_value m_at m_fault m_words m_rows m_op m_arg m_codes m_names m_ofFeed m_teeth m_feedWords m_goWords m_facts m_pile m_levels m_best m_losses m_lossOf m_wasThere m_groupMany m_groupRow m_groupLoss m_isMarked]) rfl ?_
      refine st_icmp_ge hR dX11_without_14 (tgt := 177) (by decide) (pc' := 17) rfl (fun c_ => ?_) (fun c_ => ?_)
      · have hM := it_t c_ hM
        refine st_iconst hR dX11_without_177 (v := 0) rfl (pc' := 178) rfl ?_
        refine st_istore hR dX11_without_178 (Nat.le_of_ble_eq_true rfl) [1, 2, 3, 4, 5, 0] (lv' := [(0, .ref (q_m 0)), (1, .int l1), (2, .int l2), (3, .int l3), (4, .int l4), (5, .int 0)]) rfl (pc' := 180) rfl ?_
        exact st_lv hR [0, 3, 5] rfl (L180 FU _ _ hM)
      · have hM := it_f c_ hM
        refine st_iconst hR dX11_without_17 (v := (-1)) (by decide) (pc' := 18) rfl ?_
        refine st_istore hR dX11_without_18 (Nat.le_of_ble_eq_true rfl) [1, 2, 3, 4, 5, 6, 0] (lv' := [(0, .ref (q_m 0)), (1, .int l1), (2, .int l2), (3, .int l3), (4, .int l4), (5, .int l5), (6, .int (-1))]) rfl (pc' := 20) rfl ?_
        refine st_iconst hR dX11_without_20 (v := 0) rfl (pc' := 21) rfl ?_
        refine st_istore hR dX11_without_21 (Nat.le_of_ble_eq_true rfl) [1, 2, 3, 4, 5, 6, 7, 0] (lv' := [(0, .ref (q_m 0)), (1, .int l1), (2, .int l2), (3, .int l3), (4, .int l4), (5, .int l5), (6, .int (-1)), (7, .int 0)]) rfl (pc' := 23) rfl ?_
        exact L23 FU _ _ _ _ _ _ _ hM
  refine st_iconst hR dX11_without_0 (v := 0) rfl (pc' := 1) rfl ?_
  refine st_istore_n hR dX11_without_1 rfl (Nat.le_of_ble_eq_true rfl) [1, 2, 3, 0] (lv' := [(0, .ref (q_m 0)), (1, .int l1), (2, .int l2), (3, .int 0)]) rfl (pc' := 2) rfl ?_
  refine st_iconst hR dX11_without_2 (v := 0) rfl (pc' := 3) rfl ?_
  refine st_istore hR dX11_without_3 (Nat.le_of_ble_eq_true rfl) [1, 2, 3, 4, 0] (lv' := [(0, .ref (q_m 0)), (1, .int l1), (2, .int l2), (3, .int 0), (4, .int 0)]) rfl (pc' := 5) rfl ?_
  refine st_iconst hR dX11_without_5 (v := 0) rfl (pc' := 6) rfl ?_
  refine st_istore hR dX11_without_6 (Nat.le_of_ble_eq_true rfl) [1, 2, 3, 4, 5, 0] (lv' := [(0, .ref (q_m 0)), (1, .int l1), (2, .int l2), (3, .int 0), (4, .int 0), (5, .int 0)]) rfl (pc' := 8) rfl ?_
  exact L8 FU _ _ _ _ _ hM
set_option maxHeartbeats 16000000 in
set_option maxRecDepth 100000 in
theorem k_X11_isFirm {l : Launch} {G : GG} {q_m : Nat → Nat} {m_thrown m_taped m_size m_at m_fault m_codes m_ofFeed m_teeth m_levels m_groupMany : Int32} {m_tape m_sort m_place m_rows m_op m_arg m_feedWords m_goWords m_facts m_pile m_best m_losses m_lossOf m_wasThere m_groupRow m_groupLoss m_isMarked : Nat → Int32} {m_value m_words m_names : Nat → Int64} {l1 : Int32} {o_r : Int32} (hM : f_X11_isFirm m_rows m_groupRow m_groupLoss l1 = some o_r) : MC l G yX11_isFirm cX11_isFirm 6 (some .boolean) (RM 2) [.ref (q_m 0), .int l1] [wX11 G q_m m_thrown m_tape m_taped m_size m_sort m_place m_value m_at m_fault m_words m_rows m_op m_arg m_codes m_names m_ofFeed m_teeth m_feedWords m_goWords m_facts m_pile m_levels m_best m_losses m_lossOf m_wasThere m_groupMany m_groupRow m_groupLoss m_isMarked] (some (.int o_r)) [wX11 G q_m m_thrown m_tape m_taped m_size m_sort m_place m_value m_at m_fault m_words m_rows m_op m_arg m_codes m_names m_ofFeed m_teeth m_feedWords m_goWords m_facts m_pile m_levels m_best m_losses m_lossOf m_wasThere m_groupMany m_groupRow m_groupLoss m_isMarked] := by
  refine MC.of pn_X11 (Nat.le_of_ble_eq_true rfl) (fun K hR hret => ?_)
  have hR : Rl l G RX11 cX11_isFirm 6 (RM 2) K := hR
  show K [wX11 G q_m m_thrown m_tape m_taped m_size m_sort m_place m_value m_at m_fault m_words m_rows m_op m_arg m_codes m_names m_ofFeed m_teeth m_feedWords m_goWords m_facts m_pile m_levels m_best m_losses m_lossOf m_wasThere m_groupMany m_groupRow m_groupLoss m_isMarked] [(0, .ref (q_m 0)), (1, .int l1)] 0 []
  have L2 : ∀ (n2 : Nat) (l1 : Int32) (l2 : Int32), f_X11_isFirm_L2  m_rows m_groupRow m_groupLoss n2 l1 l2 = some o_r → K [wX11 G q_m m_thrown m_tape m_taped m_size m_sort m_place m_value m_at m_fault m_words m_rows m_op m_arg m_codes m_names m_ofFeed m_teeth m_feedWords m_goWords m_facts m_pile m_levels m_best m_losses m_lossOf m_wasThere m_groupMany m_groupRow m_groupLoss m_isMarked] [(0, .ref (q_m 0)), (1, .int l1), (2, .int l2)] 2 [] := by
    intro n2
    induction n2 with
    | zero => intro l1 l2 hM; exact no_some hM
    | succ n2 ih2 =>
      have L25 : ∀ (n25 : Nat) (l1 : Int32) (l2 : Int32) (l3 : Int32) (l4 : Int32) (l5 : Int32), f_X11_isFirm_L25  (f_X11_isFirm_L2  m_rows m_groupRow m_groupLoss n2) m_rows m_groupRow m_groupLoss n25 l1 l2 l3 l4 l5 = some o_r → K [wX11 G q_m m_thrown m_tape m_taped m_size m_sort m_place m_value m_at m_fault m_words m_rows m_op m_arg m_codes m_names m_ofFeed m_teeth m_feedWords m_goWords m_facts m_pile m_levels m_best m_losses m_lossOf m_wasThere m_groupMany m_groupRow m_groupLoss m_isMarked] [(0, .ref (q_m 0)), (1, .int l1), (2, .int l2), (3, .int l3), (4, .int l4), (5, .int l5)] 25 [] := by
        intro n25
        induction n25 with
        | zero => intro l1 l2 l3 l4 l5 hM; exact no_some hM
        | succ n25 ih25 =>
          have J78 : ∀ (l1 : Int32) (l2 : Int32) (l3 : Int32) (l5 : Int32) (s0 : Int32), f_X11_isFirm_B78  (f_X11_isFirm_L2  m_rows m_groupRow m_groupLoss n2) (f_X11_isFirm_L25  (f_X11_isFirm_L2  m_rows m_groupRow m_groupLoss n2) m_rows m_groupRow m_groupLoss n25) m_rows m_groupRow m_groupLoss l1 l2 l3 l5 s0 = some o_r → K [wX11 G q_m m_thrown m_tape m_taped m_size m_sort m_place m_value m_at m_fault m_words m_rows m_op m_arg m_codes m_names m_ofFeed m_teeth m_feedWords m_goWords m_facts m_pile m_levels m_best m_losses m_lossOf m_wasThere m_groupMany m_groupRow m_groupLoss m_isMarked] [(0, .ref (q_m 0)), (1, .int l1), (2, .int l2), (3, .int l3), (5, .int l5)] 78 [.int s0] := by
            intro l1 l2 l3 l5 s0 hM
            refine st_istore hR dX11_isFirm_78 (Nat.le_of_ble_eq_true rfl) [1, 2, 3, 4, 0, 5] (lv' := [(0, .ref (q_m 0)), (1, .int l1), (2, .int l2), (3, .int l3), (4, .int s0), (5, .int l5)]) rfl (pc' := 80) rfl ?_
            obtain ⟨l5_1, e_⟩ : ∃ y : Int32, y = l5 + 1 := ⟨_, rfl⟩
            refine st_iinc hR dX11_isFirm_80 (Nat.le_of_ble_eq_true rfl) 5 [1, 2, 3, 4, 5, 0] (v := l5_1) rfl (by rw [e_]; rfl) (lv' := [(0, .ref (q_m 0)), (1, .int l1), (2, .int l2), (3, .int l3), (4, .int s0), (5, .int l5_1)]) rfl (pc' := 83) rfl ?_
            have hM := lt_e e_ hM
            refine st_goto hR dX11_isFirm_83 (tgt := 25) (by decide) ?_
            exact ih25 _ _ _ _ _ hM
          have J77 : ∀ (l1 : Int32) (l2 : Int32) (l3 : Int32) (l5 : Int32), f_X11_isFirm_B77  (f_X11_isFirm_L2  m_rows m_groupRow m_groupLoss n2) (f_X11_isFirm_L25  (f_X11_isFirm_L2  m_rows m_groupRow m_groupLoss n2) m_rows m_groupRow m_groupLoss n25) m_rows m_groupRow m_groupLoss l1 l2 l3 l5 = some o_r → K [wX11 G q_m m_thrown m_tape m_taped m_size m_sort m_place m_value m_at m_fault m_words m_rows m_op m_arg m_codes m_names m_ofFeed m_teeth m_feedWords m_goWords m_facts m_pile m_levels m_best m_losses m_lossOf m_wasThere m_groupMany m_groupRow m_groupLoss m_isMarked] [(0, .ref (q_m 0)), (1, .int l1), (2, .int l2), (3, .int l3), (5, .int l5)] 77 [] := by
            intro l1 l2 l3 l5 hM
            refine st_iconst hR dX11_isFirm_77 (v := 0) rfl (pc' := 78) rfl ?_
            exact J78 _ _ _ _ _ hM
          have J73 : ∀ (l1 : Int32) (l2 : Int32) (l3 : Int32) (l5 : Int32), f_X11_isFirm_B73  (f_X11_isFirm_L2  m_rows m_groupRow m_groupLoss n2) (f_X11_isFirm_L25  (f_X11_isFirm_L2  m_rows m_groupRow m_groupLoss n2) m_rows m_groupRow m_groupLoss n25) m_rows m_groupRow m_groupLoss l1 l2 l3 l5 = some o_r → K [wX11 G q_m m_thrown m_tape m_taped m_size m_sort m_place m_value m_at m_fault m_words m_rows m_op m_arg m_codes m_names m_ofFeed m_teeth m_feedWords m_goWords m_facts m_pile m_levels m_best m_losses m_lossOf m_wasThere m_groupMany m_groupRow m_groupLoss m_isMarked] [(0, .ref (q_m 0)), (1, .int l1), (2, .int l2), (3, .int l3), (5, .int l5)] 73 [] := by
            intro l1 l2 l3 l5 hM
            refine st_iconst hR dX11_isFirm_73 (v := 1) rfl (pc' := 74) rfl ?_
            refine st_goto hR dX11_isFirm_74 (tgt := 78) (by decide) ?_
            exact J78 _ _ _ _ _ hM
          intro l1 l2 l3 l4 l5 hM
          have hM : f_X11_isFirm_L25b  (f_X11_isFirm_L2  m_rows m_groupRow m_groupLoss n2) (f_X11_isFirm_L25  (f_X11_isFirm_L2  m_rows m_groupRow m_groupLoss n2) m_rows m_groupRow m_groupLoss n25) m_rows m_groupRow m_groupLoss l1 l2 l3 l4 l5 = some o_r := hM
          refine st_iload hR dX11_isFirm_25 5 rfl (pc' := 27) rfl ?_
          refine st_aload_n hR dX11_isFirm_27 0 rfl rfl (pc' := 28) rfl ?_
          obtain ⟨r_1, hc_, hM⟩ := bd_e hM
          refine st_callV hR (k_X11_farms hc_) cf_X11_248 (rm_le (Nat.le_of_ble_eq_true rfl) (Nat.le_of_ble_eq_true rfl)) [0] rfl rfl rfl 0 0 10 30 rfl rfl rfl rfl (rest := [.int l5]) rfl (Nat.le_of_ble_eq_true rfl) dX11_isFirm_28 (pc' := 31) rfl (Wn := [wX11 G q_m m_thrown m_tape m_taped m_size m_sort m_place m_value m_at m_fault m_words m_rows m_op m_arg m_codes m_names m_ofFeed m_teeth m_feedWords m_goWords m_facts m_pile m_levels m_best m_losses m_lossOf m_wasThere m_groupMany m_groupRow m_groupLoss m_isMarked]) rfl ?_
          refine st_icmp_ge hR dX11_isFirm_31 (tgt := 86) (by decide) (pc' := 34) rfl (fun c_ => ?_) (fun c_ => ?_)
          · have hM := it_t c_ hM
            refine st_iload hR dX11_isFirm_86 4 rfl (pc' := 88) rfl ?_
            refine st_if_eq hR dX11_isFirm_88 (tgt := 93) (by decide) (pc' := 91) rfl (fun c_ => ?_) (fun c_ => ?_)
            · have hM := it_t c_ hM
              obtain ⟨l2_1, e_⟩ : ∃ y : Int32, y = l2 + 1 := ⟨_, rfl⟩
              refine st_iinc hR dX11_isFirm_93 (Nat.le_of_ble_eq_true rfl) 2 [1, 2, 0, 3, 4, 5] (v := l2_1) rfl (by rw [e_]; rfl) (lv' := [(0, .ref (q_m 0)), (1, .int l1), (2, .int l2_1), (3, .int l3), (4, .int l4), (5, .int l5)]) rfl (pc' := 96) rfl ?_
              have hM := lt_e e_ hM
              refine st_goto hR dX11_isFirm_96 (tgt := 2) (by decide) ?_
              exact st_lv hR [0, 1, 2] rfl (ih2 _ _ hM)
            · have hM := it_f c_ hM
              refine st_iconst hR dX11_isFirm_91 (v := 0) rfl (pc' := 92) rfl ?_
              cases hM
              exact hret _ _ dX11_isFirm_92 (ro_z (Or.inl rfl))
          · have hM := it_f c_ hM
            refine st_iload hR dX11_isFirm_34 4 rfl (pc' := 36) rfl ?_
            refine st_if_eq hR dX11_isFirm_36 (tgt := 77) (by decide) (pc' := 39) rfl (fun c_ => ?_) (fun c_ => ?_)
            · have hM := it_t c_ hM
              exact st_lv hR [0, 1, 2, 3, 5] rfl (J77 _ _ _ _ hM)
            · have hM := it_f c_ hM
              refine st_iload_n hR dX11_isFirm_39 2 rfl rfl (pc' := 40) rfl ?_
              refine st_iload hR dX11_isFirm_40 5 rfl (pc' := 42) rfl ?_
              refine st_ishr hR dX11_isFirm_42 (pc' := 43) rfl ?_
              refine st_iconst hR dX11_isFirm_43 (v := 1) rfl (pc' := 44) rfl ?_
              refine st_iand hR dX11_isFirm_44 (pc' := 45) rfl ?_
              refine st_if_eq hR dX11_isFirm_45 (tgt := 73) (by decide) (pc' := 48) rfl (fun c_ => ?_) (fun c_ => ?_)
              · have hM := it_t c_ hM
                exact st_lv hR [0, 1, 2, 3, 5] rfl (J73 _ _ _ _ hM)
              · have hM := it_f c_ hM
                refine st_aload_n hR dX11_isFirm_48 0 rfl rfl (pc' := 49) rfl ?_
                refine st_get hR dX11_isFirm_49 fg_X11_112_10_28 0 0 rfl rfl rfl (pc' := 52) rfl ?_
                refine st_iconst hR dX11_isFirm_52 (v := 5) rfl (pc' := 53) rfl ?_
                refine st_iload_n hR dX11_isFirm_53 3 rfl rfl (pc' := 54) rfl ?_
                refine st_imul hR dX11_isFirm_54 (pc' := 55) rfl ?_
                refine st_iload hR dX11_isFirm_55 5 rfl (pc' := 57) rfl ?_
                refine st_iadd hR dX11_isFirm_57 (pc' := 58) rfl ?_
                obtain ⟨hin_, hM⟩ := g_in_e hM
                refine st_iald hR dX11_isFirm_58 0 19 rfl rfl hin_ (v := m_groupLoss (ix ((5 * l3) + l5))) rfl (pc' := 59) rfl ?_
                refine st_aload_n hR dX11_isFirm_59 0 rfl rfl (pc' := 60) rfl ?_
                refine st_get hR dX11_isFirm_60 fg_X11_112_10_28 0 0 rfl rfl rfl (pc' := 63) rfl ?_
                refine st_iconst hR dX11_isFirm_63 (v := 5) rfl (pc' := 64) rfl ?_
                refine st_iload_n hR dX11_isFirm_64 1 rfl rfl (pc' := 65) rfl ?_
                refine st_imul hR dX11_isFirm_65 (pc' := 66) rfl ?_
                refine st_iload hR dX11_isFirm_66 5 rfl (pc' := 68) rfl ?_
                refine st_iadd hR dX11_isFirm_68 (pc' := 69) rfl ?_
                obtain ⟨hin_, hM⟩ := g_in_e hM
                refine st_iald hR dX11_isFirm_69 0 19 rfl rfl hin_ (v := m_groupLoss (ix ((5 * l1) + l5))) rfl (pc' := 70) rfl ?_
                refine st_icmp_ge hR dX11_isFirm_70 (tgt := 77) (by decide) (pc' := 73) rfl (fun c_ => ?_) (fun c_ => ?_)
                · have hM := it_t c_ hM
                  exact st_lv hR [0, 1, 2, 3, 5] rfl (J77 _ _ _ _ hM)
                · have hM := it_f c_ hM
                  exact st_lv hR [0, 1, 2, 3, 5] rfl (J73 _ _ _ _ hM)
      intro l1 l2 hM
      have hM : f_X11_isFirm_L2b  (f_X11_isFirm_L2  m_rows m_groupRow m_groupLoss n2) m_rows m_groupRow m_groupLoss l1 l2 = some o_r := hM
      refine st_iload_n hR dX11_isFirm_2 2 rfl rfl (pc' := 3) rfl ?_
      refine st_iconst hR dX11_isFirm_3 (v := 1) rfl (pc' := 4) rfl ?_
      refine st_aload_n hR dX11_isFirm_4 0 rfl rfl (pc' := 5) rfl ?_
      obtain ⟨r_1, hc_, hM⟩ := bd_e hM
      refine st_callV hR (k_X11_farms hc_) cf_X11_248 (rm_le (Nat.le_of_ble_eq_true rfl) (Nat.le_of_ble_eq_true rfl)) [0] rfl rfl rfl 0 0 10 30 rfl rfl rfl rfl (rest := [.int 1, .int l2]) rfl (Nat.le_of_ble_eq_true rfl) dX11_isFirm_5 (pc' := 8) rfl (Wn := [wX11 G q_m m_thrown m_tape m_taped m_size m_sort m_place m_value m_at m_fault m_words m_rows m_op m_arg m_codes m_names m_ofFeed m_teeth m_feedWords m_goWords m_facts m_pile m_levels m_best m_losses m_lossOf m_wasThere m_groupMany m_groupRow m_groupLoss m_isMarked]) rfl ?_
      refine st_ishl hR dX11_isFirm_8 (pc' := 9) rfl ?_
      refine st_icmp_ge hR dX11_isFirm_9 (tgt := 99) (by decide) (pc' := 12) rfl (fun c_ => ?_) (fun c_ => ?_)
      · have hM := it_t c_ hM
        refine st_iconst hR dX11_isFirm_99 (v := 1) rfl (pc' := 100) rfl ?_
        cases hM
        exact hret _ _ dX11_isFirm_100 (ro_z (Or.inr rfl))
      · have hM := it_f c_ hM
        refine st_aload_n hR dX11_isFirm_12 0 rfl rfl (pc' := 13) rfl ?_
        refine st_iload_n hR dX11_isFirm_13 1 rfl rfl (pc' := 14) rfl ?_
        refine st_iload_n hR dX11_isFirm_14 2 rfl rfl (pc' := 15) rfl ?_
        obtain ⟨r_2, hc_, hM⟩ := bd_e hM
        refine st_callV hR (k_X11_without hc_) cf_X11_344 (rm_le (Nat.le_of_ble_eq_true rfl) (Nat.le_of_ble_eq_true rfl)) [0] rfl rfl rfl 0 0 10 30 rfl rfl rfl rfl (rest := []) rfl (Nat.le_of_ble_eq_true rfl) dX11_isFirm_15 (pc' := 18) rfl (Wn := [wX11 G q_m m_thrown m_tape m_taped m_size m_sort m_place m_value m_at m_fault m_words m_rows m_op m_arg m_codes m_names m_ofFeed m_teeth m_feedWords m_goWords m_facts m_pile m_levels m_best m_losses m_lossOf m_wasThere m_groupMany m_groupRow m_groupLoss m_isMarked]) rfl ?_
        refine st_istore_n hR dX11_isFirm_18 rfl (Nat.le_of_ble_eq_true rfl) [1, 2, 3, 0] (lv' := [(0, .ref (q_m 0)), (1, .int l1), (2, .int l2), (3, .int r_2)]) rfl (pc' := 19) rfl ?_
        refine st_iconst hR dX11_isFirm_19 (v := 1) rfl (pc' := 20) rfl ?_
        refine st_istore hR dX11_isFirm_20 (Nat.le_of_ble_eq_true rfl) [1, 2, 3, 4, 0] (lv' := [(0, .ref (q_m 0)), (1, .int l1), (2, .int l2), (3, .int r_2), (4, .int 1)]) rfl (pc' := 22) rfl ?_
        refine st_iconst hR dX11_isFirm_22 (v := 0) rfl (pc' := 23) rfl ?_
        refine st_istore hR dX11_isFirm_23 (Nat.le_of_ble_eq_true rfl) [1, 2, 3, 4, 5, 0] (lv' := [(0, .ref (q_m 0)), (1, .int l1), (2, .int l2), (3, .int r_2), (4, .int 1), (5, .int 0)]) rfl (pc' := 25) rfl ?_
        exact L25 FU _ _ _ _ _ hM
  refine st_iconst hR dX11_isFirm_0 (v := 1) rfl (pc' := 1) rfl ?_
  refine st_istore_n hR dX11_isFirm_1 rfl (Nat.le_of_ble_eq_true rfl) [1, 2, 0] (lv' := [(0, .ref (q_m 0)), (1, .int l1), (2, .int 1)]) rfl (pc' := 2) rfl ?_
  exact L2 FU _ _ hM
set_option maxHeartbeats 16000000 in
set_option maxRecDepth 100000 in
theorem k_X11_canJoin {l : Launch} {G : GG} {q_m : Nat → Nat} {m_thrown m_taped m_size m_at m_fault m_codes m_ofFeed m_teeth m_levels m_groupMany : Int32} {m_tape m_sort m_place m_rows m_op m_arg m_feedWords m_goWords m_facts m_pile m_best m_losses m_lossOf m_wasThere m_groupRow m_groupLoss m_isMarked : Nat → Int32} {m_value m_words m_names : Nat → Int64} {l1 : Int32} {o_r : Int32} (hM : f_X11_canJoin m_rows l1 = some o_r) : MC l G yX11_canJoin cX11_canJoin 2 (some .boolean) (RM 2) [.ref (q_m 0), .int l1] [wX11 G q_m m_thrown m_tape m_taped m_size m_sort m_place m_value m_at m_fault m_words m_rows m_op m_arg m_codes m_names m_ofFeed m_teeth m_feedWords m_goWords m_facts m_pile m_levels m_best m_losses m_lossOf m_wasThere m_groupMany m_groupRow m_groupLoss m_isMarked] (some (.int o_r)) [wX11 G q_m m_thrown m_tape m_taped m_size m_sort m_place m_value m_at m_fault m_words m_rows m_op m_arg m_codes m_names m_ofFeed m_teeth m_feedWords m_goWords m_facts m_pile m_levels m_best m_losses m_lossOf m_wasThere m_groupMany m_groupRow m_groupLoss m_isMarked] := by
  refine MC.of pn_X11 (Nat.le_of_ble_eq_true rfl) (fun K hR hret => ?_)
  have hR : Rl l G RX11 cX11_canJoin 2 (RM 2) K := hR
  show K [wX11 G q_m m_thrown m_tape m_taped m_size m_sort m_place m_value m_at m_fault m_words m_rows m_op m_arg m_codes m_names m_ofFeed m_teeth m_feedWords m_goWords m_facts m_pile m_levels m_best m_losses m_lossOf m_wasThere m_groupMany m_groupRow m_groupLoss m_isMarked] [(0, .ref (q_m 0)), (1, .int l1)] 0 []
  refine st_iload_n hR dX11_canJoin_0 1 rfl rfl (pc' := 1) rfl ?_
  obtain ⟨r_1, hc_, hM⟩ := bd_e hM
  refine st_callS hR (k_X11_areNights hc_) cf_X11_311 (rm_le (Nat.le_of_ble_eq_true rfl) (Nat.le_of_ble_eq_true rfl)) [] rfl rfl rfl rfl (rest := []) rfl (Nat.le_of_ble_eq_true rfl) dX11_canJoin_1 (pc' := 4) rfl (Wn := [wX11 G q_m m_thrown m_tape m_taped m_size m_sort m_place m_value m_at m_fault m_words m_rows m_op m_arg m_codes m_names m_ofFeed m_teeth m_feedWords m_goWords m_facts m_pile m_levels m_best m_losses m_lossOf m_wasThere m_groupMany m_groupRow m_groupLoss m_isMarked]) rfl ?_
  refine st_if_eq hR dX11_canJoin_4 (tgt := 19) (by decide) (pc' := 7) rfl (fun c_ => ?_) (fun c_ => ?_)
  · have hM := it_t c_ hM
    refine st_iconst hR dX11_canJoin_19 (v := 0) rfl (pc' := 20) rfl ?_
    cases hM
    exact hret _ _ dX11_canJoin_20 (ro_z (Or.inl rfl))
  · have hM := it_f c_ hM
    refine st_aload_n hR dX11_canJoin_7 0 rfl rfl (pc' := 8) rfl ?_
    obtain ⟨r_2, hc_, hM⟩ := bd_e hM
    refine st_callV hR (k_X11_farms hc_) cf_X11_248 (rm_le (Nat.le_of_ble_eq_true rfl) (Nat.le_of_ble_eq_true rfl)) [0] rfl rfl rfl 0 0 10 30 rfl rfl rfl rfl (rest := []) rfl (Nat.le_of_ble_eq_true rfl) dX11_canJoin_8 (pc' := 11) rfl (Wn := [wX11 G q_m m_thrown m_tape m_taped m_size m_sort m_place m_value m_at m_fault m_words m_rows m_op m_arg m_codes m_names m_ofFeed m_teeth m_feedWords m_goWords m_facts m_pile m_levels m_best m_losses m_lossOf m_wasThere m_groupMany m_groupRow m_groupLoss m_isMarked]) rfl ?_
    refine st_iconst hR dX11_canJoin_11 (v := 5) rfl (pc' := 12) rfl ?_
    refine st_icmp_gt hR dX11_canJoin_12 (tgt := 19) (by decide) (pc' := 15) rfl (fun c_ => ?_) (fun c_ => ?_)
    · have hM := it_t c_ hM
      refine st_iconst hR dX11_canJoin_19 (v := 0) rfl (pc' := 20) rfl ?_
      cases hM
      exact hret _ _ dX11_canJoin_20 (ro_z (Or.inl rfl))
    · have hM := it_f c_ hM
      refine st_iconst hR dX11_canJoin_15 (v := 1) rfl (pc' := 16) rfl ?_
      refine st_goto hR dX11_canJoin_16 (tgt := 20) (by decide) ?_
      cases hM
      exact hret _ _ dX11_canJoin_20 (ro_z (Or.inr rfl))
set_option maxHeartbeats 16000000 in
set_option maxRecDepth 100000 in
theorem k_X11_firm {l : Launch} {G : GG} {q_m : Nat → Nat} {m_thrown m_taped m_size m_at m_fault m_codes m_ofFeed m_teeth m_levels m_groupMany : Int32} {m_tape m_sort m_place m_rows m_op m_arg m_feedWords m_goWords m_facts m_pile m_best m_losses m_lossOf m_wasThere m_groupRow m_groupLoss m_isMarked : Nat → Int32} {m_value m_words m_names : Nat → Int64} {l1 : Int32} {o_r : Int32} {o_m_thrown : Int32} {o_m_rows : Nat → Int32} {o_m_facts : Nat → Int32} {o_m_pile : Nat → Int32} {o_m_best : Nat → Int32} {o_m_losses : Nat → Int32} {o_m_groupMany : Int32} {o_m_groupRow : Nat → Int32} {o_m_groupLoss : Nat → Int32} (hM : f_X11_firm m_op m_arg m_levels m_thrown m_rows m_facts m_pile m_best m_losses m_groupMany m_groupRow m_groupLoss l1 = some (o_r, o_m_thrown, o_m_rows, o_m_facts, o_m_pile, o_m_best, o_m_losses, o_m_groupMany, o_m_groupRow, o_m_groupLoss)) : MC l G yX11_firm cX11_firm 4 (some .int) (RM 72) [.ref (q_m 0), .int l1] [wX11 G q_m m_thrown m_tape m_taped m_size m_sort m_place m_value m_at m_fault m_words m_rows m_op m_arg m_codes m_names m_ofFeed m_teeth m_feedWords m_goWords m_facts m_pile m_levels m_best m_losses m_lossOf m_wasThere m_groupMany m_groupRow m_groupLoss m_isMarked] (some (.int o_r)) [wX11 G q_m o_m_thrown m_tape m_taped m_size m_sort m_place m_value m_at m_fault m_words o_m_rows m_op m_arg m_codes m_names m_ofFeed m_teeth m_feedWords m_goWords o_m_facts o_m_pile m_levels o_m_best o_m_losses m_lossOf m_wasThere o_m_groupMany o_m_groupRow o_m_groupLoss m_isMarked] := by
  refine MC.of pn_X11 (Nat.le_of_ble_eq_true rfl) (fun K hR hret => ?_)
  have hR : Rl l G RX11 cX11_firm 4 (RM 72) K := hR
  show K [wX11 G q_m m_thrown m_tape m_taped m_size m_sort m_place m_value m_at m_fault m_words m_rows m_op m_arg m_codes m_names m_ofFeed m_teeth m_feedWords m_goWords m_facts m_pile m_levels m_best m_losses m_lossOf m_wasThere m_groupMany m_groupRow m_groupLoss m_isMarked] [(0, .ref (q_m 0)), (1, .int l1)] 0 []
  have L24 : ∀ (n24 : Nat) (m_thrown : Int32) (m_rows : Nat → Int32) (m_facts : Nat → Int32) (m_pile : Nat → Int32) (m_best : Nat → Int32) (m_losses : Nat → Int32) (m_groupMany : Int32) (m_groupRow : Nat → Int32) (m_groupLoss : Nat → Int32) (l2 : Int32) (l3 : Int32), f_X11_firm_L24  m_op m_arg m_levels n24 m_thrown m_rows m_facts m_pile m_best m_losses m_groupMany m_groupRow m_groupLoss l2 l3 = some (o_r, o_m_thrown, o_m_rows, o_m_facts, o_m_pile, o_m_best, o_m_losses, o_m_groupMany, o_m_groupRow, o_m_groupLoss) → K [wX11 G q_m m_thrown m_tape m_taped m_size m_sort m_place m_value m_at m_fault m_words m_rows m_op m_arg m_codes m_names m_ofFeed m_teeth m_feedWords m_goWords m_facts m_pile m_levels m_best m_losses m_lossOf m_wasThere m_groupMany m_groupRow m_groupLoss m_isMarked] [(0, .ref (q_m 0)), (2, .int l2), (3, .int l3)] 24 [] := by
    intro n24
    induction n24 with
    | zero => intro m_thrown m_rows m_facts m_pile m_best m_losses m_groupMany m_groupRow m_groupLoss l2 l3 hM; exact no_some hM
    | succ n24 ih24 =>
      have J46 : ∀ (m_thrown : Int32) (m_rows : Nat → Int32) (m_facts : Nat → Int32) (m_pile : Nat → Int32) (m_best : Nat → Int32) (m_losses : Nat → Int32) (m_groupMany : Int32) (m_groupRow : Nat → Int32) (m_groupLoss : Nat → Int32) (l3 : Int32) (s0 : Int32) (s1 : Int32), f_X11_firm_B46  (f_X11_firm_L24  m_op m_arg m_levels n24) m_op m_arg m_levels m_thrown m_rows m_facts m_pile m_best m_losses m_groupMany m_groupRow m_groupLoss l3 s0 s1 = some (o_r, o_m_thrown, o_m_rows, o_m_facts, o_m_pile, o_m_best, o_m_losses, o_m_groupMany, o_m_groupRow, o_m_groupLoss) → K [wX11 G q_m m_thrown m_tape m_taped m_size m_sort m_place m_value m_at m_fault m_words m_rows m_op m_arg m_codes m_names m_ofFeed m_teeth m_feedWords m_goWords m_facts m_pile m_levels m_best m_losses m_lossOf m_wasThere m_groupMany m_groupRow m_groupLoss m_isMarked] [(0, .ref (q_m 0)), (3, .int l3)] 46 [.int s0, .int s1] := by
        intro m_thrown m_rows m_facts m_pile m_best m_losses m_groupMany m_groupRow m_groupLoss l3 s0 s1 hM
        refine st_iadd hR dX11_firm_46 (pc' := 47) rfl ?_
        refine st_topi (fun l2_1 e_ => ?_)
        have hM := lt_e e_ hM
        refine st_istore_n hR dX11_firm_47 rfl (Nat.le_of_ble_eq_true rfl) [1, 0, 2] (lv' := [(0, .ref (q_m 0)), (2, .int l2_1), (3, .int l3)]) rfl (pc' := 48) rfl ?_
        obtain ⟨l3_1, e_⟩ : ∃ y : Int32, y = l3 + 1 := ⟨_, rfl⟩
        refine st_iinc hR dX11_firm_48 (Nat.le_of_ble_eq_true rfl) 2 [1, 2, 0] (v := l3_1) rfl (by rw [e_]; rfl) (lv' := [(0, .ref (q_m 0)), (2, .int l2_1), (3, .int l3_1)]) rfl (pc' := 51) rfl ?_
        have hM := lt_e e_ hM
        refine st_goto hR dX11_firm_51 (tgt := 24) (by decide) ?_
        exact ih24 _ _ _ _ _ _ _ _ _ _ _ hM
      intro m_thrown m_rows m_facts m_pile m_best m_losses m_groupMany m_groupRow m_groupLoss l2 l3 hM
      have hM : f_X11_firm_L24b  (f_X11_firm_L24  m_op m_arg m_levels n24) m_op m_arg m_levels m_thrown m_rows m_facts m_pile m_best m_losses m_groupMany m_groupRow m_groupLoss l2 l3 = some (o_r, o_m_thrown, o_m_rows, o_m_facts, o_m_pile, o_m_best, o_m_losses, o_m_groupMany, o_m_groupRow, o_m_groupLoss) := hM
      refine st_iload_n hR dX11_firm_24 2 rfl rfl (pc' := 25) rfl ?_
      refine st_aload_n hR dX11_firm_25 0 rfl rfl (pc' := 26) rfl ?_
      refine st_get hR dX11_firm_26 fg_X11_335_10_26 0 0 rfl rfl rfl (pc' := 29) rfl ?_
      refine st_icmp_ge hR dX11_firm_29 (tgt := 54) (by decide) (pc' := 32) rfl (fun c_ => ?_) (fun c_ => ?_)
      · have hM := it_t c_ hM
        refine st_iload_n hR dX11_firm_54 1 rfl rfl (pc' := 55) rfl ?_
        cases hM
        exact hret _ _ dX11_firm_55 (ro_i _)
      · have hM := it_f c_ hM
        refine st_iload_n hR dX11_firm_32 1 rfl rfl (pc' := 33) rfl ?_
        refine st_aload_n hR dX11_firm_33 0 rfl rfl (pc' := 34) rfl ?_
        refine st_iload_n hR dX11_firm_34 2 rfl rfl (pc' := 35) rfl ?_
        obtain ⟨r_1, hc_, hM⟩ := bd_e hM
        refine st_callV hR (k_X11_isFirm hc_) cf_X11_353 (rm_le (Nat.le_of_ble_eq_true rfl) (Nat.le_of_ble_eq_true rfl)) [0] rfl rfl rfl 0 0 10 30 rfl rfl rfl rfl (rest := [.int l2]) rfl (Nat.le_of_ble_eq_true rfl) dX11_firm_35 (pc' := 38) rfl (Wn := [wX11 G q_m m_thrown m_tape m_taped m_size m_sort m_place m_value m_at m_fault m_words m_rows m_op m_arg m_codes m_names m_ofFeed m_teeth m_feedWords m_goWords m_facts m_pile m_levels m_best m_losses m_lossOf m_wasThere m_groupMany m_groupRow m_groupLoss m_isMarked]) rfl ?_
        refine st_if_eq hR dX11_firm_38 (tgt := 45) (by decide) (pc' := 41) rfl (fun c_ => ?_) (fun c_ => ?_)
        · have hM := it_t c_ hM
          refine st_iconst hR dX11_firm_45 (v := 0) rfl (pc' := 46) rfl ?_
          exact st_lv hR [0, 2] rfl (J46 _ _ _ _ _ _ _ _ _ _ _ _ hM)
        · have hM := it_f c_ hM
          refine st_iconst hR dX11_firm_41 (v := 1) rfl (pc' := 42) rfl ?_
          refine st_goto hR dX11_firm_42 (tgt := 46) (by decide) ?_
          exact st_lv hR [0, 2] rfl (J46 _ _ _ _ _ _ _ _ _ _ _ _ hM)
  refine st_aload_n hR dX11_firm_0 0 rfl rfl (pc' := 1) rfl ?_
  refine st_iconst hR dX11_firm_1 (v := 0) rfl (pc' := 2) rfl ?_
  refine st_put hR dX11_firm_2 fp_X11_1_10_0 0 0 rfl rfl (Nat.le_of_ble_eq_true rfl) rfl rfl (pc' := 5) rfl (W' := [wX11 G q_m 0 m_tape m_taped m_size m_sort m_place m_value m_at m_fault m_words m_rows m_op m_arg m_codes m_names m_ofFeed m_teeth m_feedWords m_goWords m_facts m_pile m_levels m_best m_losses m_lossOf m_wasThere m_groupMany m_groupRow m_groupLoss m_isMarked]) rfl ?_
  refine st_aload_n hR dX11_firm_5 0 rfl rfl (pc' := 6) rfl ?_
  refine st_iload_n hR dX11_firm_6 1 rfl rfl (pc' := 7) rfl ?_
  obtain ⟨r_1, hc_, hM⟩ := bd_e hM
  refine st_callV hR (k_X11_canJoin hc_) cf_X11_347 (rm_le (Nat.le_of_ble_eq_true rfl) (Nat.le_of_ble_eq_true rfl)) [0] rfl rfl rfl 0 0 10 30 rfl rfl rfl rfl (rest := []) rfl (Nat.le_of_ble_eq_true rfl) dX11_firm_7 (pc' := 10) rfl (Wn := [wX11 G q_m 0 m_tape m_taped m_size m_sort m_place m_value m_at m_fault m_words m_rows m_op m_arg m_codes m_names m_ofFeed m_teeth m_feedWords m_goWords m_facts m_pile m_levels m_best m_losses m_lossOf m_wasThere m_groupMany m_groupRow m_groupLoss m_isMarked]) rfl ?_
  refine st_if_ne hR dX11_firm_10 (tgt := 15) (by decide) (pc' := 13) rfl (fun c_ => ?_) (fun c_ => ?_)
  · have hM := it_f c_ hM
    refine st_aload_n hR dX11_firm_15 0 rfl rfl (pc' := 16) rfl ?_
    refine st_iload_n hR dX11_firm_16 1 rfl rfl (pc' := 17) rfl ?_
    obtain ⟨⟨m_rows_1, m_facts_1, m_pile_1, m_best_1, m_losses_1, m_groupMany_1, m_groupRow_1, m_groupLoss_1⟩, hc_, hM⟩ := bd_e hM
    refine st_callV hR (k_X11_findJoined hc_) cf_X11_350 (rm_le (Nat.le_of_ble_eq_true rfl) (Nat.le_of_ble_eq_true rfl)) [0] rfl rfl rfl 0 0 10 30 rfl rfl rfl rfl (rest := []) rfl (Nat.le_of_ble_eq_true rfl) dX11_firm_17 (pc' := 20) rfl (Wn := [wX11 G q_m 0 m_tape m_taped m_size m_sort m_place m_value m_at m_fault m_words m_rows_1 m_op m_arg m_codes m_names m_ofFeed m_teeth m_feedWords m_goWords m_facts_1 m_pile_1 m_levels m_best_1 m_losses_1 m_lossOf m_wasThere m_groupMany_1 m_groupRow_1 m_groupLoss_1 m_isMarked]) rfl ?_
    refine st_iconst hR dX11_firm_20 (v := 0) rfl (pc' := 21) rfl ?_
    refine st_istore_n hR dX11_firm_21 rfl (Nat.le_of_ble_eq_true rfl) [1, 2, 0] (lv' := [(0, .ref (q_m 0)), (1, .int l1), (2, .int 0)]) rfl (pc' := 22) rfl ?_
    refine st_iconst hR dX11_firm_22 (v := 0) rfl (pc' := 23) rfl ?_
    refine st_istore_n hR dX11_firm_23 rfl (Nat.le_of_ble_eq_true rfl) [1, 2, 3, 0] (lv' := [(0, .ref (q_m 0)), (1, .int l1), (2, .int 0), (3, .int 0)]) rfl (pc' := 24) rfl ?_
    exact st_lv hR [0, 2, 3] rfl (L24 FU _ _ _ _ _ _ _ _ _ _ _ hM)
  · have hM := it_t c_ hM
    refine st_iconst hR dX11_firm_13 (v := (-1)) (by decide) (pc' := 14) rfl ?_
    cases hM
    exact hret _ _ dX11_firm_14 (ro_i _)
set_option maxHeartbeats 16000000 in
set_option maxRecDepth 100000 in
theorem k_X11_group {l : Launch} {G : GG} {q_m : Nat → Nat} {m_thrown m_taped m_size m_at m_fault m_codes m_ofFeed m_teeth m_levels m_groupMany : Int32} {m_tape m_sort m_place m_rows m_op m_arg m_feedWords m_goWords m_facts m_pile m_best m_losses m_lossOf m_wasThere m_groupRow m_groupLoss m_isMarked : Nat → Int32} {m_value m_words m_names : Nat → Int64} {l1 l2 l3 : Int32} {o_r : Int32} {o_m_thrown : Int32} {o_m_rows : Nat → Int32} {o_m_facts : Nat → Int32} {o_m_pile : Nat → Int32} {o_m_best : Nat → Int32} {o_m_losses : Nat → Int32} {o_m_groupMany : Int32} {o_m_groupRow : Nat → Int32} {o_m_groupLoss : Nat → Int32} (hM : f_X11_group m_op m_arg m_levels m_thrown m_rows m_facts m_pile m_best m_losses m_groupMany m_groupRow m_groupLoss l1 l2 l3 = some (o_r, o_m_thrown, o_m_rows, o_m_facts, o_m_pile, o_m_best, o_m_losses, o_m_groupMany, o_m_groupRow, o_m_groupLoss)) : MC l G yX11_group cX11_group 6 (some .int) (RM 72) [.ref (q_m 0), .int l1, .int l2, .int l3] [wX11 G q_m m_thrown m_tape m_taped m_size m_sort m_place m_value m_at m_fault m_words m_rows m_op m_arg m_codes m_names m_ofFeed m_teeth m_feedWords m_goWords m_facts m_pile m_levels m_best m_losses m_lossOf m_wasThere m_groupMany m_groupRow m_groupLoss m_isMarked] (some (.int o_r)) [wX11 G q_m o_m_thrown m_tape m_taped m_size m_sort m_place m_value m_at m_fault m_words o_m_rows m_op m_arg m_codes m_names m_ofFeed m_teeth m_feedWords m_goWords o_m_facts o_m_pile m_levels o_m_best o_m_losses m_lossOf m_wasThere o_m_groupMany o_m_groupRow o_m_groupLoss m_isMarked] := by
  refine MC.of pn_X11 (Nat.le_of_ble_eq_true rfl) (fun K hR hret => ?_)
  have hR : Rl l G RX11 cX11_group 6 (RM 72) K := hR
  show K [wX11 G q_m m_thrown m_tape m_taped m_size m_sort m_place m_value m_at m_fault m_words m_rows m_op m_arg m_codes m_names m_ofFeed m_teeth m_feedWords m_goWords m_facts m_pile m_levels m_best m_losses m_lossOf m_wasThere m_groupMany m_groupRow m_groupLoss m_isMarked] [(0, .ref (q_m 0)), (1, .int l1), (2, .int l2), (3, .int l3)] 0 []
  have L38 : ∀ (n38 : Nat) (m_thrown : Int32) (m_rows : Nat → Int32) (m_facts : Nat → Int32) (m_pile : Nat → Int32) (m_best : Nat → Int32) (m_losses : Nat → Int32) (m_groupMany : Int32) (m_groupRow : Nat → Int32) (m_groupLoss : Nat → Int32) (l2 : Int32) (l3 : Int32) (l4 : Int32) (l5 : Int32), f_X11_group_L38  m_op m_arg m_levels n38 m_thrown m_rows m_facts m_pile m_best m_losses m_groupMany m_groupRow m_groupLoss l2 l3 l4 l5 = some (o_r, o_m_thrown, o_m_rows, o_m_facts, o_m_pile, o_m_best, o_m_losses, o_m_groupMany, o_m_groupRow, o_m_groupLoss) → K [wX11 G q_m m_thrown m_tape m_taped m_size m_sort m_place m_value m_at m_fault m_words m_rows m_op m_arg m_codes m_names m_ofFeed m_teeth m_feedWords m_goWords m_facts m_pile m_levels m_best m_losses m_lossOf m_wasThere m_groupMany m_groupRow m_groupLoss m_isMarked] [(0, .ref (q_m 0)), (2, .int l2), (3, .int l3), (4, .int l4), (5, .int l5)] 38 [] := by
    intro n38
    induction n38 with
    | zero => intro m_thrown m_rows m_facts m_pile m_best m_losses m_groupMany m_groupRow m_groupLoss l2 l3 l4 l5 hM; exact no_some hM
    | succ n38 ih38 =>
      have J77 : ∀ (m_thrown : Int32) (m_rows : Nat → Int32) (m_facts : Nat → Int32) (m_pile : Nat → Int32) (m_best : Nat → Int32) (m_losses : Nat → Int32) (m_groupMany : Int32) (m_groupRow : Nat → Int32) (m_groupLoss : Nat → Int32) (l2 : Int32) (l3 : Int32) (l4 : Int32) (l5 : Int32), f_X11_group_B77  (f_X11_group_L38  m_op m_arg m_levels n38) m_op m_arg m_levels m_thrown m_rows m_facts m_pile m_best m_losses m_groupMany m_groupRow m_groupLoss l2 l3 l4 l5 = some (o_r, o_m_thrown, o_m_rows, o_m_facts, o_m_pile, o_m_best, o_m_losses, o_m_groupMany, o_m_groupRow, o_m_groupLoss) → K [wX11 G q_m m_thrown m_tape m_taped m_size m_sort m_place m_value m_at m_fault m_words m_rows m_op m_arg m_codes m_names m_ofFeed m_teeth m_feedWords m_goWords m_facts m_pile m_levels m_best m_losses m_lossOf m_wasThere m_groupMany m_groupRow m_groupLoss m_isMarked] [(0, .ref (q_m 0)), (2, .int l2), (3, .int l3), (4, .int l4), (5, .int l5)] 77 [] := by
        intro m_thrown m_rows m_facts m_pile m_best m_losses m_groupMany m_groupRow m_groupLoss l2 l3 l4 l5 hM
        obtain ⟨l5_1, e_⟩ : ∃ y : Int32, y = l5 + 1 := ⟨_, rfl⟩
        refine st_iinc hR dX11_group_77 (Nat.le_of_ble_eq_true rfl) 4 [1, 2, 3, 4, 0] (v := l5_1) rfl (by rw [e_]; rfl) (lv' := [(0, .ref (q_m 0)), (2, .int l2), (3, .int l3), (4, .int l4), (5, .int l5_1)]) rfl (pc' := 80) rfl ?_
        have hM := lt_e e_ hM
        refine st_goto hR dX11_group_80 (tgt := 38) (by decide) ?_
        exact ih38 _ _ _ _ _ _ _ _ _ _ _ _ _ hM
      intro m_thrown m_rows m_facts m_pile m_best m_losses m_groupMany m_groupRow m_groupLoss l2 l3 l4 l5 hM
      have hM : f_X11_group_L38b  (f_X11_group_L38  m_op m_arg m_levels n38) m_op m_arg m_levels m_thrown m_rows m_facts m_pile m_best m_losses m_groupMany m_groupRow m_groupLoss l2 l3 l4 l5 = some (o_r, o_m_thrown, o_m_rows, o_m_facts, o_m_pile, o_m_best, o_m_losses, o_m_groupMany, o_m_groupRow, o_m_groupLoss) := hM
      refine st_iload hR dX11_group_38 4 rfl (pc' := 40) rfl ?_
      refine st_aload_n hR dX11_group_40 0 rfl rfl (pc' := 41) rfl ?_
      refine st_get hR dX11_group_41 fg_X11_335_10_26 0 0 rfl rfl rfl (pc' := 44) rfl ?_
      refine st_icmp_ge hR dX11_group_44 (tgt := 83) (by decide) (pc' := 47) rfl (fun c_ => ?_) (fun c_ => ?_)
      · have hM := it_t c_ hM
        refine st_iconst hR dX11_group_83 (v := (-1)) (by decide) (pc' := 84) rfl ?_
        cases hM
        exact hret _ _ dX11_group_84 (ro_i _)
      · have hM := it_f c_ hM
        refine st_aload_n hR dX11_group_47 0 rfl rfl (pc' := 48) rfl ?_
        refine st_iload hR dX11_group_48 4 rfl (pc' := 50) rfl ?_
        obtain ⟨r_1, hc_, hM⟩ := bd_e hM
        refine st_callV hR (k_X11_isFirm hc_) cf_X11_353 (rm_le (Nat.le_of_ble_eq_true rfl) (Nat.le_of_ble_eq_true rfl)) [0] rfl rfl rfl 0 0 10 30 rfl rfl rfl rfl (rest := []) rfl (Nat.le_of_ble_eq_true rfl) dX11_group_50 (pc' := 53) rfl (Wn := [wX11 G q_m m_thrown m_tape m_taped m_size m_sort m_place m_value m_at m_fault m_words m_rows m_op m_arg m_codes m_names m_ofFeed m_teeth m_feedWords m_goWords m_facts m_pile m_levels m_best m_losses m_lossOf m_wasThere m_groupMany m_groupRow m_groupLoss m_isMarked]) rfl ?_
        refine st_if_eq hR dX11_group_53 (tgt := 77) (by decide) (pc' := 56) rfl (fun c_ => ?_) (fun c_ => ?_)
        · have hM := it_t c_ hM
          exact J77 _ _ _ _ _ _ _ _ _ _ _ _ _ hM
        · have hM := it_f c_ hM
          refine st_iload hR dX11_group_56 3 rfl (pc' := 58) rfl ?_
          refine st_iload_n hR dX11_group_58 1 rfl rfl (pc' := 59) rfl ?_
          refine st_icmp_ne hR dX11_group_59 (tgt := 74) (by decide) (pc' := 62) rfl (fun c_ => ?_) (fun c_ => ?_)
          · have hM := it_f c_ hM
            obtain ⟨l4_1, e_⟩ : ∃ y : Int32, y = l4 + 1 := ⟨_, rfl⟩
            refine st_iinc hR dX11_group_74 (Nat.le_of_ble_eq_true rfl) 3 [1, 2, 3, 0, 4] (v := l4_1) rfl (by rw [e_]; rfl) (lv' := [(0, .ref (q_m 0)), (2, .int l2), (3, .int l3), (4, .int l4_1), (5, .int l5)]) rfl (pc' := 77) rfl ?_
            have hM := lt_e e_ hM
            exact J77 _ _ _ _ _ _ _ _ _ _ _ _ _ hM
          · have hM := it_t c_ hM
            refine st_aload_n hR dX11_group_62 0 rfl rfl (pc' := 63) rfl ?_
            refine st_get hR dX11_group_63 fg_X11_109_10_27 0 0 rfl rfl rfl (pc' := 66) rfl ?_
            refine st_iload hR dX11_group_66 4 rfl (pc' := 68) rfl ?_
            obtain ⟨hin_, hM⟩ := g_in_e hM
            refine st_iald hR dX11_group_68 0 18 rfl rfl hin_ (v := m_groupRow (ix l5)) rfl (pc' := 69) rfl ?_
            refine st_iload_n hR dX11_group_69 2 rfl rfl (pc' := 70) rfl ?_
            obtain ⟨r_2, hc_, hM⟩ := bd_e hM
            refine st_callS hR (k_X11_groupOf hc_) cf_X11_341 (rm_le (Nat.le_of_ble_eq_true rfl) (Nat.le_of_ble_eq_true rfl)) [] rfl rfl rfl rfl (rest := []) rfl (Nat.le_of_ble_eq_true rfl) dX11_group_70 (pc' := 73) rfl (Wn := [wX11 G q_m m_thrown m_tape m_taped m_size m_sort m_place m_value m_at m_fault m_words m_rows m_op m_arg m_codes m_names m_ofFeed m_teeth m_feedWords m_goWords m_facts m_pile m_levels m_best m_losses m_lossOf m_wasThere m_groupMany m_groupRow m_groupLoss m_isMarked]) rfl ?_
            cases hM
            exact hret _ _ dX11_group_73 (ro_i _)
  refine st_aload_n hR dX11_group_0 0 rfl rfl (pc' := 1) rfl ?_
  refine st_iconst hR dX11_group_1 (v := 0) rfl (pc' := 2) rfl ?_
  refine st_put hR dX11_group_2 fp_X11_1_10_0 0 0 rfl rfl (Nat.le_of_ble_eq_true rfl) rfl rfl (pc' := 5) rfl (W' := [wX11 G q_m 0 m_tape m_taped m_size m_sort m_place m_value m_at m_fault m_words m_rows m_op m_arg m_codes m_names m_ofFeed m_teeth m_feedWords m_goWords m_facts m_pile m_levels m_best m_losses m_lossOf m_wasThere m_groupMany m_groupRow m_groupLoss m_isMarked]) rfl ?_
  refine st_aload_n hR dX11_group_5 0 rfl rfl (pc' := 6) rfl ?_
  refine st_iload_n hR dX11_group_6 1 rfl rfl (pc' := 7) rfl ?_
  obtain ⟨r_1, hc_, hM⟩ := bd_e hM
  refine st_callV hR (k_X11_canJoin hc_) cf_X11_347 (rm_le (Nat.le_of_ble_eq_true rfl) (Nat.le_of_ble_eq_true rfl)) [0] rfl rfl rfl 0 0 10 30 rfl rfl rfl rfl (rest := []) rfl (Nat.le_of_ble_eq_true rfl) dX11_group_7 (pc' := 10) rfl (Wn := [wX11 G q_m 0 m_tape m_taped m_size m_sort m_place m_value m_at m_fault m_words m_rows m_op m_arg m_codes m_names m_ofFeed m_teeth m_feedWords m_goWords m_facts m_pile m_levels m_best m_losses m_lossOf m_wasThere m_groupMany m_groupRow m_groupLoss m_isMarked]) rfl ?_
  refine st_if_eq hR dX11_group_10 (tgt := 25) (by decide) (pc' := 13) rfl (fun c_ => ?_) (fun c_ => ?_)
  · have hM := it_t c_ hM
    refine st_iconst hR dX11_group_25 (v := (-1)) (by decide) (pc' := 26) rfl ?_
    cases hM
    exact hret _ _ dX11_group_26 (ro_i _)
  · have hM := it_f c_ hM
    refine st_iload_n hR dX11_group_13 2 rfl rfl (pc' := 14) rfl ?_
    refine st_if_lt hR dX11_group_14 (tgt := 25) (by decide) (pc' := 17) rfl (fun c_ => ?_) (fun c_ => ?_)
    · have hM := it_t c_ hM
      refine st_iconst hR dX11_group_25 (v := (-1)) (by decide) (pc' := 26) rfl ?_
      cases hM
      exact hret _ _ dX11_group_26 (ro_i _)
    · have hM := it_f c_ hM
      refine st_aload_n hR dX11_group_17 0 rfl rfl (pc' := 18) rfl ?_
      refine st_iload_n hR dX11_group_18 3 rfl rfl (pc' := 19) rfl ?_
      obtain ⟨r_2, hc_, hM⟩ := bd_e hM
      refine st_callV hR (k_X11_isFarm hc_) cf_X11_298 (rm_le (Nat.le_of_ble_eq_true rfl) (Nat.le_of_ble_eq_true rfl)) [0] rfl rfl rfl 0 0 10 30 rfl rfl rfl rfl (rest := []) rfl (Nat.le_of_ble_eq_true rfl) dX11_group_19 (pc' := 22) rfl (Wn := [wX11 G q_m 0 m_tape m_taped m_size m_sort m_place m_value m_at m_fault m_words m_rows m_op m_arg m_codes m_names m_ofFeed m_teeth m_feedWords m_goWords m_facts m_pile m_levels m_best m_losses m_lossOf m_wasThere m_groupMany m_groupRow m_groupLoss m_isMarked]) rfl ?_
      refine st_if_ne hR dX11_group_22 (tgt := 27) (by decide) (pc' := 25) rfl (fun c_ => ?_) (fun c_ => ?_)
      · have hM := it_f c_ hM
        refine st_aload_n hR dX11_group_27 0 rfl rfl (pc' := 28) rfl ?_
        refine st_iload_n hR dX11_group_28 1 rfl rfl (pc' := 29) rfl ?_
        obtain ⟨⟨m_rows_1, m_facts_1, m_pile_1, m_best_1, m_losses_1, m_groupMany_1, m_groupRow_1, m_groupLoss_1⟩, hc_, hM⟩ := bd_e hM
        refine st_callV hR (k_X11_findJoined hc_) cf_X11_350 (rm_le (Nat.le_of_ble_eq_true rfl) (Nat.le_of_ble_eq_true rfl)) [0] rfl rfl rfl 0 0 10 30 rfl rfl rfl rfl (rest := []) rfl (Nat.le_of_ble_eq_true rfl) dX11_group_29 (pc' := 32) rfl (Wn := [wX11 G q_m 0 m_tape m_taped m_size m_sort m_place m_value m_at m_fault m_words m_rows_1 m_op m_arg m_codes m_names m_ofFeed m_teeth m_feedWords m_goWords m_facts_1 m_pile_1 m_levels m_best_1 m_losses_1 m_lossOf m_wasThere m_groupMany_1 m_groupRow_1 m_groupLoss_1 m_isMarked]) rfl ?_
        refine st_iconst hR dX11_group_32 (v := 0) rfl (pc' := 33) rfl ?_
        refine st_istore hR dX11_group_33 (Nat.le_of_ble_eq_true rfl) [1, 2, 3, 4, 0] (lv' := [(0, .ref (q_m 0)), (1, .int l1), (2, .int l2), (3, .int l3), (4, .int 0)]) rfl (pc' := 35) rfl ?_
        refine st_iconst hR dX11_group_35 (v := 0) rfl (pc' := 36) rfl ?_
        refine st_istore hR dX11_group_36 (Nat.le_of_ble_eq_true rfl) [1, 2, 3, 4, 5, 0] (lv' := [(0, .ref (q_m 0)), (1, .int l1), (2, .int l2), (3, .int l3), (4, .int 0), (5, .int 0)]) rfl (pc' := 38) rfl ?_
        exact st_lv hR [0, 2, 3, 4, 5] rfl (L38 FU _ _ _ _ _ _ _ _ _ _ _ _ _ hM)
      · have hM := it_t c_ hM
        refine st_iconst hR dX11_group_25 (v := (-1)) (by decide) (pc' := 26) rfl ?_
        cases hM
        exact hret _ _ dX11_group_26 (ro_i _)
set_option maxHeartbeats 16000000 in
set_option maxRecDepth 100000 in
theorem k_X11_pup {l : Launch} {G : GG} {q_m : Nat → Nat} {m_thrown m_taped m_size m_at m_fault m_codes m_ofFeed m_teeth m_levels m_groupMany : Int32} {m_tape m_sort m_place m_rows m_op m_arg m_feedWords m_goWords m_facts m_pile m_best m_losses m_lossOf m_wasThere m_groupRow m_groupLoss m_isMarked : Nat → Int32} {m_value m_words m_names : Nat → Int64} {l1 l2 : Int32} {o_r : Int32} {o_m_thrown : Int32} {o_m_rows : Nat → Int32} {o_m_facts : Nat → Int32} {o_m_pile : Nat → Int32} {o_m_best : Nat → Int32} {o_m_losses : Nat → Int32} (hM : f_X11_pup m_op m_arg m_levels m_thrown m_rows m_facts m_pile m_best m_losses l1 l2 = some (o_r, o_m_thrown, o_m_rows, o_m_facts, o_m_pile, o_m_best, o_m_losses)) : MC l G yX11_pup cX11_pup 4 (some .int) (RM 7) [.ref (q_m 0), .int l1, .int l2] [wX11 G q_m m_thrown m_tape m_taped m_size m_sort m_place m_value m_at m_fault m_words m_rows m_op m_arg m_codes m_names m_ofFeed m_teeth m_feedWords m_goWords m_facts m_pile m_levels m_best m_losses m_lossOf m_wasThere m_groupMany m_groupRow m_groupLoss m_isMarked] (some (.int o_r)) [wX11 G q_m o_m_thrown m_tape m_taped m_size m_sort m_place m_value m_at m_fault m_words o_m_rows m_op m_arg m_codes m_names m_ofFeed m_teeth m_feedWords m_goWords o_m_facts o_m_pile m_levels o_m_best o_m_losses m_lossOf m_wasThere m_groupMany m_groupRow m_groupLoss m_isMarked] := by
  refine MC.of pn_X11 (Nat.le_of_ble_eq_true rfl) (fun K hR hret => ?_)
  have hR : Rl l G RX11 cX11_pup 4 (RM 7) K := hR
  show K [wX11 G q_m m_thrown m_tape m_taped m_size m_sort m_place m_value m_at m_fault m_words m_rows m_op m_arg m_codes m_names m_ofFeed m_teeth m_feedWords m_goWords m_facts m_pile m_levels m_best m_losses m_lossOf m_wasThere m_groupMany m_groupRow m_groupLoss m_isMarked] [(0, .ref (q_m 0)), (1, .int l1), (2, .int l2)] 0 []
  have J32 : ∀ (m_thrown : Int32) (m_rows : Nat → Int32) (m_facts : Nat → Int32) (m_pile : Nat → Int32) (m_best : Nat → Int32) (m_losses : Nat → Int32) (l1 : Int32) (l2 : Int32) (s0 : Int32), f_X11_pup_B32  m_op m_arg m_levels m_thrown m_rows m_facts m_pile m_best m_losses l1 l2 s0 = some (o_r, o_m_thrown, o_m_rows, o_m_facts, o_m_pile, o_m_best, o_m_losses) → K [wX11 G q_m m_thrown m_tape m_taped m_size m_sort m_place m_value m_at m_fault m_words m_rows m_op m_arg m_codes m_names m_ofFeed m_teeth m_feedWords m_goWords m_facts m_pile m_levels m_best m_losses m_lossOf m_wasThere m_groupMany m_groupRow m_groupLoss m_isMarked] [(0, .ref (q_m 0)), (1, .int l1), (2, .int l2)] 32 [.int s0, .ref (q_m 0)] := by
    intro m_thrown m_rows m_facts m_pile m_best m_losses l1 l2 s0 hM
    refine st_put hR dX11_pup_32 fp_X11_1_10_0 0 0 rfl rfl (Nat.le_of_ble_eq_true rfl) rfl rfl (pc' := 35) rfl (W' := [wX11 G q_m s0 m_tape m_taped m_size m_sort m_place m_value m_at m_fault m_words m_rows m_op m_arg m_codes m_names m_ofFeed m_teeth m_feedWords m_goWords m_facts m_pile m_levels m_best m_losses m_lossOf m_wasThere m_groupMany m_groupRow m_groupLoss m_isMarked]) rfl ?_
    refine st_aload_n hR dX11_pup_35 0 rfl rfl (pc' := 36) rfl ?_
    refine st_get hR dX11_pup_36 fg_X11_1_10_0 0 0 rfl rfl rfl (pc' := 39) rfl ?_
    refine st_if_le hR dX11_pup_39 (tgt := 44) (by decide) (pc' := 42) rfl (fun c_ => ?_) (fun c_ => ?_)
    · have hM := it_t c_ hM
      refine st_aload_n hR dX11_pup_44 0 rfl rfl (pc' := 45) rfl ?_
      refine st_iload_n hR dX11_pup_45 2 rfl rfl (pc' := 46) rfl ?_
      obtain ⟨⟨m_rows_1, m_facts_1, m_pile_1, m_best_1, m_losses_1⟩, hc_, hM⟩ := bd_e hM
      refine st_callV hR (k_X11_findLosses hc_) cf_X11_314 (rm_le (Nat.le_of_ble_eq_true rfl) (Nat.le_of_ble_eq_true rfl)) [0] rfl rfl rfl 0 0 10 30 rfl rfl rfl rfl (rest := []) rfl (Nat.le_of_ble_eq_true rfl) dX11_pup_46 (pc' := 49) rfl (Wn := [wX11 G q_m s0 m_tape m_taped m_size m_sort m_place m_value m_at m_fault m_words m_rows_1 m_op m_arg m_codes m_names m_ofFeed m_teeth m_feedWords m_goWords m_facts_1 m_pile_1 m_levels m_best_1 m_losses_1 m_lossOf m_wasThere m_groupMany m_groupRow m_groupLoss m_isMarked]) rfl ?_
      refine st_aload_n hR dX11_pup_49 0 rfl rfl (pc' := 50) rfl ?_
      refine st_get hR dX11_pup_50 fg_X11_99_10_23 0 0 rfl rfl rfl (pc' := 53) rfl ?_
      refine st_iload_n hR dX11_pup_53 1 rfl rfl (pc' := 54) rfl ?_
      obtain ⟨hin_, hM⟩ := g_in_e hM
      refine st_iald hR dX11_pup_54 0 15 rfl rfl hin_ (v := m_losses_1 (ix l1)) rfl (pc' := 55) rfl ?_
      refine st_topi (fun l3_1 e_ => ?_)
      have hM := lt_e e_ hM
      refine st_istore_n hR dX11_pup_55 rfl (Nat.le_of_ble_eq_true rfl) [1, 2, 3, 0] (lv' := [(0, .ref (q_m 0)), (1, .int l1), (2, .int l2), (3, .int l3_1)]) rfl (pc' := 56) rfl ?_
      refine st_aload_n hR dX11_pup_56 0 rfl rfl (pc' := 57) rfl ?_
      refine st_iload_n hR dX11_pup_57 1 rfl rfl (pc' := 58) rfl ?_
      refine st_iconst hR dX11_pup_58 (v := 2) rfl (pc' := 59) rfl ?_
      refine st_iconst hR dX11_pup_59 (v := 1) rfl (pc' := 60) rfl ?_
      obtain ⟨m_rows_2, hc_, hM⟩ := bd_e hM
      refine st_callV hR (k_X11_adds hc_) cf_X11_279 (rm_le (Nat.le_of_ble_eq_true rfl) (Nat.le_of_ble_eq_true rfl)) [0] rfl rfl rfl 0 0 10 30 rfl rfl rfl rfl (rest := []) rfl (Nat.le_of_ble_eq_true rfl) dX11_pup_60 (pc' := 63) rfl (Wn := [wX11 G q_m s0 m_tape m_taped m_size m_sort m_place m_value m_at m_fault m_words m_rows_2 m_op m_arg m_codes m_names m_ofFeed m_teeth m_feedWords m_goWords m_facts_1 m_pile_1 m_levels m_best_1 m_losses_1 m_lossOf m_wasThere m_groupMany m_groupRow m_groupLoss m_isMarked]) rfl ?_
      refine st_aload_n hR dX11_pup_63 0 rfl rfl (pc' := 64) rfl ?_
      refine st_iload_n hR dX11_pup_64 2 rfl rfl (pc' := 65) rfl ?_
      obtain ⟨⟨m_rows_3, m_facts_2, m_pile_2, m_best_2, m_losses_2⟩, hc_, hM⟩ := bd_e hM
      refine st_callV hR (k_X11_findLosses hc_) cf_X11_314 (rm_le (Nat.le_of_ble_eq_true rfl) (Nat.le_of_ble_eq_true rfl)) [0] rfl rfl rfl 0 0 10 30 rfl rfl rfl rfl (rest := []) rfl (Nat.le_of_ble_eq_true rfl) dX11_pup_65 (pc' := 68) rfl (Wn := [wX11 G q_m s0 m_tape m_taped m_size m_sort m_place m_value m_at m_fault m_words m_rows_3 m_op m_arg m_codes m_names m_ofFeed m_teeth m_feedWords m_goWords m_facts_2 m_pile_2 m_levels m_best_2 m_losses_2 m_lossOf m_wasThere m_groupMany m_groupRow m_groupLoss m_isMarked]) rfl ?_
      refine st_aload_n hR dX11_pup_68 0 rfl rfl (pc' := 69) rfl ?_
      refine st_iload_n hR dX11_pup_69 1 rfl rfl (pc' := 70) rfl ?_
      refine st_iconst hR dX11_pup_70 (v := 2) rfl (pc' := 71) rfl ?_
      refine st_iconst hR dX11_pup_71 (v := (-1)) (by decide) (pc' := 72) rfl ?_
      obtain ⟨m_rows_4, hc_, hM⟩ := bd_e hM
      refine st_callV hR (k_X11_adds hc_) cf_X11_279 (rm_le (Nat.le_of_ble_eq_true rfl) (Nat.le_of_ble_eq_true rfl)) [0] rfl rfl rfl 0 0 10 30 rfl rfl rfl rfl (rest := []) rfl (Nat.le_of_ble_eq_true rfl) dX11_pup_72 (pc' := 75) rfl (Wn := [wX11 G q_m s0 m_tape m_taped m_size m_sort m_place m_value m_at m_fault m_words m_rows_4 m_op m_arg m_codes m_names m_ofFeed m_teeth m_feedWords m_goWords m_facts_2 m_pile_2 m_levels m_best_2 m_losses_2 m_lossOf m_wasThere m_groupMany m_groupRow m_groupLoss m_isMarked]) rfl ?_
      refine st_iload_n hR dX11_pup_75 3 rfl rfl (pc' := 76) rfl ?_
      refine st_aload_n hR dX11_pup_76 0 rfl rfl (pc' := 77) rfl ?_
      refine st_get hR dX11_pup_77 fg_X11_99_10_23 0 0 rfl rfl rfl (pc' := 80) rfl ?_
      refine st_iload_n hR dX11_pup_80 1 rfl rfl (pc' := 81) rfl ?_
      obtain ⟨hin_, hM⟩ := g_in_e hM
      refine st_iald hR dX11_pup_81 0 15 rfl rfl hin_ (v := m_losses_2 (ix l1)) rfl (pc' := 82) rfl ?_
      refine st_isub hR dX11_pup_82 (pc' := 83) rfl ?_
      cases hM
      exact hret _ _ dX11_pup_83 (ro_i _)
    · have hM := it_f c_ hM
      refine st_iconst hR dX11_pup_42 (v := 0) rfl (pc' := 43) rfl ?_
      cases hM
      exact hret _ _ dX11_pup_43 (ro_i _)
  have J31 : ∀ (m_thrown : Int32) (m_rows : Nat → Int32) (m_facts : Nat → Int32) (m_pile : Nat → Int32) (m_best : Nat → Int32) (m_losses : Nat → Int32) (l1 : Int32) (l2 : Int32), f_X11_pup_B31  m_op m_arg m_levels m_thrown m_rows m_facts m_pile m_best m_losses l1 l2 = some (o_r, o_m_thrown, o_m_rows, o_m_facts, o_m_pile, o_m_best, o_m_losses) → K [wX11 G q_m m_thrown m_tape m_taped m_size m_sort m_place m_value m_at m_fault m_words m_rows m_op m_arg m_codes m_names m_ofFeed m_teeth m_feedWords m_goWords m_facts m_pile m_levels m_best m_losses m_lossOf m_wasThere m_groupMany m_groupRow m_groupLoss m_isMarked] [(0, .ref (q_m 0)), (1, .int l1), (2, .int l2)] 31 [.ref (q_m 0)] := by
    intro m_thrown m_rows m_facts m_pile m_best m_losses l1 l2 hM
    refine st_iconst hR dX11_pup_31 (v := 1) rfl (pc' := 32) rfl ?_
    exact J32 _ _ _ _ _ _ _ _ _ hM
  refine st_aload_n hR dX11_pup_0 0 rfl rfl (pc' := 1) rfl ?_
  refine st_aload_n hR dX11_pup_1 0 rfl rfl (pc' := 2) rfl ?_
  refine st_iload_n hR dX11_pup_2 1 rfl rfl (pc' := 3) rfl ?_
  obtain ⟨r_1, hc_, hM⟩ := bd_e hM
  refine st_callV hR (k_X11_isFarm hc_) cf_X11_298 (rm_le (Nat.le_of_ble_eq_true rfl) (Nat.le_of_ble_eq_true rfl)) [0] rfl rfl rfl 0 0 10 30 rfl rfl rfl rfl (rest := [.ref (q_m 0)]) rfl (Nat.le_of_ble_eq_true rfl) dX11_pup_3 (pc' := 6) rfl (Wn := [wX11 G q_m m_thrown m_tape m_taped m_size m_sort m_place m_value m_at m_fault m_words m_rows m_op m_arg m_codes m_names m_ofFeed m_teeth m_feedWords m_goWords m_facts m_pile m_levels m_best m_losses m_lossOf m_wasThere m_groupMany m_groupRow m_groupLoss m_isMarked]) rfl ?_
  refine st_if_eq hR dX11_pup_6 (tgt := 31) (by decide) (pc' := 9) rfl (fun c_ => ?_) (fun c_ => ?_)
  · have hM := it_t c_ hM
    exact J31 _ _ _ _ _ _ _ _ hM
  · have hM := it_f c_ hM
    refine st_iload_n hR dX11_pup_9 2 rfl rfl (pc' := 10) rfl ?_
    obtain ⟨r_2, hc_, hM⟩ := bd_e hM
    refine st_callS hR (k_X11_areNights hc_) cf_X11_311 (rm_le (Nat.le_of_ble_eq_true rfl) (Nat.le_of_ble_eq_true rfl)) [] rfl rfl rfl rfl (rest := [.ref (q_m 0)]) rfl (Nat.le_of_ble_eq_true rfl) dX11_pup_10 (pc' := 13) rfl (Wn := [wX11 G q_m m_thrown m_tape m_taped m_size m_sort m_place m_value m_at m_fault m_words m_rows m_op m_arg m_codes m_names m_ofFeed m_teeth m_feedWords m_goWords m_facts m_pile m_levels m_best m_losses m_lossOf m_wasThere m_groupMany m_groupRow m_groupLoss m_isMarked]) rfl ?_
    refine st_if_eq hR dX11_pup_13 (tgt := 31) (by decide) (pc' := 16) rfl (fun c_ => ?_) (fun c_ => ?_)
    · have hM := it_t c_ hM
      exact J31 _ _ _ _ _ _ _ _ hM
    · have hM := it_f c_ hM
      refine st_aload_n hR dX11_pup_16 0 rfl rfl (pc' := 17) rfl ?_
      refine st_iload_n hR dX11_pup_17 1 rfl rfl (pc' := 18) rfl ?_
      refine st_iconst hR dX11_pup_18 (v := 2) rfl (pc' := 19) rfl ?_
      obtain ⟨r_3, hc_, hM⟩ := bd_e hM
      refine st_callV hR (k_X11_of hc_) cf_X11_251 (rm_le (Nat.le_of_ble_eq_true rfl) (Nat.le_of_ble_eq_true rfl)) [0] rfl rfl rfl 0 0 10 30 rfl rfl rfl rfl (rest := [.ref (q_m 0)]) rfl (Nat.le_of_ble_eq_true rfl) dX11_pup_19 (pc' := 22) rfl (Wn := [wX11 G q_m m_thrown m_tape m_taped m_size m_sort m_place m_value m_at m_fault m_words m_rows m_op m_arg m_codes m_names m_ofFeed m_teeth m_feedWords m_goWords m_facts m_pile m_levels m_best m_losses m_lossOf m_wasThere m_groupMany m_groupRow m_groupLoss m_isMarked]) rfl ?_
      refine st_bipush hR dX11_pup_22 (v := 99) rfl (pc' := 24) rfl ?_
      refine st_icmp_ge hR dX11_pup_24 (tgt := 31) (by decide) (pc' := 27) rfl (fun c_ => ?_) (fun c_ => ?_)
      · have hM := it_t c_ hM
        exact J31 _ _ _ _ _ _ _ _ hM
      · have hM := it_f c_ hM
        refine st_iconst hR dX11_pup_27 (v := 0) rfl (pc' := 28) rfl ?_
        refine st_goto hR dX11_pup_28 (tgt := 32) (by decide) ?_
        exact J32 _ _ _ _ _ _ _ _ _ hM
set_option maxHeartbeats 16000000 in
set_option maxRecDepth 100000 in
theorem k_X11_bite {l : Launch} {G : GG} {q_m : Nat → Nat} {m_thrown m_taped m_size m_at m_fault m_codes m_ofFeed m_teeth m_levels m_groupMany : Int32} {m_tape m_sort m_place m_rows m_op m_arg m_feedWords m_goWords m_facts m_pile m_best m_losses m_lossOf m_wasThere m_groupRow m_groupLoss m_isMarked : Nat → Int32} {m_value m_words m_names : Nat → Int64} {l1 : Int32} {o_r : Int32} {o_m_thrown : Int32} {o_m_rows : Nat → Int32} (hM : f_X11_bite m_thrown m_rows l1 = some (o_r, o_m_thrown, o_m_rows)) : MC l G yX11_bite cX11_bite 3 (some .int) (RM 1) [.ref (q_m 0), .int l1] [wX11 G q_m m_thrown m_tape m_taped m_size m_sort m_place m_value m_at m_fault m_words m_rows m_op m_arg m_codes m_names m_ofFeed m_teeth m_feedWords m_goWords m_facts m_pile m_levels m_best m_losses m_lossOf m_wasThere m_groupMany m_groupRow m_groupLoss m_isMarked] (some (.int o_r)) [wX11 G q_m o_m_thrown m_tape m_taped m_size m_sort m_place m_value m_at m_fault m_words o_m_rows m_op m_arg m_codes m_names m_ofFeed m_teeth m_feedWords m_goWords m_facts m_pile m_levels m_best m_losses m_lossOf m_wasThere m_groupMany m_groupRow m_groupLoss m_isMarked] := by
  refine MC.of pn_X11 (Nat.le_of_ble_eq_true rfl) (fun K hR hret => ?_)
  have hR : Rl l G RX11 cX11_bite 3 (RM 1) K := hR
  show K [wX11 G q_m m_thrown m_tape m_taped m_size m_sort m_place m_value m_at m_fault m_words m_rows m_op m_arg m_codes m_names m_ofFeed m_teeth m_feedWords m_goWords m_facts m_pile m_levels m_best m_losses m_lossOf m_wasThere m_groupMany m_groupRow m_groupLoss m_isMarked] [(0, .ref (q_m 0)), (1, .int l1)] 0 []
  refine st_aload_n hR dX11_bite_0 0 rfl rfl (pc' := 1) rfl ?_
  refine st_iconst hR dX11_bite_1 (v := 0) rfl (pc' := 2) rfl ?_
  refine st_put hR dX11_bite_2 fp_X11_1_10_0 0 0 rfl rfl (Nat.le_of_ble_eq_true rfl) rfl rfl (pc' := 5) rfl (W' := [wX11 G q_m 0 m_tape m_taped m_size m_sort m_place m_value m_at m_fault m_words m_rows m_op m_arg m_codes m_names m_ofFeed m_teeth m_feedWords m_goWords m_facts m_pile m_levels m_best m_losses m_lossOf m_wasThere m_groupMany m_groupRow m_groupLoss m_isMarked]) rfl ?_
  refine st_aload_n hR dX11_bite_5 0 rfl rfl (pc' := 6) rfl ?_
  refine st_get hR dX11_bite_6 fg_X11_69_10_10 0 0 rfl rfl rfl (pc' := 9) rfl ?_
  refine st_iconst hR dX11_bite_9 (v := 4) rfl (pc' := 10) rfl ?_
  refine st_iald hR dX11_bite_10 0 6 rfl rfl (vp_lit 4 rfl rfl rfl) (v := m_rows 4) (congrArg m_rows (cl_lit 4 rfl rfl)) (pc' := 11) rfl ?_
  refine st_topi (fun l2_1 e_ => ?_)
  have hM := lt_e e_ hM
  refine st_istore_n hR dX11_bite_11 rfl (Nat.le_of_ble_eq_true rfl) [1, 2, 0] (lv' := [(0, .ref (q_m 0)), (1, .int l1), (2, .int l2_1)]) rfl (pc' := 12) rfl ?_
  refine st_iload_n hR dX11_bite_12 1 rfl rfl (pc' := 13) rfl ?_
  refine st_if_ne hR dX11_bite_13 (tgt := 25) (by decide) (pc' := 16) rfl (fun c_ => ?_) (fun c_ => ?_)
  · have hM := it_f c_ hM
    refine st_iload_n hR dX11_bite_25 1 rfl rfl (pc' := 26) rfl ?_
    refine st_iconst hR dX11_bite_26 (v := 1) rfl (pc' := 27) rfl ?_
    refine st_iconst hR dX11_bite_27 (v := 4) rfl (pc' := 28) rfl ?_
    obtain ⟨r_1, hc_, hM⟩ := bd_e hM
    refine st_callS hR (k_X11_within hc_) cf_X11_301 (rm_le (Nat.le_of_ble_eq_true rfl) (Nat.le_of_ble_eq_true rfl)) [] rfl rfl rfl rfl (rest := []) rfl (Nat.le_of_ble_eq_true rfl) dX11_bite_28 (pc' := 31) rfl (Wn := [wX11 G q_m 0 m_tape m_taped m_size m_sort m_place m_value m_at m_fault m_words m_rows m_op m_arg m_codes m_names m_ofFeed m_teeth m_feedWords m_goWords m_facts m_pile m_levels m_best m_losses m_lossOf m_wasThere m_groupMany m_groupRow m_groupLoss m_isMarked]) rfl ?_
    refine st_if_eq hR dX11_bite_31 (tgt := 40) (by decide) (pc' := 34) rfl (fun c_ => ?_) (fun c_ => ?_)
    · have hM := it_t c_ hM
      refine st_iconst hR dX11_bite_40 (v := (-1)) (by decide) (pc' := 41) rfl ?_
      cases hM
      exact hret _ _ dX11_bite_41 (ro_i _)
    · have hM := it_f c_ hM
      refine st_iload_n hR dX11_bite_34 2 rfl rfl (pc' := 35) rfl ?_
      refine st_bipush hR dX11_bite_35 (v := 8) rfl (pc' := 37) rfl ?_
      refine st_icmp_ne hR dX11_bite_37 (tgt := 42) (by decide) (pc' := 40) rfl (fun c_ => ?_) (fun c_ => ?_)
      · have hM := it_f c_ hM
        refine st_aload_n hR dX11_bite_42 0 rfl rfl (pc' := 43) rfl ?_
        refine st_get hR dX11_bite_43 fg_X11_69_10_10 0 0 rfl rfl rfl (pc' := 46) rfl ?_
        refine st_sipush hR dX11_bite_46 (v := 182) rfl (pc' := 49) rfl ?_
        refine st_iload_n hR dX11_bite_49 2 rfl rfl (pc' := 50) rfl ?_
        refine st_iadd hR dX11_bite_50 (pc' := 51) rfl ?_
        refine st_iload_n hR dX11_bite_51 1 rfl rfl (pc' := 52) rfl ?_
        obtain ⟨hin_, hM⟩ := g_in_e hM
        refine st_iast hR dX11_bite_52 0 6 rfl rfl hin_ (ix := (ix (182 + l2_1))) rfl (pc' := 53) rfl (fun m_rows_1 => [wX11 G q_m 0 m_tape m_taped m_size m_sort m_place m_value m_at m_fault m_words m_rows_1 m_op m_arg m_codes m_names m_ofFeed m_teeth m_feedWords m_goWords m_facts m_pile m_levels m_best m_losses m_lossOf m_wasThere m_groupMany m_groupRow m_groupLoss m_isMarked]) (fun _ => rfl) (fun m_rows_1 e_ => ?_)
        have hM := lt_e e_ hM
        refine st_aload_n hR dX11_bite_53 0 rfl rfl (pc' := 54) rfl ?_
        refine st_get hR dX11_bite_54 fg_X11_69_10_10 0 0 rfl rfl rfl (pc' := 57) rfl ?_
        refine st_iconst hR dX11_bite_57 (v := 4) rfl (pc' := 58) rfl ?_
        refine st_dup2 hR dX11_bite_58 (pc' := 59) rfl rfl rfl ?_
        refine st_iald hR dX11_bite_59 0 6 rfl rfl (vp_lit 4 rfl rfl rfl) (v := m_rows_1 4) (congrArg m_rows_1 (cl_lit 4 rfl rfl)) (pc' := 60) rfl ?_
        refine st_iconst hR dX11_bite_60 (v := 1) rfl (pc' := 61) rfl ?_
        refine st_iadd hR dX11_bite_61 (pc' := 62) rfl ?_
        refine st_iast hR dX11_bite_62 0 6 rfl rfl (vp_lit 4 rfl rfl rfl) (ix := 4) (cl_lit 4 rfl rfl) (pc' := 63) rfl (fun m_rows_2 => [wX11 G q_m 0 m_tape m_taped m_size m_sort m_place m_value m_at m_fault m_words m_rows_2 m_op m_arg m_codes m_names m_ofFeed m_teeth m_feedWords m_goWords m_facts m_pile m_levels m_best m_losses m_lossOf m_wasThere m_groupMany m_groupRow m_groupLoss m_isMarked]) (fun _ => rfl) (fun m_rows_2 e_ => ?_)
        have hM := lt_e e_ hM
        refine st_iload_n hR dX11_bite_63 2 rfl rfl (pc' := 64) rfl ?_
        refine st_iconst hR dX11_bite_64 (v := 1) rfl (pc' := 65) rfl ?_
        refine st_iadd hR dX11_bite_65 (pc' := 66) rfl ?_
        cases hM
        exact hret _ _ dX11_bite_66 (ro_i _)
      · have hM := it_t c_ hM
        refine st_iconst hR dX11_bite_40 (v := (-1)) (by decide) (pc' := 41) rfl ?_
        cases hM
        exact hret _ _ dX11_bite_41 (ro_i _)
  · have hM := it_t c_ hM
    refine st_aload_n hR dX11_bite_16 0 rfl rfl (pc' := 17) rfl ?_
    refine st_get hR dX11_bite_17 fg_X11_69_10_10 0 0 rfl rfl rfl (pc' := 20) rfl ?_
    refine st_iconst hR dX11_bite_20 (v := 4) rfl (pc' := 21) rfl ?_
    refine st_iconst hR dX11_bite_21 (v := 0) rfl (pc' := 22) rfl ?_
    refine st_iast hR dX11_bite_22 0 6 rfl rfl (vp_lit 4 rfl rfl rfl) (ix := 4) (cl_lit 4 rfl rfl) (pc' := 23) rfl (fun m_rows_3 => [wX11 G q_m 0 m_tape m_taped m_size m_sort m_place m_value m_at m_fault m_words m_rows_3 m_op m_arg m_codes m_names m_ofFeed m_teeth m_feedWords m_goWords m_facts m_pile m_levels m_best m_losses m_lossOf m_wasThere m_groupMany m_groupRow m_groupLoss m_isMarked]) (fun _ => rfl) (fun m_rows_3 e_ => ?_)
    have hM := lt_e e_ hM
    refine st_iconst hR dX11_bite_23 (v := 0) rfl (pc' := 24) rfl ?_
    cases hM
    exact hret _ _ dX11_bite_24 (ro_i _)
set_option maxHeartbeats 16000000 in
set_option maxRecDepth 100000 in
theorem k_X11_bitesSo {l : Launch} {G : GG} {q_m : Nat → Nat} {m_thrown m_taped m_size m_at m_fault m_codes m_ofFeed m_teeth m_levels m_groupMany : Int32} {m_tape m_sort m_place m_rows m_op m_arg m_feedWords m_goWords m_facts m_pile m_best m_losses m_lossOf m_wasThere m_groupRow m_groupLoss m_isMarked : Nat → Int32} {m_value m_words m_names : Nat → Int64} {l1 : Int32} {o_r : Int32} (hM : f_X11_bitesSo m_rows l1 = some o_r) : MC l G yX11_bitesSo cX11_bitesSo 4 (some .int) (RM 1) [.ref (q_m 0), .int l1] [wX11 G q_m m_thrown m_tape m_taped m_size m_sort m_place m_value m_at m_fault m_words m_rows m_op m_arg m_codes m_names m_ofFeed m_teeth m_feedWords m_goWords m_facts m_pile m_levels m_best m_losses m_lossOf m_wasThere m_groupMany m_groupRow m_groupLoss m_isMarked] (some (.int o_r)) [wX11 G q_m m_thrown m_tape m_taped m_size m_sort m_place m_value m_at m_fault m_words m_rows m_op m_arg m_codes m_names m_ofFeed m_teeth m_feedWords m_goWords m_facts m_pile m_levels m_best m_losses m_lossOf m_wasThere m_groupMany m_groupRow m_groupLoss m_isMarked] := by
  refine MC.of pn_X11 (Nat.le_of_ble_eq_true rfl) (fun K hR hret => ?_)
  have hR : Rl l G RX11 cX11_bitesSo 4 (RM 1) K := hR
  show K [wX11 G q_m m_thrown m_tape m_taped m_size m_sort m_place m_value m_at m_fault m_words m_rows m_op m_arg m_codes m_names m_ofFeed m_teeth m_feedWords m_goWords m_facts m_pile m_levels m_best m_losses m_lossOf m_wasThere m_groupMany m_groupRow m_groupLoss m_isMarked] [(0, .ref (q_m 0)), (1, .int l1)] 0 []
  have L17 : ∀ (n17 : Nat) (l1 : Int32) (l2 : Int32) (l3 : Int32), f_X11_bitesSo_L17  m_rows n17 l1 l2 l3 = some o_r → K [wX11 G q_m m_thrown m_tape m_taped m_size m_sort m_place m_value m_at m_fault m_words m_rows m_op m_arg m_codes m_names m_ofFeed m_teeth m_feedWords m_goWords m_facts m_pile m_levels m_best m_losses m_lossOf m_wasThere m_groupMany m_groupRow m_groupLoss m_isMarked] [(0, .ref (q_m 0)), (1, .int l1), (2, .int l2), (3, .int l3)] 17 [] := by
    intro n17
    induction n17 with
    | zero => intro l1 l2 l3 hM; exact no_some hM
    | succ n17 ih17 =>
      intro l1 l2 l3 hM
      have hM : f_X11_bitesSo_L17b  (f_X11_bitesSo_L17  m_rows n17) m_rows l1 l2 l3 = some o_r := hM
      refine st_iload_n hR dX11_bitesSo_17 3 rfl rfl (pc' := 18) rfl ?_
      refine st_aload_n hR dX11_bitesSo_18 0 rfl rfl (pc' := 19) rfl ?_
      refine st_get hR dX11_bitesSo_19 fg_X11_69_10_10 0 0 rfl rfl rfl (pc' := 22) rfl ?_
      refine st_iconst hR dX11_bitesSo_22 (v := 4) rfl (pc' := 23) rfl ?_
      refine st_iald hR dX11_bitesSo_23 0 6 rfl rfl (vp_lit 4 rfl rfl rfl) (v := m_rows 4) (congrArg m_rows (cl_lit 4 rfl rfl)) (pc' := 24) rfl ?_
      refine st_icmp_ge hR dX11_bitesSo_24 (tgt := 60) (by decide) (pc' := 27) rfl (fun c_ => ?_) (fun c_ => ?_)
      · have hM := it_t c_ hM
        refine st_iload_n hR dX11_bitesSo_60 2 rfl rfl (pc' := 61) rfl ?_
        cases hM
        exact hret _ _ dX11_bitesSo_61 (ro_i _)
      · have hM := it_f c_ hM
        refine st_iload_n hR dX11_bitesSo_27 2 rfl rfl (pc' := 28) rfl ?_
        refine st_aload_n hR dX11_bitesSo_28 0 rfl rfl (pc' := 29) rfl ?_
        refine st_get hR dX11_bitesSo_29 fg_X11_69_10_10 0 0 rfl rfl rfl (pc' := 32) rfl ?_
        refine st_bipush hR dX11_bitesSo_32 (v := 50) rfl (pc' := 34) rfl ?_
        refine st_iconst hR dX11_bitesSo_34 (v := 4) rfl (pc' := 35) rfl ?_
        refine st_iload_n hR dX11_bitesSo_35 1 rfl rfl (pc' := 36) rfl ?_
        refine st_imul hR dX11_bitesSo_36 (pc' := 37) rfl ?_
        refine st_iadd hR dX11_bitesSo_37 (pc' := 38) rfl ?_
        refine st_aload_n hR dX11_bitesSo_38 0 rfl rfl (pc' := 39) rfl ?_
        refine st_get hR dX11_bitesSo_39 fg_X11_69_10_10 0 0 rfl rfl rfl (pc' := 42) rfl ?_
        refine st_sipush hR dX11_bitesSo_42 (v := 182) rfl (pc' := 45) rfl ?_
        refine st_iload_n hR dX11_bitesSo_45 3 rfl rfl (pc' := 46) rfl ?_
        refine st_iadd hR dX11_bitesSo_46 (pc' := 47) rfl ?_
        obtain ⟨hin_, hM⟩ := g_in_e hM
        refine st_iald hR dX11_bitesSo_47 0 6 rfl rfl hin_ (v := m_rows (ix (182 + l3))) rfl (pc' := 48) rfl ?_
        refine st_iadd hR dX11_bitesSo_48 (pc' := 49) rfl ?_
        refine st_iconst hR dX11_bitesSo_49 (v := 1) rfl (pc' := 50) rfl ?_
        refine st_isub hR dX11_bitesSo_50 (pc' := 51) rfl ?_
        obtain ⟨hin_, hM⟩ := g_in_e hM
        refine st_iald hR dX11_bitesSo_51 0 6 rfl rfl hin_ (v := m_rows (ix (((50 + (4 * l1)) + (m_rows (ix (182 + l3)))) - 1))) rfl (pc' := 52) rfl ?_
        refine st_imul hR dX11_bitesSo_52 (pc' := 53) rfl ?_
        refine st_topi (fun l2_1 e_ => ?_)
        have hM := lt_e e_ hM
        refine st_istore_n hR dX11_bitesSo_53 rfl (Nat.le_of_ble_eq_true rfl) [1, 2, 0, 3] (lv' := [(0, .ref (q_m 0)), (1, .int l1), (2, .int l2_1), (3, .int l3)]) rfl (pc' := 54) rfl ?_
        obtain ⟨l3_1, e_⟩ : ∃ y : Int32, y = l3 + 1 := ⟨_, rfl⟩
        refine st_iinc hR dX11_bitesSo_54 (Nat.le_of_ble_eq_true rfl) 3 [1, 2, 3, 0] (v := l3_1) rfl (by rw [e_]; rfl) (lv' := [(0, .ref (q_m 0)), (1, .int l1), (2, .int l2_1), (3, .int l3_1)]) rfl (pc' := 57) rfl ?_
        have hM := lt_e e_ hM
        refine st_goto hR dX11_bitesSo_57 (tgt := 17) (by decide) ?_
        exact ih17 _ _ _ hM
  have J14 : ∀ (l1 : Int32) (s0 : Int32), f_X11_bitesSo_B14  m_rows l1 s0 = some o_r → K [wX11 G q_m m_thrown m_tape m_taped m_size m_sort m_place m_value m_at m_fault m_words m_rows m_op m_arg m_codes m_names m_ofFeed m_teeth m_feedWords m_goWords m_facts m_pile m_levels m_best m_losses m_lossOf m_wasThere m_groupMany m_groupRow m_groupLoss m_isMarked] [(0, .ref (q_m 0)), (1, .int l1)] 14 [.int s0] := by
    intro l1 s0 hM
    refine st_istore_n hR dX11_bitesSo_14 rfl (Nat.le_of_ble_eq_true rfl) [1, 2, 0] (lv' := [(0, .ref (q_m 0)), (1, .int l1), (2, .int s0)]) rfl (pc' := 15) rfl ?_
    refine st_iconst hR dX11_bitesSo_15 (v := 0) rfl (pc' := 16) rfl ?_
    refine st_istore_n hR dX11_bitesSo_16 rfl (Nat.le_of_ble_eq_true rfl) [1, 2, 3, 0] (lv' := [(0, .ref (q_m 0)), (1, .int l1), (2, .int s0), (3, .int 0)]) rfl (pc' := 17) rfl ?_
    exact L17 FU _ _ _ hM
  refine st_aload_n hR dX11_bitesSo_0 0 rfl rfl (pc' := 1) rfl ?_
  refine st_iload_n hR dX11_bitesSo_1 1 rfl rfl (pc' := 2) rfl ?_
  refine st_iconst hR dX11_bitesSo_2 (v := 2) rfl (pc' := 3) rfl ?_
  obtain ⟨r_1, hc_, hM⟩ := bd_e hM
  refine st_callV hR (k_X11_of hc_) cf_X11_251 (rm_le (Nat.le_of_ble_eq_true rfl) (Nat.le_of_ble_eq_true rfl)) [0] rfl rfl rfl 0 0 10 30 rfl rfl rfl rfl (rest := []) rfl (Nat.le_of_ble_eq_true rfl) dX11_bitesSo_3 (pc' := 6) rfl (Wn := [wX11 G q_m m_thrown m_tape m_taped m_size m_sort m_place m_value m_at m_fault m_words m_rows m_op m_arg m_codes m_names m_ofFeed m_teeth m_feedWords m_goWords m_facts m_pile m_levels m_best m_losses m_lossOf m_wasThere m_groupMany m_groupRow m_groupLoss m_isMarked]) rfl ?_
  refine st_if_le hR dX11_bitesSo_6 (tgt := 13) (by decide) (pc' := 9) rfl (fun c_ => ?_) (fun c_ => ?_)
  · have hM := it_t c_ hM
    refine st_iconst hR dX11_bitesSo_13 (v := 0) rfl (pc' := 14) rfl ?_
    exact J14 _ _ hM
  · have hM := it_f c_ hM
    refine st_iconst hR dX11_bitesSo_9 (v := 1) rfl (pc' := 10) rfl ?_
    refine st_goto hR dX11_bitesSo_10 (tgt := 14) (by decide) ?_
    exact J14 _ _ hM
set_option maxHeartbeats 16000000 in
set_option maxRecDepth 100000 in
theorem k_X11_common {l : Launch} {G : GG}  {l0 l1 : Int32} {o_r : Int32} (hM : f_X11_common l0 l1 = some o_r) : MC l G yX11_common cX11_common 5 (some .int) (RM 0) [.int l0, .int l1] [] (some (.int o_r)) [] := by
  refine MC.of pn_X11 (Nat.le_of_ble_eq_true rfl) (fun K hR hret => ?_)
  have hR : Rl l G RX11 cX11_common 5 (RM 0) K := hR
  show K [] [(0, .int l0), (1, .int l1)] 0 []
  have L4 : ∀ (n4 : Nat) (l2 : Int32) (l3 : Int32), f_X11_common_L4   n4 l2 l3 = some o_r → K [] [(2, .int l2), (3, .int l3)] 4 [] := by
    intro n4
    induction n4 with
    | zero => intro l2 l3 hM; exact no_some hM
    | succ n4 ih4 =>
      intro l2 l3 hM
      have hM : f_X11_common_L4b  (f_X11_common_L4   n4)  l2 l3 = some o_r := hM
      refine st_iload_n hR dX11_common_4 1 rfl rfl (pc' := 5) rfl ?_
      refine st_if_eq hR dX11_common_5 (tgt := 21) (by decide) (pc' := 8) rfl (fun c_ => ?_) (fun c_ => ?_)
      · have hM := it_t c_ hM
        refine st_iload_n hR dX11_common_21 0 rfl rfl (pc' := 22) rfl ?_
        cases hM
        exact hret _ _ dX11_common_22 (ro_i _)
      · have hM := it_f c_ hM
        refine st_iload_n hR dX11_common_8 0 rfl rfl (pc' := 9) rfl ?_
        refine st_iload_n hR dX11_common_9 1 rfl rfl (pc' := 10) rfl ?_
        obtain ⟨hnz_, hM⟩ := g_nz_e hM
        refine st_irem hR dX11_common_10 (pc' := 11) rfl hnz_ ?_
        refine st_topi (fun l4_1 e_ => ?_)
        have hM := lt_e e_ hM
        refine st_istore hR dX11_common_11 (Nat.le_of_ble_eq_true rfl) [1, 2, 0] (lv' := [(2, .int l2), (3, .int l3), (4, .int l4_1)]) rfl (pc' := 13) rfl ?_
        refine st_iload_n hR dX11_common_13 1 rfl rfl (pc' := 14) rfl ?_
        refine st_istore_n hR dX11_common_14 rfl (Nat.le_of_ble_eq_true rfl) [0, 1, 2] (lv' := [(2, .int l3), (3, .int l3), (4, .int l4_1)]) rfl (pc' := 15) rfl ?_
        refine st_iload hR dX11_common_15 2 rfl (pc' := 17) rfl ?_
        refine st_istore_n hR dX11_common_17 rfl (Nat.le_of_ble_eq_true rfl) [1, 0, 2] (lv' := [(2, .int l3), (3, .int l4_1), (4, .int l4_1)]) rfl (pc' := 18) rfl ?_
        refine st_goto hR dX11_common_18 (tgt := 4) (by decide) ?_
        exact st_lv hR [0, 1] rfl (ih4 _ _ hM)
  refine st_iload_n hR dX11_common_0 0 rfl rfl (pc' := 1) rfl ?_
  refine st_istore_n hR dX11_common_1 rfl (Nat.le_of_ble_eq_true rfl) [1, 2, 0] (lv' := [(0, .int l0), (1, .int l1), (2, .int l0)]) rfl (pc' := 2) rfl ?_
  refine st_iload_n hR dX11_common_2 1 rfl rfl (pc' := 3) rfl ?_
  refine st_istore_n hR dX11_common_3 rfl (Nat.le_of_ble_eq_true rfl) [1, 2, 3, 0] (lv' := [(0, .int l0), (1, .int l1), (2, .int l0), (3, .int l1)]) rfl (pc' := 4) rfl ?_
  exact st_lv hR [2, 3] rfl (L4 FU _ _ hM)
set_option maxHeartbeats 16000000 in
set_option maxRecDepth 100000 in
theorem k_X11_whose {l : Launch} {G : GG} {q_m : Nat → Nat} {m_thrown m_taped m_size m_at m_fault m_codes m_ofFeed m_teeth m_levels m_groupMany : Int32} {m_tape m_sort m_place m_rows m_op m_arg m_feedWords m_goWords m_facts m_pile m_best m_losses m_lossOf m_wasThere m_groupRow m_groupLoss m_isMarked : Nat → Int32} {m_value m_words m_names : Nat → Int64} {l1 l2 : Int32} {o_r : Int32} {o_m_thrown : Int32} (hM : f_X11_whose m_rows m_thrown l1 l2 = some (o_r, o_m_thrown)) : MC l G yX11_whose cX11_whose 5 (some .int) (RM 2) [.ref (q_m 0), .int l1, .int l2] [wX11 G q_m m_thrown m_tape m_taped m_size m_sort m_place m_value m_at m_fault m_words m_rows m_op m_arg m_codes m_names m_ofFeed m_teeth m_feedWords m_goWords m_facts m_pile m_levels m_best m_losses m_lossOf m_wasThere m_groupMany m_groupRow m_groupLoss m_isMarked] (some (.int o_r)) [wX11 G q_m o_m_thrown m_tape m_taped m_size m_sort m_place m_value m_at m_fault m_words m_rows m_op m_arg m_codes m_names m_ofFeed m_teeth m_feedWords m_goWords m_facts m_pile m_levels m_best m_losses m_lossOf m_wasThere m_groupMany m_groupRow m_groupLoss m_isMarked] := by
  refine MC.of pn_X11 (Nat.le_of_ble_eq_true rfl) (fun K hR hret => ?_)
  have hR : Rl l G RX11 cX11_whose 5 (RM 2) K := hR
  show K [wX11 G q_m m_thrown m_tape m_taped m_size m_sort m_place m_value m_at m_fault m_words m_rows m_op m_arg m_codes m_names m_ofFeed m_teeth m_feedWords m_goWords m_facts m_pile m_levels m_best m_losses m_lossOf m_wasThere m_groupMany m_groupRow m_groupLoss m_isMarked] [(0, .ref (q_m 0)), (1, .int l1), (2, .int l2)] 0 []
  have L38 : ∀ (n38 : Nat) (m_thrown : Int32) (l1 : Int32) (l2 : Int32) (l3 : Int32) (l4 : Int32), f_X11_whose_L38  m_rows n38 m_thrown l1 l2 l3 l4 = some (o_r, o_m_thrown) → K [wX11 G q_m m_thrown m_tape m_taped m_size m_sort m_place m_value m_at m_fault m_words m_rows m_op m_arg m_codes m_names m_ofFeed m_teeth m_feedWords m_goWords m_facts m_pile m_levels m_best m_losses m_lossOf m_wasThere m_groupMany m_groupRow m_groupLoss m_isMarked] [(0, .ref (q_m 0)), (1, .int l1), (2, .int l2), (3, .int l3), (4, .int l4)] 38 [] := by
    intro n38
    induction n38 with
    | zero => intro m_thrown l1 l2 l3 l4 hM; exact no_some hM
    | succ n38 ih38 =>
      intro m_thrown l1 l2 l3 l4 hM
      have hM : f_X11_whose_L38b  (f_X11_whose_L38  m_rows n38) m_rows m_thrown l1 l2 l3 l4 = some (o_r, o_m_thrown) := hM
      refine st_iload hR dX11_whose_38 4 rfl (pc' := 40) rfl ?_
      refine st_aload_n hR dX11_whose_40 0 rfl rfl (pc' := 41) rfl ?_
      obtain ⟨r_1, hc_, hM⟩ := bd_e hM
      refine st_callV hR (k_X11_farms hc_) cf_X11_248 (rm_le (Nat.le_of_ble_eq_true rfl) (Nat.le_of_ble_eq_true rfl)) [0] rfl rfl rfl 0 0 10 30 rfl rfl rfl rfl (rest := [.int l4]) rfl (Nat.le_of_ble_eq_true rfl) dX11_whose_41 (pc' := 44) rfl (Wn := [wX11 G q_m m_thrown m_tape m_taped m_size m_sort m_place m_value m_at m_fault m_words m_rows m_op m_arg m_codes m_names m_ofFeed m_teeth m_feedWords m_goWords m_facts m_pile m_levels m_best m_losses m_lossOf m_wasThere m_groupMany m_groupRow m_groupLoss m_isMarked]) rfl ?_
      refine st_icmp_ge hR dX11_whose_44 (tgt := 62) (by decide) (pc' := 47) rfl (fun c_ => ?_) (fun c_ => ?_)
      · have hM := it_t c_ hM
        refine st_iload_n hR dX11_whose_62 3 rfl rfl (pc' := 63) rfl ?_
        refine st_if_ne hR dX11_whose_63 (tgt := 68) (by decide) (pc' := 66) rfl (fun c_ => ?_) (fun c_ => ?_)
        · have hM := it_f c_ hM
          refine st_aload_n hR dX11_whose_68 0 rfl rfl (pc' := 69) rfl ?_
          refine st_iload_n hR dX11_whose_69 1 rfl rfl (pc' := 70) rfl ?_
          obtain ⟨r_2, hc_, hM⟩ := bd_e hM
          refine st_callV hR (k_X11_bitesSo hc_) cf_X11_356 (rm_le (Nat.le_of_ble_eq_true rfl) (Nat.le_of_ble_eq_true rfl)) [0] rfl rfl rfl 0 0 10 30 rfl rfl rfl rfl (rest := []) rfl (Nat.le_of_ble_eq_true rfl) dX11_whose_70 (pc' := 73) rfl (Wn := [wX11 G q_m m_thrown m_tape m_taped m_size m_sort m_place m_value m_at m_fault m_words m_rows m_op m_arg m_codes m_names m_ofFeed m_teeth m_feedWords m_goWords m_facts m_pile m_levels m_best m_losses m_lossOf m_wasThere m_groupMany m_groupRow m_groupLoss m_isMarked]) rfl ?_
          refine st_iload_n hR dX11_whose_73 3 rfl rfl (pc' := 74) rfl ?_
          obtain ⟨r_3, hc_, hM⟩ := bd_e hM
          refine st_callS hR (k_X11_common hc_) cf_X11_359 (rm_le (Nat.le_of_ble_eq_true rfl) (Nat.le_of_ble_eq_true rfl)) [] rfl rfl rfl rfl (rest := []) rfl (Nat.le_of_ble_eq_true rfl) dX11_whose_74 (pc' := 77) rfl (Wn := [wX11 G q_m m_thrown m_tape m_taped m_size m_sort m_place m_value m_at m_fault m_words m_rows m_op m_arg m_codes m_names m_ofFeed m_teeth m_feedWords m_goWords m_facts m_pile m_levels m_best m_losses m_lossOf m_wasThere m_groupMany m_groupRow m_groupLoss m_isMarked]) rfl ?_
          refine st_istore hR dX11_whose_77 (Nat.le_of_ble_eq_true rfl) [1, 2, 3, 4, 0] (lv' := [(0, .ref (q_m 0)), (1, .int l1), (2, .int l2), (3, .int l3), (4, .int r_3)]) rfl (pc' := 79) rfl ?_
          refine st_iload_n hR dX11_whose_79 2 rfl rfl (pc' := 80) rfl ?_
          refine st_if_ne hR dX11_whose_80 (tgt := 94) (by decide) (pc' := 83) rfl (fun c_ => ?_) (fun c_ => ?_)
          · have hM := it_f c_ hM
            refine st_iload_n hR dX11_whose_94 3 rfl rfl (pc' := 95) rfl ?_
            refine st_iload hR dX11_whose_95 4 rfl (pc' := 97) rfl ?_
            obtain ⟨hnz_, hM⟩ := g_nz_e hM
            refine st_idiv hR dX11_whose_97 (pc' := 98) rfl hnz_ ?_
            cases hM
            exact hret _ _ dX11_whose_98 (ro_i _)
          · have hM := it_t c_ hM
            refine st_aload_n hR dX11_whose_83 0 rfl rfl (pc' := 84) rfl ?_
            refine st_iload_n hR dX11_whose_84 1 rfl rfl (pc' := 85) rfl ?_
            obtain ⟨r_4, hc_, hM⟩ := bd_e hM
            refine st_callV hR (k_X11_bitesSo hc_) cf_X11_356 (rm_le (Nat.le_of_ble_eq_true rfl) (Nat.le_of_ble_eq_true rfl)) [0] rfl rfl rfl 0 0 10 30 rfl rfl rfl rfl (rest := []) rfl (Nat.le_of_ble_eq_true rfl) dX11_whose_85 (pc' := 88) rfl (Wn := [wX11 G q_m m_thrown m_tape m_taped m_size m_sort m_place m_value m_at m_fault m_words m_rows m_op m_arg m_codes m_names m_ofFeed m_teeth m_feedWords m_goWords m_facts m_pile m_levels m_best m_losses m_lossOf m_wasThere m_groupMany m_groupRow m_groupLoss m_isMarked]) rfl ?_
            refine st_iload hR dX11_whose_88 4 rfl (pc' := 90) rfl ?_
            obtain ⟨hnz_, hM⟩ := g_nz_e hM
            refine st_idiv hR dX11_whose_90 (pc' := 91) rfl hnz_ ?_
            refine st_goto hR dX11_whose_91 (tgt := 98) (by decide) ?_
            cases hM
            exact hret _ _ dX11_whose_98 (ro_i _)
        · have hM := it_t c_ hM
          refine st_iconst hR dX11_whose_66 (v := (-1)) (by decide) (pc' := 67) rfl ?_
          cases hM
          exact hret _ _ dX11_whose_67 (ro_i _)
      · have hM := it_f c_ hM
        refine st_iload_n hR dX11_whose_47 3 rfl rfl (pc' := 48) rfl ?_
        refine st_aload_n hR dX11_whose_48 0 rfl rfl (pc' := 49) rfl ?_
        refine st_iload hR dX11_whose_49 4 rfl (pc' := 51) rfl ?_
        obtain ⟨r_5, hc_, hM⟩ := bd_e hM
        refine st_callV hR (k_X11_bitesSo hc_) cf_X11_356 (rm_le (Nat.le_of_ble_eq_true rfl) (Nat.le_of_ble_eq_true rfl)) [0] rfl rfl rfl 0 0 10 30 rfl rfl rfl rfl (rest := [.int l3]) rfl (Nat.le_of_ble_eq_true rfl) dX11_whose_51 (pc' := 54) rfl (Wn := [wX11 G q_m m_thrown m_tape m_taped m_size m_sort m_place m_value m_at m_fault m_words m_rows m_op m_arg m_codes m_names m_ofFeed m_teeth m_feedWords m_goWords m_facts m_pile m_levels m_best m_losses m_lossOf m_wasThere m_groupMany m_groupRow m_groupLoss m_isMarked]) rfl ?_
        refine st_iadd hR dX11_whose_54 (pc' := 55) rfl ?_
        refine st_topi (fun l3_1 e_ => ?_)
        have hM := lt_e e_ hM
        refine st_istore_n hR dX11_whose_55 rfl (Nat.le_of_ble_eq_true rfl) [1, 2, 3, 0, 4] (lv' := [(0, .ref (q_m 0)), (1, .int l1), (2, .int l2), (3, .int l3_1), (4, .int l4)]) rfl (pc' := 56) rfl ?_
        obtain ⟨l4_1, e_⟩ : ∃ y : Int32, y = l4 + 1 := ⟨_, rfl⟩
        refine st_iinc hR dX11_whose_56 (Nat.le_of_ble_eq_true rfl) 4 [1, 2, 3, 4, 0] (v := l4_1) rfl (by rw [e_]; rfl) (lv' := [(0, .ref (q_m 0)), (1, .int l1), (2, .int l2), (3, .int l3_1), (4, .int l4_1)]) rfl (pc' := 59) rfl ?_
        have hM := lt_e e_ hM
        refine st_goto hR dX11_whose_59 (tgt := 38) (by decide) ?_
        exact ih38 _ _ _ _ _ hM
  refine st_aload_n hR dX11_whose_0 0 rfl rfl (pc' := 1) rfl ?_
  refine st_iconst hR dX11_whose_1 (v := 0) rfl (pc' := 2) rfl ?_
  refine st_put hR dX11_whose_2 fp_X11_1_10_0 0 0 rfl rfl (Nat.le_of_ble_eq_true rfl) rfl rfl (pc' := 5) rfl (W' := [wX11 G q_m 0 m_tape m_taped m_size m_sort m_place m_value m_at m_fault m_words m_rows m_op m_arg m_codes m_names m_ofFeed m_teeth m_feedWords m_goWords m_facts m_pile m_levels m_best m_losses m_lossOf m_wasThere m_groupMany m_groupRow m_groupLoss m_isMarked]) rfl ?_
  refine st_aload_n hR dX11_whose_5 0 rfl rfl (pc' := 6) rfl ?_
  refine st_iload_n hR dX11_whose_6 1 rfl rfl (pc' := 7) rfl ?_
  obtain ⟨r_1, hc_, hM⟩ := bd_e hM
  refine st_callV hR (k_X11_isFarm hc_) cf_X11_298 (rm_le (Nat.le_of_ble_eq_true rfl) (Nat.le_of_ble_eq_true rfl)) [0] rfl rfl rfl 0 0 10 30 rfl rfl rfl rfl (rest := []) rfl (Nat.le_of_ble_eq_true rfl) dX11_whose_7 (pc' := 10) rfl (Wn := [wX11 G q_m 0 m_tape m_taped m_size m_sort m_place m_value m_at m_fault m_words m_rows m_op m_arg m_codes m_names m_ofFeed m_teeth m_feedWords m_goWords m_facts m_pile m_levels m_best m_losses m_lossOf m_wasThere m_groupMany m_groupRow m_groupLoss m_isMarked]) rfl ?_
  refine st_if_eq hR dX11_whose_10 (tgt := 31) (by decide) (pc' := 13) rfl (fun c_ => ?_) (fun c_ => ?_)
  · have hM := it_t c_ hM
    refine st_iconst hR dX11_whose_31 (v := (-1)) (by decide) (pc' := 32) rfl ?_
    cases hM
    exact hret _ _ dX11_whose_32 (ro_i _)
  · have hM := it_f c_ hM
    refine st_iload_n hR dX11_whose_13 2 rfl rfl (pc' := 14) rfl ?_
    refine st_iconst hR dX11_whose_14 (v := 0) rfl (pc' := 15) rfl ?_
    refine st_iconst hR dX11_whose_15 (v := 1) rfl (pc' := 16) rfl ?_
    obtain ⟨r_2, hc_, hM⟩ := bd_e hM
    refine st_callS hR (k_X11_within hc_) cf_X11_301 (rm_le (Nat.le_of_ble_eq_true rfl) (Nat.le_of_ble_eq_true rfl)) [] rfl rfl rfl rfl (rest := []) rfl (Nat.le_of_ble_eq_true rfl) dX11_whose_16 (pc' := 19) rfl (Wn := [wX11 G q_m 0 m_tape m_taped m_size m_sort m_place m_value m_at m_fault m_words m_rows m_op m_arg m_codes m_names m_ofFeed m_teeth m_feedWords m_goWords m_facts m_pile m_levels m_best m_losses m_lossOf m_wasThere m_groupMany m_groupRow m_groupLoss m_isMarked]) rfl ?_
    refine st_if_eq hR dX11_whose_19 (tgt := 31) (by decide) (pc' := 22) rfl (fun c_ => ?_) (fun c_ => ?_)
    · have hM := it_t c_ hM
      refine st_iconst hR dX11_whose_31 (v := (-1)) (by decide) (pc' := 32) rfl ?_
      cases hM
      exact hret _ _ dX11_whose_32 (ro_i _)
    · have hM := it_f c_ hM
      refine st_aload_n hR dX11_whose_22 0 rfl rfl (pc' := 23) rfl ?_
      refine st_iload_n hR dX11_whose_23 1 rfl rfl (pc' := 24) rfl ?_
      refine st_iconst hR dX11_whose_24 (v := 2) rfl (pc' := 25) rfl ?_
      obtain ⟨r_3, hc_, hM⟩ := bd_e hM
      refine st_callV hR (k_X11_of hc_) cf_X11_251 (rm_le (Nat.le_of_ble_eq_true rfl) (Nat.le_of_ble_eq_true rfl)) [0] rfl rfl rfl 0 0 10 30 rfl rfl rfl rfl (rest := []) rfl (Nat.le_of_ble_eq_true rfl) dX11_whose_25 (pc' := 28) rfl (Wn := [wX11 G q_m 0 m_tape m_taped m_size m_sort m_place m_value m_at m_fault m_words m_rows m_op m_arg m_codes m_names m_ofFeed m_teeth m_feedWords m_goWords m_facts m_pile m_levels m_best m_losses m_lossOf m_wasThere m_groupMany m_groupRow m_groupLoss m_isMarked]) rfl ?_
      refine st_if_ne hR dX11_whose_28 (tgt := 33) (by decide) (pc' := 31) rfl (fun c_ => ?_) (fun c_ => ?_)
      · have hM := it_f c_ hM
        refine st_iconst hR dX11_whose_33 (v := 0) rfl (pc' := 34) rfl ?_
        refine st_istore_n hR dX11_whose_34 rfl (Nat.le_of_ble_eq_true rfl) [1, 2, 3, 0] (lv' := [(0, .ref (q_m 0)), (1, .int l1), (2, .int l2), (3, .int 0)]) rfl (pc' := 35) rfl ?_
        refine st_iconst hR dX11_whose_35 (v := 0) rfl (pc' := 36) rfl ?_
        refine st_istore hR dX11_whose_36 (Nat.le_of_ble_eq_true rfl) [1, 2, 3, 4, 0] (lv' := [(0, .ref (q_m 0)), (1, .int l1), (2, .int l2), (3, .int 0), (4, .int 0)]) rfl (pc' := 38) rfl ?_
        exact L38 FU _ _ _ _ _ hM
      · have hM := it_t c_ hM
        refine st_iconst hR dX11_whose_31 (v := (-1)) (by decide) (pc' := 32) rfl ?_
        cases hM
        exact hret _ _ dX11_whose_32 (ro_i _)
set_option maxHeartbeats 16000000 in
set_option maxRecDepth 100000 in
theorem k_X11_bits {l : Launch} {G : GG}  {l0 : Int32} {o_r : Int32} (hM : f_X11_bits l0 = some o_r) : MC l G yX11_bits cX11_bits 3 (some .int) (RM 0) [.int l0] [] (some (.int o_r)) [] := by
  refine MC.of pn_X11 (Nat.le_of_ble_eq_true rfl) (fun K hR hret => ?_)
  have hR : Rl l G RX11 cX11_bits 3 (RM 0) K := hR
  show K [] [(0, .int l0)] 0 []
  have L4 : ∀ (n4 : Nat) (l0 : Int32) (l1 : Int32) (l2 : Int32), f_X11_bits_L4   n4 l0 l1 l2 = some o_r → K [] [(0, .int l0), (1, .int l1), (2, .int l2)] 4 [] := by
    intro n4
    induction n4 with
    | zero => intro l0 l1 l2 hM; exact no_some hM
    | succ n4 ih4 =>
      intro l0 l1 l2 hM
      have hM : f_X11_bits_L4b  (f_X11_bits_L4   n4)  l0 l1 l2 = some o_r := hM
      refine st_iload_n hR dX11_bits_4 2 rfl rfl (pc' := 5) rfl ?_
      refine st_bipush hR dX11_bits_5 (v := 6) rfl (pc' := 7) rfl ?_
      refine st_icmp_ge hR dX11_bits_7 (tgt := 24) (by decide) (pc' := 10) rfl (fun c_ => ?_) (fun c_ => ?_)
      · have hM := it_t c_ hM
        refine st_iload_n hR dX11_bits_24 1 rfl rfl (pc' := 25) rfl ?_
        cases hM
        exact hret _ _ dX11_bits_25 (ro_i _)
      · have hM := it_f c_ hM
        refine st_iload_n hR dX11_bits_10 1 rfl rfl (pc' := 11) rfl ?_
        refine st_iload_n hR dX11_bits_11 0 rfl rfl (pc' := 12) rfl ?_
        refine st_iload_n hR dX11_bits_12 2 rfl rfl (pc' := 13) rfl ?_
        refine st_ishr hR dX11_bits_13 (pc' := 14) rfl ?_
        refine st_iconst hR dX11_bits_14 (v := 1) rfl (pc' := 15) rfl ?_
        refine st_iand hR dX11_bits_15 (pc' := 16) rfl ?_
        refine st_iadd hR dX11_bits_16 (pc' := 17) rfl ?_
        refine st_topi (fun l1_1 e_ => ?_)
        have hM := lt_e e_ hM
        refine st_istore_n hR dX11_bits_17 rfl (Nat.le_of_ble_eq_true rfl) [1, 0, 2] (lv' := [(0, .int l0), (1, .int l1_1), (2, .int l2)]) rfl (pc' := 18) rfl ?_
        obtain ⟨l2_1, e_⟩ : ∃ y : Int32, y = l2 + 1 := ⟨_, rfl⟩
        refine st_iinc hR dX11_bits_18 (Nat.le_of_ble_eq_true rfl) 2 [1, 2, 0] (v := l2_1) rfl (by rw [e_]; rfl) (lv' := [(0, .int l0), (1, .int l1_1), (2, .int l2_1)]) rfl (pc' := 21) rfl ?_
        have hM := lt_e e_ hM
        refine st_goto hR dX11_bits_21 (tgt := 4) (by decide) ?_
        exact ih4 _ _ _ hM
  refine st_iconst hR dX11_bits_0 (v := 0) rfl (pc' := 1) rfl ?_
  refine st_istore_n hR dX11_bits_1 rfl (Nat.le_of_ble_eq_true rfl) [1, 0] (lv' := [(0, .int l0), (1, .int 0)]) rfl (pc' := 2) rfl ?_
  refine st_iconst hR dX11_bits_2 (v := 0) rfl (pc' := 3) rfl ?_
  refine st_istore_n hR dX11_bits_3 rfl (Nat.le_of_ble_eq_true rfl) [1, 2, 0] (lv' := [(0, .int l0), (1, .int 0), (2, .int 0)]) rfl (pc' := 4) rfl ?_
  exact L4 FU _ _ _ hM
set_option maxHeartbeats 16000000 in
set_option maxRecDepth 100000 in
theorem k_X11_chance {l : Launch} {G : GG} {q_m : Nat → Nat} {m_thrown m_taped m_size m_at m_fault m_codes m_ofFeed m_teeth m_levels m_groupMany : Int32} {m_tape m_sort m_place m_rows m_op m_arg m_feedWords m_goWords m_facts m_pile m_best m_losses m_lossOf m_wasThere m_groupRow m_groupLoss m_isMarked : Nat → Int32} {m_value m_words m_names : Nat → Int64} {l1 : Int32} {o_r : Int32} {o_m_thrown : Int32} (hM : f_X11_chance m_rows m_thrown l1 = some (o_r, o_m_thrown)) : MC l G yX11_chance cX11_chance 7 (some .int) (RM 2) [.ref (q_m 0), .int l1] [wX11 G q_m m_thrown m_tape m_taped m_size m_sort m_place m_value m_at m_fault m_words m_rows m_op m_arg m_codes m_names m_ofFeed m_teeth m_feedWords m_goWords m_facts m_pile m_levels m_best m_losses m_lossOf m_wasThere m_groupMany m_groupRow m_groupLoss m_isMarked] (some (.int o_r)) [wX11 G q_m o_m_thrown m_tape m_taped m_size m_sort m_place m_value m_at m_fault m_words m_rows m_op m_arg m_codes m_names m_ofFeed m_teeth m_feedWords m_goWords m_facts m_pile m_levels m_best m_losses m_lossOf m_wasThere m_groupMany m_groupRow m_groupLoss m_isMarked] := by
  refine MC.of pn_X11 (Nat.le_of_ble_eq_true rfl) (fun K hR hret => ?_)
  have hR : Rl l G RX11 cX11_chance 7 (RM 2) K := hR
  show K [wX11 G q_m m_thrown m_tape m_taped m_size m_sort m_place m_value m_at m_fault m_words m_rows m_op m_arg m_codes m_names m_ofFeed m_teeth m_feedWords m_goWords m_facts m_pile m_levels m_best m_losses m_lossOf m_wasThere m_groupMany m_groupRow m_groupLoss m_isMarked] [(0, .ref (q_m 0)), (1, .int l1)] 0 []
  have J133 : ∀ (m_thrown : Int32) (l1 : Int32) (l3 : Int32) (s0 : Int32), f_X11_chance_B133  m_rows m_thrown l1 l3 s0 = some (o_r, o_m_thrown) → K [wX11 G q_m m_thrown m_tape m_taped m_size m_sort m_place m_value m_at m_fault m_words m_rows m_op m_arg m_codes m_names m_ofFeed m_teeth m_feedWords m_goWords m_facts m_pile m_levels m_best m_losses m_lossOf m_wasThere m_groupMany m_groupRow m_groupLoss m_isMarked] [(1, .int l1), (3, .int l3)] 133 [.int s0] := by
    intro m_thrown l1 l3 s0 hM
    refine st_istore hR dX11_chance_133 (Nat.le_of_ble_eq_true rfl) [1, 2, 0] (lv' := [(1, .int l1), (3, .int l3), (5, .int s0)]) rfl (pc' := 135) rfl ?_
    refine st_iload hR dX11_chance_135 2 rfl (pc' := 137) rfl ?_
    refine st_iload_n hR dX11_chance_137 1 rfl rfl (pc' := 138) rfl ?_
    obtain ⟨r_1, hc_, hM⟩ := bd_e hM
    refine st_callS hR (k_X11_common hc_) cf_X11_359 (rm_le (Nat.le_of_ble_eq_true rfl) (Nat.le_of_ble_eq_true rfl)) [] rfl rfl rfl rfl (rest := []) rfl (Nat.le_of_ble_eq_true rfl) dX11_chance_138 (pc' := 141) rfl (Wn := [wX11 G q_m m_thrown m_tape m_taped m_size m_sort m_place m_value m_at m_fault m_words m_rows m_op m_arg m_codes m_names m_ofFeed m_teeth m_feedWords m_goWords m_facts m_pile m_levels m_best m_losses m_lossOf m_wasThere m_groupMany m_groupRow m_groupLoss m_isMarked]) rfl ?_
    refine st_istore hR dX11_chance_141 (Nat.le_of_ble_eq_true rfl) [1, 2, 3, 0] (lv' := [(1, .int l1), (3, .int l3), (5, .int s0), (6, .int r_1)]) rfl (pc' := 143) rfl ?_
    refine st_iload_n hR dX11_chance_143 0 rfl rfl (pc' := 144) rfl ?_
    refine st_if_ne hR dX11_chance_144 (tgt := 155) (by decide) (pc' := 147) rfl (fun c_ => ?_) (fun c_ => ?_)
    · have hM := it_f c_ hM
      refine st_iload_n hR dX11_chance_155 1 rfl rfl (pc' := 156) rfl ?_
      refine st_iload hR dX11_chance_156 3 rfl (pc' := 158) rfl ?_
      obtain ⟨hnz_, hM⟩ := g_nz_e hM
      refine st_idiv hR dX11_chance_158 (pc' := 159) rfl hnz_ ?_
      cases hM
      exact hret _ _ dX11_chance_159 (ro_i _)
    · have hM := it_t c_ hM
      refine st_iload hR dX11_chance_147 2 rfl (pc' := 149) rfl ?_
      refine st_iload hR dX11_chance_149 3 rfl (pc' := 151) rfl ?_
      obtain ⟨hnz_, hM⟩ := g_nz_e hM
      refine st_idiv hR dX11_chance_151 (pc' := 152) rfl hnz_ ?_
      refine st_goto hR dX11_chance_152 (tgt := 159) (by decide) ?_
      cases hM
      exact hret _ _ dX11_chance_159 (ro_i _)
  have L33 : ∀ (n33 : Nat) (m_thrown : Int32) (l1 : Int32) (l2 : Int32) (l3 : Int32) (l4 : Int32) (l5 : Int32), f_X11_chance_L33  m_rows n33 m_thrown l1 l2 l3 l4 l5 = some (o_r, o_m_thrown) → K [wX11 G q_m m_thrown m_tape m_taped m_size m_sort m_place m_value m_at m_fault m_words m_rows m_op m_arg m_codes m_names m_ofFeed m_teeth m_feedWords m_goWords m_facts m_pile m_levels m_best m_losses m_lossOf m_wasThere m_groupMany m_groupRow m_groupLoss m_isMarked] [(0, .ref (q_m 0)), (1, .int l1), (2, .int l2), (3, .int l3), (4, .int l4), (5, .int l5)] 33 [] := by
    intro n33
    induction n33 with
    | zero => intro m_thrown l1 l2 l3 l4 l5 hM; exact no_some hM
    | succ n33 ih33 =>
      have J111 : ∀ (m_thrown : Int32) (l1 : Int32) (l2 : Int32) (l3 : Int32) (l5 : Int32) (s0 : Int32) (s1 : Int32), f_X11_chance_B111  (f_X11_chance_L33  m_rows n33) m_rows m_thrown l1 l2 l3 l5 s0 s1 = some (o_r, o_m_thrown) → K [wX11 G q_m m_thrown m_tape m_taped m_size m_sort m_place m_value m_at m_fault m_words m_rows m_op m_arg m_codes m_names m_ofFeed m_teeth m_feedWords m_goWords m_facts m_pile m_levels m_best m_losses m_lossOf m_wasThere m_groupMany m_groupRow m_groupLoss m_isMarked] [(0, .ref (q_m 0)), (1, .int l1), (2, .int l2), (3, .int l3), (5, .int l5)] 111 [.int s0, .int s1] := by
        intro m_thrown l1 l2 l3 l5 s0 s1 hM
        refine st_iadd hR dX11_chance_111 (pc' := 112) rfl ?_
        refine st_topi (fun l4_1 e_ => ?_)
        have hM := lt_e e_ hM
        refine st_istore hR dX11_chance_112 (Nat.le_of_ble_eq_true rfl) [1, 2, 3, 4, 0, 5] (lv' := [(0, .ref (q_m 0)), (1, .int l1), (2, .int l2), (3, .int l3), (4, .int l4_1), (5, .int l5)]) rfl (pc' := 114) rfl ?_
        obtain ⟨l5_1, e_⟩ : ∃ y : Int32, y = l5 + 1 := ⟨_, rfl⟩
        refine st_iinc hR dX11_chance_114 (Nat.le_of_ble_eq_true rfl) 5 [1, 2, 3, 4, 5, 0] (v := l5_1) rfl (by rw [e_]; rfl) (lv' := [(0, .ref (q_m 0)), (1, .int l1), (2, .int l2), (3, .int l3), (4, .int l4_1), (5, .int l5_1)]) rfl (pc' := 117) rfl ?_
        have hM := lt_e e_ hM
        refine st_goto hR dX11_chance_117 (tgt := 33) (by decide) ?_
        exact ih33 _ _ _ _ _ _ hM
      have J98 : ∀ (m_thrown : Int32) (l1 : Int32) (l2 : Int32) (l4 : Int32) (l5 : Int32) (l6 : Int32) (s0 : Int32), f_X11_chance_B98  (f_X11_chance_L33  m_rows n33) m_rows m_thrown l1 l2 l4 l5 l6 s0 = some (o_r, o_m_thrown) → K [wX11 G q_m m_thrown m_tape m_taped m_size m_sort m_place m_value m_at m_fault m_words m_rows m_op m_arg m_codes m_names m_ofFeed m_teeth m_feedWords m_goWords m_facts m_pile m_levels m_best m_losses m_lossOf m_wasThere m_groupMany m_groupRow m_groupLoss m_isMarked] [(0, .ref (q_m 0)), (1, .int l1), (2, .int l2), (4, .int l4), (5, .int l5), (6, .int l6)] 98 [.int s0] := by
        intro m_thrown l1 l2 l4 l5 l6 s0 hM
        refine st_istore_n hR dX11_chance_98 rfl (Nat.le_of_ble_eq_true rfl) [1, 2, 3, 0, 4, 5, 6] (lv' := [(0, .ref (q_m 0)), (1, .int l1), (2, .int l2), (3, .int s0), (4, .int l4), (5, .int l5), (6, .int l6)]) rfl (pc' := 99) rfl ?_
        refine st_iload hR dX11_chance_99 4 rfl (pc' := 101) rfl ?_
        refine st_iload hR dX11_chance_101 6 rfl (pc' := 103) rfl ?_
        refine st_if_ne hR dX11_chance_103 (tgt := 110) (by decide) (pc' := 106) rfl (fun c_ => ?_) (fun c_ => ?_)
        · have hM := it_f c_ hM
          refine st_iconst hR dX11_chance_110 (v := 1) rfl (pc' := 111) rfl ?_
          exact st_lv hR [0, 1, 2, 3, 5] rfl (J111 _ _ _ _ _ _ _ hM)
        · have hM := it_t c_ hM
          refine st_iconst hR dX11_chance_106 (v := 0) rfl (pc' := 107) rfl ?_
          refine st_goto hR dX11_chance_107 (tgt := 111) (by decide) ?_
          exact st_lv hR [0, 1, 2, 3, 5] rfl (J111 _ _ _ _ _ _ _ hM)
      have J80 : ∀ (m_thrown : Int32) (l1 : Int32) (l3 : Int32) (l4 : Int32) (l5 : Int32) (l6 : Int32) (s0 : Int32) (s1 : Int32), f_X11_chance_B80  (f_X11_chance_L33  m_rows n33) m_rows m_thrown l1 l3 l4 l5 l6 s0 s1 = some (o_r, o_m_thrown) → K [wX11 G q_m m_thrown m_tape m_taped m_size m_sort m_place m_value m_at m_fault m_words m_rows m_op m_arg m_codes m_names m_ofFeed m_teeth m_feedWords m_goWords m_facts m_pile m_levels m_best m_losses m_lossOf m_wasThere m_groupMany m_groupRow m_groupLoss m_isMarked] [(0, .ref (q_m 0)), (1, .int l1), (3, .int l3), (4, .int l4), (5, .int l5), (6, .int l6)] 80 [.int s0, .int s1] := by
        intro m_thrown l1 l3 l4 l5 l6 s0 s1 hM
        refine st_iand hR dX11_chance_80 (pc' := 81) rfl ?_
        refine st_topi (fun l2_1 e_ => ?_)
        have hM := lt_e e_ hM
        refine st_istore_n hR dX11_chance_81 rfl (Nat.le_of_ble_eq_true rfl) [1, 2, 0, 3, 4, 5, 6] (lv' := [(0, .ref (q_m 0)), (1, .int l1), (2, .int l2_1), (3, .int l3), (4, .int l4), (5, .int l5), (6, .int l6)]) rfl (pc' := 82) rfl ?_
        refine st_iload hR dX11_chance_82 6 rfl (pc' := 84) rfl ?_
        refine st_if_ne hR dX11_chance_84 (tgt := 91) (by decide) (pc' := 87) rfl (fun c_ => ?_) (fun c_ => ?_)
        · have hM := it_f c_ hM
          refine st_iload_n hR dX11_chance_91 3 rfl rfl (pc' := 92) rfl ?_
          refine st_iload hR dX11_chance_92 6 rfl (pc' := 94) rfl ?_
          obtain ⟨r_1, hc_, hM⟩ := bd_e hM
          refine st_callS hR (k_X11_bits hc_) cf_X11_362 (rm_le (Nat.le_of_ble_eq_true rfl) (Nat.le_of_ble_eq_true rfl)) [] rfl rfl rfl rfl (rest := [.int l3]) rfl (Nat.le_of_ble_eq_true rfl) dX11_chance_94 (pc' := 97) rfl (Wn := [wX11 G q_m m_thrown m_tape m_taped m_size m_sort m_place m_value m_at m_fault m_words m_rows m_op m_arg m_codes m_names m_ofFeed m_teeth m_feedWords m_goWords m_facts m_pile m_levels m_best m_losses m_lossOf m_wasThere m_groupMany m_groupRow m_groupLoss m_isMarked]) rfl ?_
          refine st_imul hR dX11_chance_97 (pc' := 98) rfl ?_
          exact st_lv hR [0, 1, 2, 4, 5, 6] rfl (J98 _ _ _ _ _ _ _ hM)
        · have hM := it_t c_ hM
          refine st_iload_n hR dX11_chance_87 3 rfl rfl (pc' := 88) rfl ?_
          refine st_goto hR dX11_chance_88 (tgt := 98) (by decide) ?_
          exact st_lv hR [0, 1, 2, 4, 5, 6] rfl (J98 _ _ _ _ _ _ _ hM)
      have J66 : ∀ (m_thrown : Int32) (l1 : Int32) (l2 : Int32) (l3 : Int32) (l4 : Int32) (l5 : Int32) (s0 : Int32), f_X11_chance_B66  (f_X11_chance_L33  m_rows n33) m_rows m_thrown l1 l2 l3 l4 l5 s0 = some (o_r, o_m_thrown) → K [wX11 G q_m m_thrown m_tape m_taped m_size m_sort m_place m_value m_at m_fault m_words m_rows m_op m_arg m_codes m_names m_ofFeed m_teeth m_feedWords m_goWords m_facts m_pile m_levels m_best m_losses m_lossOf m_wasThere m_groupMany m_groupRow m_groupLoss m_isMarked] [(0, .ref (q_m 0)), (1, .int l1), (2, .int l2), (3, .int l3), (4, .int l4), (5, .int l5)] 66 [.int s0] := by
        intro m_thrown l1 l2 l3 l4 l5 s0 hM
        refine st_istore hR dX11_chance_66 (Nat.le_of_ble_eq_true rfl) [1, 2, 3, 4, 5, 6, 0] (lv' := [(0, .ref (q_m 0)), (1, .int l1), (2, .int l2), (3, .int l3), (4, .int l4), (5, .int l5), (6, .int s0)]) rfl (pc' := 68) rfl ?_
        refine st_iload_n hR dX11_chance_68 2 rfl rfl (pc' := 69) rfl ?_
        refine st_iload hR dX11_chance_69 6 rfl (pc' := 71) rfl ?_
        refine st_if_ne hR dX11_chance_71 (tgt := 78) (by decide) (pc' := 74) rfl (fun c_ => ?_) (fun c_ => ?_)
        · have hM := it_f c_ hM
          refine st_iload hR dX11_chance_78 6 rfl (pc' := 80) rfl ?_
          exact st_lv hR [0, 1, 3, 4, 5, 6] rfl (J80 _ _ _ _ _ _ _ _ hM)
        · have hM := it_t c_ hM
          refine st_iconst hR dX11_chance_74 (v := (-1)) (by decide) (pc' := 75) rfl ?_
          refine st_goto hR dX11_chance_75 (tgt := 80) (by decide) ?_
          exact st_lv hR [0, 1, 3, 4, 5, 6] rfl (J80 _ _ _ _ _ _ _ _ hM)
      intro m_thrown l1 l2 l3 l4 l5 hM
      have hM : f_X11_chance_L33b  (f_X11_chance_L33  m_rows n33) m_rows m_thrown l1 l2 l3 l4 l5 = some (o_r, o_m_thrown) := hM
      refine st_iload hR dX11_chance_33 5 rfl (pc' := 35) rfl ?_
      refine st_aload_n hR dX11_chance_35 0 rfl rfl (pc' := 36) rfl ?_
      obtain ⟨r_1, hc_, hM⟩ := bd_e hM
      refine st_callV hR (k_X11_farms hc_) cf_X11_248 (rm_le (Nat.le_of_ble_eq_true rfl) (Nat.le_of_ble_eq_true rfl)) [0] rfl rfl rfl 0 0 10 30 rfl rfl rfl rfl (rest := [.int l5]) rfl (Nat.le_of_ble_eq_true rfl) dX11_chance_36 (pc' := 39) rfl (Wn := [wX11 G q_m m_thrown m_tape m_taped m_size m_sort m_place m_value m_at m_fault m_words m_rows m_op m_arg m_codes m_names m_ofFeed m_teeth m_feedWords m_goWords m_facts m_pile m_levels m_best m_losses m_lossOf m_wasThere m_groupMany m_groupRow m_groupLoss m_isMarked]) rfl ?_
      refine st_icmp_ge hR dX11_chance_39 (tgt := 120) (by decide) (pc' := 42) rfl (fun c_ => ?_) (fun c_ => ?_)
      · have hM := it_t c_ hM
        refine st_iload hR dX11_chance_120 4 rfl (pc' := 122) rfl ?_
        refine st_if_ne hR dX11_chance_122 (tgt := 129) (by decide) (pc' := 125) rfl (fun c_ => ?_) (fun c_ => ?_)
        · have hM := it_f c_ hM
          refine st_iload_n hR dX11_chance_129 2 rfl rfl (pc' := 130) rfl ?_
          obtain ⟨r_2, hc_, hM⟩ := bd_e hM
          refine st_callS hR (k_X11_bits hc_) cf_X11_362 (rm_le (Nat.le_of_ble_eq_true rfl) (Nat.le_of_ble_eq_true rfl)) [] rfl rfl rfl rfl (rest := []) rfl (Nat.le_of_ble_eq_true rfl) dX11_chance_130 (pc' := 133) rfl (Wn := [wX11 G q_m m_thrown m_tape m_taped m_size m_sort m_place m_value m_at m_fault m_words m_rows m_op m_arg m_codes m_names m_ofFeed m_teeth m_feedWords m_goWords m_facts m_pile m_levels m_best m_losses m_lossOf m_wasThere m_groupMany m_groupRow m_groupLoss m_isMarked]) rfl ?_
          exact st_lv hR [1, 3] rfl (J133 _ _ _ _ hM)
        · have hM := it_t c_ hM
          refine st_iconst hR dX11_chance_125 (v := 1) rfl (pc' := 126) rfl ?_
          refine st_goto hR dX11_chance_126 (tgt := 133) (by decide) ?_
          exact st_lv hR [1, 3] rfl (J133 _ _ _ _ hM)
      · have hM := it_f c_ hM
        refine st_aload_n hR dX11_chance_42 0 rfl rfl (pc' := 43) rfl ?_
        refine st_iload hR dX11_chance_43 5 rfl (pc' := 45) rfl ?_
        refine st_iconst hR dX11_chance_45 (v := 2) rfl (pc' := 46) rfl ?_
        obtain ⟨r_3, hc_, hM⟩ := bd_e hM
        refine st_callV hR (k_X11_of hc_) cf_X11_251 (rm_le (Nat.le_of_ble_eq_true rfl) (Nat.le_of_ble_eq_true rfl)) [0] rfl rfl rfl 0 0 10 30 rfl rfl rfl rfl (rest := []) rfl (Nat.le_of_ble_eq_true rfl) dX11_chance_46 (pc' := 49) rfl (Wn := [wX11 G q_m m_thrown m_tape m_taped m_size m_sort m_place m_value m_at m_fault m_words m_rows m_op m_arg m_codes m_names m_ofFeed m_teeth m_feedWords m_goWords m_facts m_pile m_levels m_best m_losses m_lossOf m_wasThere m_groupMany m_groupRow m_groupLoss m_isMarked]) rfl ?_
        refine st_if_le hR dX11_chance_49 (tgt := 65) (by decide) (pc' := 52) rfl (fun c_ => ?_) (fun c_ => ?_)
        · have hM := it_t c_ hM
          refine st_iconst hR dX11_chance_65 (v := 0) rfl (pc' := 66) rfl ?_
          exact J66 _ _ _ _ _ _ _ hM
        · have hM := it_f c_ hM
          refine st_aload_n hR dX11_chance_52 0 rfl rfl (pc' := 53) rfl ?_
          refine st_aload_n hR dX11_chance_53 0 rfl rfl (pc' := 54) rfl ?_
          refine st_iload hR dX11_chance_54 5 rfl (pc' := 56) rfl ?_
          obtain ⟨r_4, hc_, hM⟩ := bd_e hM
          refine st_callV hR (k_X11_homeOf hc_) cf_X11_283 (rm_le (Nat.le_of_ble_eq_true rfl) (Nat.le_of_ble_eq_true rfl)) [0] rfl rfl rfl 0 0 10 30 rfl rfl rfl rfl (rest := [.ref (q_m 0)]) rfl (Nat.le_of_ble_eq_true rfl) dX11_chance_56 (pc' := 59) rfl (Wn := [wX11 G q_m m_thrown m_tape m_taped m_size m_sort m_place m_value m_at m_fault m_words m_rows m_op m_arg m_codes m_names m_ofFeed m_teeth m_feedWords m_goWords m_facts m_pile m_levels m_best m_losses m_lossOf m_wasThere m_groupMany m_groupRow m_groupLoss m_isMarked]) rfl ?_
          obtain ⟨r_5, hc_, hM⟩ := bd_e hM
          refine st_callV hR (k_X11_near hc_) cf_X11_305 (rm_le (Nat.le_of_ble_eq_true rfl) (Nat.le_of_ble_eq_true rfl)) [0] rfl rfl rfl 0 0 10 30 rfl rfl rfl rfl (rest := []) rfl (Nat.le_of_ble_eq_true rfl) dX11_chance_59 (pc' := 62) rfl (Wn := [wX11 G q_m m_thrown m_tape m_taped m_size m_sort m_place m_value m_at m_fault m_words m_rows m_op m_arg m_codes m_names m_ofFeed m_teeth m_feedWords m_goWords m_facts m_pile m_levels m_best m_losses m_lossOf m_wasThere m_groupMany m_groupRow m_groupLoss m_isMarked]) rfl ?_
          refine st_goto hR dX11_chance_62 (tgt := 66) (by decide) ?_
          exact J66 _ _ _ _ _ _ _ hM
  refine st_aload_n hR dX11_chance_0 0 rfl rfl (pc' := 1) rfl ?_
  refine st_iconst hR dX11_chance_1 (v := 0) rfl (pc' := 2) rfl ?_
  refine st_put hR dX11_chance_2 fp_X11_1_10_0 0 0 rfl rfl (Nat.le_of_ble_eq_true rfl) rfl rfl (pc' := 5) rfl (W' := [wX11 G q_m 0 m_tape m_taped m_size m_sort m_place m_value m_at m_fault m_words m_rows m_op m_arg m_codes m_names m_ofFeed m_teeth m_feedWords m_goWords m_facts m_pile m_levels m_best m_losses m_lossOf m_wasThere m_groupMany m_groupRow m_groupLoss m_isMarked]) rfl ?_
  refine st_iload_n hR dX11_chance_5 1 rfl rfl (pc' := 6) rfl ?_
  refine st_iconst hR dX11_chance_6 (v := 0) rfl (pc' := 7) rfl ?_
  refine st_iconst hR dX11_chance_7 (v := 1) rfl (pc' := 8) rfl ?_
  obtain ⟨r_1, hc_, hM⟩ := bd_e hM
  refine st_callS hR (k_X11_within hc_) cf_X11_301 (rm_le (Nat.le_of_ble_eq_true rfl) (Nat.le_of_ble_eq_true rfl)) [] rfl rfl rfl rfl (rest := []) rfl (Nat.le_of_ble_eq_true rfl) dX11_chance_8 (pc' := 11) rfl (Wn := [wX11 G q_m 0 m_tape m_taped m_size m_sort m_place m_value m_at m_fault m_words m_rows m_op m_arg m_codes m_names m_ofFeed m_teeth m_feedWords m_goWords m_facts m_pile m_levels m_best m_losses m_lossOf m_wasThere m_groupMany m_groupRow m_groupLoss m_isMarked]) rfl ?_
  refine st_if_ne hR dX11_chance_11 (tgt := 16) (by decide) (pc' := 14) rfl (fun c_ => ?_) (fun c_ => ?_)
  · have hM := it_f c_ hM
    refine st_iconst hR dX11_chance_16 (v := 1) rfl (pc' := 17) rfl ?_
    refine st_aload_n hR dX11_chance_17 0 rfl rfl (pc' := 18) rfl ?_
    obtain ⟨r_2, hc_, hM⟩ := bd_e hM
    refine st_callV hR (k_X11_farms hc_) cf_X11_248 (rm_le (Nat.le_of_ble_eq_true rfl) (Nat.le_of_ble_eq_true rfl)) [0] rfl rfl rfl 0 0 10 30 rfl rfl rfl rfl (rest := [.int 1]) rfl (Nat.le_of_ble_eq_true rfl) dX11_chance_18 (pc' := 21) rfl (Wn := [wX11 G q_m 0 m_tape m_taped m_size m_sort m_place m_value m_at m_fault m_words m_rows m_op m_arg m_codes m_names m_ofFeed m_teeth m_feedWords m_goWords m_facts m_pile m_levels m_best m_losses m_lossOf m_wasThere m_groupMany m_groupRow m_groupLoss m_isMarked]) rfl ?_
    refine st_ishl hR dX11_chance_21 (pc' := 22) rfl ?_
    refine st_iconst hR dX11_chance_22 (v := 1) rfl (pc' := 23) rfl ?_
    refine st_isub hR dX11_chance_23 (pc' := 24) rfl ?_
    refine st_topi (fun l2_1 e_ => ?_)
    have hM := lt_e e_ hM
    refine st_istore_n hR dX11_chance_24 rfl (Nat.le_of_ble_eq_true rfl) [1, 2, 0] (lv' := [(0, .ref (q_m 0)), (1, .int l1), (2, .int l2_1)]) rfl (pc' := 25) rfl ?_
    refine st_iconst hR dX11_chance_25 (v := 1) rfl (pc' := 26) rfl ?_
    refine st_istore_n hR dX11_chance_26 rfl (Nat.le_of_ble_eq_true rfl) [1, 2, 3, 0] (lv' := [(0, .ref (q_m 0)), (1, .int l1), (2, .int l2_1), (3, .int 1)]) rfl (pc' := 27) rfl ?_
    refine st_iconst hR dX11_chance_27 (v := 0) rfl (pc' := 28) rfl ?_
    refine st_istore hR dX11_chance_28 (Nat.le_of_ble_eq_true rfl) [1, 2, 3, 4, 0] (lv' := [(0, .ref (q_m 0)), (1, .int l1), (2, .int l2_1), (3, .int 1), (4, .int 0)]) rfl (pc' := 30) rfl ?_
    refine st_iconst hR dX11_chance_30 (v := 0) rfl (pc' := 31) rfl ?_
    refine st_istore hR dX11_chance_31 (Nat.le_of_ble_eq_true rfl) [1, 2, 3, 4, 5, 0] (lv' := [(0, .ref (q_m 0)), (1, .int l1), (2, .int l2_1), (3, .int 1), (4, .int 0), (5, .int 0)]) rfl (pc' := 33) rfl ?_
    exact L33 FU _ _ _ _ _ _ hM
  · have hM := it_t c_ hM
    refine st_iconst hR dX11_chance_14 (v := (-1)) (by decide) (pc' := 15) rfl ?_
    cases hM
    exact hret _ _ dX11_chance_15 (ro_i _)
set_option maxHeartbeats 16000000 in
set_option maxRecDepth 100000 in
theorem k_X11_mark {l : Launch} {G : GG} {q_m : Nat → Nat} {m_thrown m_taped m_size m_at m_fault m_codes m_ofFeed m_teeth m_levels m_groupMany : Int32} {m_tape m_sort m_place m_rows m_op m_arg m_feedWords m_goWords m_facts m_pile m_best m_losses m_lossOf m_wasThere m_groupRow m_groupLoss m_isMarked : Nat → Int32} {m_value m_words m_names : Nat → Int64} {l1 l2 : Int32} {o_r : Int32} {o_m_thrown : Int32} {o_m_rows : Nat → Int32} {o_m_isMarked : Nat → Int32} (hM : f_X11_mark m_thrown m_rows m_isMarked l1 l2 = some (o_r, o_m_thrown, o_m_rows, o_m_isMarked)) : MC l G yX11_mark cX11_mark 3 (some .boolean) (RM 1) [.ref (q_m 0), .int l1, .int l2] [wX11 G q_m m_thrown m_tape m_taped m_size m_sort m_place m_value m_at m_fault m_words m_rows m_op m_arg m_codes m_names m_ofFeed m_teeth m_feedWords m_goWords m_facts m_pile m_levels m_best m_losses m_lossOf m_wasThere m_groupMany m_groupRow m_groupLoss m_isMarked] (some (.int o_r)) [wX11 G q_m o_m_thrown m_tape m_taped m_size m_sort m_place m_value m_at m_fault m_words o_m_rows m_op m_arg m_codes m_names m_ofFeed m_teeth m_feedWords m_goWords m_facts m_pile m_levels m_best m_losses m_lossOf m_wasThere m_groupMany m_groupRow m_groupLoss o_m_isMarked] := by
  refine MC.of pn_X11 (Nat.le_of_ble_eq_true rfl) (fun K hR hret => ?_)
  have hR : Rl l G RX11 cX11_mark 3 (RM 1) K := hR
  show K [wX11 G q_m m_thrown m_tape m_taped m_size m_sort m_place m_value m_at m_fault m_words m_rows m_op m_arg m_codes m_names m_ofFeed m_teeth m_feedWords m_goWords m_facts m_pile m_levels m_best m_losses m_lossOf m_wasThere m_groupMany m_groupRow m_groupLoss m_isMarked] [(0, .ref (q_m 0)), (1, .int l1), (2, .int l2)] 0 []
  have J59 : ∀ (m_thrown : Int32) (m_rows : Nat → Int32) (m_isMarked : Nat → Int32) (s0 : Int32) (s1 : Int32), f_X11_mark_B59   m_thrown m_rows m_isMarked s0 s1 = some (o_r, o_m_thrown, o_m_rows, o_m_isMarked) → K [wX11 G q_m m_thrown m_tape m_taped m_size m_sort m_place m_value m_at m_fault m_words m_rows m_op m_arg m_codes m_names m_ofFeed m_teeth m_feedWords m_goWords m_facts m_pile m_levels m_best m_losses m_lossOf m_wasThere m_groupMany m_groupRow m_groupLoss m_isMarked] [] 59 [.int s0, .int s1, .ref (q_m 0)] := by
    intro m_thrown m_rows m_isMarked s0 s1 hM
    obtain ⟨m_rows_1, hc_, hM⟩ := bd_e hM
    refine st_callV hR (k_X11_carry hc_) cf_X11_182 (rm_le (Nat.le_of_ble_eq_true rfl) (Nat.le_of_ble_eq_true rfl)) [0] rfl rfl rfl 0 0 10 30 rfl rfl rfl rfl (rest := []) rfl (Nat.le_of_ble_eq_true rfl) dX11_mark_59 (pc' := 62) rfl (Wn := [wX11 G q_m m_thrown m_tape m_taped m_size m_sort m_place m_value m_at m_fault m_words m_rows_1 m_op m_arg m_codes m_names m_ofFeed m_teeth m_feedWords m_goWords m_facts m_pile m_levels m_best m_losses m_lossOf m_wasThere m_groupMany m_groupRow m_groupLoss m_isMarked]) rfl ?_
    refine st_iconst hR dX11_mark_62 (v := 1) rfl (pc' := 63) rfl ?_
    cases hM
    exact hret _ _ dX11_mark_63 (ro_z (Or.inr rfl))
  have J48 : ∀ (m_thrown : Int32) (m_rows : Nat → Int32) (m_isMarked : Nat → Int32) (l1 : Int32) (l2 : Int32) (s0 : Int32), f_X11_mark_B48   m_thrown m_rows m_isMarked l1 l2 s0 = some (o_r, o_m_thrown, o_m_rows, o_m_isMarked) → K [wX11 G q_m m_thrown m_tape m_taped m_size m_sort m_place m_value m_at m_fault m_words m_rows m_op m_arg m_codes m_names m_ofFeed m_teeth m_feedWords m_goWords m_facts m_pile m_levels m_best m_losses m_lossOf m_wasThere m_groupMany m_groupRow m_groupLoss m_isMarked] [(1, .int l1), (2, .int l2)] 48 [.int s0, .ref (q_m 0)] := by
    intro m_thrown m_rows m_isMarked l1 l2 s0 hM
    refine st_iload_n hR dX11_mark_48 1 rfl rfl (pc' := 49) rfl ?_
    refine st_if_eq hR dX11_mark_49 (tgt := 56) (by decide) (pc' := 52) rfl (fun c_ => ?_) (fun c_ => ?_)
    · have hM := it_t c_ hM
      refine st_iconst hR dX11_mark_56 (v := 2) rfl (pc' := 57) rfl ?_
      refine st_iload_n hR dX11_mark_57 0 rfl rfl (pc' := 58) rfl ?_
      refine st_iadd hR dX11_mark_58 (pc' := 59) rfl ?_
      exact st_lv hR [] rfl (J59 _ _ _ _ _ hM)
    · have hM := it_f c_ hM
      refine st_iconst hR dX11_mark_52 (v := 0) rfl (pc' := 53) rfl ?_
      refine st_goto hR dX11_mark_53 (tgt := 59) (by decide) ?_
      exact st_lv hR [] rfl (J59 _ _ _ _ _ hM)
  have J29 : ∀ (m_thrown : Int32) (m_rows : Nat → Int32) (m_isMarked : Nat → Int32) (l1 : Int32) (l2 : Int32), f_X11_mark_B29   m_thrown m_rows m_isMarked l1 l2 = some (o_r, o_m_thrown, o_m_rows, o_m_isMarked) → K [wX11 G q_m m_thrown m_tape m_taped m_size m_sort m_place m_value m_at m_fault m_words m_rows m_op m_arg m_codes m_names m_ofFeed m_teeth m_feedWords m_goWords m_facts m_pile m_levels m_best m_losses m_lossOf m_wasThere m_groupMany m_groupRow m_groupLoss m_isMarked] [(0, .ref (q_m 0)), (1, .int l1), (2, .int l2)] 29 [] := by
    intro m_thrown m_rows m_isMarked l1 l2 hM
    refine st_aload_n hR dX11_mark_29 0 rfl rfl (pc' := 30) rfl ?_
    refine st_get hR dX11_mark_30 fg_X11_115_10_29 0 0 rfl rfl rfl (pc' := 33) rfl ?_
    refine st_iload_n hR dX11_mark_33 1 rfl rfl (pc' := 34) rfl ?_
    refine st_iconst hR dX11_mark_34 (v := 1) rfl (pc' := 35) rfl ?_
    obtain ⟨hin_, hM⟩ := g_in_e hM
    refine st_zast hR dX11_mark_35 0 20 rfl rfl hin_ (ix := (ix l1)) rfl (pc' := 36) rfl (fun m_isMarked_1 => [wX11 G q_m m_thrown m_tape m_taped m_size m_sort m_place m_value m_at m_fault m_words m_rows m_op m_arg m_codes m_names m_ofFeed m_teeth m_feedWords m_goWords m_facts m_pile m_levels m_best m_losses m_lossOf m_wasThere m_groupMany m_groupRow m_groupLoss m_isMarked_1]) (fun _ => rfl) (fun m_isMarked_1 e_ => ?_)
    have hM := lt_e e_ hM
    refine st_aload_n hR dX11_mark_36 0 rfl rfl (pc' := 37) rfl ?_
    refine st_iload_n hR dX11_mark_37 2 rfl rfl (pc' := 38) rfl ?_
    refine st_if_eq hR dX11_mark_38 (tgt := 47) (by decide) (pc' := 41) rfl (fun c_ => ?_) (fun c_ => ?_)
    · have hM := it_t c_ hM
      refine st_iconst hR dX11_mark_47 (v := 0) rfl (pc' := 48) rfl ?_
      exact st_lv hR [1, 2] rfl (J48 _ _ _ _ _ _ hM)
    · have hM := it_f c_ hM
      refine st_iconst hR dX11_mark_41 (v := 2) rfl (pc' := 42) rfl ?_
      refine st_iload_n hR dX11_mark_42 1 rfl rfl (pc' := 43) rfl ?_
      refine st_iadd hR dX11_mark_43 (pc' := 44) rfl ?_
      refine st_goto hR dX11_mark_44 (tgt := 48) (by decide) ?_
      exact st_lv hR [1, 2] rfl (J48 _ _ _ _ _ _ hM)
  refine st_aload_n hR dX11_mark_0 0 rfl rfl (pc' := 1) rfl ?_
  refine st_iconst hR dX11_mark_1 (v := 0) rfl (pc' := 2) rfl ?_
  refine st_put hR dX11_mark_2 fp_X11_1_10_0 0 0 rfl rfl (Nat.le_of_ble_eq_true rfl) rfl rfl (pc' := 5) rfl (W' := [wX11 G q_m 0 m_tape m_taped m_size m_sort m_place m_value m_at m_fault m_words m_rows m_op m_arg m_codes m_names m_ofFeed m_teeth m_feedWords m_goWords m_facts m_pile m_levels m_best m_losses m_lossOf m_wasThere m_groupMany m_groupRow m_groupLoss m_isMarked]) rfl ?_
  refine st_iload_n hR dX11_mark_5 1 rfl rfl (pc' := 6) rfl ?_
  refine st_iconst hR dX11_mark_6 (v := 0) rfl (pc' := 7) rfl ?_
  refine st_iconst hR dX11_mark_7 (v := 3) rfl (pc' := 8) rfl ?_
  obtain ⟨r_1, hc_, hM⟩ := bd_e hM
  refine st_callS hR (k_X11_within hc_) cf_X11_301 (rm_le (Nat.le_of_ble_eq_true rfl) (Nat.le_of_ble_eq_true rfl)) [] rfl rfl rfl rfl (rest := []) rfl (Nat.le_of_ble_eq_true rfl) dX11_mark_8 (pc' := 11) rfl (Wn := [wX11 G q_m 0 m_tape m_taped m_size m_sort m_place m_value m_at m_fault m_words m_rows m_op m_arg m_codes m_names m_ofFeed m_teeth m_feedWords m_goWords m_facts m_pile m_levels m_best m_losses m_lossOf m_wasThere m_groupMany m_groupRow m_groupLoss m_isMarked]) rfl ?_
  refine st_if_eq hR dX11_mark_11 (tgt := 27) (by decide) (pc' := 14) rfl (fun c_ => ?_) (fun c_ => ?_)
  · have hM := it_t c_ hM
    refine st_iconst hR dX11_mark_27 (v := 0) rfl (pc' := 28) rfl ?_
    cases hM
    exact hret _ _ dX11_mark_28 (ro_z (Or.inl rfl))
  · have hM := it_f c_ hM
    refine st_iload_n hR dX11_mark_14 2 rfl rfl (pc' := 15) rfl ?_
    refine st_if_eq hR dX11_mark_15 (tgt := 29) (by decide) (pc' := 18) rfl (fun c_ => ?_) (fun c_ => ?_)
    · have hM := it_t c_ hM
      exact J29 _ _ _ _ _ hM
    · have hM := it_f c_ hM
      refine st_aload_n hR dX11_mark_18 0 rfl rfl (pc' := 19) rfl ?_
      refine st_get hR dX11_mark_19 fg_X11_115_10_29 0 0 rfl rfl rfl (pc' := 22) rfl ?_
      refine st_iload_n hR dX11_mark_22 1 rfl rfl (pc' := 23) rfl ?_
      obtain ⟨hin_, hM⟩ := g_in_e hM
      refine st_zald hR dX11_mark_23 0 20 rfl rfl hin_ (v := m_isMarked (ix l1)) rfl (pc' := 24) rfl ?_
      refine st_if_ne hR dX11_mark_24 (tgt := 29) (by decide) (pc' := 27) rfl (fun c_ => ?_) (fun c_ => ?_)
      · have hM := it_f c_ hM
        exact J29 _ _ _ _ _ hM
      · have hM := it_t c_ hM
        refine st_iconst hR dX11_mark_27 (v := 0) rfl (pc' := 28) rfl ?_
        cases hM
        exact hret _ _ dX11_mark_28 (ro_z (Or.inl rfl))
set_option maxHeartbeats 16000000 in
set_option maxRecDepth 100000 in
theorem k_X11_pairs {l : Launch} {G : GG} {q_m : Nat → Nat} {m_thrown m_taped m_size m_at m_fault m_codes m_ofFeed m_teeth m_levels m_groupMany : Int32} {m_tape m_sort m_place m_rows m_op m_arg m_feedWords m_goWords m_facts m_pile m_best m_losses m_lossOf m_wasThere m_groupRow m_groupLoss m_isMarked : Nat → Int32} {m_value m_words m_names : Nat → Int64} {l1 : Int32} {o_r : Int32} (hM : f_X11_pairs m_rows l1 = some o_r) : MC l G yX11_pairs cX11_pairs 5 (some .int) (RM 1) [.ref (q_m 0), .int l1] [wX11 G q_m m_thrown m_tape m_taped m_size m_sort m_place m_value m_at m_fault m_words m_rows m_op m_arg m_codes m_names m_ofFeed m_teeth m_feedWords m_goWords m_facts m_pile m_levels m_best m_losses m_lossOf m_wasThere m_groupMany m_groupRow m_groupLoss m_isMarked] (some (.int o_r)) [wX11 G q_m m_thrown m_tape m_taped m_size m_sort m_place m_value m_at m_fault m_words m_rows m_op m_arg m_codes m_names m_ofFeed m_teeth m_feedWords m_goWords m_facts m_pile m_levels m_best m_losses m_lossOf m_wasThere m_groupMany m_groupRow m_groupLoss m_isMarked] := by
  refine MC.of pn_X11 (Nat.le_of_ble_eq_true rfl) (fun K hR hret => ?_)
  have hR : Rl l G RX11 cX11_pairs 5 (RM 1) K := hR
  show K [wX11 G q_m m_thrown m_tape m_taped m_size m_sort m_place m_value m_at m_fault m_words m_rows m_op m_arg m_codes m_names m_ofFeed m_teeth m_feedWords m_goWords m_facts m_pile m_levels m_best m_losses m_lossOf m_wasThere m_groupMany m_groupRow m_groupLoss m_isMarked] [(0, .ref (q_m 0)), (1, .int l1)] 0 []
  have L4 : ∀ (n4 : Nat) (l1 : Int32) (l2 : Int32) (l3 : Int32), f_X11_pairs_L4  m_rows n4 l1 l2 l3 = some o_r → K [wX11 G q_m m_thrown m_tape m_taped m_size m_sort m_place m_value m_at m_fault m_words m_rows m_op m_arg m_codes m_names m_ofFeed m_teeth m_feedWords m_goWords m_facts m_pile m_levels m_best m_losses m_lossOf m_wasThere m_groupMany m_groupRow m_groupLoss m_isMarked] [(0, .ref (q_m 0)), (1, .int l1), (2, .int l2), (3, .int l3)] 4 [] := by
    intro n4
    induction n4 with
    | zero => intro l1 l2 l3 hM; exact no_some hM
    | succ n4 ih4 =>
      have L15 : ∀ (n15 : Nat) (l1 : Int32) (l2 : Int32) (l3 : Int32) (l4 : Int32), f_X11_pairs_L15  (f_X11_pairs_L4  m_rows n4) m_rows n15 l1 l2 l3 l4 = some o_r → K [wX11 G q_m m_thrown m_tape m_taped m_size m_sort m_place m_value m_at m_fault m_words m_rows m_op m_arg m_codes m_names m_ofFeed m_teeth m_feedWords m_goWords m_facts m_pile m_levels m_best m_losses m_lossOf m_wasThere m_groupMany m_groupRow m_groupLoss m_isMarked] [(0, .ref (q_m 0)), (1, .int l1), (2, .int l2), (3, .int l3), (4, .int l4)] 15 [] := by
        intro n15
        induction n15 with
        | zero => intro l1 l2 l3 l4 hM; exact no_some hM
        | succ n15 ih15 =>
          have J44 : ∀ (l1 : Int32) (l3 : Int32) (l4 : Int32) (s0 : Int32) (s1 : Int32), f_X11_pairs_B44  (f_X11_pairs_L4  m_rows n4) (f_X11_pairs_L15  (f_X11_pairs_L4  m_rows n4) m_rows n15) m_rows l1 l3 l4 s0 s1 = some o_r → K [wX11 G q_m m_thrown m_tape m_taped m_size m_sort m_place m_value m_at m_fault m_words m_rows m_op m_arg m_codes m_names m_ofFeed m_teeth m_feedWords m_goWords m_facts m_pile m_levels m_best m_losses m_lossOf m_wasThere m_groupMany m_groupRow m_groupLoss m_isMarked] [(0, .ref (q_m 0)), (1, .int l1), (3, .int l3), (4, .int l4)] 44 [.int s0, .int s1] := by
            intro l1 l3 l4 s0 s1 hM
            refine st_iadd hR dX11_pairs_44 (pc' := 45) rfl ?_
            refine st_topi (fun l2_1 e_ => ?_)
            have hM := lt_e e_ hM
            refine st_istore_n hR dX11_pairs_45 rfl (Nat.le_of_ble_eq_true rfl) [1, 2, 0, 3, 4] (lv' := [(0, .ref (q_m 0)), (1, .int l1), (2, .int l2_1), (3, .int l3), (4, .int l4)]) rfl (pc' := 46) rfl ?_
            obtain ⟨l4_1, e_⟩ : ∃ y : Int32, y = l4 + 1 := ⟨_, rfl⟩
            refine st_iinc hR dX11_pairs_46 (Nat.le_of_ble_eq_true rfl) 4 [1, 2, 3, 4, 0] (v := l4_1) rfl (by rw [e_]; rfl) (lv' := [(0, .ref (q_m 0)), (1, .int l1), (2, .int l2_1), (3, .int l3), (4, .int l4_1)]) rfl (pc' := 49) rfl ?_
            have hM := lt_e e_ hM
            refine st_goto hR dX11_pairs_49 (tgt := 15) (by decide) ?_
            exact ih15 _ _ _ _ hM
          intro l1 l2 l3 l4 hM
          have hM : f_X11_pairs_L15b  (f_X11_pairs_L4  m_rows n4) (f_X11_pairs_L15  (f_X11_pairs_L4  m_rows n4) m_rows n15) m_rows l1 l2 l3 l4 = some o_r := hM
          refine st_iload hR dX11_pairs_15 4 rfl (pc' := 17) rfl ?_
          refine st_iload_n hR dX11_pairs_17 3 rfl rfl (pc' := 18) rfl ?_
          refine st_icmp_ge hR dX11_pairs_18 (tgt := 52) (by decide) (pc' := 21) rfl (fun c_ => ?_) (fun c_ => ?_)
          · have hM := it_t c_ hM
            obtain ⟨l3_1, e_⟩ : ∃ y : Int32, y = l3 + 1 := ⟨_, rfl⟩
            refine st_iinc hR dX11_pairs_52 (Nat.le_of_ble_eq_true rfl) 3 [1, 2, 3, 0, 4] (v := l3_1) rfl (by rw [e_]; rfl) (lv' := [(0, .ref (q_m 0)), (1, .int l1), (2, .int l2), (3, .int l3_1), (4, .int l4)]) rfl (pc' := 55) rfl ?_
            have hM := lt_e e_ hM
            refine st_goto hR dX11_pairs_55 (tgt := 4) (by decide) ?_
            exact st_lv hR [0, 1, 2, 3] rfl (ih4 _ _ _ hM)
          · have hM := it_f c_ hM
            refine st_iload_n hR dX11_pairs_21 2 rfl rfl (pc' := 22) rfl ?_
            refine st_aload_n hR dX11_pairs_22 0 rfl rfl (pc' := 23) rfl ?_
            refine st_get hR dX11_pairs_23 fg_X11_69_10_10 0 0 rfl rfl rfl (pc' := 26) rfl ?_
            refine st_iload_n hR dX11_pairs_26 1 rfl rfl (pc' := 27) rfl ?_
            refine st_bipush hR dX11_pairs_27 (v := 6) rfl (pc' := 29) rfl ?_
            refine st_iload_n hR dX11_pairs_29 3 rfl rfl (pc' := 30) rfl ?_
            refine st_imul hR dX11_pairs_30 (pc' := 31) rfl ?_
            refine st_iadd hR dX11_pairs_31 (pc' := 32) rfl ?_
            refine st_iload hR dX11_pairs_32 4 rfl (pc' := 34) rfl ?_
            refine st_iadd hR dX11_pairs_34 (pc' := 35) rfl ?_
            obtain ⟨hin_, hM⟩ := g_in_e hM
            refine st_iald hR dX11_pairs_35 0 6 rfl rfl hin_ (v := m_rows (ix ((l1 + (6 * l3)) + l4))) rfl (pc' := 36) rfl ?_
            refine st_if_le hR dX11_pairs_36 (tgt := 43) (by decide) (pc' := 39) rfl (fun c_ => ?_) (fun c_ => ?_)
            · have hM := it_t c_ hM
              refine st_iconst hR dX11_pairs_43 (v := 0) rfl (pc' := 44) rfl ?_
              exact st_lv hR [0, 1, 3, 4] rfl (J44 _ _ _ _ _ hM)
            · have hM := it_f c_ hM
              refine st_iconst hR dX11_pairs_39 (v := 1) rfl (pc' := 40) rfl ?_
              refine st_goto hR dX11_pairs_40 (tgt := 44) (by decide) ?_
              exact st_lv hR [0, 1, 3, 4] rfl (J44 _ _ _ _ _ hM)
      intro l1 l2 l3 hM
      have hM : f_X11_pairs_L4b  (f_X11_pairs_L4  m_rows n4) m_rows l1 l2 l3 = some o_r := hM
      refine st_iload_n hR dX11_pairs_4 3 rfl rfl (pc' := 5) rfl ?_
      refine st_aload_n hR dX11_pairs_5 0 rfl rfl (pc' := 6) rfl ?_
      obtain ⟨r_1, hc_, hM⟩ := bd_e hM
      refine st_callV hR (k_X11_farms hc_) cf_X11_248 (rm_le (Nat.le_of_ble_eq_true rfl) (Nat.le_of_ble_eq_true rfl)) [0] rfl rfl rfl 0 0 10 30 rfl rfl rfl rfl (rest := [.int l3]) rfl (Nat.le_of_ble_eq_true rfl) dX11_pairs_6 (pc' := 9) rfl (Wn := [wX11 G q_m m_thrown m_tape m_taped m_size m_sort m_place m_value m_at m_fault m_words m_rows m_op m_arg m_codes m_names m_ofFeed m_teeth m_feedWords m_goWords m_facts m_pile m_levels m_best m_losses m_lossOf m_wasThere m_groupMany m_groupRow m_groupLoss m_isMarked]) rfl ?_
      refine st_icmp_ge hR dX11_pairs_9 (tgt := 58) (by decide) (pc' := 12) rfl (fun c_ => ?_) (fun c_ => ?_)
      · have hM := it_t c_ hM
        refine st_iload_n hR dX11_pairs_58 2 rfl rfl (pc' := 59) rfl ?_
        cases hM
        exact hret _ _ dX11_pairs_59 (ro_i _)
      · have hM := it_f c_ hM
        refine st_iconst hR dX11_pairs_12 (v := 0) rfl (pc' := 13) rfl ?_
        refine st_istore hR dX11_pairs_13 (Nat.le_of_ble_eq_true rfl) [1, 2, 3, 4, 0] (lv' := [(0, .ref (q_m 0)), (1, .int l1), (2, .int l2), (3, .int l3), (4, .int 0)]) rfl (pc' := 15) rfl ?_
        exact L15 FU _ _ _ _ hM
  refine st_iconst hR dX11_pairs_0 (v := 0) rfl (pc' := 1) rfl ?_
  refine st_istore_n hR dX11_pairs_1 rfl (Nat.le_of_ble_eq_true rfl) [1, 2, 0] (lv' := [(0, .ref (q_m 0)), (1, .int l1), (2, .int 0)]) rfl (pc' := 2) rfl ?_
  refine st_iconst hR dX11_pairs_2 (v := 0) rfl (pc' := 3) rfl ?_
  refine st_istore_n hR dX11_pairs_3 rfl (Nat.le_of_ble_eq_true rfl) [1, 2, 3, 0] (lv' := [(0, .ref (q_m 0)), (1, .int l1), (2, .int 0), (3, .int 0)]) rfl (pc' := 4) rfl ?_
  exact L4 FU _ _ _ hM
set_option maxHeartbeats 16000000 in
set_option maxRecDepth 100000 in
theorem k_X11_count {l : Launch} {G : GG} {q_m : Nat → Nat} {m_thrown m_taped m_size m_at m_fault m_codes m_ofFeed m_teeth m_levels m_groupMany : Int32} {m_tape m_sort m_place m_rows m_op m_arg m_feedWords m_goWords m_facts m_pile m_best m_losses m_lossOf m_wasThere m_groupRow m_groupLoss m_isMarked : Nat → Int32} {m_value m_words m_names : Nat → Int64} {l1 : Int32} {o_r : Int32} {o_m_thrown : Int32} (hM : f_X11_count m_taped m_rows m_thrown l1 = some (o_r, o_m_thrown)) : MC l G yX11_count cX11_count 5 (some .int) (RM 2) [.ref (q_m 0), .int l1] [wX11 G q_m m_thrown m_tape m_taped m_size m_sort m_place m_value m_at m_fault m_words m_rows m_op m_arg m_codes m_names m_ofFeed m_teeth m_feedWords m_goWords m_facts m_pile m_levels m_best m_losses m_lossOf m_wasThere m_groupMany m_groupRow m_groupLoss m_isMarked] (some (.int o_r)) [wX11 G q_m o_m_thrown m_tape m_taped m_size m_sort m_place m_value m_at m_fault m_words m_rows m_op m_arg m_codes m_names m_ofFeed m_teeth m_feedWords m_goWords m_facts m_pile m_levels m_best m_losses m_lossOf m_wasThere m_groupMany m_groupRow m_groupLoss m_isMarked] := by
  refine MC.of pn_X11 (Nat.le_of_ble_eq_true rfl) (fun K hR hret => ?_)
  have hR : Rl l G RX11 cX11_count 5 (RM 2) K := hR
  show K [wX11 G q_m m_thrown m_tape m_taped m_size m_sort m_place m_value m_at m_fault m_words m_rows m_op m_arg m_codes m_names m_ofFeed m_teeth m_feedWords m_goWords m_facts m_pile m_levels m_best m_losses m_lossOf m_wasThere m_groupMany m_groupRow m_groupLoss m_isMarked] [(0, .ref (q_m 0)), (1, .int l1)] 0 []
  have L98 : ∀ (n98 : Nat) (m_thrown : Int32) (l2 : Int32) (l3 : Int32), f_X11_count_L98  m_taped m_rows n98 m_thrown l2 l3 = some (o_r, o_m_thrown) → K [wX11 G q_m m_thrown m_tape m_taped m_size m_sort m_place m_value m_at m_fault m_words m_rows m_op m_arg m_codes m_names m_ofFeed m_teeth m_feedWords m_goWords m_facts m_pile m_levels m_best m_losses m_lossOf m_wasThere m_groupMany m_groupRow m_groupLoss m_isMarked] [(0, .ref (q_m 0)), (2, .int l2), (3, .int l3)] 98 [] := by
    intro n98
    induction n98 with
    | zero => intro m_thrown l2 l3 hM; exact no_some hM
    | succ n98 ih98 =>
      have J122 : ∀ (m_thrown : Int32) (l3 : Int32) (s0 : Int32) (s1 : Int32), f_X11_count_B122  (f_X11_count_L98  m_taped m_rows n98) m_taped m_rows m_thrown l3 s0 s1 = some (o_r, o_m_thrown) → K [wX11 G q_m m_thrown m_tape m_taped m_size m_sort m_place m_value m_at m_fault m_words m_rows m_op m_arg m_codes m_names m_ofFeed m_teeth m_feedWords m_goWords m_facts m_pile m_levels m_best m_losses m_lossOf m_wasThere m_groupMany m_groupRow m_groupLoss m_isMarked] [(0, .ref (q_m 0)), (3, .int l3)] 122 [.int s0, .int s1] := by
        intro m_thrown l3 s0 s1 hM
        refine st_iadd hR dX11_count_122 (pc' := 123) rfl ?_
        refine st_topi (fun l2_1 e_ => ?_)
        have hM := lt_e e_ hM
        refine st_istore_n hR dX11_count_123 rfl (Nat.le_of_ble_eq_true rfl) [1, 0, 2] (lv' := [(0, .ref (q_m 0)), (2, .int l2_1), (3, .int l3)]) rfl (pc' := 124) rfl ?_
        obtain ⟨l3_1, e_⟩ : ∃ y : Int32, y = l3 + 1 := ⟨_, rfl⟩
        refine st_iinc hR dX11_count_124 (Nat.le_of_ble_eq_true rfl) 2 [1, 2, 0] (v := l3_1) rfl (by rw [e_]; rfl) (lv' := [(0, .ref (q_m 0)), (2, .int l2_1), (3, .int l3_1)]) rfl (pc' := 127) rfl ?_
        have hM := lt_e e_ hM
        refine st_goto hR dX11_count_127 (tgt := 98) (by decide) ?_
        exact ih98 _ _ _ hM
      intro m_thrown l2 l3 hM
      have hM : f_X11_count_L98b  (f_X11_count_L98  m_taped m_rows n98) m_taped m_rows m_thrown l2 l3 = some (o_r, o_m_thrown) := hM
      refine st_iload_n hR dX11_count_98 2 rfl rfl (pc' := 99) rfl ?_
      refine st_aload_n hR dX11_count_99 0 rfl rfl (pc' := 100) rfl ?_
      obtain ⟨r_1, hc_, hM⟩ := bd_e hM
      refine st_callV hR (k_X11_farms hc_) cf_X11_248 (rm_le (Nat.le_of_ble_eq_true rfl) (Nat.le_of_ble_eq_true rfl)) [0] rfl rfl rfl 0 0 10 30 rfl rfl rfl rfl (rest := [.int l3]) rfl (Nat.le_of_ble_eq_true rfl) dX11_count_100 (pc' := 103) rfl (Wn := [wX11 G q_m m_thrown m_tape m_taped m_size m_sort m_place m_value m_at m_fault m_words m_rows m_op m_arg m_codes m_names m_ofFeed m_teeth m_feedWords m_goWords m_facts m_pile m_levels m_best m_losses m_lossOf m_wasThere m_groupMany m_groupRow m_groupLoss m_isMarked]) rfl ?_
      refine st_icmp_ge hR dX11_count_103 (tgt := 130) (by decide) (pc' := 106) rfl (fun c_ => ?_) (fun c_ => ?_)
      · have hM := it_t c_ hM
        refine st_iload_n hR dX11_count_130 1 rfl rfl (pc' := 131) rfl ?_
        cases hM
        exact hret _ _ dX11_count_131 (ro_i _)
      · have hM := it_f c_ hM
        refine st_iload_n hR dX11_count_106 1 rfl rfl (pc' := 107) rfl ?_
        refine st_aload_n hR dX11_count_107 0 rfl rfl (pc' := 108) rfl ?_
        refine st_iload_n hR dX11_count_108 2 rfl rfl (pc' := 109) rfl ?_
        refine st_bipush hR dX11_count_109 (v := 6) rfl (pc' := 111) rfl ?_
        obtain ⟨r_2, hc_, hM⟩ := bd_e hM
        refine st_callV hR (k_X11_of hc_) cf_X11_251 (rm_le (Nat.le_of_ble_eq_true rfl) (Nat.le_of_ble_eq_true rfl)) [0] rfl rfl rfl 0 0 10 30 rfl rfl rfl rfl (rest := [.int l2]) rfl (Nat.le_of_ble_eq_true rfl) dX11_count_111 (pc' := 114) rfl (Wn := [wX11 G q_m m_thrown m_tape m_taped m_size m_sort m_place m_value m_at m_fault m_words m_rows m_op m_arg m_codes m_names m_ofFeed m_teeth m_feedWords m_goWords m_facts m_pile m_levels m_best m_losses m_lossOf m_wasThere m_groupMany m_groupRow m_groupLoss m_isMarked]) rfl ?_
        refine st_if_le hR dX11_count_114 (tgt := 121) (by decide) (pc' := 117) rfl (fun c_ => ?_) (fun c_ => ?_)
        · have hM := it_t c_ hM
          refine st_iconst hR dX11_count_121 (v := 0) rfl (pc' := 122) rfl ?_
          exact st_lv hR [0, 2] rfl (J122 _ _ _ _ hM)
        · have hM := it_f c_ hM
          refine st_iconst hR dX11_count_117 (v := 1) rfl (pc' := 118) rfl ?_
          refine st_goto hR dX11_count_118 (tgt := 122) (by decide) ?_
          exact st_lv hR [0, 2] rfl (J122 _ _ _ _ hM)
  have L141 : ∀ (n141 : Nat) (m_thrown : Int32) (l2 : Int32) (l3 : Int32), f_X11_count_L141  m_taped m_rows n141 m_thrown l2 l3 = some (o_r, o_m_thrown) → K [wX11 G q_m m_thrown m_tape m_taped m_size m_sort m_place m_value m_at m_fault m_words m_rows m_op m_arg m_codes m_names m_ofFeed m_teeth m_feedWords m_goWords m_facts m_pile m_levels m_best m_losses m_lossOf m_wasThere m_groupMany m_groupRow m_groupLoss m_isMarked] [(0, .ref (q_m 0)), (2, .int l2), (3, .int l3)] 141 [] := by
    intro n141
    induction n141 with
    | zero => intro m_thrown l2 l3 hM; exact no_some hM
    | succ n141 ih141 =>
      have L152 : ∀ (n152 : Nat) (m_thrown : Int32) (l2 : Int32) (l3 : Int32) (l4 : Int32), f_X11_count_L152  (f_X11_count_L141  m_taped m_rows n141) m_taped m_rows n152 m_thrown l2 l3 l4 = some (o_r, o_m_thrown) → K [wX11 G q_m m_thrown m_tape m_taped m_size m_sort m_place m_value m_at m_fault m_words m_rows m_op m_arg m_codes m_names m_ofFeed m_teeth m_feedWords m_goWords m_facts m_pile m_levels m_best m_losses m_lossOf m_wasThere m_groupMany m_groupRow m_groupLoss m_isMarked] [(0, .ref (q_m 0)), (2, .int l2), (3, .int l3), (4, .int l4)] 152 [] := by
        intro n152
        induction n152 with
        | zero => intro m_thrown l2 l3 l4 hM; exact no_some hM
        | succ n152 ih152 =>
          intro m_thrown l2 l3 l4 hM
          have hM : f_X11_count_L152b  (f_X11_count_L141  m_taped m_rows n141) (f_X11_count_L152  (f_X11_count_L141  m_taped m_rows n141) m_taped m_rows n152) m_taped m_rows m_thrown l2 l3 l4 = some (o_r, o_m_thrown) := hM
          refine st_iload hR dX11_count_152 3 rfl (pc' := 154) rfl ?_
          refine st_iload_n hR dX11_count_154 2 rfl rfl (pc' := 155) rfl ?_
          refine st_icmp_ge hR dX11_count_155 (tgt := 183) (by decide) (pc' := 158) rfl (fun c_ => ?_) (fun c_ => ?_)
          · have hM := it_t c_ hM
            obtain ⟨l3_1, e_⟩ : ∃ y : Int32, y = l3 + 1 := ⟨_, rfl⟩
            refine st_iinc hR dX11_count_183 (Nat.le_of_ble_eq_true rfl) 2 [1, 2, 0, 3] (v := l3_1) rfl (by rw [e_]; rfl) (lv' := [(0, .ref (q_m 0)), (2, .int l2), (3, .int l3_1), (4, .int l4)]) rfl (pc' := 186) rfl ?_
            have hM := lt_e e_ hM
            refine st_goto hR dX11_count_186 (tgt := 141) (by decide) ?_
            exact st_lv hR [0, 1, 2] rfl (ih141 _ _ _ hM)
          · have hM := it_f c_ hM
            refine st_iload_n hR dX11_count_158 1 rfl rfl (pc' := 159) rfl ?_
            refine st_aload_n hR dX11_count_159 0 rfl rfl (pc' := 160) rfl ?_
            refine st_get hR dX11_count_160 fg_X11_69_10_10 0 0 rfl rfl rfl (pc' := 163) rfl ?_
            refine st_sipush hR dX11_count_163 (v := 146) rfl (pc' := 166) rfl ?_
            refine st_bipush hR dX11_count_166 (v := 6) rfl (pc' := 168) rfl ?_
            refine st_iload_n hR dX11_count_168 2 rfl rfl (pc' := 169) rfl ?_
            refine st_imul hR dX11_count_169 (pc' := 170) rfl ?_
            refine st_iadd hR dX11_count_170 (pc' := 171) rfl ?_
            refine st_iload hR dX11_count_171 3 rfl (pc' := 173) rfl ?_
            refine st_iadd hR dX11_count_173 (pc' := 174) rfl ?_
            obtain ⟨hin_, hM⟩ := g_in_e hM
            refine st_iald hR dX11_count_174 0 6 rfl rfl hin_ (v := m_rows (ix ((146 + (6 * l3)) + l4))) rfl (pc' := 175) rfl ?_
            refine st_iadd hR dX11_count_175 (pc' := 176) rfl ?_
            refine st_topi (fun l2_1 e_ => ?_)
            have hM := lt_e e_ hM
            refine st_istore_n hR dX11_count_176 rfl (Nat.le_of_ble_eq_true rfl) [1, 0, 2, 3] (lv' := [(0, .ref (q_m 0)), (2, .int l2_1), (3, .int l3), (4, .int l4)]) rfl (pc' := 177) rfl ?_
            obtain ⟨l4_1, e_⟩ : ∃ y : Int32, y = l4 + 1 := ⟨_, rfl⟩
            refine st_iinc hR dX11_count_177 (Nat.le_of_ble_eq_true rfl) 3 [1, 2, 3, 0] (v := l4_1) rfl (by rw [e_]; rfl) (lv' := [(0, .ref (q_m 0)), (2, .int l2_1), (3, .int l3), (4, .int l4_1)]) rfl (pc' := 180) rfl ?_
            have hM := lt_e e_ hM
            refine st_goto hR dX11_count_180 (tgt := 152) (by decide) ?_
            exact ih152 _ _ _ _ hM
      intro m_thrown l2 l3 hM
      have hM : f_X11_count_L141b  (f_X11_count_L141  m_taped m_rows n141) m_taped m_rows m_thrown l2 l3 = some (o_r, o_m_thrown) := hM
      refine st_iload_n hR dX11_count_141 2 rfl rfl (pc' := 142) rfl ?_
      refine st_aload_n hR dX11_count_142 0 rfl rfl (pc' := 143) rfl ?_
      obtain ⟨r_1, hc_, hM⟩ := bd_e hM
      refine st_callV hR (k_X11_farms hc_) cf_X11_248 (rm_le (Nat.le_of_ble_eq_true rfl) (Nat.le_of_ble_eq_true rfl)) [0] rfl rfl rfl 0 0 10 30 rfl rfl rfl rfl (rest := [.int l3]) rfl (Nat.le_of_ble_eq_true rfl) dX11_count_143 (pc' := 146) rfl (Wn := [wX11 G q_m m_thrown m_tape m_taped m_size m_sort m_place m_value m_at m_fault m_words m_rows m_op m_arg m_codes m_names m_ofFeed m_teeth m_feedWords m_goWords m_facts m_pile m_levels m_best m_losses m_lossOf m_wasThere m_groupMany m_groupRow m_groupLoss m_isMarked]) rfl ?_
      refine st_icmp_ge hR dX11_count_146 (tgt := 189) (by decide) (pc' := 149) rfl (fun c_ => ?_) (fun c_ => ?_)
      · have hM := it_t c_ hM
        refine st_iload_n hR dX11_count_189 1 rfl rfl (pc' := 190) rfl ?_
        cases hM
        exact hret _ _ dX11_count_190 (ro_i _)
      · have hM := it_f c_ hM
        refine st_iconst hR dX11_count_149 (v := 0) rfl (pc' := 150) rfl ?_
        refine st_istore hR dX11_count_150 (Nat.le_of_ble_eq_true rfl) [1, 2, 3, 0] (lv' := [(0, .ref (q_m 0)), (2, .int l2), (3, .int l3), (4, .int 0)]) rfl (pc' := 152) rfl ?_
        exact L152 FU _ _ _ _ hM
  refine st_aload_n hR dX11_count_0 0 rfl rfl (pc' := 1) rfl ?_
  refine st_iconst hR dX11_count_1 (v := 0) rfl (pc' := 2) rfl ?_
  refine st_put hR dX11_count_2 fp_X11_1_10_0 0 0 rfl rfl (Nat.le_of_ble_eq_true rfl) rfl rfl (pc' := 5) rfl (W' := [wX11 G q_m 0 m_tape m_taped m_size m_sort m_place m_value m_at m_fault m_words m_rows m_op m_arg m_codes m_names m_ofFeed m_teeth m_feedWords m_goWords m_facts m_pile m_levels m_best m_losses m_lossOf m_wasThere m_groupMany m_groupRow m_groupLoss m_isMarked]) rfl ?_
  refine st_iconst hR dX11_count_5 (v := 0) rfl (pc' := 6) rfl ?_
  refine st_istore_n hR dX11_count_6 rfl (Nat.le_of_ble_eq_true rfl) [1, 2, 0] (lv' := [(0, .ref (q_m 0)), (1, .int l1), (2, .int 0)]) rfl (pc' := 7) rfl ?_
  refine st_iload_n hR dX11_count_7 1 rfl rfl (pc' := 8) rfl ?_
  refine st_sw_case hR dX11_count_8 0 (x0 := 0) (by decide) (by decide) rfl (tgt := 60) (by decide) (fun c0_ => ?_) (fun c0_ => ?_)
  · have hM := it_t c0_ hM
    refine st_aload_n hR dX11_count_60 0 rfl rfl (pc' := 61) rfl ?_
    obtain ⟨r_1, hc_, hM⟩ := bd_e hM
    refine st_callV hR (k_X11_farms hc_) cf_X11_248 (rm_le (Nat.le_of_ble_eq_true rfl) (Nat.le_of_ble_eq_true rfl)) [0] rfl rfl rfl 0 0 10 30 rfl rfl rfl rfl (rest := []) rfl (Nat.le_of_ble_eq_true rfl) dX11_count_61 (pc' := 64) rfl (Wn := [wX11 G q_m 0 m_tape m_taped m_size m_sort m_place m_value m_at m_fault m_words m_rows m_op m_arg m_codes m_names m_ofFeed m_teeth m_feedWords m_goWords m_facts m_pile m_levels m_best m_losses m_lossOf m_wasThere m_groupMany m_groupRow m_groupLoss m_isMarked]) rfl ?_
    cases hM
    exact hret _ _ dX11_count_64 (ro_i _)
  · have hM := it_f c0_ hM
    refine st_sw_case hR dX11_count_8 1 (x0 := 1) (by decide) (by decide) rfl (tgt := 65) (by decide) (fun c1_ => ?_) (fun c1_ => ?_)
    · have hM := it_t c1_ hM
      refine st_aload_n hR dX11_count_65 0 rfl rfl (pc' := 66) rfl ?_
      refine st_get hR dX11_count_66 fg_X11_69_10_10 0 0 rfl rfl rfl (pc' := 69) rfl ?_
      refine st_iconst hR dX11_count_69 (v := 1) rfl (pc' := 70) rfl ?_
      refine st_iald hR dX11_count_70 0 6 rfl rfl (vp_lit 1 rfl rfl rfl) (v := m_rows 1) (congrArg m_rows (cl_lit 1 rfl rfl)) (pc' := 71) rfl ?_
      cases hM
      exact hret _ _ dX11_count_71 (ro_i _)
    · have hM := it_f c1_ hM
      refine st_sw_case hR dX11_count_8 2 (x0 := 2) (by decide) (by decide) rfl (tgt := 72) (by decide) (fun c2_ => ?_) (fun c2_ => ?_)
      · have hM := it_t c2_ hM
        refine st_aload_n hR dX11_count_72 0 rfl rfl (pc' := 73) rfl ?_
        refine st_get hR dX11_count_73 fg_X11_69_10_10 0 0 rfl rfl rfl (pc' := 76) rfl ?_
        refine st_iconst hR dX11_count_76 (v := 1) rfl (pc' := 77) rfl ?_
        refine st_iald hR dX11_count_77 0 6 rfl rfl (vp_lit 1 rfl rfl rfl) (v := m_rows 1) (congrArg m_rows (cl_lit 1 rfl rfl)) (pc' := 78) rfl ?_
        refine st_bipush hR dX11_count_78 (v := 28) rfl (pc' := 80) rfl ?_
        refine st_idiv hR dX11_count_80 (pc' := 81) rfl (by decide) ?_
        cases hM
        exact hret _ _ dX11_count_81 (ro_i _)
      · have hM := it_f c2_ hM
        refine st_sw_case hR dX11_count_8 3 (x0 := 3) (by decide) (by decide) rfl (tgt := 82) (by decide) (fun c3_ => ?_) (fun c3_ => ?_)
        · have hM := it_t c3_ hM
          refine st_aload_n hR dX11_count_82 0 rfl rfl (pc' := 83) rfl ?_
          refine st_bipush hR dX11_count_83 (v := 74) rfl (pc' := 85) rfl ?_
          obtain ⟨r_2, hc_, hM⟩ := bd_e hM
          refine st_callV hR (k_X11_pairs hc_) cf_X11_365 (rm_le (Nat.le_of_ble_eq_true rfl) (Nat.le_of_ble_eq_true rfl)) [0] rfl rfl rfl 0 0 10 30 rfl rfl rfl rfl (rest := []) rfl (Nat.le_of_ble_eq_true rfl) dX11_count_85 (pc' := 88) rfl (Wn := [wX11 G q_m 0 m_tape m_taped m_size m_sort m_place m_value m_at m_fault m_words m_rows m_op m_arg m_codes m_names m_ofFeed m_teeth m_feedWords m_goWords m_facts m_pile m_levels m_best m_losses m_lossOf m_wasThere m_groupMany m_groupRow m_groupLoss m_isMarked]) rfl ?_
          cases hM
          exact hret _ _ dX11_count_88 (ro_i _)
        · have hM := it_f c3_ hM
          refine st_sw_case hR dX11_count_8 4 (x0 := 4) (by decide) (by decide) rfl (tgt := 89) (by decide) (fun c4_ => ?_) (fun c4_ => ?_)
          · have hM := it_t c4_ hM
            refine st_aload_n hR dX11_count_89 0 rfl rfl (pc' := 90) rfl ?_
            refine st_bipush hR dX11_count_90 (v := 110) rfl (pc' := 92) rfl ?_
            obtain ⟨r_3, hc_, hM⟩ := bd_e hM
            refine st_callV hR (k_X11_pairs hc_) cf_X11_365 (rm_le (Nat.le_of_ble_eq_true rfl) (Nat.le_of_ble_eq_true rfl)) [0] rfl rfl rfl 0 0 10 30 rfl rfl rfl rfl (rest := []) rfl (Nat.le_of_ble_eq_true rfl) dX11_count_92 (pc' := 95) rfl (Wn := [wX11 G q_m 0 m_tape m_taped m_size m_sort m_place m_value m_at m_fault m_words m_rows m_op m_arg m_codes m_names m_ofFeed m_teeth m_feedWords m_goWords m_facts m_pile m_levels m_best m_losses m_lossOf m_wasThere m_groupMany m_groupRow m_groupLoss m_isMarked]) rfl ?_
            cases hM
            exact hret _ _ dX11_count_95 (ro_i _)
          · have hM := it_f c4_ hM
            refine st_sw_case hR dX11_count_8 5 (x0 := 5) (by decide) (by decide) rfl (tgt := 96) (by decide) (fun c5_ => ?_) (fun c5_ => ?_)
            · have hM := it_t c5_ hM
              refine st_iconst hR dX11_count_96 (v := 0) rfl (pc' := 97) rfl ?_
              refine st_istore_n hR dX11_count_97 rfl (Nat.le_of_ble_eq_true rfl) [1, 2, 3, 0] (lv' := [(0, .ref (q_m 0)), (1, .int l1), (2, .int 0), (3, .int 0)]) rfl (pc' := 98) rfl ?_
              exact st_lv hR [0, 2, 3] rfl (L98 FU _ _ _ hM)
            · have hM := it_f c5_ hM
              refine st_sw_case hR dX11_count_8 6 (x0 := 6) (by decide) (by decide) rfl (tgt := 132) (by decide) (fun c6_ => ?_) (fun c6_ => ?_)
              · have hM := it_t c6_ hM
                refine st_aload_n hR dX11_count_132 0 rfl rfl (pc' := 133) rfl ?_
                refine st_get hR dX11_count_133 fg_X11_69_10_10 0 0 rfl rfl rfl (pc' := 136) rfl ?_
                refine st_iconst hR dX11_count_136 (v := 4) rfl (pc' := 137) rfl ?_
                refine st_iald hR dX11_count_137 0 6 rfl rfl (vp_lit 4 rfl rfl rfl) (v := m_rows 4) (congrArg m_rows (cl_lit 4 rfl rfl)) (pc' := 138) rfl ?_
                cases hM
                exact hret _ _ dX11_count_138 (ro_i _)
              · have hM := it_f c6_ hM
                refine st_sw_case hR dX11_count_8 7 (x0 := 7) (by decide) (by decide) rfl (tgt := 139) (by decide) (fun c7_ => ?_) (fun c7_ => ?_)
                · have hM := it_t c7_ hM
                  refine st_iconst hR dX11_count_139 (v := 0) rfl (pc' := 140) rfl ?_
                  refine st_istore_n hR dX11_count_140 rfl (Nat.le_of_ble_eq_true rfl) [1, 2, 3, 0] (lv' := [(0, .ref (q_m 0)), (1, .int l1), (2, .int 0), (3, .int 0)]) rfl (pc' := 141) rfl ?_
                  exact st_lv hR [0, 2, 3] rfl (L141 FU _ _ _ hM)
                · have hM := it_f c7_ hM
                  refine st_sw_case hR dX11_count_8 8 (x0 := 8) (by decide) (by decide) rfl (tgt := 191) (by decide) (fun c8_ => ?_) (fun c8_ => ?_)
                  · have hM := it_t c8_ hM
                    refine st_aload_n hR dX11_count_191 0 rfl rfl (pc' := 192) rfl ?_
                    refine st_get hR dX11_count_192 fg_X11_11_10_2 0 0 rfl rfl rfl (pc' := 195) rfl ?_
                    cases hM
                    exact hret _ _ dX11_count_195 (ro_i _)
                  · have hM := it_f c8_ hM
                    have z0_ := sw_ne c0_ (k := 0) (by decide)
                    have z1_ := sw_ne c1_ (k := 1) (by decide)
                    have z2_ := sw_ne c2_ (k := 2) (by decide)
                    have z3_ := sw_ne c3_ (k := 3) (by decide)
                    have z4_ := sw_ne c4_ (k := 4) (by decide)
                    have z5_ := sw_ne c5_ (k := 5) (by decide)
                    have z6_ := sw_ne c6_ (k := 6) (by decide)
                    have z7_ := sw_ne c7_ (k := 7) (by decide)
                    have z8_ := sw_ne c8_ (k := 8) (by decide)
                    refine st_sw_def hR dX11_count_8 (tgt := 196) (by decide) (by omega) ?_
                    refine st_iconst hR dX11_count_196 (v := (-1)) (by decide) (pc' := 197) rfl ?_
                    cases hM
                    exact hret _ _ dX11_count_197 (ro_i _)
