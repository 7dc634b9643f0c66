/-! THE LAW: part and row, its two cases that catch -/
theorem dis_r {a n : Nat} : ∀ i ∈ List.range' a n, i ∉ List.range' 0 a := by
  intro i hi hm
  have h1 := (List.mem_range'_1.mp hi).1
  have h2 := (List.mem_range'_1.mp hm).2
  omega
theorem nd99 : va_nd (List.range' 30 69 ++ List.range' 0 30) = true := by decide +kernel
set_option maxHeartbeats 2000000 in
theorem k_part {K : Kd} {a b : Nat → Nat} {wx wm : va_W} (h : Rel K a b wx wm) (l1 l2 : Int32) : ∃ (oo : Option Int32) (r : Int32) (th : Int32) (wm2 : va_W), CtrT yX6_part cX6_part 3 (some .int) 6 1 6 K [.ref (a 0), .int l1, .int l2] wx (fun r w => w = wx ∧ ∃ v, oo = some v ∧ r = some (.int v)) (oo = none) ∧ Ctr yX7_part cX7_part 3 (some .int) 3 0 0 K [.ref (b 0), .int l1, .int l2] wm (Eqs (some (.int r)) wm2) ∧ Ctr yX7_thrown cX7_thrown 1 (some .int) 1 0 0 K [.ref (b 0)] wm2 (Eqs (some (.int th)) wm2) ∧ Rel K a b wx wm2 ∧ ((∃ v, oo = some v ∧ th = 0 ∧ r = v) ∨ (oo = none ∧ th = 1)) := by
  refine h _ (fun n nv A B m X_seats X_bestSeats F_sets F_unit F_openOver F_openUnder F_forces F_left G1_way G1_wayBefore G1_known G1_total G1_kind G1_who G1_over G1_under G1_endOver G1_endUnder G1_dueOver G1_dueUnder G1_soonOver G1_soonUnder G1_gains G1_gainUnder L1_stretch L1_rest L1_forceRise L1_forceStart L1_slipRise L1_slipStart L1_under L1_byFirst L1_byLoad L1_bare L1_scale L1_firstRise L1_firstStart J1_give J1_clear J1_yieldAt J1_soft J1_breakAt J1_out J1_pitches J1_bolts J1_upper J1_lower J2_give J2_clear J2_yieldAt J2_soft J2_breakAt J2_out J2_pitches J2_bolts J2_upper J2_lower G2_way G2_wayBefore G2_known G2_total G2_kind G2_who G2_over G2_under G2_endOver G2_endUnder G2_dueOver G2_dueUnder G2_soonOver G2_soonUnder G2_gains G2_gainUnder L2_stretch L2_rest L2_forceRise L2_forceStart L2_slipRise L2_slipStart L2_under L2_byFirst L2_byLoad L2_bare L2_scale L2_firstRise L2_firstStart T_signs T_size T_next T_fault R_numbers R_size M_now M_many M_upper M_lower M_text M_typed M_row M_rowMany M_thrown M_length M_at M_wrong M_read M_mode M_under M_slope M_base M_slipSlope M_slipBase M_offset M_bearer M_bearers M_matrix M_loadOver M_loadUnder M_eventMany M_eventKind M_eventBolt M_eventOver M_eventUnder M_had M_nextOver M_nextUnder M_met M_fresh M_aheadOver M_aheadUnder M_behindOver M_behindUnder M_setOf M_unit M_moreOver M_moreUnder M_aside M_bestOver M_bestUnder M_places M_bestPlaces M_drawn w1 w2 hJt J X hK hT hR hf => ?_)
  subst w1; subst w2
  obtain ⟨oo, r, th, e1, e2, hh⟩ := op_part hJt J X l1 l2 M_thrown
  exact ⟨oo, r, th, _, t_X_part K 301 a l1 l2 X_seats X_bestSeats F_sets F_unit F_openOver F_openUnder F_forces F_left G1_way G1_wayBefore G1_known G1_total G1_kind G1_who G1_over G1_under G1_endOver G1_endUnder G1_dueOver G1_dueUnder G1_soonOver G1_soonUnder G1_gains G1_gainUnder L1_stretch L1_rest L1_forceRise L1_forceStart L1_slipRise L1_slipStart L1_under L1_byFirst L1_byLoad L1_bare L1_scale L1_firstRise L1_firstStart J1_give J1_clear J1_yieldAt J1_soft J1_breakAt J1_out J1_pitches J1_bolts J1_upper J1_lower J2_give J2_clear J2_yieldAt J2_soft J2_breakAt J2_out J2_pitches J2_bolts J2_upper J2_lower G2_way G2_wayBefore G2_known G2_total G2_kind G2_who G2_over G2_under G2_endOver G2_endUnder G2_dueOver G2_dueUnder G2_soonOver G2_soonUnder G2_gains G2_gainUnder L2_stretch L2_rest L2_forceRise L2_forceStart L2_slipRise L2_slipStart L2_under L2_byFirst L2_byLoad L2_bare L2_scale L2_firstRise L2_firstStart T_signs T_size T_next T_fault R_numbers R_size oo e1, t_M_part K 301 b l1 l2 M_now M_many M_upper M_lower M_text M_typed M_row M_rowMany M_thrown M_length M_at M_wrong M_read M_mode M_under M_slope M_base M_slipSlope M_slipBase M_offset M_bearer M_bearers M_matrix M_loadOver M_loadUnder M_eventMany M_eventKind M_eventBolt M_eventOver M_eventUnder M_had M_nextOver M_nextUnder M_met M_fresh M_aheadOver M_aheadUnder M_behindOver M_behindUnder M_setOf M_unit M_moreOver M_moreUnder M_aside M_bestOver M_bestUnder M_places M_bestPlaces M_drawn _ _ e2, t_M_thrown K 301 b M_now M_many M_upper M_lower M_text M_typed M_row M_rowMany th M_length M_at M_wrong M_read M_mode M_under M_slope M_base M_slipSlope M_slipBase M_offset M_bearer M_bearers M_matrix M_loadOver M_loadUnder M_eventMany M_eventKind M_eventBolt M_eventOver M_eventUnder M_had M_nextOver M_nextUnder M_met M_fresh M_aheadOver M_aheadUnder M_behindOver M_behindUnder M_setOf M_unit M_moreOver M_moreUnder M_aside M_bestOver M_bestUnder M_places M_bestPlaces M_drawn _ rfl, Rel_mk hJt J X hK hT hR hf, hh⟩
set_option maxHeartbeats 2000000 in
theorem k_row {K : Kd} {a b : Nat → Nat} {wx wm : va_W} (h : Rel K a b wx wm) (l1 : Int32) : ∃ (oo : Option Int64) (r : Int64) (th : Int32) (wm2 : va_W), CtrT yX6_row cX6_row 2 (some .long) 6 1 6 K [.ref (a 0), .int l1] wx (fun r w => w = wx ∧ ∃ v, oo = some v ∧ r = some (.long v)) (oo = none) ∧ Ctr yX7_row cX7_row 2 (some .long) 2 0 0 K [.ref (b 0), .int l1] wm (Eqs (some (.long r)) wm2) ∧ Ctr yX7_thrown cX7_thrown 1 (some .int) 1 0 0 K [.ref (b 0)] wm2 (Eqs (some (.int th)) wm2) ∧ Rel K a b wx wm2 ∧ ((∃ v, oo = some v ∧ th = 0 ∧ r = v) ∨ (oo = none ∧ th = 1)) := by
  refine h _ (fun n nv A B m X_seats X_bestSeats F_sets F_unit F_openOver F_openUnder F_forces F_left G1_way G1_wayBefore G1_known G1_total G1_kind G1_who G1_over G1_under G1_endOver G1_endUnder G1_dueOver G1_dueUnder G1_soonOver G1_soonUnder G1_gains G1_gainUnder L1_stretch L1_rest L1_forceRise L1_forceStart L1_slipRise L1_slipStart L1_under L1_byFirst L1_byLoad L1_bare L1_scale L1_firstRise L1_firstStart J1_give J1_clear J1_yieldAt J1_soft J1_breakAt J1_out J1_pitches J1_bolts J1_upper J1_lower J2_give J2_clear J2_yieldAt J2_soft J2_breakAt J2_out J2_pitches J2_bolts J2_upper J2_lower G2_way G2_wayBefore G2_known G2_total G2_kind G2_who G2_over G2_under G2_endOver G2_endUnder G2_dueOver G2_dueUnder G2_soonOver G2_soonUnder G2_gains G2_gainUnder L2_stretch L2_rest L2_forceRise L2_forceStart L2_slipRise L2_slipStart L2_under L2_byFirst L2_byLoad L2_bare L2_scale L2_firstRise L2_firstStart T_signs T_size T_next T_fault R_numbers R_size M_now M_many M_upper M_lower M_text M_typed M_row M_rowMany M_thrown M_length M_at M_wrong M_read M_mode M_under M_slope M_base M_slipSlope M_slipBase M_offset M_bearer M_bearers M_matrix M_loadOver M_loadUnder M_eventMany M_eventKind M_eventBolt M_eventOver M_eventUnder M_had M_nextOver M_nextUnder M_met M_fresh M_aheadOver M_aheadUnder M_behindOver M_behindUnder M_setOf M_unit M_moreOver M_moreUnder M_aside M_bestOver M_bestUnder M_places M_bestPlaces M_drawn w1 w2 hJt J X hK hT hR hf => ?_)
  subst w1; subst w2
  obtain ⟨oo, r, th, e1, e2, hh⟩ := op_row hR l1 M_thrown
  exact ⟨oo, r, th, _, t_X_row K a l1 X_seats X_bestSeats F_sets F_unit F_openOver F_openUnder F_forces F_left G1_way G1_wayBefore G1_known G1_total G1_kind G1_who G1_over G1_under G1_endOver G1_endUnder G1_dueOver G1_dueUnder G1_soonOver G1_soonUnder G1_gains G1_gainUnder L1_stretch L1_rest L1_forceRise L1_forceStart L1_slipRise L1_slipStart L1_under L1_byFirst L1_byLoad L1_bare L1_scale L1_firstRise L1_firstStart J1_give J1_clear J1_yieldAt J1_soft J1_breakAt J1_out J1_pitches J1_bolts J1_upper J1_lower J2_give J2_clear J2_yieldAt J2_soft J2_breakAt J2_out J2_pitches J2_bolts J2_upper J2_lower G2_way G2_wayBefore G2_known G2_total G2_kind G2_who G2_over G2_under G2_endOver G2_endUnder G2_dueOver G2_dueUnder G2_soonOver G2_soonUnder G2_gains G2_gainUnder L2_stretch L2_rest L2_forceRise L2_forceStart L2_slipRise L2_slipStart L2_under L2_byFirst L2_byLoad L2_bare L2_scale L2_firstRise L2_firstStart T_signs T_size T_next T_fault R_numbers R_size oo e1, t_M_row K 301 b l1 M_now M_many M_upper M_lower M_text M_typed M_row M_rowMany M_thrown M_length M_at M_wrong M_read M_mode M_under M_slope M_base M_slipSlope M_slipBase M_offset M_bearer M_bearers M_matrix M_loadOver M_loadUnder M_eventMany M_eventKind M_eventBolt M_eventOver M_eventUnder M_had M_nextOver M_nextUnder M_met M_fresh M_aheadOver M_aheadUnder M_behindOver M_behindUnder M_setOf M_unit M_moreOver M_moreUnder M_aside M_bestOver M_bestUnder M_places M_bestPlaces M_drawn _ _ e2, t_M_thrown K 301 b M_now M_many M_upper M_lower M_text M_typed M_row M_rowMany th M_length M_at M_wrong M_read M_mode M_under M_slope M_base M_slipSlope M_slipBase M_offset M_bearer M_bearers M_matrix M_loadOver M_loadUnder M_eventMany M_eventKind M_eventBolt M_eventOver M_eventUnder M_had M_nextOver M_nextUnder M_met M_fresh M_aheadOver M_aheadUnder M_behindOver M_behindUnder M_setOf M_unit M_moreOver M_moreUnder M_aside M_bestOver M_bestUnder M_places M_bestPlaces M_drawn _ rfl, Rel_mk hJt J X hK hT hR hf, hh⟩
set_option maxRecDepth 4000 in
theorem lc_part {G : Gm} {b L : Nat} {xs : Nat → Int32} (O : LawOk G b L xs) {a a2 : Nat → Nat} {out : Nat} {o0 : Nat → Int64} {k n : Nat} (hkn : k + 1 ≤ room_1.cells ∧ n + 6 ≤ room_1.slots) {i : Nat} (hi : i + 7 ≤ L) {wx wm : va_W} (hr : Rel (gK G) a a2 wx wm) (z : ∀ o1 wm2, Rel (gK G) a a2 wx wm2 → V G (k + 1) (n + 6) (wsL G out o1 wx wm2) 1412 (lvL b (a 0) (a2 0) out i) []) : V G k n (wsL G out o0 wx wm) 604 (lvL b (a 0) (a2 0) out i) [] := by
  obtain ⟨h, hX, hbl, hbA, hL, hNX, hl0, -⟩ := O
  obtain ⟨f1, ⟨fs1, g1⟩, f2, ⟨fs2, g2⟩⟩ := Rel_at hr
  have n1 : wx.length = 68 := by simpa using congrArg List.length f1
  have n2 : wm.length = 30 := by simpa using congrArg List.length f2
  obtain ⟨oo, r, th, wm2, cX, cM, cT, hr2, hh⟩ := k_part hr (xs (zI (i : Int) + 1).toNatClampNeg) (xs (zI (i : Int) + 2).toNatClampNeg)
  obtain ⟨-, -, f4, ⟨fs4, g4⟩⟩ := Rel_at hr2
  have n4 : wm2.length = 30 := by simpa using congrArg List.length f4
  have e69 : ∀ o : Nat → Int64, ([outc (gK G) out o] ++ wx).length = 69 := fun o => by rw [List.length_append, n1]; rfl
  refine V_aload_n (pc := 604) h 1 dL_law_604 rfl ?_
  refine V_aload_n (pc := 605) h 0 dL_law_605 rfl ?_
  refine V_iload (pc := 606) h 4 dL_law_606 rfl ?_
  refine V_iconst (pc := 608) h dL_law_608 ic_1 ?_
  refine V_iadd (pc := 609) h dL_law_609 ?_
  refine V_sld (pc := 610) h hX hbl hbA (inx (t := 1) hi hL (by omega)) dL_law_610 ?_
  refine V_aload_n (pc := 611) h 0 dL_law_611 rfl ?_
  refine V_iload (pc := 612) h 4 dL_law_612 rfl ?_
  refine V_iconst (pc := 614) h dL_law_614 ic_2 ?_
  refine V_iadd (pc := 615) h dL_law_615 ?_
  refine V_sld (pc := 616) h hX hbl hbA (inx (t := 2) hi hL (by omega)) dL_law_616 ?_
  refine V_aload_n (pc := 617) h 3 dL_law_617 rfl ?_
  refine V_ws (([outc (gK G) out o0] ++ wx) ++ wm) (by rw [List.append_assoc]) ?_
  refine V_callSW (pc := 618) (np := 4) h hNX hl0 _ (t_L_part (gK G) (a 0) out _ _ wx o0 oo n1 ⟨fs1, g1⟩ cX) in_RL cw_L_part (by decide +kernel) lk_RL_70 sm_L_part ⟨Nat.le_of_ble_eq_true rfl, Nat.le_of_ble_eq_true rfl⟩ hkn (List.range' 0 ([outc (gK G) out o0] ++ wx).length) (List.range' ([outc (gK G) out o0] ++ wx).length wm.length) wm (get_head _ wm) (get_tail _ wm) (by rw [e69]; rfl) (by rw [e69, n2]; rfl) dis_r rfl rfl (Nat.le_of_ble_eq_true rfl) dL_law_618 (fun r1 w1 hw => ?_)
  obtain ⟨o1, kk, rfl, rfl, hk⟩ := hw
  refine V_perm (([outc (gK G) out o1] ++ wx) ++ (wm ++ [])) (List.range' wm.length ([outc (gK G) out o1] ++ wx).length ++ List.range' 0 wm.length) (by rw [e69, n2]; exact nd99) (by rw [List.map_append, List.append_nil, List.map_append, get_tail, get_head]) ?_
  refine V_istore (pc := 621) h [(5, .int kk), (0, .ref b), (1, .ref (a 0)), (2, .ref (a2 0)), (3, .ref out), (4, .int (zI (i : Int)))] dL_law_621 (by decide) rfl ?_
  refine V_aload_n (pc := 623) h 3 dL_law_623 rfl ?_
  refine V_aload_n (pc := 624) h 1 dL_law_624 rfl ?_
  refine V_iload (pc := 625) h 5 dL_law_625 rfl ?_
  refine V_iconst (pc := 627) h dL_law_627 ic_1 ?_
  refine V_iadd (pc := 628) h dL_law_628 ?_
  refine V_sld (pc := 629) h hX hbl hbA (inx (t := 1) hi hL (by omega)) dL_law_629 ?_
  refine V_aload_n (pc := 630) h 1 dL_law_630 rfl ?_
  refine V_iload (pc := 631) h 5 dL_law_631 rfl ?_
  refine V_iconst (pc := 633) h dL_law_633 ic_2 ?_
  refine V_iadd (pc := 634) h dL_law_634 ?_
  refine V_sld (pc := 635) h hX hbl hbA (inx (t := 2) hi hL (by omega)) dL_law_635 ?_
  refine V_mid (pre := [outc (gK G) out o1] ++ wx) (mid := wm) (post := []) (pc := 636) h _ cM mf_M_part lk_RL_75 im_M_part se_M_part ⟨Nat.le_of_ble_eq_true rfl, Nat.le_of_ble_eq_true rfl⟩ hkn (by rw [e69, n2]; rfl) (f4.trans f2.symm) g2 rfl rfl rfl (Nat.le_of_ble_eq_true rfl) [.int r] rfl dL_law_636 ?_
  refine V_istore (pc := 639) h [(6, .int r), (5, .int kk), (0, .ref b), (1, .ref (a 0)), (2, .ref (a2 0)), (3, .ref out), (4, .int (zI (i : Int)))] dL_law_639 (by decide) rfl ?_
  refine V_aload_n (pc := 641) h 4 dL_law_641 rfl ?_
  refine V_mid (pre := [outc (gK G) out o1] ++ wx) (mid := wm2) (post := []) (pc := 642) h _ cT mf_M_thrown lk_RL_76 im_M_thrown se_M_thrown ⟨Nat.le_of_ble_eq_true rfl, Nat.le_of_ble_eq_true rfl⟩ hkn (by rw [e69, n4]; rfl) rfl g4 rfl rfl rfl (Nat.le_of_ble_eq_true rfl) [.int th] rfl dL_law_642 ?_
  refine V_iload (pc := 645) h 1 dL_law_645 rfl ?_
  rcases hh with ⟨v, q1, rfl, rfl⟩ | ⟨q1, rfl⟩
  · obtain ⟨rfl, hv⟩ : kk = 0 ∧ o1 0 = r.toInt64 := by
      rcases hk with ⟨v, p1, p2, p3⟩ | ⟨p1, p2⟩
      · cases q1.symm.trans p1; exact ⟨p2, p3⟩
      · cases q1.symm.trans p1
    refine V_icmp_eq (pc := 647) h 652 dL_law_647 (by decide) (fun _ => ?_) (fun hn => absurd rfl hn)
    refine V_iload (pc := 652) h 1 dL_law_652 rfl ?_
    refine V_if_ne (pc := 654) h 669 dL_law_654 (by decide) (fun hn => absurd rfl hn) (fun _ => ?_)
    refine V_aload_n (pc := 657) h 5 dL_law_657 rfl ?_
    refine V_iconst (pc := 658) h dL_law_658 ic_0 ?_
    refine V_lald (pc := 659) h 0 (m := 1) (f := o1) (v := o1 0) rfl rfl dL_law_659 ?_
    refine V_iload (pc := 660) h 0 dL_law_660 rfl ?_
    refine V_i2l (pc := 662) h dL_law_662 ?_
    refine V_lcmp_eq (pc := 663) (pc2 := 0) h 669 dL_law_663 dL_law_664 (by decide) (fun _ => ?_) (fun hn => absurd hv hn)
    refine V_goto (pc := 669) (tgt := 1412) h dL_law_669 (by decide) ?_
    refine V_sub _ [2, 3, 4, 5, 6] rfl ?_
    exact V_ws _ wl_2 (z o1 wm2 hr2)
  · obtain rfl : kk = 1 := by
      rcases hk with ⟨v, p1, p2, p3⟩ | ⟨p1, p2⟩
      · cases q1.symm.trans p1
      · exact p2
    refine V_icmp_eq (pc := 647) h 652 dL_law_647 (by decide) (fun _ => ?_) (fun hn => absurd rfl hn)
    refine V_iload (pc := 652) h 1 dL_law_652 rfl ?_
    refine V_if_ne (pc := 654) h 669 dL_law_654 (by decide) (fun _ => ?_) (fun hz => absurd hz (by decide))
    refine V_goto (pc := 669) (tgt := 1412) h dL_law_669 (by decide) ?_
    refine V_sub _ [2, 3, 4, 5, 6] rfl ?_
    exact V_ws _ wl_2 (z o1 wm2 hr2)
set_option maxRecDepth 4000 in
theorem lc_row {G : Gm} {b L : Nat} {xs : Nat → Int32} (O : LawOk G b L xs) {a a2 : Nat → Nat} {out : Nat} {o0 : Nat → Int64} {k n : Nat} (hkn : k + 1 ≤ room_1.cells ∧ n + 6 ≤ room_1.slots) {i : Nat} (hi : i + 7 ≤ L) {wx wm : va_W} (hr : Rel (gK G) a a2 wx wm) (z : ∀ o1 wm2, Rel (gK G) a a2 wx wm2 → V G (k + 1) (n + 6) (wsL G out o1 wx wm2) 1412 (lvL b (a 0) (a2 0) out i) []) : V G k n (wsL G out o0 wx wm) 1357 (lvL b (a 0) (a2 0) out i) [] := by
  obtain ⟨h, hX, hbl, hbA, hL, hNX, hl0, -⟩ := O
  obtain ⟨f1, ⟨fs1, g1⟩, f2, ⟨fs2, g2⟩⟩ := Rel_at hr
  have n1 : wx.length = 68 := by simpa using congrArg List.length f1
  have n2 : wm.length = 30 := by simpa using congrArg List.length f2
  obtain ⟨oo, r, th, wm2, cX, cM, cT, hr2, hh⟩ := k_row hr (xs (zI (i : Int) + 1).toNatClampNeg)
  obtain ⟨-, -, f4, ⟨fs4, g4⟩⟩ := Rel_at hr2
  have n4 : wm2.length = 30 := by simpa using congrArg List.length f4
  have e69 : ∀ o : Nat → Int64, ([outc (gK G) out o] ++ wx).length = 69 := fun o => by rw [List.length_append, n1]; rfl
  refine V_aload_n (pc := 1357) h 1 dL_law_1357 rfl ?_
  refine V_aload_n (pc := 1358) h 0 dL_law_1358 rfl ?_
  refine V_iload (pc := 1359) h 4 dL_law_1359 rfl ?_
  refine V_iconst (pc := 1361) h dL_law_1361 ic_1 ?_
  refine V_iadd (pc := 1362) h dL_law_1362 ?_
  refine V_sld (pc := 1363) h hX hbl hbA (inx (t := 1) hi hL (by omega)) dL_law_1363 ?_
  refine V_aload_n (pc := 1364) h 3 dL_law_1364 rfl ?_
  refine V_ws (([outc (gK G) out o0] ++ wx) ++ wm) (by rw [List.append_assoc]) ?_
  refine V_callSW (pc := 1365) (np := 3) h hNX hl0 _ (t_L_row (gK G) (a 0) out _ wx o0 oo n1 ⟨fs1, g1⟩ cX) in_RL cw_L_row (by decide +kernel) lk_RL_180 sm_L_row ⟨Nat.le_of_ble_eq_true rfl, Nat.le_of_ble_eq_true rfl⟩ hkn (List.range' 0 ([outc (gK G) out o0] ++ wx).length) (List.range' ([outc (gK G) out o0] ++ wx).length wm.length) wm (get_head _ wm) (get_tail _ wm) (by rw [e69]; rfl) (by rw [e69, n2]; rfl) dis_r rfl rfl (Nat.le_of_ble_eq_true rfl) dL_law_1365 (fun r1 w1 hw => ?_)
  obtain ⟨o1, kk, rfl, rfl, hk⟩ := hw
  refine V_perm (([outc (gK G) out o1] ++ wx) ++ (wm ++ [])) (List.range' wm.length ([outc (gK G) out o1] ++ wx).length ++ List.range' 0 wm.length) (by rw [e69, n2]; exact nd99) (by rw [List.map_append, List.append_nil, List.map_append, get_tail, get_head]) ?_
  refine V_istore (pc := 1368) h [(5, .int kk), (0, .ref b), (1, .ref (a 0)), (2, .ref (a2 0)), (3, .ref out), (4, .int (zI (i : Int)))] dL_law_1368 (by decide) rfl ?_
  refine V_aload_n (pc := 1370) h 3 dL_law_1370 rfl ?_
  refine V_aload_n (pc := 1371) h 1 dL_law_1371 rfl ?_
  refine V_iload (pc := 1372) h 5 dL_law_1372 rfl ?_
  refine V_iconst (pc := 1374) h dL_law_1374 ic_1 ?_
  refine V_iadd (pc := 1375) h dL_law_1375 ?_
  refine V_sld (pc := 1376) h hX hbl hbA (inx (t := 1) hi hL (by omega)) dL_law_1376 ?_
  refine V_mid (pre := [outc (gK G) out o1] ++ wx) (mid := wm) (post := []) (pc := 1377) h _ cM mf_M_row lk_RL_183 im_M_row se_M_row ⟨Nat.le_of_ble_eq_true rfl, Nat.le_of_ble_eq_true rfl⟩ hkn (by rw [e69, n2]; rfl) (f4.trans f2.symm) g2 rfl rfl rfl (Nat.le_of_ble_eq_true rfl) [.long r] rfl dL_law_1377 ?_
  refine V_lstore (pc := 1380) h [(6, .long r), (5, .int kk), (0, .ref b), (1, .ref (a 0)), (2, .ref (a2 0)), (3, .ref out), (4, .int (zI (i : Int)))] dL_law_1380 (by decide) rfl ?_
  refine V_aload_n (pc := 1382) h 4 dL_law_1382 rfl ?_
  refine V_mid (pre := [outc (gK G) out o1] ++ wx) (mid := wm2) (post := []) (pc := 1383) h _ cT mf_M_thrown lk_RL_76 im_M_thrown se_M_thrown ⟨Nat.le_of_ble_eq_true rfl, Nat.le_of_ble_eq_true rfl⟩ hkn (by rw [e69, n4]; rfl) rfl g4 rfl rfl rfl (Nat.le_of_ble_eq_true rfl) [.int th] rfl dL_law_1383 ?_
  refine V_iload (pc := 1386) h 1 dL_law_1386 rfl ?_
  rcases hh with ⟨v, q1, rfl, rfl⟩ | ⟨q1, rfl⟩
  · obtain ⟨rfl, hv⟩ : kk = 0 ∧ o1 0 = r := by
      rcases hk with ⟨v, p1, p2, p3⟩ | ⟨p1, p2⟩
      · cases q1.symm.trans p1; exact ⟨p2, p3⟩
      · cases q1.symm.trans p1
    refine V_icmp_eq (pc := 1388) h 1393 dL_law_1388 (by decide) (fun _ => ?_) (fun hn => absurd rfl hn)
    refine V_iload (pc := 1393) h 1 dL_law_1393 rfl ?_
    refine V_if_ne (pc := 1395) h 1409 dL_law_1395 (by decide) (fun hn => absurd rfl hn) (fun _ => ?_)
    refine V_aload_n (pc := 1398) h 5 dL_law_1398 rfl ?_
    refine V_iconst (pc := 1399) h dL_law_1399 ic_0 ?_
    refine V_lald (pc := 1400) h 0 (m := 1) (f := o1) (v := o1 0) rfl rfl dL_law_1400 ?_
    refine V_lload (pc := 1401) h 0 dL_law_1401 rfl ?_
    refine V_lcmp_eq (pc := 1403) (pc2 := 0) h 1409 dL_law_1403 dL_law_1404 (by decide) (fun _ => ?_) (fun hn => absurd hv hn)
    refine V_goto (pc := 1409) (tgt := 1412) h dL_law_1409 (by decide) ?_
    refine V_sub _ [2, 3, 4, 5, 6] rfl ?_
    exact V_ws _ wl_2 (z o1 wm2 hr2)
  · obtain rfl : kk = 1 := by
      rcases hk with ⟨v, p1, p2, p3⟩ | ⟨p1, p2⟩
      · cases q1.symm.trans p1
      · exact p2
    refine V_icmp_eq (pc := 1388) h 1393 dL_law_1388 (by decide) (fun _ => ?_) (fun hn => absurd rfl hn)
    refine V_iload (pc := 1393) h 1 dL_law_1393 rfl ?_
    refine V_if_ne (pc := 1395) h 1409 dL_law_1395 (by decide) (fun _ => ?_) (fun hz => absurd hz (by decide))
    refine V_goto (pc := 1409) (tgt := 1412) h dL_law_1409 (by decide) ?_
    refine V_sub _ [2, 3, 4, 5, 6] rfl ?_
    exact V_ws _ wl_2 (z o1 wm2 hr2)
