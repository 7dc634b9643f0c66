/-! THROWS: part and row of the class -/
theorem tab_out_6 {x : Int32} (h0 : ¬ x = 0) (h1 : ¬ x = 1) (h2 : ¬ x = 2) (h3 : ¬ x = 3) (h4 : ¬ x = 4) (h5 : ¬ x = 5) (h6 : ¬ x = 6) : x.toInt < 0 ∨ 6 < x.toInt := by
  have g0 : x.toInt ≠ 0 := fun e => h0 (Int32.toInt_inj.mp (e.trans (by decide)))
  have g1 : x.toInt ≠ 1 := fun e => h1 (Int32.toInt_inj.mp (e.trans (by decide)))
  have g2 : x.toInt ≠ 2 := fun e => h2 (Int32.toInt_inj.mp (e.trans (by decide)))
  have g3 : x.toInt ≠ 3 := fun e => h3 (Int32.toInt_inj.mp (e.trans (by decide)))
  have g4 : x.toInt ≠ 4 := fun e => h4 (Int32.toInt_inj.mp (e.trans (by decide)))
  have g5 : x.toInt ≠ 5 := fun e => h5 (Int32.toInt_inj.mp (e.trans (by decide)))
  have g6 : x.toInt ≠ 6 := fun e => h6 (Int32.toInt_inj.mp (e.trans (by decide)))
  omega
noncomputable def f_X_part (l1 l2 : Int32) (g c y s u o p : Nat → Int32) (bn : Int32) : Option (Option Int32) :=
  (f_J_has l1 bn).bind fun r =>
  if r = (0 : Int32) then some none else
  if l2 = (0 : Int32) then (ldA g 5 l1).bind fun v => some (some v) else
  if l2 = (1 : Int32) then (ldA c 5 l1).bind fun v => some (some v) else
  if l2 = (2 : Int32) then (ldA y 5 l1).bind fun v => some (some v) else
  if l2 = (3 : Int32) then (ldA s 5 l1).bind fun v => some (some v) else
  if l2 = (4 : Int32) then (ldA u 5 l1).bind fun v => some (some v) else
  if l2 = (5 : Int32) then (ldA o 5 l1).bind fun v => if v = (0 : Int32) then some (some (0 : Int32)) else some (some (1 : Int32)) else
  if l2 = (6 : Int32) then (f_J_hasGap l1 bn).bind fun r => if r = (0 : Int32) then some (some (0 : Int32)) else (ldA p 5 l1).bind fun v => some (some v) else
  some none
noncomputable def f_X_row (l1 : Int32) (nu : Nat → Int64) (sz : Int32) : Option (Option Int64) :=
  if l1 < 0 then some none else
  if sz ≤ l1 then some none else
  if l1 < (8 : Int32) then (ldA nu 8 l1).bind fun v => some (some v) else some none
theorem fl_6_317 : FL RX6 317 4 0 := ⟨RX4, TX4, 2, rfl, by decide, uw_4, AW_t 291 (by decide +kernel) (by decide +kernel)⟩
set_option maxHeartbeats 4000000 in
set_option maxRecDepth 100000 in
theorem t_X_part (K : Kd) (F : Nat) (a : Nat → Nat) (l1 l2 : Int32) (X_seats : Nat → Int32) (X_bestSeats : Nat → Int32) (F_sets : Nat → Int64) (F_unit : Int64) (F_openOver : Int64) (F_openUnder : Int64) (F_forces : Nat → Int64) (F_left : Int32) (G1_way : Nat → Int32) (G1_wayBefore : Nat → Int32) (G1_known : Int32) (G1_total : Int32) (G1_kind : Nat → Int32) (G1_who : Nat → Int32) (G1_over : Nat → Int64) (G1_under : Nat → Int64) (G1_endOver : Int64) (G1_endUnder : Int64) (G1_dueOver : Nat → Int64) (G1_dueUnder : Nat → Int64) (G1_soonOver : Int64) (G1_soonUnder : Int64) (G1_gains : Nat → Int64) (G1_gainUnder : Int64) (L1_stretch : Nat → Int32) (L1_rest : Nat → Int64) (L1_forceRise : Nat → Int64) (L1_forceStart : Nat → Int64) (L1_slipRise : Nat → Int64) (L1_slipStart : Nat → Int64) (L1_under : Int64) (L1_byFirst : Nat → Int64) (L1_byLoad : Nat → Int64) (L1_bare : Nat → Int64) (L1_scale : Nat → Int64) (L1_firstRise : Int64) (L1_firstStart : Int64) (J1_give : Nat → Int32) (J1_clear : Nat → Int32) (J1_yieldAt : Nat → Int32) (J1_soft : Nat → Int32) (J1_breakAt : Nat → Int32) (J1_out : Nat → Int32) (J1_pitches : Nat → Int32) (J1_bolts : Int32) (J1_upper : Int32) (J1_lower : Int32) (J2_give : Nat → Int32) (J2_clear : Nat → Int32) (J2_yieldAt : Nat → Int32) (J2_soft : Nat → Int32) (J2_breakAt : Nat → Int32) (J2_out : Nat → Int32) (J2_pitches : Nat → Int32) (J2_bolts : Int32) (J2_upper : Int32) (J2_lower : Int32) (G2_way : Nat → Int32) (G2_wayBefore : Nat → Int32) (G2_known : Int32) (G2_total : Int32) (G2_kind : Nat → Int32) (G2_who : Nat → Int32) (G2_over : Nat → Int64) (G2_under : Nat → Int64) (G2_endOver : Int64) (G2_endUnder : Int64) (G2_dueOver : Nat → Int64) (G2_dueUnder : Nat → Int64) (G2_soonOver : Int64) (G2_soonUnder : Int64) (G2_gains : Nat → Int64) (G2_gainUnder : Int64) (L2_stretch : Nat → Int32) (L2_rest : Nat → Int64) (L2_forceRise : Nat → Int64) (L2_forceStart : Nat → Int64) (L2_slipRise : Nat → Int64) (L2_slipStart : Nat → Int64) (L2_under : Int64) (L2_byFirst : Nat → Int64) (L2_byLoad : Nat → Int64) (L2_bare : Nat → Int64) (L2_scale : Nat → Int64) (L2_firstRise : Int64) (L2_firstStart : Int64) (T_signs : Nat → Int32) (T_size : Int32) (T_next : Int32) (T_fault : Int32) (R_numbers : Nat → Int64) (R_size : Int32) (o : Option Int32) (q : f_X_part l1 l2 J1_give J1_clear J1_yieldAt J1_soft J1_breakAt J1_out J1_pitches J1_bolts = some o) : CtrT yX6_part cX6_part 3 (some .int) 6 1 6 K [.ref (a 0), .int l1, .int l2] (wX K a 0 27 6 3 35 43 64 66 X_seats X_bestSeats ++ (wF K a 3 27 6 F_sets F_unit F_openOver F_openUnder F_forces F_left ++ (wG K a 6 27 16 G1_way G1_wayBefore G1_known G1_total G1_kind G1_who G1_over G1_under G1_endOver G1_endUnder G1_dueOver G1_dueUnder G1_soonOver G1_soonUnder G1_gains G1_gainUnder ++ (wL K a 16 27 L1_stretch L1_rest L1_forceRise L1_forceStart L1_slipRise L1_slipStart L1_under L1_byFirst L1_byLoad L1_bare L1_scale L1_firstRise L1_firstStart ++ (wJ K a 27 J1_give J1_clear J1_yieldAt J1_soft J1_breakAt J1_out J1_pitches J1_bolts J1_upper J1_lower ++ (wJ K a 35 J2_give J2_clear J2_yieldAt J2_soft J2_breakAt J2_out J2_pitches J2_bolts J2_upper J2_lower ++ (wG K a 43 35 53 G2_way G2_wayBefore G2_known G2_total G2_kind G2_who G2_over G2_under G2_endOver G2_endUnder G2_dueOver G2_dueUnder G2_soonOver G2_soonUnder G2_gains G2_gainUnder ++ (wL K a 53 35 L2_stretch L2_rest L2_forceRise L2_forceStart L2_slipRise L2_slipStart L2_under L2_byFirst L2_byLoad L2_bare L2_scale L2_firstRise L2_firstStart ++ (wT K a 64 T_signs T_size T_next T_fault ++ (wR K a 66 R_numbers R_size)))))))))) (fun r w => w = (wX K a 0 27 6 3 35 43 64 66 X_seats X_bestSeats ++ (wF K a 3 27 6 F_sets F_unit F_openOver F_openUnder F_forces F_left ++ (wG K a 6 27 16 G1_way G1_wayBefore G1_known G1_total G1_kind G1_who G1_over G1_under G1_endOver G1_endUnder G1_dueOver G1_dueUnder G1_soonOver G1_soonUnder G1_gains G1_gainUnder ++ (wL K a 16 27 L1_stretch L1_rest L1_forceRise L1_forceStart L1_slipRise L1_slipStart L1_under L1_byFirst L1_byLoad L1_bare L1_scale L1_firstRise L1_firstStart ++ (wJ K a 27 J1_give J1_clear J1_yieldAt J1_soft J1_breakAt J1_out J1_pitches J1_bolts J1_upper J1_lower ++ (wJ K a 35 J2_give J2_clear J2_yieldAt J2_soft J2_breakAt J2_out J2_pitches J2_bolts J2_upper J2_lower ++ (wG K a 43 35 53 G2_way G2_wayBefore G2_known G2_total G2_kind G2_who G2_over G2_under G2_endOver G2_endUnder G2_dueOver G2_dueUnder G2_soonOver G2_soonUnder G2_gains G2_gainUnder ++ (wL K a 53 35 L2_stretch L2_rest L2_forceRise L2_forceStart L2_slipRise L2_slipStart L2_under L2_byFirst L2_byLoad L2_bare L2_scale L2_firstRise L2_firstStart ++ (wT K a 64 T_signs T_size T_next T_fault ++ (wR K a 66 R_numbers R_size)))))))))) ∧ ∃ v, o = some v ∧ r = some (.int v)) (o = none) := by
  refine mkCtrT (by decide) (Nat.le_of_ble_eq_true rfl) (fun G hG h hq => ?_)
  subst hG
  unfold f_X_part at q
  refine V_aload_n (pc := 0) h 0 dX6_part_0 rfl ?_
  refine V_get (pc := 1) h fl_6_10 0 rfl rfl dX6_part_1 ?_
  refine V_iload_n (pc := 4) h 1 dX6_part_4 rfl ?_
  obtain ⟨r_5, e_5, q⟩ := bs q
  refine V_partV (pc := 5) h _ (t_J_has (gK G) F a 27 l1 J1_give J1_clear J1_yieldAt J1_soft J1_breakAt J1_out J1_pitches J1_bolts J1_upper J1_lower _ e_5) mf_J_has lk_RX6_94 im_J_has se_J_has ⟨Nat.le_of_ble_eq_true rfl, Nat.le_of_ble_eq_true rfl⟩ ⟨Nat.zero_le _, Nat.zero_le _⟩ (wX (gK G) a 0 27 6 3 35 43 64 66 X_seats X_bestSeats ++ (wF (gK G) a 3 27 6 F_sets F_unit F_openOver F_openUnder F_forces F_left ++ (wG (gK G) a 6 27 16 G1_way G1_wayBefore G1_known G1_total G1_kind G1_who G1_over G1_under G1_endOver G1_endUnder G1_dueOver G1_dueUnder G1_soonOver G1_soonUnder G1_gains G1_gainUnder ++ (wL (gK G) a 16 27 L1_stretch L1_rest L1_forceRise L1_forceStart L1_slipRise L1_slipStart L1_under L1_byFirst L1_byLoad L1_bare L1_scale L1_firstRise L1_firstStart ++ (wJ (gK G) a 27 J1_give J1_clear J1_yieldAt J1_soft J1_breakAt J1_out J1_pitches J1_bolts J1_upper J1_lower ++ (wJ (gK G) a 35 J2_give J2_clear J2_yieldAt J2_soft J2_breakAt J2_out J2_pitches J2_bolts J2_upper J2_lower ++ (wG (gK G) a 43 35 53 G2_way G2_wayBefore G2_known G2_total G2_kind G2_who G2_over G2_under G2_endOver G2_endUnder G2_dueOver G2_dueUnder G2_soonOver G2_soonUnder G2_gains G2_gainUnder ++ (wL (gK G) a 53 35 L2_stretch L2_rest L2_forceRise L2_forceStart L2_slipRise L2_slipStart L2_under L2_byFirst L2_byLoad L2_bare L2_scale L2_firstRise L2_firstStart ++ (wT (gK G) a 64 T_signs T_size T_next T_fault ++ (wR (gK G) a 66 R_numbers R_size)))))))))) [27, 28, 29, 30, 31, 32, 33, 34] [0, 1, 2, 3, 4, 5, 6, 7, 8, 9, 10, 11, 12, 13, 14, 15, 16, 17, 18, 19, 20, 21, 22, 23, 24, 25, 26, 35, 36, 37, 38, 39, 40, 41, 42, 43, 44, 45, 46, 47, 48, 49, 50, 51, 52, 53, 54, 55, 56, 57, 58, 59, 60, 61, 62, 63, 64, 65, 66, 67] 68 rfl rfl rfl rfl rfl (wX (gK G) a 0 27 6 3 35 43 64 66 X_seats X_bestSeats ++ (wF (gK G) a 3 27 6 F_sets F_unit F_openOver F_openUnder F_forces F_left ++ (wG (gK G) a 6 27 16 G1_way G1_wayBefore G1_known G1_total G1_kind G1_who G1_over G1_under G1_endOver G1_endUnder G1_dueOver G1_dueUnder G1_soonOver G1_soonUnder G1_gains G1_gainUnder ++ (wL (gK G) a 16 27 L1_stretch L1_rest L1_forceRise L1_forceStart L1_slipRise L1_slipStart L1_under L1_byFirst L1_byLoad L1_bare L1_scale L1_firstRise L1_firstStart ++ (wJ (gK G) a 35 J2_give J2_clear J2_yieldAt J2_soft J2_breakAt J2_out J2_pitches J2_bolts J2_upper J2_lower ++ (wG (gK G) a 43 35 53 G2_way G2_wayBefore G2_known G2_total G2_kind G2_who G2_over G2_under G2_endOver G2_endUnder G2_dueOver G2_dueUnder G2_soonOver G2_soonUnder G2_gains G2_gainUnder ++ (wL (gK G) a 53 35 L2_stretch L2_rest L2_forceRise L2_forceStart L2_slipRise L2_slipStart L2_under L2_byFirst L2_byLoad L2_bare L2_scale L2_firstRise L2_firstStart ++ (wT (gK G) a 64 T_signs T_size T_next T_fault ++ (wR (gK G) a 66 R_numbers R_size))))))))) rfl rfl rfl 27 rfl rfl rfl rfl (Nat.le_of_ble_eq_true rfl) [.int r_5] rfl dX6_part_5 ?_
  refine V_if_ne (pc := 8) h 19 dX6_part_8 (by decide) (fun hc => ?_) (fun hc => ?_)
  · have q := if_n hc q
    refine V_iload_n (pc := 19) h 2 dX6_part_19 rfl ?_
    by_cases hc_0 : l2 = (0 : Int32)
    · have q := if_p hc_0 q
      refine V_tabIn (pc := 20) h 64 0 dX6_part_20 hc_0 (by decide) (by decide) (by decide) ?_
      refine V_aload_n (pc := 64) h 0 dX6_part_64 rfl ?_
      refine V_get (pc := 65) h fl_6_10 0 rfl rfl dX6_part_65 ?_
      refine V_get (pc := 68) h fl_6_97 27 rfl rfl dX6_part_68 ?_
      refine V_iload_n (pc := 71) h 1 dX6_part_71 rfl ?_
      obtain ⟨v, e, q⟩ := bs q
      refine V_iald (pc := 72) h 28 rfl e dX6_part_72 ?_
      obtain rfl := Option.some.inj q
      exact V_iretX (pc := 73) h hq (Nat.zero_le _) (Nat.zero_le _) dX6_part_73 ⟨rfl, _, rfl, rfl⟩
    have q := if_n hc_0 q
    by_cases hc_1 : l2 = (1 : Int32)
    · have q := if_p hc_1 q
      refine V_tabIn (pc := 20) h 74 0 dX6_part_20 hc_1 (by decide) (by decide) (by decide) ?_
      refine V_aload_n (pc := 74) h 0 dX6_part_74 rfl ?_
      refine V_get (pc := 75) h fl_6_10 0 rfl rfl dX6_part_75 ?_
      refine V_get (pc := 78) h fl_6_100 27 rfl rfl dX6_part_78 ?_
      refine V_iload_n (pc := 81) h 1 dX6_part_81 rfl ?_
      obtain ⟨v, e, q⟩ := bs q
      refine V_iald (pc := 82) h 29 rfl e dX6_part_82 ?_
      obtain rfl := Option.some.inj q
      exact V_iretX (pc := 83) h hq (Nat.zero_le _) (Nat.zero_le _) dX6_part_83 ⟨rfl, _, rfl, rfl⟩
    have q := if_n hc_1 q
    by_cases hc_2 : l2 = (2 : Int32)
    · have q := if_p hc_2 q
      refine V_tabIn (pc := 20) h 84 0 dX6_part_20 hc_2 (by decide) (by decide) (by decide) ?_
      refine V_aload_n (pc := 84) h 0 dX6_part_84 rfl ?_
      refine V_get (pc := 85) h fl_6_10 0 rfl rfl dX6_part_85 ?_
      refine V_get (pc := 88) h fl_6_103 27 rfl rfl dX6_part_88 ?_
      refine V_iload_n (pc := 91) h 1 dX6_part_91 rfl ?_
      obtain ⟨v, e, q⟩ := bs q
      refine V_iald (pc := 92) h 30 rfl e dX6_part_92 ?_
      obtain rfl := Option.some.inj q
      exact V_iretX (pc := 93) h hq (Nat.zero_le _) (Nat.zero_le _) dX6_part_93 ⟨rfl, _, rfl, rfl⟩
    have q := if_n hc_2 q
    by_cases hc_3 : l2 = (3 : Int32)
    · have q := if_p hc_3 q
      refine V_tabIn (pc := 20) h 94 0 dX6_part_20 hc_3 (by decide) (by decide) (by decide) ?_
      refine V_aload_n (pc := 94) h 0 dX6_part_94 rfl ?_
      refine V_get (pc := 95) h fl_6_10 0 rfl rfl dX6_part_95 ?_
      refine V_get (pc := 98) h fl_6_106 27 rfl rfl dX6_part_98 ?_
      refine V_iload_n (pc := 101) h 1 dX6_part_101 rfl ?_
      obtain ⟨v, e, q⟩ := bs q
      refine V_iald (pc := 102) h 31 rfl e dX6_part_102 ?_
      obtain rfl := Option.some.inj q
      exact V_iretX (pc := 103) h hq (Nat.zero_le _) (Nat.zero_le _) dX6_part_103 ⟨rfl, _, rfl, rfl⟩
    have q := if_n hc_3 q
    by_cases hc_4 : l2 = (4 : Int32)
    · have q := if_p hc_4 q
      refine V_tabIn (pc := 20) h 104 0 dX6_part_20 hc_4 (by decide) (by decide) (by decide) ?_
      refine V_aload_n (pc := 104) h 0 dX6_part_104 rfl ?_
      refine V_get (pc := 105) h fl_6_10 0 rfl rfl dX6_part_105 ?_
      refine V_get (pc := 108) h fl_6_109 27 rfl rfl dX6_part_108 ?_
      refine V_iload_n (pc := 111) h 1 dX6_part_111 rfl ?_
      obtain ⟨v, e, q⟩ := bs q
      refine V_iald (pc := 112) h 32 rfl e dX6_part_112 ?_
      obtain rfl := Option.some.inj q
      exact V_iretX (pc := 113) h hq (Nat.zero_le _) (Nat.zero_le _) dX6_part_113 ⟨rfl, _, rfl, rfl⟩
    have q := if_n hc_4 q
    by_cases hc_5 : l2 = (5 : Int32)
    · have q := if_p hc_5 q
      refine V_tabIn (pc := 20) h 114 0 dX6_part_20 hc_5 (by decide) (by decide) (by decide) ?_
      refine V_aload_n (pc := 114) h 0 dX6_part_114 rfl ?_
      refine V_get (pc := 115) h fl_6_10 0 rfl rfl dX6_part_115 ?_
      refine V_get (pc := 118) h fl_6_116 27 rfl rfl dX6_part_118 ?_
      refine V_iload_n (pc := 121) h 1 dX6_part_121 rfl ?_
      obtain ⟨v, e, q⟩ := bs q
      refine V_zald (pc := 122) h 33 rfl e dX6_part_122 ?_
      refine V_if_eq (pc := 123) h 130 dX6_part_123 (by decide) (fun hz => ?_) (fun hz => ?_)
      · have q := if_p hz q
        obtain rfl := Option.some.inj q
        refine V_iconst (pc := 130) h dX6_part_130 ic_0 ?_
        exact V_iretX (pc := 131) h hq (Nat.zero_le _) (Nat.zero_le _) dX6_part_131 ⟨rfl, _, rfl, rfl⟩
      · have q := if_n hz q
        obtain rfl := Option.some.inj q
        refine V_iconst (pc := 126) h dX6_part_126 ic_1 ?_
        refine V_goto (pc := 127) (tgt := 131) h dX6_part_127 (by decide) ?_
        exact V_iretX (pc := 131) h hq (Nat.zero_le _) (Nat.zero_le _) dX6_part_131 ⟨rfl, _, rfl, rfl⟩
    have q := if_n hc_5 q
    by_cases hc_6 : l2 = (6 : Int32)
    · have q := if_p hc_6 q
      refine V_tabIn (pc := 20) h 132 0 dX6_part_20 hc_6 (by decide) (by decide) (by decide) ?_
      refine V_aload_n (pc := 132) h 0 dX6_part_132 rfl ?_
      refine V_get (pc := 133) h fl_6_10 0 rfl rfl dX6_part_133 ?_
      refine V_iload_n (pc := 136) h 1 dX6_part_136 rfl ?_
      obtain ⟨r_7, e_7, q⟩ := bs q
      refine V_partV (pc := 137) h _ (t_J_hasGap (gK G) F a 27 l1 J1_give J1_clear J1_yieldAt J1_soft J1_breakAt J1_out J1_pitches J1_bolts J1_upper J1_lower _ e_7) mf_J_hasGap lk_RX6_87 im_J_hasGap se_J_hasGap ⟨Nat.le_of_ble_eq_true rfl, Nat.le_of_ble_eq_true rfl⟩ ⟨Nat.zero_le _, Nat.zero_le _⟩ (wX (gK G) a 0 27 6 3 35 43 64 66 X_seats X_bestSeats ++ (wF (gK G) a 3 27 6 F_sets F_unit F_openOver F_openUnder F_forces F_left ++ (wG (gK G) a 6 27 16 G1_way G1_wayBefore G1_known G1_total G1_kind G1_who G1_over G1_under G1_endOver G1_endUnder G1_dueOver G1_dueUnder G1_soonOver G1_soonUnder G1_gains G1_gainUnder ++ (wL (gK G) a 16 27 L1_stretch L1_rest L1_forceRise L1_forceStart L1_slipRise L1_slipStart L1_under L1_byFirst L1_byLoad L1_bare L1_scale L1_firstRise L1_firstStart ++ (wJ (gK G) a 27 J1_give J1_clear J1_yieldAt J1_soft J1_breakAt J1_out J1_pitches J1_bolts J1_upper J1_lower ++ (wJ (gK G) a 35 J2_give J2_clear J2_yieldAt J2_soft J2_breakAt J2_out J2_pitches J2_bolts J2_upper J2_lower ++ (wG (gK G) a 43 35 53 G2_way G2_wayBefore G2_known G2_total G2_kind G2_who G2_over G2_under G2_endOver G2_endUnder G2_dueOver G2_dueUnder G2_soonOver G2_soonUnder G2_gains G2_gainUnder ++ (wL (gK G) a 53 35 L2_stretch L2_rest L2_forceRise L2_forceStart L2_slipRise L2_slipStart L2_under L2_byFirst L2_byLoad L2_bare L2_scale L2_firstRise L2_firstStart ++ (wT (gK G) a 64 T_signs T_size T_next T_fault ++ (wR (gK G) a 66 R_numbers R_size)))))))))) [27, 28, 29, 30, 31, 32, 33, 34] [0, 1, 2, 3, 4, 5, 6, 7, 8, 9, 10, 11, 12, 13, 14, 15, 16, 17, 18, 19, 20, 21, 22, 23, 24, 25, 26, 35, 36, 37, 38, 39, 40, 41, 42, 43, 44, 45, 46, 47, 48, 49, 50, 51, 52, 53, 54, 55, 56, 57, 58, 59, 60, 61, 62, 63, 64, 65, 66, 67] 68 rfl rfl rfl rfl rfl (wX (gK G) a 0 27 6 3 35 43 64 66 X_seats X_bestSeats ++ (wF (gK G) a 3 27 6 F_sets F_unit F_openOver F_openUnder F_forces F_left ++ (wG (gK G) a 6 27 16 G1_way G1_wayBefore G1_known G1_total G1_kind G1_who G1_over G1_under G1_endOver G1_endUnder G1_dueOver G1_dueUnder G1_soonOver G1_soonUnder G1_gains G1_gainUnder ++ (wL (gK G) a 16 27 L1_stretch L1_rest L1_forceRise L1_forceStart L1_slipRise L1_slipStart L1_under L1_byFirst L1_byLoad L1_bare L1_scale L1_firstRise L1_firstStart ++ (wJ (gK G) a 35 J2_give J2_clear J2_yieldAt J2_soft J2_breakAt J2_out J2_pitches J2_bolts J2_upper J2_lower ++ (wG (gK G) a 43 35 53 G2_way G2_wayBefore G2_known G2_total G2_kind G2_who G2_over G2_under G2_endOver G2_endUnder G2_dueOver G2_dueUnder G2_soonOver G2_soonUnder G2_gains G2_gainUnder ++ (wL (gK G) a 53 35 L2_stretch L2_rest L2_forceRise L2_forceStart L2_slipRise L2_slipStart L2_under L2_byFirst L2_byLoad L2_bare L2_scale L2_firstRise L2_firstStart ++ (wT (gK G) a 64 T_signs T_size T_next T_fault ++ (wR (gK G) a 66 R_numbers R_size))))))))) rfl rfl rfl 27 rfl rfl rfl rfl (Nat.le_of_ble_eq_true rfl) [.int r_7] rfl dX6_part_137 ?_
      refine V_if_eq (pc := 140) h 155 dX6_part_140 (by decide) (fun hz => ?_) (fun hz => ?_)
      · have q := if_p hz q
        obtain rfl := Option.some.inj q
        refine V_iconst (pc := 155) h dX6_part_155 ic_0 ?_
        exact V_iretX (pc := 156) h hq (Nat.zero_le _) (Nat.zero_le _) dX6_part_156 ⟨rfl, _, rfl, rfl⟩
      · have q := if_n hz q
        refine V_aload_n (pc := 143) h 0 dX6_part_143 rfl ?_
        refine V_get (pc := 144) h fl_6_10 0 rfl rfl dX6_part_144 ?_
        refine V_get (pc := 147) h fl_6_91 27 rfl rfl dX6_part_147 ?_
        refine V_iload_n (pc := 150) h 1 dX6_part_150 rfl ?_
        obtain ⟨v, e, q⟩ := bs q
        refine V_iald (pc := 151) h 34 rfl e dX6_part_151 ?_
        obtain rfl := Option.some.inj q
        refine V_goto (pc := 152) (tgt := 156) h dX6_part_152 (by decide) ?_
        exact V_iretX (pc := 156) h hq (Nat.zero_le _) (Nat.zero_le _) dX6_part_156 ⟨rfl, _, rfl, rfl⟩
    have q := if_n hc_6 q
    obtain rfl := Option.some.inj q
    refine V_tabOut (pc := 20) h 157 dX6_part_20 (tab_out_6 hc_0 hc_1 hc_2 hc_3 hc_4 hc_5 hc_6) (by decide) ?_
    exact V_throw0 (pc := 157) h hq rfl tX_wk tX_wi tX_at tX_ng tX_gd ⟨Nat.le_of_ble_eq_true rfl, Nat.le_of_ble_eq_true rfl⟩ ⟨Nat.le_of_ble_eq_true rfl, Nat.le_of_ble_eq_true rfl⟩ (Nat.le_of_ble_eq_true rfl) (Nat.le_of_ble_eq_true rfl) dX6_part_157 dX6_part_160 dX6_part_161 dX6_part_164
  · have q := if_p hc q
    obtain rfl := Option.some.inj q
    exact V_throw0 (pc := 11) h hq rfl tX_wk tX_wi tX_at tX_ng tX_gd ⟨Nat.le_of_ble_eq_true rfl, Nat.le_of_ble_eq_true rfl⟩ ⟨Nat.le_of_ble_eq_true rfl, Nat.le_of_ble_eq_true rfl⟩ (Nat.le_of_ble_eq_true rfl) (Nat.le_of_ble_eq_true rfl) dX6_part_11 dX6_part_14 dX6_part_15 dX6_part_18
set_option maxHeartbeats 4000000 in
set_option maxRecDepth 100000 in
theorem t_X_row (K : Kd) (a : Nat → Nat) (l1 : Int32) (X_seats : Nat → Int32) (X_bestSeats : Nat → Int32) (F_sets : Nat → Int64) (F_unit : Int64) (F_openOver : Int64) (F_openUnder : Int64) (F_forces : Nat → Int64) (F_left : Int32) (G1_way : Nat → Int32) (G1_wayBefore : Nat → Int32) (G1_known : Int32) (G1_total : Int32) (G1_kind : Nat → Int32) (G1_who : Nat → Int32) (G1_over : Nat → Int64) (G1_under : Nat → Int64) (G1_endOver : Int64) (G1_endUnder : Int64) (G1_dueOver : Nat → Int64) (G1_dueUnder : Nat → Int64) (G1_soonOver : Int64) (G1_soonUnder : Int64) (G1_gains : Nat → Int64) (G1_gainUnder : Int64) (L1_stretch : Nat → Int32) (L1_rest : Nat → Int64) (L1_forceRise : Nat → Int64) (L1_forceStart : Nat → Int64) (L1_slipRise : Nat → Int64) (L1_slipStart : Nat → Int64) (L1_under : Int64) (L1_byFirst : Nat → Int64) (L1_byLoad : Nat → Int64) (L1_bare : Nat → Int64) (L1_scale : Nat → Int64) (L1_firstRise : Int64) (L1_firstStart : Int64) (J1_give : Nat → Int32) (J1_clear : Nat → Int32) (J1_yieldAt : Nat → Int32) (J1_soft : Nat → Int32) (J1_breakAt : Nat → Int32) (J1_out : Nat → Int32) (J1_pitches : Nat → Int32) (J1_bolts : Int32) (J1_upper : Int32) (J1_lower : Int32) (J2_give : Nat → Int32) (J2_clear : Nat → Int32) (J2_yieldAt : Nat → Int32) (J2_soft : Nat → Int32) (J2_breakAt : Nat → Int32) (J2_out : Nat → Int32) (J2_pitches : Nat → Int32) (J2_bolts : Int32) (J2_upper : Int32) (J2_lower : Int32) (G2_way : Nat → Int32) (G2_wayBefore : Nat → Int32) (G2_known : Int32) (G2_total : Int32) (G2_kind : Nat → Int32) (G2_who : Nat → Int32) (G2_over : Nat → Int64) (G2_under : Nat → Int64) (G2_endOver : Int64) (G2_endUnder : Int64) (G2_dueOver : Nat → Int64) (G2_dueUnder : Nat → Int64) (G2_soonOver : Int64) (G2_soonUnder : Int64) (G2_gains : Nat → Int64) (G2_gainUnder : Int64) (L2_stretch : Nat → Int32) (L2_rest : Nat → Int64) (L2_forceRise : Nat → Int64) (L2_forceStart : Nat → Int64) (L2_slipRise : Nat → Int64) (L2_slipStart : Nat → Int64) (L2_under : Int64) (L2_byFirst : Nat → Int64) (L2_byLoad : Nat → Int64) (L2_bare : Nat → Int64) (L2_scale : Nat → Int64) (L2_firstRise : Int64) (L2_firstStart : Int64) (T_signs : Nat → Int32) (T_size : Int32) (T_next : Int32) (T_fault : Int32) (R_numbers : Nat → Int64) (R_size : Int32) (o : Option Int64) (q : f_X_row l1 R_numbers R_size = some o) : CtrT yX6_row cX6_row 2 (some .long) 6 1 6 K [.ref (a 0), .int l1] (wX K a 0 27 6 3 35 43 64 66 X_seats X_bestSeats ++ (wF K a 3 27 6 F_sets F_unit F_openOver F_openUnder F_forces F_left ++ (wG K a 6 27 16 G1_way G1_wayBefore G1_known G1_total G1_kind G1_who G1_over G1_under G1_endOver G1_endUnder G1_dueOver G1_dueUnder G1_soonOver G1_soonUnder G1_gains G1_gainUnder ++ (wL K a 16 27 L1_stretch L1_rest L1_forceRise L1_forceStart L1_slipRise L1_slipStart L1_under L1_byFirst L1_byLoad L1_bare L1_scale L1_firstRise L1_firstStart ++ (wJ K a 27 J1_give J1_clear J1_yieldAt J1_soft J1_breakAt J1_out J1_pitches J1_bolts J1_upper J1_lower ++ (wJ K a 35 J2_give J2_clear J2_yieldAt J2_soft J2_breakAt J2_out J2_pitches J2_bolts J2_upper J2_lower ++ (wG K a 43 35 53 G2_way G2_wayBefore G2_known G2_total G2_kind G2_who G2_over G2_under G2_endOver G2_endUnder G2_dueOver G2_dueUnder G2_soonOver G2_soonUnder G2_gains G2_gainUnder ++ (wL K a 53 35 L2_stretch L2_rest L2_forceRise L2_forceStart L2_slipRise L2_slipStart L2_under L2_byFirst L2_byLoad L2_bare L2_scale L2_firstRise L2_firstStart ++ (wT K a 64 T_signs T_size T_next T_fault ++ (wR K a 66 R_numbers R_size)))))))))) (fun r w => w = (wX K a 0 27 6 3 35 43 64 66 X_seats X_bestSeats ++ (wF K a 3 27 6 F_sets F_unit F_openOver F_openUnder F_forces F_left ++ (wG K a 6 27 16 G1_way G1_wayBefore G1_known G1_total G1_kind G1_who G1_over G1_under G1_endOver G1_endUnder G1_dueOver G1_dueUnder G1_soonOver G1_soonUnder G1_gains G1_gainUnder ++ (wL K a 16 27 L1_stretch L1_rest L1_forceRise L1_forceStart L1_slipRise L1_slipStart L1_under L1_byFirst L1_byLoad L1_bare L1_scale L1_firstRise L1_firstStart ++ (wJ K a 27 J1_give J1_clear J1_yieldAt J1_soft J1_breakAt J1_out J1_pitches J1_bolts J1_upper J1_lower ++ (wJ K a 35 J2_give J2_clear J2_yieldAt J2_soft J2_breakAt J2_out J2_pitches J2_bolts J2_upper J2_lower ++ (wG K a 43 35 53 G2_way G2_wayBefore G2_known G2_total G2_kind G2_who G2_over G2_under G2_endOver G2_endUnder G2_dueOver G2_dueUnder G2_soonOver G2_soonUnder G2_gains G2_gainUnder ++ (wL K a 53 35 L2_stretch L2_rest L2_forceRise L2_forceStart L2_slipRise L2_slipStart L2_under L2_byFirst L2_byLoad L2_bare L2_scale L2_firstRise L2_firstStart ++ (wT K a 64 T_signs T_size T_next T_fault ++ (wR K a 66 R_numbers R_size)))))))))) ∧ ∃ v, o = some v ∧ r = some (.long v)) (o = none) := by
  refine mkCtrT (by decide) (Nat.le_of_ble_eq_true rfl) (fun G hG h hq => ?_)
  subst hG
  unfold f_X_row at q
  refine V_iload_n (pc := 0) h 1 dX6_row_0 rfl ?_
  refine V_if_lt (pc := 1) h 27 dX6_row_1 (by decide) (fun hc => ?_) (fun hc => ?_)
  · have q := if_p hc q
    obtain rfl := Option.some.inj q
    exact V_throw0 (pc := 27) h hq rfl tX_wk tX_wi tX_at tX_ng tX_gd ⟨Nat.le_of_ble_eq_true rfl, Nat.le_of_ble_eq_true rfl⟩ ⟨Nat.le_of_ble_eq_true rfl, Nat.le_of_ble_eq_true rfl⟩ (Nat.le_of_ble_eq_true rfl) (Nat.le_of_ble_eq_true rfl) dX6_row_27 dX6_row_30 dX6_row_31 dX6_row_34
  have q := if_n hc q
  refine V_iload_n (pc := 4) h 1 dX6_row_4 rfl ?_
  refine V_aload_n (pc := 5) h 0 dX6_row_5 rfl ?_
  refine V_get (pc := 6) h fl_6_50 0 rfl rfl dX6_row_6 ?_
  refine V_get (pc := 9) h fl_6_157 66 rfl rfl dX6_row_9 ?_
  refine V_icmp_ge (pc := 12) h 27 dX6_row_12 (by decide) (fun hd => ?_) (fun hd => ?_)
  · have q := if_p hd q
    obtain rfl := Option.some.inj q
    exact V_throw0 (pc := 27) h hq rfl tX_wk tX_wi tX_at tX_ng tX_gd ⟨Nat.le_of_ble_eq_true rfl, Nat.le_of_ble_eq_true rfl⟩ ⟨Nat.le_of_ble_eq_true rfl, Nat.le_of_ble_eq_true rfl⟩ (Nat.le_of_ble_eq_true rfl) (Nat.le_of_ble_eq_true rfl) dX6_row_27 dX6_row_30 dX6_row_31 dX6_row_34
  have q := if_n hd q
  refine V_iload_n (pc := 15) h 1 dX6_row_15 rfl ?_
  refine V_aload_n (pc := 16) h 0 dX6_row_16 rfl ?_
  refine V_get (pc := 17) h fl_6_50 0 rfl rfl dX6_row_17 ?_
  refine V_get (pc := 20) h fl_6_317 66 rfl rfl dX6_row_20 ?_
  refine V_alenL (pc := 23) h 67 rfl (v := 8) rfl dX6_row_23 ?_
  refine V_icmp_lt (pc := 24) h 35 dX6_row_24 (by decide) (fun he => ?_) (fun he => ?_)
  · have q := if_p he q
    refine V_aload_n (pc := 35) h 0 dX6_row_35 rfl ?_
    refine V_get (pc := 36) h fl_6_50 0 rfl rfl dX6_row_36 ?_
    refine V_get (pc := 39) h fl_6_317 66 rfl rfl dX6_row_39 ?_
    refine V_iload_n (pc := 42) h 1 dX6_row_42 rfl ?_
    obtain ⟨v, e, q⟩ := bs q
    refine V_lald (pc := 43) h 67 rfl e dX6_row_43 ?_
    obtain rfl := Option.some.inj q
    exact V_lretX (pc := 44) h hq (Nat.zero_le _) (Nat.zero_le _) dX6_row_44 ⟨rfl, _, rfl, rfl⟩
  · have q := if_n he q
    obtain rfl := Option.some.inj q
    exact V_throw0 (pc := 27) h hq rfl tX_wk tX_wi tX_at tX_ng tX_gd ⟨Nat.le_of_ble_eq_true rfl, Nat.le_of_ble_eq_true rfl⟩ ⟨Nat.le_of_ble_eq_true rfl, Nat.le_of_ble_eq_true rfl⟩ (Nat.le_of_ble_eq_true rfl) (Nat.le_of_ble_eq_true rfl) dX6_row_27 dX6_row_30 dX6_row_31 dX6_row_34
