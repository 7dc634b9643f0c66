set_option maxHeartbeats 4000000 in
set_option maxRecDepth 100000 in
theorem v_M_count {G : Gm} (h : VOk G cX7_count RX7 2 (rmC 16 0 0)) (F : Nat) (a : Nat → Nat) (l1 : Int32) (M_now : Nat → Int32) (M_many : Int32) (M_upper : Int32) (M_lower : Int32) (M_text : Nat → Int32) (M_typed : Int32) (M_row : Nat → Int64) (M_rowMany : Int32) (M_thrown : Int32) (M_length : Int32) (M_at : Int32) (M_wrong : Int32) (M_read : Nat → Int32) (M_mode : Nat → Int32) (M_under : Int64) (M_slope : Nat → Int64) (M_base : Nat → Int64) (M_slipSlope : Nat → Int64) (M_slipBase : Nat → Int64) (M_offset : Nat → Int64) (M_bearer : Nat → Int32) (M_bearers : Int32) (M_matrix : Nat → Int64) (M_loadOver : Int64) (M_loadUnder : Int64) (M_eventMany : Int32) (M_eventKind : Nat → Int32) (M_eventBolt : Nat → Int32) (M_eventOver : Nat → Int64) (M_eventUnder : Nat → Int64) (M_had : Nat → Int32) (M_nextOver : Int64) (M_nextUnder : Int64) (M_met : Nat → Int32) (M_fresh : Nat → Int32) (M_aheadOver : Nat → Int64) (M_aheadUnder : Nat → Int64) (M_behindOver : Nat → Int64) (M_behindUnder : Nat → Int64) (M_setOf : Nat → Int64) (M_unit : Int64) (M_moreOver : Nat → Int64) (M_moreUnder : Nat → Int64) (M_aside : Nat → Int32) (M_bestOver : Int64) (M_bestUnder : Int64) (M_places : Nat → Int32) (M_bestPlaces : Nat → Int32) (M_drawn : Int32) (o : Int32 × Int32 × (Nat → Int32) × Int64 × (Nat → Int64) × (Nat → Int64) × (Nat → Int64) × (Nat → Int64) × (Nat → Int64) × (Nat → Int32) × Int32 × (Nat → Int64) × Int64 × Int64 × Int32 × (Nat → Int32) × (Nat → Int32) × (Nat → Int64) × (Nat → Int64) × (Nat → Int32) × Int64 × Int64 × (Nat → Int32) × (Nat → Int32) × (Nat → Int64) × (Nat → Int64) × (Nat → Int64) × (Nat → Int64)) (q : f_M_count F l1 M_now M_many M_upper M_lower M_typed M_rowMany M_thrown M_mode M_under M_slope M_base M_slipSlope M_slipBase M_offset M_bearer M_bearers M_matrix M_loadOver M_loadUnder M_eventMany M_eventKind M_eventBolt M_eventOver M_eventUnder M_had M_nextOver M_nextUnder M_met M_fresh M_aheadOver M_aheadUnder M_behindOver M_behindUnder = some o) {Pst : Option Value → va_W → Prop} (hq : RetQ G 0 0 (some .int) Pst) (hp : Pst (some (.int (o.1))) (wM (gK G) a 0 M_now M_many M_upper M_lower M_text M_typed M_row M_rowMany (o.2.1) M_length M_at M_wrong M_read (o.2.2.1) (o.2.2.2.1) (o.2.2.2.2.1) (o.2.2.2.2.2.1) (o.2.2.2.2.2.2.1) (o.2.2.2.2.2.2.2.1) (o.2.2.2.2.2.2.2.2.1) (o.2.2.2.2.2.2.2.2.2.1) (o.2.2.2.2.2.2.2.2.2.2.1) (o.2.2.2.2.2.2.2.2.2.2.2.1) (o.2.2.2.2.2.2.2.2.2.2.2.2.1) (o.2.2.2.2.2.2.2.2.2.2.2.2.2.1) (o.2.2.2.2.2.2.2.2.2.2.2.2.2.2.1) (o.2.2.2.2.2.2.2.2.2.2.2.2.2.2.2.1) (o.2.2.2.2.2.2.2.2.2.2.2.2.2.2.2.2.1) (o.2.2.2.2.2.2.2.2.2.2.2.2.2.2.2.2.2.1) (o.2.2.2.2.2.2.2.2.2.2.2.2.2.2.2.2.2.2.1) (o.2.2.2.2.2.2.2.2.2.2.2.2.2.2.2.2.2.2.2.1) (o.2.2.2.2.2.2.2.2.2.2.2.2.2.2.2.2.2.2.2.2.1) (o.2.2.2.2.2.2.2.2.2.2.2.2.2.2.2.2.2.2.2.2.2.1) (o.2.2.2.2.2.2.2.2.2.2.2.2.2.2.2.2.2.2.2.2.2.2.1) (o.2.2.2.2.2.2.2.2.2.2.2.2.2.2.2.2.2.2.2.2.2.2.2.1) (o.2.2.2.2.2.2.2.2.2.2.2.2.2.2.2.2.2.2.2.2.2.2.2.2.1) (o.2.2.2.2.2.2.2.2.2.2.2.2.2.2.2.2.2.2.2.2.2.2.2.2.2.1) (o.2.2.2.2.2.2.2.2.2.2.2.2.2.2.2.2.2.2.2.2.2.2.2.2.2.2.1) (o.2.2.2.2.2.2.2.2.2.2.2.2.2.2.2.2.2.2.2.2.2.2.2.2.2.2.2) M_setOf M_unit M_moreOver M_moreUnder M_aside M_bestOver M_bestUnder M_places M_bestPlaces M_drawn)) : V G 0 0 (wM (gK G) a 0 M_now M_many M_upper M_lower M_text M_typed M_row M_rowMany M_thrown M_length M_at M_wrong M_read M_mode M_under M_slope M_base M_slipSlope M_slipBase M_offset M_bearer M_bearers M_matrix M_loadOver M_loadUnder M_eventMany M_eventKind M_eventBolt M_eventOver M_eventUnder M_had M_nextOver M_nextUnder M_met M_fresh M_aheadOver M_aheadUnder M_behindOver M_behindUnder M_setOf M_unit M_moreOver M_moreUnder M_aside M_bestOver M_bestUnder M_places M_bestPlaces M_drawn) 0 [(0, .ref (a 0)), (1, .int l1)] [] := by
  unfold f_M_count at q
  refine V_aload_n (pc := 0) h 0 dX7_count_0 rfl ?_
  refine V_iconst (pc := 1) h dX7_count_1 ic_0 ?_
  refine V_put (pc := 2) h fl_7_107 fp_7_8 0 (wM (gK G) a 0 M_now M_many M_upper M_lower M_text M_typed M_row M_rowMany (0 : Int32) M_length M_at M_wrong M_read M_mode M_under M_slope M_base M_slipSlope M_slipBase M_offset M_bearer M_bearers M_matrix M_loadOver M_loadUnder M_eventMany M_eventKind M_eventBolt M_eventOver M_eventUnder M_had M_nextOver M_nextUnder M_met M_fresh M_aheadOver M_aheadUnder M_behindOver M_behindUnder M_setOf M_unit M_moreOver M_moreUnder M_aside M_bestOver M_bestUnder M_places M_bestPlaces M_drawn) rfl rfl rfl (Nat.le_of_ble_eq_true rfl) rfl dX7_count_2 ?_
  refine V_iload_n (pc := 5) h 1 dX7_count_5 rfl ?_
  by_cases hc_0 : l1 = (0 : Int32)
  · have q := if_p hc_0 q
    refine V_tabIn (pc := 6) h 56 0 dX7_count_6 hc_0 (by decide) (by decide) (by decide) ?_
    refine V_aload_n (pc := 56) h 0 dX7_count_56 rfl ?_
    refine V_get (pc := 57) h fl_7_127 0 rfl rfl dX7_count_57 ?_
    obtain rfl := Option.some.inj q
    exact V_iret (pc := 60) h hq dX7_count_60 hp
  have q := if_n hc_0 q
  by_cases hc_1 : l1 = (1 : Int32)
  · have q := if_p hc_1 q
    refine V_tabIn (pc := 6) h 61 0 dX7_count_6 hc_1 (by decide) (by decide) (by decide) ?_
    refine V_aload_n (pc := 61) h 0 dX7_count_61 rfl ?_
    obtain ⟨r_62, e_62, q⟩ := bs q
    refine V_wallV (pc := 62) h _ (t_M_soundMany (gK G) F a M_now M_many M_upper M_lower M_text M_typed M_row M_rowMany (0 : Int32) M_length M_at M_wrong M_read M_mode M_under M_slope M_base M_slipSlope M_slipBase M_offset M_bearer M_bearers M_matrix M_loadOver M_loadUnder M_eventMany M_eventKind M_eventBolt M_eventOver M_eventUnder M_had M_nextOver M_nextUnder M_met M_fresh M_aheadOver M_aheadUnder M_behindOver M_behindUnder M_setOf M_unit M_moreOver M_moreUnder M_aside M_bestOver M_bestUnder M_places M_bestPlaces M_drawn _ e_62) mf_M_soundMany lk_RX7_163 im_M_soundMany se_M_soundMany ⟨Nat.le_of_ble_eq_true rfl, Nat.le_of_ble_eq_true rfl⟩ ⟨Nat.zero_le _, Nat.zero_le _⟩ rfl 0 rfl rfl rfl rfl (Nat.le_of_ble_eq_true rfl) [.int r_62] rfl dX7_count_62 ?_
    obtain rfl := Option.some.inj q
    exact V_iret (pc := 65) h hq dX7_count_65 hp
  have q := if_n hc_1 q
  by_cases hc_2 : l1 = (2 : Int32)
  · have q := if_p hc_2 q
    refine V_tabIn (pc := 6) h 66 0 dX7_count_6 hc_2 (by decide) (by decide) (by decide) ?_
    refine V_aload_n (pc := 66) h 0 dX7_count_66 rfl ?_
    obtain ⟨r_67, e_67, q⟩ := bs q
    refine V_wallV (pc := 67) h _ (t_M_breakAll (gK G) F a M_now M_many M_upper M_lower M_text M_typed M_row M_rowMany (0 : Int32) M_length M_at M_wrong M_read M_mode M_under M_slope M_base M_slipSlope M_slipBase M_offset M_bearer M_bearers M_matrix M_loadOver M_loadUnder M_eventMany M_eventKind M_eventBolt M_eventOver M_eventUnder M_had M_nextOver M_nextUnder M_met M_fresh M_aheadOver M_aheadUnder M_behindOver M_behindUnder M_setOf M_unit M_moreOver M_moreUnder M_aside M_bestOver M_bestUnder M_places M_bestPlaces M_drawn _ e_67) mf_M_breakAll lk_RX7_420 im_M_breakAll se_M_breakAll ⟨Nat.le_of_ble_eq_true rfl, Nat.le_of_ble_eq_true rfl⟩ ⟨Nat.zero_le _, Nat.zero_le _⟩ rfl 0 rfl rfl rfl rfl (Nat.le_of_ble_eq_true rfl) [.int r_67] rfl dX7_count_67 ?_
    obtain rfl := Option.some.inj q
    exact V_iret (pc := 70) h hq dX7_count_70 hp
  have q := if_n hc_2 q
  by_cases hc_3 : l1 = (3 : Int32)
  · have q := if_p hc_3 q
    refine V_tabIn (pc := 6) h 71 0 dX7_count_6 hc_3 (by decide) (by decide) (by decide) ?_
    refine V_aload_n (pc := 71) h 0 dX7_count_71 rfl ?_
    obtain ⟨r_72, e_72, q⟩ := bs q
    refine V_wallV (pc := 72) h _ (t_M_clearLeast (gK G) F a M_now M_many M_upper M_lower M_text M_typed M_row M_rowMany (0 : Int32) M_length M_at M_wrong M_read M_mode M_under M_slope M_base M_slipSlope M_slipBase M_offset M_bearer M_bearers M_matrix M_loadOver M_loadUnder M_eventMany M_eventKind M_eventBolt M_eventOver M_eventUnder M_had M_nextOver M_nextUnder M_met M_fresh M_aheadOver M_aheadUnder M_behindOver M_behindUnder M_setOf M_unit M_moreOver M_moreUnder M_aside M_bestOver M_bestUnder M_places M_bestPlaces M_drawn _ e_72) mf_M_clearLeast lk_RX7_423 im_M_clearLeast se_M_clearLeast ⟨Nat.le_of_ble_eq_true rfl, Nat.le_of_ble_eq_true rfl⟩ ⟨Nat.zero_le _, Nat.zero_le _⟩ rfl 0 rfl rfl rfl rfl (Nat.le_of_ble_eq_true rfl) [.int r_72] rfl dX7_count_72 ?_
    obtain rfl := Option.some.inj q
    exact V_iret (pc := 75) h hq dX7_count_75 hp
  have q := if_n hc_3 q
  by_cases hc_4 : l1 = (4 : Int32)
  · have q := if_p hc_4 q
    refine V_tabIn (pc := 6) h 76 0 dX7_count_6 hc_4 (by decide) (by decide) (by decide) ?_
    refine V_aload_n (pc := 76) h 0 dX7_count_76 rfl ?_
    obtain ⟨M_mode_77, M_under_77, M_slope_77, M_base_77, M_slipSlope_77, M_slipBase_77, M_offset_77, M_bearer_77, M_bearers_77, M_matrix_77, M_loadOver_77, M_loadUnder_77, M_eventMany_77, M_eventKind_77, M_eventBolt_77, M_eventOver_77, M_eventUnder_77, M_had_77, M_nextOver_77, M_nextUnder_77, M_met_77, M_fresh_77, M_aheadOver_77, M_aheadUnder_77, M_behindOver_77, M_behindUnder_77, e_77, q⟩ := bs26 q
    refine V_wallV (pc := 77) h _ (t_M_grow (gK G) F a M_now M_many M_upper M_lower M_text M_typed M_row M_rowMany (0 : Int32) M_length M_at M_wrong M_read M_mode M_under M_slope M_base M_slipSlope M_slipBase M_offset M_bearer M_bearers M_matrix M_loadOver M_loadUnder M_eventMany M_eventKind M_eventBolt M_eventOver M_eventUnder M_had M_nextOver M_nextUnder M_met M_fresh M_aheadOver M_aheadUnder M_behindOver M_behindUnder M_setOf M_unit M_moreOver M_moreUnder M_aside M_bestOver M_bestUnder M_places M_bestPlaces M_drawn _ _ _ _ _ _ _ _ _ _ _ _ _ _ _ _ _ _ _ _ _ _ _ _ _ _ e_77) mf_M_grow lk_RX7_336 im_M_grow se_M_grow ⟨Nat.le_of_ble_eq_true rfl, Nat.le_of_ble_eq_true rfl⟩ ⟨Nat.zero_le _, Nat.zero_le _⟩ rfl 0 rfl rfl rfl rfl (Nat.le_of_ble_eq_true rfl) [] rfl dX7_count_77 ?_
    refine V_aload_n (pc := 80) h 0 dX7_count_80 rfl ?_
    refine V_get (pc := 81) h fl_7_246 0 rfl rfl dX7_count_81 ?_
    obtain rfl := Option.some.inj q
    exact V_iret (pc := 84) h hq dX7_count_84 hp
  have q := if_n hc_4 q
  by_cases hc_5 : l1 = (5 : Int32)
  · have q := if_p hc_5 q
    refine V_tabIn (pc := 6) h 85 0 dX7_count_6 hc_5 (by decide) (by decide) (by decide) ?_
    refine V_aload_n (pc := 85) h 0 dX7_count_85 rfl ?_
    refine V_get (pc := 86) h fl_7_110 0 rfl rfl dX7_count_86 ?_
    obtain rfl := Option.some.inj q
    exact V_iret (pc := 89) h hq dX7_count_89 hp
  have q := if_n hc_5 q
  by_cases hc_6 : l1 = (6 : Int32)
  · have q := if_p hc_6 q
    refine V_tabIn (pc := 6) h 90 0 dX7_count_6 hc_6 (by decide) (by decide) (by decide) ?_
    refine V_aload_n (pc := 90) h 0 dX7_count_90 rfl ?_
    refine V_get (pc := 91) h fl_7_171 0 rfl rfl dX7_count_91 ?_
    obtain rfl := Option.some.inj q
    exact V_iret (pc := 94) h hq dX7_count_94 hp
  have q := if_n hc_6 q
  by_cases hc_7 : l1 = (7 : Int32)
  · have q := if_p hc_7 q
    refine V_tabIn (pc := 6) h 95 0 dX7_count_6 hc_7 (by decide) (by decide) (by decide) ?_
    refine V_aload_n (pc := 95) h 0 dX7_count_95 rfl ?_
    refine V_get (pc := 96) h fl_7_13 0 rfl rfl dX7_count_96 ?_
    obtain rfl := Option.some.inj q
    exact V_iret (pc := 99) h hq dX7_count_99 hp
  have q := if_n hc_7 q
  by_cases hc_8 : l1 = (8 : Int32)
  · have q := if_p hc_8 q
    refine V_tabIn (pc := 6) h 100 0 dX7_count_6 hc_8 (by decide) (by decide) (by decide) ?_
    refine V_aload_n (pc := 100) h 0 dX7_count_100 rfl ?_
    refine V_get (pc := 101) h fl_7_17 0 rfl rfl dX7_count_101 ?_
    obtain rfl := Option.some.inj q
    exact V_iret (pc := 104) h hq dX7_count_104 hp
  have q := if_n hc_8 q
  refine V_tabOut (pc := 6) h 105 dX7_count_6 (tab_out_8 hc_0 hc_1 hc_2 hc_3 hc_4 hc_5 hc_6 hc_7 hc_8) (by decide) ?_
  refine V_iconst (pc := 105) h dX7_count_105 ic_m1 ?_
  obtain rfl := Option.some.inj q
  exact V_iret (pc := 106) h hq dX7_count_106 hp

set_option maxHeartbeats 4000000 in
set_option maxRecDepth 100000 in
theorem t_M_count (K : Kd) (F : Nat) (a : Nat → Nat) (l1 : Int32) (M_now : Nat → Int32) (M_many : Int32) (M_upper : Int32) (M_lower : Int32) (M_text : Nat → Int32) (M_typed : Int32) (M_row : Nat → Int64) (M_rowMany : Int32) (M_thrown : Int32) (M_length : Int32) (M_at : Int32) (M_wrong : Int32) (M_read : Nat → Int32) (M_mode : Nat → Int32) (M_under : Int64) (M_slope : Nat → Int64) (M_base : Nat → Int64) (M_slipSlope : Nat → Int64) (M_slipBase : Nat → Int64) (M_offset : Nat → Int64) (M_bearer : Nat → Int32) (M_bearers : Int32) (M_matrix : Nat → Int64) (M_loadOver : Int64) (M_loadUnder : Int64) (M_eventMany : Int32) (M_eventKind : Nat → Int32) (M_eventBolt : Nat → Int32) (M_eventOver : Nat → Int64) (M_eventUnder : Nat → Int64) (M_had : Nat → Int32) (M_nextOver : Int64) (M_nextUnder : Int64) (M_met : Nat → Int32) (M_fresh : Nat → Int32) (M_aheadOver : Nat → Int64) (M_aheadUnder : Nat → Int64) (M_behindOver : Nat → Int64) (M_behindUnder : Nat → Int64) (M_setOf : Nat → Int64) (M_unit : Int64) (M_moreOver : Nat → Int64) (M_moreUnder : Nat → Int64) (M_aside : Nat → Int32) (M_bestOver : Int64) (M_bestUnder : Int64) (M_places : Nat → Int32) (M_bestPlaces : Nat → Int32) (M_drawn : Int32) (r : Int32) (M_thrown' : Int32) (M_mode' : Nat → Int32) (M_under' : Int64) (M_slope' : Nat → Int64) (M_base' : Nat → Int64) (M_slipSlope' : Nat → Int64) (M_slipBase' : Nat → Int64) (M_offset' : Nat → Int64) (M_bearer' : Nat → Int32) (M_bearers' : Int32) (M_matrix' : Nat → Int64) (M_loadOver' : Int64) (M_loadUnder' : Int64) (M_eventMany' : Int32) (M_eventKind' : Nat → Int32) (M_eventBolt' : Nat → Int32) (M_eventOver' : Nat → Int64) (M_eventUnder' : Nat → Int64) (M_had' : Nat → Int32) (M_nextOver' : Int64) (M_nextUnder' : Int64) (M_met' : Nat → Int32) (M_fresh' : Nat → Int32) (M_aheadOver' : Nat → Int64) (M_aheadUnder' : Nat → Int64) (M_behindOver' : Nat → Int64) (M_behindUnder' : Nat → Int64) (q : f_M_count F l1 M_now M_many M_upper M_lower M_typed M_rowMany M_thrown M_mode M_under M_slope M_base M_slipSlope M_slipBase M_offset M_bearer M_bearers M_matrix M_loadOver M_loadUnder M_eventMany M_eventKind M_eventBolt M_eventOver M_eventUnder M_had M_nextOver M_nextUnder M_met M_fresh M_aheadOver M_aheadUnder M_behindOver M_behindUnder = some (r, M_thrown', M_mode', M_under', M_slope', M_base', M_slipSlope', M_slipBase', M_offset', M_bearer', M_bearers', M_matrix', M_loadOver', M_loadUnder', M_eventMany', M_eventKind', M_eventBolt', M_eventOver', M_eventUnder', M_had', M_nextOver', M_nextUnder', M_met', M_fresh', M_aheadOver', M_aheadUnder', M_behindOver', M_behindUnder')) : Ctr yX7_count cX7_count 2 (some .int) 16 0 0 K [.ref (a 0), .int l1] (wM K a 0 M_now M_many M_upper M_lower M_text M_typed M_row M_rowMany M_thrown M_length M_at M_wrong M_read M_mode M_under M_slope M_base M_slipSlope M_slipBase M_offset M_bearer M_bearers M_matrix M_loadOver M_loadUnder M_eventMany M_eventKind M_eventBolt M_eventOver M_eventUnder M_had M_nextOver M_nextUnder M_met M_fresh M_aheadOver M_aheadUnder M_behindOver M_behindUnder M_setOf M_unit M_moreOver M_moreUnder M_aside M_bestOver M_bestUnder M_places M_bestPlaces M_drawn) (Eqs (some (.int r)) (wM K a 0 M_now M_many M_upper M_lower M_text M_typed M_row M_rowMany M_thrown' M_length M_at M_wrong M_read M_mode' M_under' M_slope' M_base' M_slipSlope' M_slipBase' M_offset' M_bearer' M_bearers' M_matrix' M_loadOver' M_loadUnder' M_eventMany' M_eventKind' M_eventBolt' M_eventOver' M_eventUnder' M_had' M_nextOver' M_nextUnder' M_met' M_fresh' M_aheadOver' M_aheadUnder' M_behindOver' M_behindUnder' M_setOf M_unit M_moreOver M_moreUnder M_aside M_bestOver M_bestUnder M_places M_bestPlaces M_drawn)) := by
  refine mkCtr (by decide) (Nat.le_of_ble_eq_true rfl) ?_
  intro G hK h hq _
  subst hK
  exact v_M_count h F a l1 M_now M_many M_upper M_lower M_text M_typed M_row M_rowMany M_thrown M_length M_at M_wrong M_read M_mode M_under M_slope M_base M_slipSlope M_slipBase M_offset M_bearer M_bearers M_matrix M_loadOver M_loadUnder M_eventMany M_eventKind M_eventBolt M_eventOver M_eventUnder M_had M_nextOver M_nextUnder M_met M_fresh M_aheadOver M_aheadUnder M_behindOver M_behindUnder M_setOf M_unit M_moreOver M_moreUnder M_aside M_bestOver M_bestUnder M_places M_bestPlaces M_drawn _ q hq ⟨rfl, rfl⟩

set_option maxHeartbeats 4000000 in
set_option maxRecDepth 100000 in
theorem v_M_row {G : Gm} (h : VOk G cX7_row RX7 2 (rmC 2 0 0)) (F : Nat) (a : Nat → Nat) (l1 : Int32) (M_now : Nat → Int32) (M_many : Int32) (M_upper : Int32) (M_lower : Int32) (M_text : Nat → Int32) (M_typed : Int32) (M_row : Nat → Int64) (M_rowMany : Int32) (M_thrown : Int32) (M_length : Int32) (M_at : Int32) (M_wrong : Int32) (M_read : Nat → Int32) (M_mode : Nat → Int32) (M_under : Int64) (M_slope : Nat → Int64) (M_base : Nat → Int64) (M_slipSlope : Nat → Int64) (M_slipBase : Nat → Int64) (M_offset : Nat → Int64) (M_bearer : Nat → Int32) (M_bearers : Int32) (M_matrix : Nat → Int64) (M_loadOver : Int64) (M_loadUnder : Int64) (M_eventMany : Int32) (M_eventKind : Nat → Int32) (M_eventBolt : Nat → Int32) (M_eventOver : Nat → Int64) (M_eventUnder : Nat → Int64) (M_had : Nat → Int32) (M_nextOver : Int64) (M_nextUnder : Int64) (M_met : Nat → Int32) (M_fresh : Nat → Int32) (M_aheadOver : Nat → Int64) (M_aheadUnder : Nat → Int64) (M_behindOver : Nat → Int64) (M_behindUnder : Nat → Int64) (M_setOf : Nat → Int64) (M_unit : Int64) (M_moreOver : Nat → Int64) (M_moreUnder : Nat → Int64) (M_aside : Nat → Int32) (M_bestOver : Int64) (M_bestUnder : Int64) (M_places : Nat → Int32) (M_bestPlaces : Nat → Int32) (M_drawn : Int32) (o : Int64 × Int32) (q : f_M_row l1 M_row M_rowMany M_thrown = some o) {Pst : Option Value → va_W → Prop} (hq : RetQ G 0 0 (some .long) Pst) (hp : Pst (some (.long (o.1))) (wM (gK G) a 0 M_now M_many M_upper M_lower M_text M_typed M_row M_rowMany (o.2) M_length M_at M_wrong M_read M_mode M_under M_slope M_base M_slipSlope M_slipBase M_offset M_bearer M_bearers M_matrix M_loadOver M_loadUnder M_eventMany M_eventKind M_eventBolt M_eventOver M_eventUnder M_had M_nextOver M_nextUnder M_met M_fresh M_aheadOver M_aheadUnder M_behindOver M_behindUnder M_setOf M_unit M_moreOver M_moreUnder M_aside M_bestOver M_bestUnder M_places M_bestPlaces M_drawn)) : V G 0 0 (wM (gK G) a 0 M_now M_many M_upper M_lower M_text M_typed M_row M_rowMany M_thrown M_length M_at M_wrong M_read M_mode M_under M_slope M_base M_slipSlope M_slipBase M_offset M_bearer M_bearers M_matrix M_loadOver M_loadUnder M_eventMany M_eventKind M_eventBolt M_eventOver M_eventUnder M_had M_nextOver M_nextUnder M_met M_fresh M_aheadOver M_aheadUnder M_behindOver M_behindUnder M_setOf M_unit M_moreOver M_moreUnder M_aside M_bestOver M_bestUnder M_places M_bestPlaces M_drawn) 0 [(0, .ref (a 0)), (1, .int l1)] [] := by
  unfold f_M_row at q
  refine V_aload_n (pc := 0) h 0 dX7_row_0 rfl ?_
  refine V_iconst (pc := 1) h dX7_row_1 ic_0 ?_
  refine V_put (pc := 2) h fl_7_107 fp_7_8 0 (wM (gK G) a 0 M_now M_many M_upper M_lower M_text M_typed M_row M_rowMany (0 : Int32) M_length M_at M_wrong M_read M_mode M_under M_slope M_base M_slipSlope M_slipBase M_offset M_bearer M_bearers M_matrix M_loadOver M_loadUnder M_eventMany M_eventKind M_eventBolt M_eventOver M_eventUnder M_had M_nextOver M_nextUnder M_met M_fresh M_aheadOver M_aheadUnder M_behindOver M_behindUnder M_setOf M_unit M_moreOver M_moreUnder M_aside M_bestOver M_bestUnder M_places M_bestPlaces M_drawn) rfl rfl rfl (Nat.le_of_ble_eq_true rfl) rfl dX7_row_2 ?_
  refine V_iload_n (pc := 5) h 1 dX7_row_5 rfl ?_
  refine V_i2l (pc := 6) h dX7_row_6 ?_
  refine V_lconst (pc := 7) h dX7_row_7 lc_0 ?_
  refine V_aload_n (pc := 8) h 0 dX7_row_8 rfl ?_
  refine V_get (pc := 9) h fl_7_110 0 rfl rfl dX7_row_9 ?_
  refine V_iconst (pc := 12) h dX7_row_12 ic_1 ?_
  refine V_isub (pc := 13) h dX7_row_13 ?_
  refine V_i2l (pc := 14) h dX7_row_14 ?_
  obtain ⟨r_15, e_15, q⟩ := bs q
  refine V_callS (pc := 15) h _ (t_M_in (gK G) F  (Int32.toInt64 l1) (0 : Int64) (Int32.toInt64 (M_rowMany - (1 : Int32))) _ e_15) mf_M_in lk_RX7_130 sm_M_in ⟨Nat.le_of_ble_eq_true rfl, Nat.le_of_ble_eq_true rfl⟩ ⟨Nat.zero_le _, Nat.zero_le _⟩ [] rfl rfl rfl rfl rfl (Nat.le_of_ble_eq_true rfl) (wM (gK G) a 0 M_now M_many M_upper M_lower M_text M_typed M_row M_rowMany (0 : Int32) M_length M_at M_wrong M_read M_mode M_under M_slope M_base M_slipSlope M_slipBase M_offset M_bearer M_bearers M_matrix M_loadOver M_loadUnder M_eventMany M_eventKind M_eventBolt M_eventOver M_eventUnder M_had M_nextOver M_nextUnder M_met M_fresh M_aheadOver M_aheadUnder M_behindOver M_behindUnder M_setOf M_unit M_moreOver M_moreUnder M_aside M_bestOver M_bestUnder M_places M_bestPlaces M_drawn) rfl [.int r_15] rfl dX7_row_15 ?_
  refine V_if_eq (pc := 18) h 30 dX7_row_18 (by decide) (fun hc => ?_) (fun hc => ?_)
  · have q := if_p hc q
    refine V_aload_n (pc := 30) h 0 dX7_row_30 rfl ?_
    obtain ⟨r_31, M_thrown_31, e_31, q⟩ := bs2 q
    refine V_wallV (pc := 31) h _ (t_M_lost (gK G) F a M_now M_many M_upper M_lower M_text M_typed M_row M_rowMany (0 : Int32) M_length M_at M_wrong M_read M_mode M_under M_slope M_base M_slipSlope M_slipBase M_offset M_bearer M_bearers M_matrix M_loadOver M_loadUnder M_eventMany M_eventKind M_eventBolt M_eventOver M_eventUnder M_had M_nextOver M_nextUnder M_met M_fresh M_aheadOver M_aheadUnder M_behindOver M_behindUnder M_setOf M_unit M_moreOver M_moreUnder M_aside M_bestOver M_bestUnder M_places M_bestPlaces M_drawn _ _ e_31) mf_M_lost lk_RX7_203 im_M_lost se_M_lost ⟨Nat.le_of_ble_eq_true rfl, Nat.le_of_ble_eq_true rfl⟩ ⟨Nat.zero_le _, Nat.zero_le _⟩ rfl 0 rfl rfl rfl rfl (Nat.le_of_ble_eq_true rfl) [.int r_31] rfl dX7_row_31 ?_
    refine V_i2l (pc := 34) h dX7_row_34 ?_
    obtain rfl := Option.some.inj q
    exact V_lret (pc := 35) h hq dX7_row_35 hp
  · have q := if_n hc q
    refine V_aload_n (pc := 21) h 0 dX7_row_21 rfl ?_
    refine V_get (pc := 22) h fl_7_24 0 rfl rfl dX7_row_22 ?_
    refine V_iload_n (pc := 25) h 1 dX7_row_25 rfl ?_
    obtain ⟨v_26, e_v_26, q⟩ := bs q
    refine V_lald (pc := 26) h 3 rfl e_v_26 dX7_row_26 ?_
    refine V_goto (pc := 27) (tgt := 35) h dX7_row_27 (by decide) ?_
    obtain rfl := Option.some.inj q
    exact V_lret (pc := 35) h hq dX7_row_35 hp

set_option maxHeartbeats 4000000 in
set_option maxRecDepth 100000 in
theorem t_M_row (K : Kd) (F : Nat) (a : Nat → Nat) (l1 : Int32) (M_now : Nat → Int32) (M_many : Int32) (M_upper : Int32) (M_lower : Int32) (M_text : Nat → Int32) (M_typed : Int32) (M_row : Nat → Int64) (M_rowMany : Int32) (M_thrown : Int32) (M_length : Int32) (M_at : Int32) (M_wrong : Int32) (M_read : Nat → Int32) (M_mode : Nat → Int32) (M_under : Int64) (M_slope : Nat → Int64) (M_base : Nat → Int64) (M_slipSlope : Nat → Int64) (M_slipBase : Nat → Int64) (M_offset : Nat → Int64) (M_bearer : Nat → Int32) (M_bearers : Int32) (M_matrix : Nat → Int64) (M_loadOver : Int64) (M_loadUnder : Int64) (M_eventMany : Int32) (M_eventKind : Nat → Int32) (M_eventBolt : Nat → Int32) (M_eventOver : Nat → Int64) (M_eventUnder : Nat → Int64) (M_had : Nat → Int32) (M_nextOver : Int64) (M_nextUnder : Int64) (M_met : Nat → Int32) (M_fresh : Nat → Int32) (M_aheadOver : Nat → Int64) (M_aheadUnder : Nat → Int64) (M_behindOver : Nat → Int64) (M_behindUnder : Nat → Int64) (M_setOf : Nat → Int64) (M_unit : Int64) (M_moreOver : Nat → Int64) (M_moreUnder : Nat → Int64) (M_aside : Nat → Int32) (M_bestOver : Int64) (M_bestUnder : Int64) (M_places : Nat → Int32) (M_bestPlaces : Nat → Int32) (M_drawn : Int32) (r : Int64) (M_thrown' : Int32) (q : f_M_row l1 M_row M_rowMany M_thrown = some (r, M_thrown')) : Ctr yX7_row cX7_row 2 (some .long) 2 0 0 K [.ref (a 0), .int l1] (wM K a 0 M_now M_many M_upper M_lower M_text M_typed M_row M_rowMany M_thrown M_length M_at M_wrong M_read M_mode M_under M_slope M_base M_slipSlope M_slipBase M_offset M_bearer M_bearers M_matrix M_loadOver M_loadUnder M_eventMany M_eventKind M_eventBolt M_eventOver M_eventUnder M_had M_nextOver M_nextUnder M_met M_fresh M_aheadOver M_aheadUnder M_behindOver M_behindUnder M_setOf M_unit M_moreOver M_moreUnder M_aside M_bestOver M_bestUnder M_places M_bestPlaces M_drawn) (Eqs (some (.long r)) (wM K a 0 M_now M_many M_upper M_lower M_text M_typed M_row M_rowMany M_thrown' M_length M_at M_wrong M_read M_mode M_under M_slope M_base M_slipSlope M_slipBase M_offset M_bearer M_bearers M_matrix M_loadOver M_loadUnder M_eventMany M_eventKind M_eventBolt M_eventOver M_eventUnder M_had M_nextOver M_nextUnder M_met M_fresh M_aheadOver M_aheadUnder M_behindOver M_behindUnder M_setOf M_unit M_moreOver M_moreUnder M_aside M_bestOver M_bestUnder M_places M_bestPlaces M_drawn)) := by
  refine mkCtr (by decide) (Nat.le_of_ble_eq_true rfl) ?_
  intro G hK h hq _
  subst hK
  exact v_M_row h F a l1 M_now M_many M_upper M_lower M_text M_typed M_row M_rowMany M_thrown M_length M_at M_wrong M_read M_mode M_under M_slope M_base M_slipSlope M_slipBase M_offset M_bearer M_bearers M_matrix M_loadOver M_loadUnder M_eventMany M_eventKind M_eventBolt M_eventOver M_eventUnder M_had M_nextOver M_nextUnder M_met M_fresh M_aheadOver M_aheadUnder M_behindOver M_behindUnder M_setOf M_unit M_moreOver M_moreUnder M_aside M_bestOver M_bestUnder M_places M_bestPlaces M_drawn _ q hq ⟨rfl, rfl⟩

