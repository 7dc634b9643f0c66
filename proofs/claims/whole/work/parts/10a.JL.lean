set_option maxHeartbeats 4000000 in
set_option maxRecDepth 100000 in
theorem v_JI_bitCount {G : Gm} (h : VOk G cJ6_bitCount_0f7a4 RJ6 1 (rmC 1 0 0)) (F : Nat) (a : Nat → Nat) (l0 : Int32) (o : Int32) (q : f_JI_bitCount l0 = some o) {Pst : Option Value → va_W → Prop} (hq : RetQ G 0 0 (some .int) Pst) (hp : Pst (some (.int o)) ([])) : V G 0 0 ([]) 0 [(0, .int l0)] [] := by
  unfold f_JI_bitCount at q
  refine V_iload_n (pc := 0) h 0 dJ6_bitCount_0f7a4_0 rfl ?_
  refine V_iload_n (pc := 1) h 0 dJ6_bitCount_0f7a4_1 rfl ?_
  refine V_iconst (pc := 2) h dJ6_bitCount_0f7a4_2 ic_1 ?_
  refine V_iushr (pc := 3) h dJ6_bitCount_0f7a4_3 ?_
  refine V_ldcw (pc := 4) h dJ6_bitCount_0f7a4_4 kc_RJ6_265 ?_
  refine V_iand (pc := 7) h dJ6_bitCount_0f7a4_7 ?_
  refine V_isub (pc := 8) h dJ6_bitCount_0f7a4_8 ?_
  refine V_topi (pc := 9) (fun l0_9 e_l0_9 => ?_)
  have q := nm_use e_l0_9 q
  refine V_istore_n (pc := 9) h [(0, .int l0_9)] dJ6_bitCount_0f7a4_9 (Nat.le_of_ble_eq_true rfl) rfl ?_
  refine V_iload_n (pc := 10) h 0 dJ6_bitCount_0f7a4_10 rfl ?_
  refine V_ldcw (pc := 11) h dJ6_bitCount_0f7a4_11 kc_RJ6_266 ?_
  refine V_iand (pc := 14) h dJ6_bitCount_0f7a4_14 ?_
  refine V_iload_n (pc := 15) h 0 dJ6_bitCount_0f7a4_15 rfl ?_
  refine V_iconst (pc := 16) h dJ6_bitCount_0f7a4_16 ic_2 ?_
  refine V_iushr (pc := 17) h dJ6_bitCount_0f7a4_17 ?_
  refine V_ldcw (pc := 18) h dJ6_bitCount_0f7a4_18 kc_RJ6_266 ?_
  refine V_iand (pc := 21) h dJ6_bitCount_0f7a4_21 ?_
  refine V_iadd (pc := 22) h dJ6_bitCount_0f7a4_22 ?_
  refine V_topi (pc := 23) (fun l0_23 e_l0_23 => ?_)
  have q := nm_use e_l0_23 q
  refine V_istore_n (pc := 23) h [(0, .int l0_23)] dJ6_bitCount_0f7a4_23 (Nat.le_of_ble_eq_true rfl) rfl ?_
  refine V_iload_n (pc := 24) h 0 dJ6_bitCount_0f7a4_24 rfl ?_
  refine V_iload_n (pc := 25) h 0 dJ6_bitCount_0f7a4_25 rfl ?_
  refine V_iconst (pc := 26) h dJ6_bitCount_0f7a4_26 ic_4 ?_
  refine V_iushr (pc := 27) h dJ6_bitCount_0f7a4_27 ?_
  refine V_iadd (pc := 28) h dJ6_bitCount_0f7a4_28 ?_
  refine V_ldcw (pc := 29) h dJ6_bitCount_0f7a4_29 kc_RJ6_267 ?_
  refine V_iand (pc := 32) h dJ6_bitCount_0f7a4_32 ?_
  refine V_topi (pc := 33) (fun l0_33 e_l0_33 => ?_)
  have q := nm_use e_l0_33 q
  refine V_istore_n (pc := 33) h [(0, .int l0_33)] dJ6_bitCount_0f7a4_33 (Nat.le_of_ble_eq_true rfl) rfl ?_
  refine V_iload_n (pc := 34) h 0 dJ6_bitCount_0f7a4_34 rfl ?_
  refine V_iload_n (pc := 35) h 0 dJ6_bitCount_0f7a4_35 rfl ?_
  refine V_bipush (pc := 36) h dJ6_bitCount_0f7a4_36 bi_8 ?_
  refine V_iushr (pc := 38) h dJ6_bitCount_0f7a4_38 ?_
  refine V_iadd (pc := 39) h dJ6_bitCount_0f7a4_39 ?_
  refine V_topi (pc := 40) (fun l0_40 e_l0_40 => ?_)
  have q := nm_use e_l0_40 q
  refine V_istore_n (pc := 40) h [(0, .int l0_40)] dJ6_bitCount_0f7a4_40 (Nat.le_of_ble_eq_true rfl) rfl ?_
  refine V_iload_n (pc := 41) h 0 dJ6_bitCount_0f7a4_41 rfl ?_
  refine V_iload_n (pc := 42) h 0 dJ6_bitCount_0f7a4_42 rfl ?_
  refine V_bipush (pc := 43) h dJ6_bitCount_0f7a4_43 bi_16 ?_
  refine V_iushr (pc := 45) h dJ6_bitCount_0f7a4_45 ?_
  refine V_iadd (pc := 46) h dJ6_bitCount_0f7a4_46 ?_
  refine V_topi (pc := 47) (fun l0_47 e_l0_47 => ?_)
  have q := nm_use e_l0_47 q
  refine V_istore_n (pc := 47) h [(0, .int l0_47)] dJ6_bitCount_0f7a4_47 (Nat.le_of_ble_eq_true rfl) rfl ?_
  refine V_iload_n (pc := 48) h 0 dJ6_bitCount_0f7a4_48 rfl ?_
  refine V_bipush (pc := 49) h dJ6_bitCount_0f7a4_49 bi_63 ?_
  refine V_iand (pc := 51) h dJ6_bitCount_0f7a4_51 ?_
  obtain rfl := Option.some.inj q
  exact V_iret (pc := 52) h hq dJ6_bitCount_0f7a4_52 hp

set_option maxHeartbeats 4000000 in
set_option maxRecDepth 100000 in
theorem t_JI_bitCount (K : Kd) (F : Nat) (l0 : Int32) (r : Int32) (q : f_JI_bitCount l0 = some r) : Ctr yJ6_bitCount_0f7a4 cJ6_bitCount_0f7a4 1 (some .int) 1 0 0 K [.int l0] ([]) (Eqs (some (.int r)) ([])) := by
  refine mkCtr (by decide) (Nat.le_of_ble_eq_true rfl) ?_
  intro G hK h hq _
  subst hK
  exact v_JI_bitCount h F (fun _ => 0) l0 _ q hq ⟨rfl, rfl⟩

set_option maxHeartbeats 4000000 in
set_option maxRecDepth 100000 in
theorem v_JL_compare {G : Gm} (h : VOk G cJ13_compare_74951 RJ13 4 (rmC 1 0 0)) (F : Nat) (a : Nat → Nat) (l0 : Int64) (l2 : Int64) (o : Int32) (q : f_JL_compare l0 l2 = some o) {Pst : Option Value → va_W → Prop} (hq : RetQ G 0 0 (some .int) Pst) (hp : Pst (some (.int o)) ([])) : V G 0 0 ([]) 0 [(0, .long l0), (2, .long l2)] [] := by
  unfold f_JL_compare at q
  refine V_lload_n (pc := 0) h 0 dJ13_compare_74951_0 rfl ?_
  refine V_lload_n (pc := 1) h 1 dJ13_compare_74951_1 rfl ?_
  refine V_lcmp_ge (pc := 2) (pc2 := 0) h 10 dJ13_compare_74951_2 dJ13_compare_74951_3 (by decide) (fun hc => ?_) (fun hc => ?_)
  · have q := if_p hc q
    refine V_lload_n (pc := 10) h 0 dJ13_compare_74951_10 rfl ?_
    refine V_lload_n (pc := 11) h 1 dJ13_compare_74951_11 rfl ?_
    refine V_lcmp_ne (pc := 12) (pc2 := 0) h 20 dJ13_compare_74951_12 dJ13_compare_74951_13 (by decide) (fun hc => ?_) (fun hc => ?_)
    · have q := if_n hc q
      refine V_iconst (pc := 20) h dJ13_compare_74951_20 ic_1 ?_
      obtain rfl := Option.some.inj q
      exact V_iret (pc := 21) h hq dJ13_compare_74951_21 hp
    · have q := if_p hc q
      refine V_iconst (pc := 16) h dJ13_compare_74951_16 ic_0 ?_
      refine V_goto (pc := 17) (tgt := 21) h dJ13_compare_74951_17 (by decide) ?_
      obtain rfl := Option.some.inj q
      exact V_iret (pc := 21) h hq dJ13_compare_74951_21 hp
  · have q := if_n hc q
    refine V_iconst (pc := 6) h dJ13_compare_74951_6 ic_m1 ?_
    refine V_goto (pc := 7) (tgt := 21) h dJ13_compare_74951_7 (by decide) ?_
    obtain rfl := Option.some.inj q
    exact V_iret (pc := 21) h hq dJ13_compare_74951_21 hp

set_option maxHeartbeats 4000000 in
set_option maxRecDepth 100000 in
theorem t_JL_compare (K : Kd) (F : Nat) (l0 : Int64) (l2 : Int64) (r : Int32) (q : f_JL_compare l0 l2 = some r) : Ctr yJ13_compare_74951 cJ13_compare_74951 4 (some .int) 1 0 0 K [.long l0, .long l2] ([]) (Eqs (some (.int r)) ([])) := by
  refine mkCtr (by decide) (Nat.le_of_ble_eq_true rfl) ?_
  intro G hK h hq _
  subst hK
  exact v_JL_compare h F (fun _ => 0) l0 l2 _ q hq ⟨rfl, rfl⟩

set_option maxHeartbeats 4000000 in
set_option maxRecDepth 100000 in
theorem v_J_has {G : Gm} (h : VOk G cX2_has RX2 2 (rmC 1 0 0)) (F : Nat) (a : Nat → Nat) (oJ : Nat) (l1 : Int32) (J_give : Nat → Int32) (J_clear : Nat → Int32) (J_yieldAt : Nat → Int32) (J_soft : Nat → Int32) (J_breakAt : Nat → Int32) (J_out : Nat → Int32) (J_pitches : Nat → Int32) (J_bolts : Int32) (J_upper : Int32) (J_lower : Int32) (o : Int32) (q : f_J_has l1 J_bolts = some o) {Pst : Option Value → va_W → Prop} (hq : RetQ G 0 0 (some .boolean) Pst) (hp : Pst (some (.int o)) (wJ (gK G) a oJ J_give J_clear J_yieldAt J_soft J_breakAt J_out J_pitches J_bolts J_upper J_lower)) : V G 0 0 (wJ (gK G) a oJ J_give J_clear J_yieldAt J_soft J_breakAt J_out J_pitches J_bolts J_upper J_lower) 0 [(0, .ref (a oJ)), (1, .int l1)] [] := by
  unfold f_J_has at q
  refine V_iload_n (pc := 0) h 1 dX2_has_0 rfl ?_
  refine V_if_lt (pc := 1) h 21 dX2_has_1 (by decide) (fun hc => ?_) (fun hc => ?_)
  · have q := if_p hc q
    refine V_iconst (pc := 21) h dX2_has_21 ic_0 ?_
    obtain rfl := Option.some.inj q
    exact V_zret (pc := 22) h hq rfl dX2_has_22 hp
  · have q := if_n hc q
    refine V_iload_n (pc := 4) h 1 dX2_has_4 rfl ?_
    refine V_aload_n (pc := 5) h 0 dX2_has_5 rfl ?_
    refine V_get (pc := 6) h fl_2_41 0 rfl rfl dX2_has_6 ?_
    refine V_icmp_ge (pc := 9) h 21 dX2_has_9 (by decide) (fun hc => ?_) (fun hc => ?_)
    · have q := if_p hc q
      refine V_iconst (pc := 21) h dX2_has_21 ic_0 ?_
      obtain rfl := Option.some.inj q
      exact V_zret (pc := 22) h hq rfl dX2_has_22 hp
    · have q := if_n hc q
      refine V_iload_n (pc := 12) h 1 dX2_has_12 rfl ?_
      refine V_iconst (pc := 13) h dX2_has_13 ic_5 ?_
      refine V_icmp_ge (pc := 14) h 21 dX2_has_14 (by decide) (fun hc => ?_) (fun hc => ?_)
      · have q := if_p hc q
        refine V_iconst (pc := 21) h dX2_has_21 ic_0 ?_
        obtain rfl := Option.some.inj q
        exact V_zret (pc := 22) h hq rfl dX2_has_22 hp
      · have q := if_n hc q
        refine V_iconst (pc := 17) h dX2_has_17 ic_1 ?_
        refine V_goto (pc := 18) (tgt := 22) h dX2_has_18 (by decide) ?_
        obtain rfl := Option.some.inj q
        exact V_zret (pc := 22) h hq rfl dX2_has_22 hp

set_option maxHeartbeats 4000000 in
set_option maxRecDepth 100000 in
theorem t_J_has (K : Kd) (F : Nat) (a : Nat → Nat) (oJ : Nat) (l1 : Int32) (J_give : Nat → Int32) (J_clear : Nat → Int32) (J_yieldAt : Nat → Int32) (J_soft : Nat → Int32) (J_breakAt : Nat → Int32) (J_out : Nat → Int32) (J_pitches : Nat → Int32) (J_bolts : Int32) (J_upper : Int32) (J_lower : Int32) (r : Int32) (q : f_J_has l1 J_bolts = some r) : Ctr yX2_has cX2_has 2 (some .boolean) 1 0 0 K [.ref (a oJ), .int l1] (wJ K a oJ J_give J_clear J_yieldAt J_soft J_breakAt J_out J_pitches J_bolts J_upper J_lower) (Eqs (some (.int r)) (wJ K a oJ J_give J_clear J_yieldAt J_soft J_breakAt J_out J_pitches J_bolts J_upper J_lower)) := by
  refine mkCtr (by decide) (Nat.le_of_ble_eq_true rfl) ?_
  intro G hK h hq _
  subst hK
  exact v_J_has h F a oJ l1 J_give J_clear J_yieldAt J_soft J_breakAt J_out J_pitches J_bolts J_upper J_lower _ q hq ⟨rfl, rfl⟩

set_option maxHeartbeats 4000000 in
set_option maxRecDepth 100000 in
theorem v_J_hasGap {G : Gm} (h : VOk G cX2_hasGap RX2 2 (rmC 2 0 0)) (F : Nat) (a : Nat → Nat) (oJ : Nat) (l1 : Int32) (J_give : Nat → Int32) (J_clear : Nat → Int32) (J_yieldAt : Nat → Int32) (J_soft : Nat → Int32) (J_breakAt : Nat → Int32) (J_out : Nat → Int32) (J_pitches : Nat → Int32) (J_bolts : Int32) (J_upper : Int32) (J_lower : Int32) (o : Int32) (q : f_J_hasGap l1 J_bolts = some o) {Pst : Option Value → va_W → Prop} (hq : RetQ G 0 0 (some .boolean) Pst) (hp : Pst (some (.int o)) (wJ (gK G) a oJ J_give J_clear J_yieldAt J_soft J_breakAt J_out J_pitches J_bolts J_upper J_lower)) : V G 0 0 (wJ (gK G) a oJ J_give J_clear J_yieldAt J_soft J_breakAt J_out J_pitches J_bolts J_upper J_lower) 0 [(0, .ref (a oJ)), (1, .int l1)] [] := by
  unfold f_J_hasGap at q
  refine V_aload_n (pc := 0) h 0 dX2_hasGap_0 rfl ?_
  refine V_iload_n (pc := 1) h 1 dX2_hasGap_1 rfl ?_
  obtain ⟨r_2, e_2, q⟩ := bs q
  refine V_wallV (pc := 2) h _ (t_J_has (gK G) F a oJ l1 J_give J_clear J_yieldAt J_soft J_breakAt J_out J_pitches J_bolts J_upper J_lower _ e_2) mf_J_has lk_RX2_44 im_J_has se_J_has ⟨Nat.le_of_ble_eq_true rfl, Nat.le_of_ble_eq_true rfl⟩ ⟨Nat.zero_le _, Nat.zero_le _⟩ rfl 0 rfl rfl rfl rfl (Nat.le_of_ble_eq_true rfl) [.int r_2] rfl dX2_hasGap_2 ?_
  refine V_if_eq (pc := 5) h 22 dX2_hasGap_5 (by decide) (fun hc => ?_) (fun hc => ?_)
  · have q := if_p hc q
    refine V_iconst (pc := 22) h dX2_hasGap_22 ic_0 ?_
    obtain rfl := Option.some.inj q
    exact V_zret (pc := 23) h hq rfl dX2_hasGap_23 hp
  · have q := if_n hc q
    refine V_aload_n (pc := 8) h 0 dX2_hasGap_8 rfl ?_
    refine V_iload_n (pc := 9) h 1 dX2_hasGap_9 rfl ?_
    refine V_iconst (pc := 10) h dX2_hasGap_10 ic_1 ?_
    refine V_iadd (pc := 11) h dX2_hasGap_11 ?_
    obtain ⟨r_12, e_12, q⟩ := bs q
    refine V_wallV (pc := 12) h _ (t_J_has (gK G) F a oJ (l1 + (1 : Int32)) J_give J_clear J_yieldAt J_soft J_breakAt J_out J_pitches J_bolts J_upper J_lower _ e_12) mf_J_has lk_RX2_44 im_J_has se_J_has ⟨Nat.le_of_ble_eq_true rfl, Nat.le_of_ble_eq_true rfl⟩ ⟨Nat.zero_le _, Nat.zero_le _⟩ rfl 0 rfl rfl rfl rfl (Nat.le_of_ble_eq_true rfl) [.int r_12] rfl dX2_hasGap_12 ?_
    refine V_if_eq (pc := 15) h 22 dX2_hasGap_15 (by decide) (fun hc => ?_) (fun hc => ?_)
    · have q := if_p hc q
      refine V_iconst (pc := 22) h dX2_hasGap_22 ic_0 ?_
      obtain rfl := Option.some.inj q
      exact V_zret (pc := 23) h hq rfl dX2_hasGap_23 hp
    · have q := if_n hc q
      refine V_iconst (pc := 18) h dX2_hasGap_18 ic_1 ?_
      refine V_goto (pc := 19) (tgt := 23) h dX2_hasGap_19 (by decide) ?_
      obtain rfl := Option.some.inj q
      exact V_zret (pc := 23) h hq rfl dX2_hasGap_23 hp

set_option maxHeartbeats 4000000 in
set_option maxRecDepth 100000 in
theorem t_J_hasGap (K : Kd) (F : Nat) (a : Nat → Nat) (oJ : Nat) (l1 : Int32) (J_give : Nat → Int32) (J_clear : Nat → Int32) (J_yieldAt : Nat → Int32) (J_soft : Nat → Int32) (J_breakAt : Nat → Int32) (J_out : Nat → Int32) (J_pitches : Nat → Int32) (J_bolts : Int32) (J_upper : Int32) (J_lower : Int32) (r : Int32) (q : f_J_hasGap l1 J_bolts = some r) : Ctr yX2_hasGap cX2_hasGap 2 (some .boolean) 2 0 0 K [.ref (a oJ), .int l1] (wJ K a oJ J_give J_clear J_yieldAt J_soft J_breakAt J_out J_pitches J_bolts J_upper J_lower) (Eqs (some (.int r)) (wJ K a oJ J_give J_clear J_yieldAt J_soft J_breakAt J_out J_pitches J_bolts J_upper J_lower)) := by
  refine mkCtr (by decide) (Nat.le_of_ble_eq_true rfl) ?_
  intro G hK h hq _
  subst hK
  exact v_J_hasGap h F a oJ l1 J_give J_clear J_yieldAt J_soft J_breakAt J_out J_pitches J_bolts J_upper J_lower _ q hq ⟨rfl, rfl⟩

set_option maxHeartbeats 4000000 in
set_option maxRecDepth 100000 in
theorem v_J_write {G : Gm} (h : VOk G cX2_write RX2 7 (rmC 1 0 0)) (F : Nat) (a : Nat → Nat) (oJ : Nat) (l1 : Int32) (l2 : Int32) (l3 : Int32) (l4 : Int32) (l5 : Int32) (l6 : Int32) (J_give : Nat → Int32) (J_clear : Nat → Int32) (J_yieldAt : Nat → Int32) (J_soft : Nat → Int32) (J_breakAt : Nat → Int32) (J_out : Nat → Int32) (J_pitches : Nat → Int32) (J_bolts : Int32) (J_upper : Int32) (J_lower : Int32) (o : (Nat → Int32) × (Nat → Int32) × (Nat → Int32) × (Nat → Int32) × (Nat → Int32)) (q : f_J_write l1 l2 l3 l4 l5 l6 J_give J_clear J_yieldAt J_soft J_breakAt = some o) {Pst : Option Value → va_W → Prop} (hq : RetQ G 0 0 none Pst) (hp : Pst none (wJ (gK G) a oJ (o.1) (o.2.1) (o.2.2.1) (o.2.2.2.1) (o.2.2.2.2) J_out J_pitches J_bolts J_upper J_lower)) : V G 0 0 (wJ (gK G) a oJ J_give J_clear J_yieldAt J_soft J_breakAt J_out J_pitches J_bolts J_upper J_lower) 0 [(0, .ref (a oJ)), (1, .int l1), (2, .int l2), (3, .int l3), (4, .int l4), (5, .int l5), (6, .int l6)] [] := by
  unfold f_J_write at q
  refine V_aload_n (pc := 0) h 0 dX2_write_0 rfl ?_
  refine V_get (pc := 1) h fl_2_9 0 rfl rfl dX2_write_1 ?_
  refine V_iload_n (pc := 4) h 1 dX2_write_4 rfl ?_
  refine V_iload_n (pc := 5) h 2 dX2_write_5 rfl ?_
  obtain ⟨J_give_6, e_J_give_6, q⟩ := bs q
  refine V_iast (pc := 6) h 1 (wJ (gK G) a oJ J_give_6 J_clear J_yieldAt J_soft J_breakAt J_out J_pitches J_bolts J_upper J_lower) rfl e_J_give_6 rfl dX2_write_6 ?_
  refine V_aload_n (pc := 7) h 0 dX2_write_7 rfl ?_
  refine V_get (pc := 8) h fl_2_15 0 rfl rfl dX2_write_8 ?_
  refine V_iload_n (pc := 11) h 1 dX2_write_11 rfl ?_
  refine V_iload_n (pc := 12) h 3 dX2_write_12 rfl ?_
  obtain ⟨J_clear_13, e_J_clear_13, q⟩ := bs q
  refine V_iast (pc := 13) h 2 (wJ (gK G) a oJ J_give_6 J_clear_13 J_yieldAt J_soft J_breakAt J_out J_pitches J_bolts J_upper J_lower) rfl e_J_clear_13 rfl dX2_write_13 ?_
  refine V_aload_n (pc := 14) h 0 dX2_write_14 rfl ?_
  refine V_get (pc := 15) h fl_2_18 0 rfl rfl dX2_write_15 ?_
  refine V_iload_n (pc := 18) h 1 dX2_write_18 rfl ?_
  refine V_iload (pc := 19) h 4 dX2_write_19 rfl ?_
  obtain ⟨J_yieldAt_21, e_J_yieldAt_21, q⟩ := bs q
  refine V_iast (pc := 21) h 3 (wJ (gK G) a oJ J_give_6 J_clear_13 J_yieldAt_21 J_soft J_breakAt J_out J_pitches J_bolts J_upper J_lower) rfl e_J_yieldAt_21 rfl dX2_write_21 ?_
  refine V_aload_n (pc := 22) h 0 dX2_write_22 rfl ?_
  refine V_get (pc := 23) h fl_2_21 0 rfl rfl dX2_write_23 ?_
  refine V_iload_n (pc := 26) h 1 dX2_write_26 rfl ?_
  refine V_iload (pc := 27) h 5 dX2_write_27 rfl ?_
  obtain ⟨J_soft_29, e_J_soft_29, q⟩ := bs q
  refine V_iast (pc := 29) h 4 (wJ (gK G) a oJ J_give_6 J_clear_13 J_yieldAt_21 J_soft_29 J_breakAt J_out J_pitches J_bolts J_upper J_lower) rfl e_J_soft_29 rfl dX2_write_29 ?_
  refine V_aload_n (pc := 30) h 0 dX2_write_30 rfl ?_
  refine V_get (pc := 31) h fl_2_24 0 rfl rfl dX2_write_31 ?_
  refine V_iload_n (pc := 34) h 1 dX2_write_34 rfl ?_
  refine V_iload (pc := 35) h 6 dX2_write_35 rfl ?_
  obtain ⟨J_breakAt_37, e_J_breakAt_37, q⟩ := bs q
  refine V_iast (pc := 37) h 5 (wJ (gK G) a oJ J_give_6 J_clear_13 J_yieldAt_21 J_soft_29 J_breakAt_37 J_out J_pitches J_bolts J_upper J_lower) rfl e_J_breakAt_37 rfl dX2_write_37 ?_
  obtain rfl := Option.some.inj q
  exact V_vret (pc := 38) h hq dX2_write_38 hp

set_option maxHeartbeats 4000000 in
set_option maxRecDepth 100000 in
theorem t_J_write (K : Kd) (F : Nat) (a : Nat → Nat) (oJ : Nat) (l1 : Int32) (l2 : Int32) (l3 : Int32) (l4 : Int32) (l5 : Int32) (l6 : Int32) (J_give : Nat → Int32) (J_clear : Nat → Int32) (J_yieldAt : Nat → Int32) (J_soft : Nat → Int32) (J_breakAt : Nat → Int32) (J_out : Nat → Int32) (J_pitches : Nat → Int32) (J_bolts : Int32) (J_upper : Int32) (J_lower : Int32) (J_give' : Nat → Int32) (J_clear' : Nat → Int32) (J_yieldAt' : Nat → Int32) (J_soft' : Nat → Int32) (J_breakAt' : Nat → Int32) (q : f_J_write l1 l2 l3 l4 l5 l6 J_give J_clear J_yieldAt J_soft J_breakAt = some (J_give', J_clear', J_yieldAt', J_soft', J_breakAt')) : Ctr yX2_write cX2_write 7 none 1 0 0 K [.ref (a oJ), .int l1, .int l2, .int l3, .int l4, .int l5, .int l6] (wJ K a oJ J_give J_clear J_yieldAt J_soft J_breakAt J_out J_pitches J_bolts J_upper J_lower) (Eqs none (wJ K a oJ J_give' J_clear' J_yieldAt' J_soft' J_breakAt' J_out J_pitches J_bolts J_upper J_lower)) := by
  refine mkCtr (by decide) (Nat.le_of_ble_eq_true rfl) ?_
  intro G hK h hq _
  subst hK
  exact v_J_write h F a oJ l1 l2 l3 l4 l5 l6 J_give J_clear J_yieldAt J_soft J_breakAt J_out J_pitches J_bolts J_upper J_lower _ q hq ⟨rfl, rfl⟩

set_option maxHeartbeats 4000000 in
set_option maxRecDepth 100000 in
theorem vj_J_add_28 {G : Gm} (h : VOk G cX2_add RX2 6 (rmC 2 0 0)) (F : Nat) (a : Nat → Nat) (oJ : Nat) (l1 : Int32) (l2 : Int32) (l3 : Int32) (l4 : Int32) (l5 : Int32) (J_give : Nat → Int32) (J_clear : Nat → Int32) (J_yieldAt : Nat → Int32) (J_soft : Nat → Int32) (J_breakAt : Nat → Int32) (J_out : Nat → Int32) (J_pitches : Nat → Int32) (J_bolts : Int32) (J_upper : Int32) (J_lower : Int32) (o : (Nat → Int32) × (Nat → Int32) × (Nat → Int32) × (Nat → Int32) × (Nat → Int32) × (Nat → Int32) × (Nat → Int32) × Int32) (q : fj_J_add_28 l1 l2 l3 l4 l5 J_give J_clear J_yieldAt J_soft J_breakAt J_out J_pitches J_bolts = some o) {Pst : Option Value → va_W → Prop} (hq : RetQ G 0 0 none Pst) (hp : Pst none (wJ (gK G) a oJ (o.1) (o.2.1) (o.2.2.1) (o.2.2.2.1) (o.2.2.2.2.1) (o.2.2.2.2.2.1) (o.2.2.2.2.2.2.1) (o.2.2.2.2.2.2.2) J_upper J_lower)) : V G 0 0 (wJ (gK G) a oJ J_give J_clear J_yieldAt J_soft J_breakAt J_out J_pitches J_bolts J_upper J_lower) 28 [(0, .ref (a oJ)), (1, .int l1), (2, .int l2), (3, .int l3), (4, .int l4), (5, .int l5)] [] := by
  unfold fj_J_add_28 at q
  refine V_aload_n (pc := 28) h 0 dX2_add_28 rfl ?_
  refine V_get (pc := 29) h fl_2_27 0 rfl rfl dX2_add_29 ?_
  refine V_aload_n (pc := 32) h 0 dX2_add_32 rfl ?_
  refine V_get (pc := 33) h fl_2_41 0 rfl rfl dX2_add_33 ?_
  refine V_iconst (pc := 36) h dX2_add_36 ic_0 ?_
  obtain ⟨J_out_37, e_J_out_37, q⟩ := bs q
  refine V_zast (pc := 37) h 6 (wJ (gK G) a oJ J_give J_clear J_yieldAt J_soft J_breakAt J_out_37 J_pitches J_bolts J_upper J_lower) rfl e_J_out_37 rfl dX2_add_37 ?_
  refine V_aload_n (pc := 38) h 0 dX2_add_38 rfl ?_
  refine V_aload_n (pc := 39) h 0 dX2_add_39 rfl ?_
  refine V_get (pc := 40) h fl_2_41 0 rfl rfl dX2_add_40 ?_
  refine V_iload_n (pc := 43) h 1 dX2_add_43 rfl ?_
  refine V_iload_n (pc := 44) h 2 dX2_add_44 rfl ?_
  refine V_iload_n (pc := 45) h 3 dX2_add_45 rfl ?_
  refine V_iload (pc := 46) h 4 dX2_add_46 rfl ?_
  refine V_iload (pc := 48) h 5 dX2_add_48 rfl ?_
  obtain ⟨J_give_50, J_clear_50, J_yieldAt_50, J_soft_50, J_breakAt_50, e_50, q⟩ := bs5 q
  refine V_wallV (pc := 50) h _ (t_J_write (gK G) F a oJ J_bolts l1 l2 l3 l4 l5 J_give J_clear J_yieldAt J_soft J_breakAt J_out_37 J_pitches J_bolts J_upper J_lower _ _ _ _ _ e_50) mf_J_write lk_RX2_48 im_J_write se_J_write ⟨Nat.le_of_ble_eq_true rfl, Nat.le_of_ble_eq_true rfl⟩ ⟨Nat.zero_le _, Nat.zero_le _⟩ rfl 0 rfl rfl rfl rfl (Nat.le_of_ble_eq_true rfl) [] rfl dX2_add_50 ?_
  refine V_aload_n (pc := 53) h 0 dX2_add_53 rfl ?_
  refine V_dup (pc := 54) h dX2_add_54 rfl ?_
  refine V_get (pc := 55) h fl_2_41 0 rfl rfl dX2_add_55 ?_
  refine V_iconst (pc := 58) h dX2_add_58 ic_1 ?_
  refine V_iadd (pc := 59) h dX2_add_59 ?_
  refine V_topi (pc := 60) (fun J_bolts_60 e_J_bolts_60 => ?_)
  have q := nm_use e_J_bolts_60 q
  refine V_put (pc := 60) h fl_2_41 fp_2_7 0 (wJ (gK G) a oJ J_give_50 J_clear_50 J_yieldAt_50 J_soft_50 J_breakAt_50 J_out_37 J_pitches J_bolts_60 J_upper J_lower) rfl rfl rfl (Nat.le_of_ble_eq_true rfl) rfl dX2_add_60 ?_
  obtain rfl := Option.some.inj q
  exact V_vret (pc := 63) h hq dX2_add_63 hp

set_option maxHeartbeats 4000000 in
set_option maxRecDepth 100000 in
theorem v_J_add {G : Gm} (h : VOk G cX2_add RX2 6 (rmC 2 0 0)) (F : Nat) (a : Nat → Nat) (oJ : Nat) (l1 : Int32) (l2 : Int32) (l3 : Int32) (l4 : Int32) (l5 : Int32) (J_give : Nat → Int32) (J_clear : Nat → Int32) (J_yieldAt : Nat → Int32) (J_soft : Nat → Int32) (J_breakAt : Nat → Int32) (J_out : Nat → Int32) (J_pitches : Nat → Int32) (J_bolts : Int32) (J_upper : Int32) (J_lower : Int32) (o : (Nat → Int32) × (Nat → Int32) × (Nat → Int32) × (Nat → Int32) × (Nat → Int32) × (Nat → Int32) × (Nat → Int32) × Int32) (q : f_J_add l1 l2 l3 l4 l5 J_give J_clear J_yieldAt J_soft J_breakAt J_out J_pitches J_bolts = some o) {Pst : Option Value → va_W → Prop} (hq : RetQ G 0 0 none Pst) (hp : Pst none (wJ (gK G) a oJ (o.1) (o.2.1) (o.2.2.1) (o.2.2.2.1) (o.2.2.2.2.1) (o.2.2.2.2.2.1) (o.2.2.2.2.2.2.1) (o.2.2.2.2.2.2.2) J_upper J_lower)) : V G 0 0 (wJ (gK G) a oJ J_give J_clear J_yieldAt J_soft J_breakAt J_out J_pitches J_bolts J_upper J_lower) 0 [(0, .ref (a oJ)), (1, .int l1), (2, .int l2), (3, .int l3), (4, .int l4), (5, .int l5)] [] := by
  unfold f_J_add at q
  refine V_aload_n (pc := 0) h 0 dX2_add_0 rfl ?_
  refine V_get (pc := 1) h fl_2_41 0 rfl rfl dX2_add_1 ?_
  refine V_iconst (pc := 4) h dX2_add_4 ic_5 ?_
  refine V_icmp_lt (pc := 5) h 9 dX2_add_5 (by decide) (fun hc => ?_) (fun hc => ?_)
  · have q := if_p hc q
    refine V_aload_n (pc := 9) h 0 dX2_add_9 rfl ?_
    refine V_get (pc := 10) h fl_2_41 0 rfl rfl dX2_add_10 ?_
    refine V_if_le (pc := 13) h 28 dX2_add_13 (by decide) (fun hc => ?_) (fun hc => ?_)
    · have q := if_p hc q
      exact vj_J_add_28 h F a oJ l1 l2 l3 l4 l5 J_give J_clear J_yieldAt J_soft J_breakAt J_out J_pitches J_bolts J_upper J_lower _ q hq hp
    · have q := if_n hc q
      refine V_aload_n (pc := 16) h 0 dX2_add_16 rfl ?_
      refine V_get (pc := 17) h fl_2_31 0 rfl rfl dX2_add_17 ?_
      refine V_aload_n (pc := 20) h 0 dX2_add_20 rfl ?_
      refine V_get (pc := 21) h fl_2_41 0 rfl rfl dX2_add_21 ?_
      refine V_iconst (pc := 24) h dX2_add_24 ic_1 ?_
      refine V_isub (pc := 25) h dX2_add_25 ?_
      refine V_iconst (pc := 26) h dX2_add_26 ic_1 ?_
      obtain ⟨J_pitches_27, e_J_pitches_27, q⟩ := bs q
      refine V_iast (pc := 27) h 7 (wJ (gK G) a oJ J_give J_clear J_yieldAt J_soft J_breakAt J_out J_pitches_27 J_bolts J_upper J_lower) rfl e_J_pitches_27 rfl dX2_add_27 ?_
      exact vj_J_add_28 h F a oJ l1 l2 l3 l4 l5 J_give J_clear J_yieldAt J_soft J_breakAt J_out J_pitches_27 J_bolts J_upper J_lower _ q hq hp
  · have q := if_n hc q
    obtain rfl := Option.some.inj q
    exact V_vret (pc := 8) h hq dX2_add_8 hp

set_option maxHeartbeats 4000000 in
set_option maxRecDepth 100000 in
theorem t_J_add (K : Kd) (F : Nat) (a : Nat → Nat) (oJ : Nat) (l1 : Int32) (l2 : Int32) (l3 : Int32) (l4 : Int32) (l5 : Int32) (J_give : Nat → Int32) (J_clear : Nat → Int32) (J_yieldAt : Nat → Int32) (J_soft : Nat → Int32) (J_breakAt : Nat → Int32) (J_out : Nat → Int32) (J_pitches : Nat → Int32) (J_bolts : Int32) (J_upper : Int32) (J_lower : Int32) (J_give' : Nat → Int32) (J_clear' : Nat → Int32) (J_yieldAt' : Nat → Int32) (J_soft' : Nat → Int32) (J_breakAt' : Nat → Int32) (J_out' : Nat → Int32) (J_pitches' : Nat → Int32) (J_bolts' : Int32) (q : f_J_add l1 l2 l3 l4 l5 J_give J_clear J_yieldAt J_soft J_breakAt J_out J_pitches J_bolts = some (J_give', J_clear', J_yieldAt', J_soft', J_breakAt', J_out', J_pitches', J_bolts')) : Ctr yX2_add cX2_add 6 none 2 0 0 K [.ref (a oJ), .int l1, .int l2, .int l3, .int l4, .int l5] (wJ K a oJ J_give J_clear J_yieldAt J_soft J_breakAt J_out J_pitches J_bolts J_upper J_lower) (Eqs none (wJ K a oJ J_give' J_clear' J_yieldAt' J_soft' J_breakAt' J_out' J_pitches' J_bolts' J_upper J_lower)) := by
  refine mkCtr (by decide) (Nat.le_of_ble_eq_true rfl) ?_
  intro G hK h hq _
  subst hK
  exact v_J_add h F a oJ l1 l2 l3 l4 l5 J_give J_clear J_yieldAt J_soft J_breakAt J_out J_pitches J_bolts J_upper J_lower _ q hq ⟨rfl, rfl⟩

set_option maxHeartbeats 4000000 in
set_option maxRecDepth 100000 in
theorem v_J_copyBolt {G : Gm} (h : VOk G cX2_copyBolt RX2 4 (rmC 2 0 0)) (F : Nat) (a : Nat → Nat) (oJ : Nat) (oJb : Nat) (l2 : Int32) (l3 : Int32) (J_give : Nat → Int32) (J_clear : Nat → Int32) (J_yieldAt : Nat → Int32) (J_soft : Nat → Int32) (J_breakAt : Nat → Int32) (J_out : Nat → Int32) (J_pitches : Nat → Int32) (J_bolts : Int32) (J_upper : Int32) (J_lower : Int32) (Jb_give : Nat → Int32) (Jb_clear : Nat → Int32) (Jb_yieldAt : Nat → Int32) (Jb_soft : Nat → Int32) (Jb_breakAt : Nat → Int32) (Jb_out : Nat → Int32) (Jb_pitches : Nat → Int32) (Jb_bolts : Int32) (Jb_upper : Int32) (Jb_lower : Int32) (o : (Nat → Int32) × (Nat → Int32) × (Nat → Int32) × (Nat → Int32) × (Nat → Int32) × (Nat → Int32)) (q : f_J_copyBolt l2 l3 J_give J_clear J_yieldAt J_soft J_breakAt J_out Jb_give Jb_clear Jb_yieldAt Jb_soft Jb_breakAt Jb_out = some o) {Pst : Option Value → va_W → Prop} (hq : RetQ G 0 0 none Pst) (hp : Pst none (wJ (gK G) a oJ (o.1) (o.2.1) (o.2.2.1) (o.2.2.2.1) (o.2.2.2.2.1) (o.2.2.2.2.2) J_pitches J_bolts J_upper J_lower ++ (wJ (gK G) a oJb Jb_give Jb_clear Jb_yieldAt Jb_soft Jb_breakAt Jb_out Jb_pitches Jb_bolts Jb_upper Jb_lower))) : V G 0 0 (wJ (gK G) a oJ J_give J_clear J_yieldAt J_soft J_breakAt J_out J_pitches J_bolts J_upper J_lower ++ (wJ (gK G) a oJb Jb_give Jb_clear Jb_yieldAt Jb_soft Jb_breakAt Jb_out Jb_pitches Jb_bolts Jb_upper Jb_lower)) 0 [(0, .ref (a oJ)), (1, .ref (a oJb)), (2, .int l2), (3, .int l3)] [] := by
  unfold f_J_copyBolt at q
  refine V_aload_n (pc := 0) h 0 dX2_copyBolt_0 rfl ?_
  refine V_iload_n (pc := 1) h 3 dX2_copyBolt_1 rfl ?_
  refine V_aload_n (pc := 2) h 1 dX2_copyBolt_2 rfl ?_
  refine V_get (pc := 3) h fl_2_9 8 rfl rfl dX2_copyBolt_3 ?_
  refine V_iload_n (pc := 6) h 2 dX2_copyBolt_6 rfl ?_
  obtain ⟨v_7, e_v_7, q⟩ := bs q
  refine V_iald (pc := 7) h 9 rfl e_v_7 dX2_copyBolt_7 ?_
  refine V_aload_n (pc := 8) h 1 dX2_copyBolt_8 rfl ?_
  refine V_get (pc := 9) h fl_2_15 8 rfl rfl dX2_copyBolt_9 ?_
  refine V_iload_n (pc := 12) h 2 dX2_copyBolt_12 rfl ?_
  obtain ⟨v_13, e_v_13, q⟩ := bs q
  refine V_iald (pc := 13) h 10 rfl e_v_13 dX2_copyBolt_13 ?_
  refine V_aload_n (pc := 14) h 1 dX2_copyBolt_14 rfl ?_
  refine V_get (pc := 15) h fl_2_18 8 rfl rfl dX2_copyBolt_15 ?_
  refine V_iload_n (pc := 18) h 2 dX2_copyBolt_18 rfl ?_
  obtain ⟨v_19, e_v_19, q⟩ := bs q
  refine V_iald (pc := 19) h 11 rfl e_v_19 dX2_copyBolt_19 ?_
  refine V_aload_n (pc := 20) h 1 dX2_copyBolt_20 rfl ?_
  refine V_get (pc := 21) h fl_2_21 8 rfl rfl dX2_copyBolt_21 ?_
  refine V_iload_n (pc := 24) h 2 dX2_copyBolt_24 rfl ?_
  obtain ⟨v_25, e_v_25, q⟩ := bs q
  refine V_iald (pc := 25) h 12 rfl e_v_25 dX2_copyBolt_25 ?_
  refine V_aload_n (pc := 26) h 1 dX2_copyBolt_26 rfl ?_
  refine V_get (pc := 27) h fl_2_24 8 rfl rfl dX2_copyBolt_27 ?_
  refine V_iload_n (pc := 30) h 2 dX2_copyBolt_30 rfl ?_
  obtain ⟨v_31, e_v_31, q⟩ := bs q
  refine V_iald (pc := 31) h 13 rfl e_v_31 dX2_copyBolt_31 ?_
  obtain ⟨J_give_32, J_clear_32, J_yieldAt_32, J_soft_32, J_breakAt_32, e_32, q⟩ := bs5 q
  refine V_partV (pc := 32) h _ (t_J_write (gK G) F a oJ l3 v_7 v_13 v_19 v_25 v_31 J_give J_clear J_yieldAt J_soft J_breakAt J_out J_pitches J_bolts J_upper J_lower _ _ _ _ _ e_32) mf_J_write lk_RX2_48 im_J_write se_J_write ⟨Nat.le_of_ble_eq_true rfl, Nat.le_of_ble_eq_true rfl⟩ ⟨Nat.zero_le _, Nat.zero_le _⟩ (wJ (gK G) a oJ J_give_32 J_clear_32 J_yieldAt_32 J_soft_32 J_breakAt_32 J_out J_pitches J_bolts J_upper J_lower ++ (wJ (gK G) a oJb Jb_give Jb_clear Jb_yieldAt Jb_soft Jb_breakAt Jb_out Jb_pitches Jb_bolts Jb_upper Jb_lower)) [0, 1, 2, 3, 4, 5, 6, 7] [8, 9, 10, 11, 12, 13, 14, 15] 16 rfl rfl rfl rfl rfl (wJ (gK G) a oJb Jb_give Jb_clear Jb_yieldAt Jb_soft Jb_breakAt Jb_out Jb_pitches Jb_bolts Jb_upper Jb_lower) rfl rfl rfl 0 rfl rfl rfl rfl (Nat.le_of_ble_eq_true rfl) [] rfl dX2_copyBolt_32 ?_
  refine V_aload_n (pc := 35) h 0 dX2_copyBolt_35 rfl ?_
  refine V_get (pc := 36) h fl_2_27 0 rfl rfl dX2_copyBolt_36 ?_
  refine V_iload_n (pc := 39) h 3 dX2_copyBolt_39 rfl ?_
  refine V_aload_n (pc := 40) h 1 dX2_copyBolt_40 rfl ?_
  refine V_get (pc := 41) h fl_2_27 8 rfl rfl dX2_copyBolt_41 ?_
  refine V_iload_n (pc := 44) h 2 dX2_copyBolt_44 rfl ?_
  obtain ⟨v_45, e_v_45, q⟩ := bs q
  refine V_zald (pc := 45) h 14 rfl e_v_45 dX2_copyBolt_45 ?_
  obtain ⟨J_out_46, e_J_out_46, q⟩ := bs q
  refine V_zast (pc := 46) h 6 (wJ (gK G) a oJ J_give_32 J_clear_32 J_yieldAt_32 J_soft_32 J_breakAt_32 J_out_46 J_pitches J_bolts J_upper J_lower ++ (wJ (gK G) a oJb Jb_give Jb_clear Jb_yieldAt Jb_soft Jb_breakAt Jb_out Jb_pitches Jb_bolts Jb_upper Jb_lower)) rfl e_J_out_46 rfl dX2_copyBolt_46 ?_
  obtain rfl := Option.some.inj q
  exact V_vret (pc := 47) h hq dX2_copyBolt_47 hp

set_option maxHeartbeats 4000000 in
set_option maxRecDepth 100000 in
theorem t_J_copyBolt (K : Kd) (F : Nat) (a : Nat → Nat) (oJ : Nat) (oJb : Nat) (l2 : Int32) (l3 : Int32) (J_give : Nat → Int32) (J_clear : Nat → Int32) (J_yieldAt : Nat → Int32) (J_soft : Nat → Int32) (J_breakAt : Nat → Int32) (J_out : Nat → Int32) (J_pitches : Nat → Int32) (J_bolts : Int32) (J_upper : Int32) (J_lower : Int32) (Jb_give : Nat → Int32) (Jb_clear : Nat → Int32) (Jb_yieldAt : Nat → Int32) (Jb_soft : Nat → Int32) (Jb_breakAt : Nat → Int32) (Jb_out : Nat → Int32) (Jb_pitches : Nat → Int32) (Jb_bolts : Int32) (Jb_upper : Int32) (Jb_lower : Int32) (J_give' : Nat → Int32) (J_clear' : Nat → Int32) (J_yieldAt' : Nat → Int32) (J_soft' : Nat → Int32) (J_breakAt' : Nat → Int32) (J_out' : Nat → Int32) (q : f_J_copyBolt l2 l3 J_give J_clear J_yieldAt J_soft J_breakAt J_out Jb_give Jb_clear Jb_yieldAt Jb_soft Jb_breakAt Jb_out = some (J_give', J_clear', J_yieldAt', J_soft', J_breakAt', J_out')) : Ctr yX2_copyBolt cX2_copyBolt 4 none 2 0 0 K [.ref (a oJ), .ref (a oJb), .int l2, .int l3] (wJ K a oJ J_give J_clear J_yieldAt J_soft J_breakAt J_out J_pitches J_bolts J_upper J_lower ++ (wJ K a oJb Jb_give Jb_clear Jb_yieldAt Jb_soft Jb_breakAt Jb_out Jb_pitches Jb_bolts Jb_upper Jb_lower)) (Eqs none (wJ K a oJ J_give' J_clear' J_yieldAt' J_soft' J_breakAt' J_out' J_pitches J_bolts J_upper J_lower ++ (wJ K a oJb Jb_give Jb_clear Jb_yieldAt Jb_soft Jb_breakAt Jb_out Jb_pitches Jb_bolts Jb_upper Jb_lower))) := by
  refine mkCtr (by decide) (Nat.le_of_ble_eq_true rfl) ?_
  intro G hK h hq _
  subst hK
  exact v_J_copyBolt h F a oJ oJb l2 l3 J_give J_clear J_yieldAt J_soft J_breakAt J_out J_pitches J_bolts J_upper J_lower Jb_give Jb_clear Jb_yieldAt Jb_soft Jb_breakAt Jb_out Jb_pitches Jb_bolts Jb_upper Jb_lower _ q hq ⟨rfl, rfl⟩

set_option maxHeartbeats 4000000 in
set_option maxRecDepth 100000 in
theorem vb_J_copyAll_26 {G : Gm} (h : VOk G cX2_copyAll RX2 3 (rmC 3 0 0)) (F : Nat) (a : Nat → Nat) (oJ : Nat) (oJb : Nat) (l2 : Int32) (J_give : Nat → Int32) (J_clear : Nat → Int32) (J_yieldAt : Nat → Int32) (J_soft : Nat → Int32) (J_breakAt : Nat → Int32) (J_out : Nat → Int32) (J_pitches : Nat → Int32) (J_bolts : Int32) (J_upper : Int32) (J_lower : Int32) (Jb_give : Nat → Int32) (Jb_clear : Nat → Int32) (Jb_yieldAt : Nat → Int32) (Jb_soft : Nat → Int32) (Jb_breakAt : Nat → Int32) (Jb_out : Nat → Int32) (Jb_pitches : Nat → Int32) (Jb_bolts : Int32) (Jb_upper : Int32) (Jb_lower : Int32) (o : (Int32 × (Nat → Int32) × (Nat → Int32) × (Nat → Int32) × (Nat → Int32) × (Nat → Int32) × (Nat → Int32) × (Nat → Int32)) ⊕ ((Nat → Int32) × (Nat → Int32) × (Nat → Int32) × (Nat → Int32) × (Nat → Int32) × (Nat → Int32) × (Nat → Int32))) (q : fb_J_copyAll_26 J_bolts Jb_give Jb_clear Jb_yieldAt Jb_soft Jb_breakAt Jb_out Jb_pitches l2 J_give J_clear J_yieldAt J_soft J_breakAt J_out J_pitches = some o) (k1 : ∀ (l2' : Int32) (J_give' : Nat → Int32) (J_clear' : Nat → Int32) (J_yieldAt' : Nat → Int32) (J_soft' : Nat → Int32) (J_breakAt' : Nat → Int32) (J_out' : Nat → Int32) (J_pitches' : Nat → Int32), o = .inl (l2', J_give', J_clear', J_yieldAt', J_soft', J_breakAt', J_out', J_pitches') → V G 0 0 (wJ (gK G) a oJ J_give' J_clear' J_yieldAt' J_soft' J_breakAt' J_out' J_pitches' J_bolts J_upper J_lower ++ (wJ (gK G) a oJb Jb_give Jb_clear Jb_yieldAt Jb_soft Jb_breakAt Jb_out Jb_pitches Jb_bolts Jb_upper Jb_lower)) 26 [(0, .ref (a oJ)), (1, .ref (a oJb)), (2, .int l2')] []) (k2 : ∀ (r : (Nat → Int32) × (Nat → Int32) × (Nat → Int32) × (Nat → Int32) × (Nat → Int32) × (Nat → Int32) × (Nat → Int32)), o = .inr r → V G 0 0 (wJ (gK G) a oJ (r.1) (r.2.1) (r.2.2.1) (r.2.2.2.1) (r.2.2.2.2.1) (r.2.2.2.2.2.1) (r.2.2.2.2.2.2) J_bolts J_upper J_lower ++ (wJ (gK G) a oJb Jb_give Jb_clear Jb_yieldAt Jb_soft Jb_breakAt Jb_out Jb_pitches Jb_bolts Jb_upper Jb_lower)) 64 [] []) : V G 0 0 (wJ (gK G) a oJ J_give J_clear J_yieldAt J_soft J_breakAt J_out J_pitches J_bolts J_upper J_lower ++ (wJ (gK G) a oJb Jb_give Jb_clear Jb_yieldAt Jb_soft Jb_breakAt Jb_out Jb_pitches Jb_bolts Jb_upper Jb_lower)) 26 [(0, .ref (a oJ)), (1, .ref (a oJb)), (2, .int l2)] [] := by
  unfold fb_J_copyAll_26 at q
  refine V_iload_n (pc := 26) h 2 dX2_copyAll_26 rfl ?_
  refine V_aload_n (pc := 27) h 0 dX2_copyAll_27 rfl ?_
  refine V_get (pc := 28) h fl_2_41 0 rfl rfl dX2_copyAll_28 ?_
  refine V_icmp_ge (pc := 31) h 64 dX2_copyAll_31 (by decide) (fun hc => ?_) (fun hc => ?_)
  · have q := if_p hc q
    refine V_sub [] [] rfl ?_
    have kk := k2 _ (Option.some.inj q).symm
    exact kk
  · have q := if_n hc q
    refine V_iload_n (pc := 34) h 2 dX2_copyAll_34 rfl ?_
    refine V_iconst (pc := 35) h dX2_copyAll_35 ic_5 ?_
    refine V_icmp_ge (pc := 36) h 64 dX2_copyAll_36 (by decide) (fun hc => ?_) (fun hc => ?_)
    · have q := if_p hc q
      refine V_sub [] [] rfl ?_
      have kk := k2 _ (Option.some.inj q).symm
      exact kk
    · have q := if_n hc q
      refine V_aload_n (pc := 39) h 0 dX2_copyAll_39 rfl ?_
      refine V_aload_n (pc := 40) h 1 dX2_copyAll_40 rfl ?_
      refine V_iload_n (pc := 41) h 2 dX2_copyAll_41 rfl ?_
      refine V_iload_n (pc := 42) h 2 dX2_copyAll_42 rfl ?_
      obtain ⟨J_give_43, J_clear_43, J_yieldAt_43, J_soft_43, J_breakAt_43, J_out_43, e_43, q⟩ := bs6 q
      refine V_wallV (pc := 43) h _ (t_J_copyBolt (gK G) F a oJ oJb l2 l2 J_give J_clear J_yieldAt J_soft J_breakAt J_out J_pitches J_bolts J_upper J_lower Jb_give Jb_clear Jb_yieldAt Jb_soft Jb_breakAt Jb_out Jb_pitches Jb_bolts Jb_upper Jb_lower _ _ _ _ _ _ e_43) mf_J_copyBolt lk_RX2_52 im_J_copyBolt se_J_copyBolt ⟨Nat.le_of_ble_eq_true rfl, Nat.le_of_ble_eq_true rfl⟩ ⟨Nat.zero_le _, Nat.zero_le _⟩ rfl 0 rfl rfl rfl rfl (Nat.le_of_ble_eq_true rfl) [] rfl dX2_copyAll_43 ?_
      refine V_aload_n (pc := 46) h 0 dX2_copyAll_46 rfl ?_
      refine V_get (pc := 47) h fl_2_31 0 rfl rfl dX2_copyAll_47 ?_
      refine V_iload_n (pc := 50) h 2 dX2_copyAll_50 rfl ?_
      refine V_aload_n (pc := 51) h 1 dX2_copyAll_51 rfl ?_
      refine V_get (pc := 52) h fl_2_31 8 rfl rfl dX2_copyAll_52 ?_
      refine V_iload_n (pc := 55) h 2 dX2_copyAll_55 rfl ?_
      obtain ⟨v_56, e_v_56, q⟩ := bs q
      refine V_iald (pc := 56) h 15 rfl e_v_56 dX2_copyAll_56 ?_
      obtain ⟨J_pitches_57, e_J_pitches_57, q⟩ := bs q
      refine V_iast (pc := 57) h 7 (wJ (gK G) a oJ J_give_43 J_clear_43 J_yieldAt_43 J_soft_43 J_breakAt_43 J_out_43 J_pitches_57 J_bolts J_upper J_lower ++ (wJ (gK G) a oJb Jb_give Jb_clear Jb_yieldAt Jb_soft Jb_breakAt Jb_out Jb_pitches Jb_bolts Jb_upper Jb_lower)) rfl e_J_pitches_57 rfl dX2_copyAll_57 ?_
      obtain ⟨l2_58, e_l2_58⟩ : ∃ y : Int32, (l2 + (1 : Int32)) = y := ⟨_, rfl⟩
      have q := nm_use e_l2_58 q
      refine V_iinc (pc := 58) h [(2, .int l2_58), (0, .ref (a oJ)), (1, .ref (a oJb))] 2 dX2_copyAll_58 rfl ic_1 (Nat.le_of_ble_eq_true rfl) (by rw [e_l2_58]; rfl) ?_
      refine V_goto (pc := 61) (tgt := 26) h dX2_copyAll_61 (by decide) ?_
      refine V_sub [(0, .ref (a oJ)), (1, .ref (a oJb)), (2, .int l2_58)] [1, 2, 0] rfl ?_
      exact k1 l2_58 J_give_43 J_clear_43 J_yieldAt_43 J_soft_43 J_breakAt_43 J_out_43 J_pitches_57 (Option.some.inj q).symm

set_option maxHeartbeats 4000000 in
set_option maxRecDepth 100000 in
theorem vl_J_copyAll_26 {G : Gm} (h : VOk G cX2_copyAll RX2 3 (rmC 3 0 0)) (F : Nat) (a : Nat → Nat) (oJ : Nat) (oJb : Nat) (l2 : Int32) (J_give : Nat → Int32) (J_clear : Nat → Int32) (J_yieldAt : Nat → Int32) (J_soft : Nat → Int32) (J_breakAt : Nat → Int32) (J_out : Nat → Int32) (J_pitches : Nat → Int32) (J_bolts : Int32) (J_upper : Int32) (J_lower : Int32) (Jb_give : Nat → Int32) (Jb_clear : Nat → Int32) (Jb_yieldAt : Nat → Int32) (Jb_soft : Nat → Int32) (Jb_breakAt : Nat → Int32) (Jb_out : Nat → Int32) (Jb_pitches : Nat → Int32) (Jb_bolts : Int32) (Jb_upper : Int32) (Jb_lower : Int32) (r : (Nat → Int32) × (Nat → Int32) × (Nat → Int32) × (Nat → Int32) × (Nat → Int32) × (Nat → Int32) × (Nat → Int32)) (q : iter (un8 (fb_J_copyAll_26 J_bolts Jb_give Jb_clear Jb_yieldAt Jb_soft Jb_breakAt Jb_out Jb_pitches)) F (l2, J_give, J_clear, J_yieldAt, J_soft, J_breakAt, J_out, J_pitches) = some r) (kx : V G 0 0 (wJ (gK G) a oJ (r.1) (r.2.1) (r.2.2.1) (r.2.2.2.1) (r.2.2.2.2.1) (r.2.2.2.2.2.1) (r.2.2.2.2.2.2) J_bolts J_upper J_lower ++ (wJ (gK G) a oJb Jb_give Jb_clear Jb_yieldAt Jb_soft Jb_breakAt Jb_out Jb_pitches Jb_bolts Jb_upper Jb_lower)) 64 [] []) : V G 0 0 (wJ (gK G) a oJ J_give J_clear J_yieldAt J_soft J_breakAt J_out J_pitches J_bolts J_upper J_lower ++ (wJ (gK G) a oJb Jb_give Jb_clear Jb_yieldAt Jb_soft Jb_breakAt Jb_out Jb_pitches Jb_bolts Jb_upper Jb_lower)) 26 [(0, .ref (a oJ)), (1, .ref (a oJb)), (2, .int l2)] [] := by
  have hh := iter_ind (body := un8 (fb_J_copyAll_26 J_bolts Jb_give Jb_clear Jb_yieldAt Jb_soft Jb_breakAt Jb_out Jb_pitches)) (P := fun z => V G 0 0 (wJ (gK G) a oJ (z.2.1) (z.2.2.1) (z.2.2.2.1) (z.2.2.2.2.1) (z.2.2.2.2.2.1) (z.2.2.2.2.2.2.1) (z.2.2.2.2.2.2.2) J_bolts J_upper J_lower ++ (wJ (gK G) a oJb Jb_give Jb_clear Jb_yieldAt Jb_soft Jb_breakAt Jb_out Jb_pitches Jb_bolts Jb_upper Jb_lower)) 26 [(0, .ref (a oJ)), (1, .ref (a oJb)), (2, .int (z.1))] []) (X := fun r => V G 0 0 (wJ (gK G) a oJ (r.1) (r.2.1) (r.2.2.1) (r.2.2.2.1) (r.2.2.2.2.1) (r.2.2.2.2.2.1) (r.2.2.2.2.2.2) J_bolts J_upper J_lower ++ (wJ (gK G) a oJb Jb_give Jb_clear Jb_yieldAt Jb_soft Jb_breakAt Jb_out Jb_pitches Jb_bolts Jb_upper Jb_lower)) 64 [] []) (fun z o qb j1 j2 => vb_J_copyAll_26 h F a oJ oJb (z.1) (z.2.1) (z.2.2.1) (z.2.2.2.1) (z.2.2.2.2.1) (z.2.2.2.2.2.1) (z.2.2.2.2.2.2.1) (z.2.2.2.2.2.2.2) J_bolts J_upper J_lower Jb_give Jb_clear Jb_yieldAt Jb_soft Jb_breakAt Jb_out Jb_pitches Jb_bolts Jb_upper Jb_lower o qb (fun y0 y1 y2 y3 y4 y5 y6 y7 e => j1 (y0, y1, y2, y3, y4, y5, y6, y7) e) j2) F (l2, J_give, J_clear, J_yieldAt, J_soft, J_breakAt, J_out, J_pitches) r q kx
  exact hh

set_option maxHeartbeats 4000000 in
set_option maxRecDepth 100000 in
theorem v_J_copyAll {G : Gm} (h : VOk G cX2_copyAll RX2 3 (rmC 3 0 0)) (F : Nat) (a : Nat → Nat) (oJ : Nat) (oJb : Nat) (J_give : Nat → Int32) (J_clear : Nat → Int32) (J_yieldAt : Nat → Int32) (J_soft : Nat → Int32) (J_breakAt : Nat → Int32) (J_out : Nat → Int32) (J_pitches : Nat → Int32) (J_bolts : Int32) (J_upper : Int32) (J_lower : Int32) (Jb_give : Nat → Int32) (Jb_clear : Nat → Int32) (Jb_yieldAt : Nat → Int32) (Jb_soft : Nat → Int32) (Jb_breakAt : Nat → Int32) (Jb_out : Nat → Int32) (Jb_pitches : Nat → Int32) (Jb_bolts : Int32) (Jb_upper : Int32) (Jb_lower : Int32) (o : (Nat → Int32) × (Nat → Int32) × (Nat → Int32) × (Nat → Int32) × (Nat → Int32) × (Nat → Int32) × (Nat → Int32) × Int32 × Int32 × Int32) (q : f_J_copyAll F J_give J_clear J_yieldAt J_soft J_breakAt J_out J_pitches J_bolts J_upper J_lower Jb_give Jb_clear Jb_yieldAt Jb_soft Jb_breakAt Jb_out Jb_pitches Jb_bolts Jb_upper Jb_lower = some o) {Pst : Option Value → va_W → Prop} (hq : RetQ G 0 0 none Pst) (hp : Pst none (wJ (gK G) a oJ (o.1) (o.2.1) (o.2.2.1) (o.2.2.2.1) (o.2.2.2.2.1) (o.2.2.2.2.2.1) (o.2.2.2.2.2.2.1) (o.2.2.2.2.2.2.2.1) (o.2.2.2.2.2.2.2.2.1) (o.2.2.2.2.2.2.2.2.2) ++ (wJ (gK G) a oJb Jb_give Jb_clear Jb_yieldAt Jb_soft Jb_breakAt Jb_out Jb_pitches Jb_bolts Jb_upper Jb_lower))) : V G 0 0 (wJ (gK G) a oJ J_give J_clear J_yieldAt J_soft J_breakAt J_out J_pitches J_bolts J_upper J_lower ++ (wJ (gK G) a oJb Jb_give Jb_clear Jb_yieldAt Jb_soft Jb_breakAt Jb_out Jb_pitches Jb_bolts Jb_upper Jb_lower)) 0 [(0, .ref (a oJ)), (1, .ref (a oJb))] [] := by
  unfold f_J_copyAll at q
  refine V_aload_n (pc := 0) h 0 dX2_copyAll_0 rfl ?_
  refine V_aload_n (pc := 1) h 1 dX2_copyAll_1 rfl ?_
  refine V_get (pc := 2) h fl_2_41 8 rfl rfl dX2_copyAll_2 ?_
  refine V_put (pc := 5) h fl_2_41 fp_2_7 0 (wJ (gK G) a oJ J_give J_clear J_yieldAt J_soft J_breakAt J_out J_pitches Jb_bolts J_upper J_lower ++ (wJ (gK G) a oJb Jb_give Jb_clear Jb_yieldAt Jb_soft Jb_breakAt Jb_out Jb_pitches Jb_bolts Jb_upper Jb_lower)) rfl rfl rfl (Nat.le_of_ble_eq_true rfl) rfl dX2_copyAll_5 ?_
  refine V_aload_n (pc := 8) h 0 dX2_copyAll_8 rfl ?_
  refine V_aload_n (pc := 9) h 1 dX2_copyAll_9 rfl ?_
  refine V_get (pc := 10) h fl_2_34 8 rfl rfl dX2_copyAll_10 ?_
  refine V_put (pc := 13) h fl_2_34 fp_2_8 0 (wJ (gK G) a oJ J_give J_clear J_yieldAt J_soft J_breakAt J_out J_pitches Jb_bolts Jb_upper J_lower ++ (wJ (gK G) a oJb Jb_give Jb_clear Jb_yieldAt Jb_soft Jb_breakAt Jb_out Jb_pitches Jb_bolts Jb_upper Jb_lower)) rfl rfl rfl (Nat.le_of_ble_eq_true rfl) rfl dX2_copyAll_13 ?_
  refine V_aload_n (pc := 16) h 0 dX2_copyAll_16 rfl ?_
  refine V_aload_n (pc := 17) h 1 dX2_copyAll_17 rfl ?_
  refine V_get (pc := 18) h fl_2_38 8 rfl rfl dX2_copyAll_18 ?_
  refine V_put (pc := 21) h fl_2_38 fp_2_9 0 (wJ (gK G) a oJ J_give J_clear J_yieldAt J_soft J_breakAt J_out J_pitches Jb_bolts Jb_upper Jb_lower ++ (wJ (gK G) a oJb Jb_give Jb_clear Jb_yieldAt Jb_soft Jb_breakAt Jb_out Jb_pitches Jb_bolts Jb_upper Jb_lower)) rfl rfl rfl (Nat.le_of_ble_eq_true rfl) rfl dX2_copyAll_21 ?_
  refine V_iconst (pc := 24) h dX2_copyAll_24 ic_0 ?_
  refine V_istore_n (pc := 25) h [(2, .int (0 : Int32)), (0, .ref (a oJ)), (1, .ref (a oJb))] dX2_copyAll_25 (Nat.le_of_ble_eq_true rfl) rfl ?_
  obtain ⟨J_give_26, J_clear_26, J_yieldAt_26, J_soft_26, J_breakAt_26, J_out_26, J_pitches_26, e_26, q⟩ := bs7 q
  refine V_sub [(0, .ref (a oJ)), (1, .ref (a oJb)), (2, .int (0 : Int32))] [1, 2, 0] rfl ?_
  refine vl_J_copyAll_26 h F a oJ oJb (0 : Int32) J_give J_clear J_yieldAt J_soft J_breakAt J_out J_pitches Jb_bolts Jb_upper Jb_lower Jb_give Jb_clear Jb_yieldAt Jb_soft Jb_breakAt Jb_out Jb_pitches Jb_bolts Jb_upper Jb_lower _ e_26 ?_
  show V G 0 0 (wJ (gK G) a oJ J_give_26 J_clear_26 J_yieldAt_26 J_soft_26 J_breakAt_26 J_out_26 J_pitches_26 Jb_bolts Jb_upper Jb_lower ++ (wJ (gK G) a oJb Jb_give Jb_clear Jb_yieldAt Jb_soft Jb_breakAt Jb_out Jb_pitches Jb_bolts Jb_upper Jb_lower)) 64 [] []
  obtain rfl := Option.some.inj q
  exact V_vret (pc := 64) h hq dX2_copyAll_64 hp

set_option maxHeartbeats 4000000 in
set_option maxRecDepth 100000 in
theorem t_J_copyAll (K : Kd) (F : Nat) (a : Nat → Nat) (oJ : Nat) (oJb : Nat) (J_give : Nat → Int32) (J_clear : Nat → Int32) (J_yieldAt : Nat → Int32) (J_soft : Nat → Int32) (J_breakAt : Nat → Int32) (J_out : Nat → Int32) (J_pitches : Nat → Int32) (J_bolts : Int32) (J_upper : Int32) (J_lower : Int32) (Jb_give : Nat → Int32) (Jb_clear : Nat → Int32) (Jb_yieldAt : Nat → Int32) (Jb_soft : Nat → Int32) (Jb_breakAt : Nat → Int32) (Jb_out : Nat → Int32) (Jb_pitches : Nat → Int32) (Jb_bolts : Int32) (Jb_upper : Int32) (Jb_lower : Int32) (J_give' : Nat → Int32) (J_clear' : Nat → Int32) (J_yieldAt' : Nat → Int32) (J_soft' : Nat → Int32) (J_breakAt' : Nat → Int32) (J_out' : Nat → Int32) (J_pitches' : Nat → Int32) (J_bolts' : Int32) (J_upper' : Int32) (J_lower' : Int32) (q : f_J_copyAll F J_give J_clear J_yieldAt J_soft J_breakAt J_out J_pitches J_bolts J_upper J_lower Jb_give Jb_clear Jb_yieldAt Jb_soft Jb_breakAt Jb_out Jb_pitches Jb_bolts Jb_upper Jb_lower = some (J_give', J_clear', J_yieldAt', J_soft', J_breakAt', J_out', J_pitches', J_bolts', J_upper', J_lower')) : Ctr yX2_copyAll cX2_copyAll 3 none 3 0 0 K [.ref (a oJ), .ref (a oJb)] (wJ K a oJ J_give J_clear J_yieldAt J_soft J_breakAt J_out J_pitches J_bolts J_upper J_lower ++ (wJ K a oJb Jb_give Jb_clear Jb_yieldAt Jb_soft Jb_breakAt Jb_out Jb_pitches Jb_bolts Jb_upper Jb_lower)) (Eqs none (wJ K a oJ J_give' J_clear' J_yieldAt' J_soft' J_breakAt' J_out' J_pitches' J_bolts' J_upper' J_lower' ++ (wJ K a oJb Jb_give Jb_clear Jb_yieldAt Jb_soft Jb_breakAt Jb_out Jb_pitches Jb_bolts Jb_upper Jb_lower))) := by
  refine mkCtr (by decide) (Nat.le_of_ble_eq_true rfl) ?_
  intro G hK h hq _
  subst hK
  exact v_J_copyAll h F a oJ oJb J_give J_clear J_yieldAt J_soft J_breakAt J_out J_pitches J_bolts J_upper J_lower Jb_give Jb_clear Jb_yieldAt Jb_soft Jb_breakAt Jb_out Jb_pitches Jb_bolts Jb_upper Jb_lower _ q hq ⟨rfl, rfl⟩

set_option maxHeartbeats 4000000 in
set_option maxRecDepth 100000 in
theorem vj_J_soundBits_29 {G : Gm} (h : VOk G cX2_soundBits RX2 3 (rmC 1 0 0)) (F : Nat) (a : Nat → Nat) (oJ : Nat) (l2 : Int32) (s0 : Int32) (s1 : Int32) (J_give : Nat → Int32) (J_clear : Nat → Int32) (J_yieldAt : Nat → Int32) (J_soft : Nat → Int32) (J_breakAt : Nat → Int32) (J_out : Nat → Int32) (J_pitches : Nat → Int32) (J_bolts : Int32) (J_upper : Int32) (J_lower : Int32) (o : (Int32 × Int32) ⊕ (Int32)) (q : fj_J_soundBits_29 l2 s0 s1 = some o) (k1 : ∀ (l1' : Int32) (l2' : Int32), o = .inl (l1', l2') → V G 0 0 (wJ (gK G) a oJ J_give J_clear J_yieldAt J_soft J_breakAt J_out J_pitches J_bolts J_upper J_lower) 4 [(0, .ref (a oJ)), (1, .int l1'), (2, .int l2')] []) (k2 : ∀ (r : Int32), o = .inr r → V G 0 0 (wJ (gK G) a oJ J_give J_clear J_yieldAt J_soft J_breakAt J_out J_pitches J_bolts J_upper J_lower) 37 [(1, .int r)] []) : V G 0 0 (wJ (gK G) a oJ J_give J_clear J_yieldAt J_soft J_breakAt J_out J_pitches J_bolts J_upper J_lower) 29 [(0, .ref (a oJ)), (2, .int l2)] [.int s1, .int s0] := by
  unfold fj_J_soundBits_29 at q
  refine V_ior (pc := 29) h dX2_soundBits_29 ?_
  refine V_topi (pc := 30) (fun l1_30 e_l1_30 => ?_)
  have q := nm_use e_l1_30 q
  refine V_istore_n (pc := 30) h [(1, .int l1_30), (0, .ref (a oJ)), (2, .int l2)] dX2_soundBits_30 (Nat.le_of_ble_eq_true rfl) rfl ?_
  obtain ⟨l2_31, e_l2_31⟩ : ∃ y : Int32, (l2 + (1 : Int32)) = y := ⟨_, rfl⟩
  have q := nm_use e_l2_31 q
  refine V_iinc (pc := 31) h [(2, .int l2_31), (1, .int l1_30), (0, .ref (a oJ))] 2 dX2_soundBits_31 rfl ic_1 (Nat.le_of_ble_eq_true rfl) (by rw [e_l2_31]; rfl) ?_
  refine V_goto (pc := 34) (tgt := 4) h dX2_soundBits_34 (by decide) ?_
  refine V_sub [(0, .ref (a oJ)), (1, .int l1_30), (2, .int l2_31)] [2, 1, 0] rfl ?_
  exact k1 l1_30 l2_31 (Option.some.inj q).symm

set_option maxHeartbeats 4000000 in
set_option maxRecDepth 100000 in
theorem vb_J_soundBits_4 {G : Gm} (h : VOk G cX2_soundBits RX2 3 (rmC 1 0 0)) (F : Nat) (a : Nat → Nat) (oJ : Nat) (l1 : Int32) (l2 : Int32) (J_give : Nat → Int32) (J_clear : Nat → Int32) (J_yieldAt : Nat → Int32) (J_soft : Nat → Int32) (J_breakAt : Nat → Int32) (J_out : Nat → Int32) (J_pitches : Nat → Int32) (J_bolts : Int32) (J_upper : Int32) (J_lower : Int32) (o : (Int32 × Int32) ⊕ (Int32)) (q : fb_J_soundBits_4 J_out J_bolts l1 l2 = some o) (k1 : ∀ (l1' : Int32) (l2' : Int32), o = .inl (l1', l2') → V G 0 0 (wJ (gK G) a oJ J_give J_clear J_yieldAt J_soft J_breakAt J_out J_pitches J_bolts J_upper J_lower) 4 [(0, .ref (a oJ)), (1, .int l1'), (2, .int l2')] []) (k2 : ∀ (r : Int32), o = .inr r → V G 0 0 (wJ (gK G) a oJ J_give J_clear J_yieldAt J_soft J_breakAt J_out J_pitches J_bolts J_upper J_lower) 37 [(1, .int r)] []) : V G 0 0 (wJ (gK G) a oJ J_give J_clear J_yieldAt J_soft J_breakAt J_out J_pitches J_bolts J_upper J_lower) 4 [(0, .ref (a oJ)), (1, .int l1), (2, .int l2)] [] := by
  unfold fb_J_soundBits_4 at q
  refine V_iload_n (pc := 4) h 2 dX2_soundBits_4 rfl ?_
  refine V_aload_n (pc := 5) h 0 dX2_soundBits_5 rfl ?_
  refine V_get (pc := 6) h fl_2_41 0 rfl rfl dX2_soundBits_6 ?_
  refine V_icmp_ge (pc := 9) h 37 dX2_soundBits_9 (by decide) (fun hc => ?_) (fun hc => ?_)
  · have q := if_p hc q
    refine V_sub [(1, .int l1)] [1] rfl ?_
    have kk := k2 _ (Option.some.inj q).symm
    exact kk
  · have q := if_n hc q
    refine V_iload_n (pc := 12) h 1 dX2_soundBits_12 rfl ?_
    refine V_aload_n (pc := 13) h 0 dX2_soundBits_13 rfl ?_
    refine V_get (pc := 14) h fl_2_27 0 rfl rfl dX2_soundBits_14 ?_
    refine V_iload_n (pc := 17) h 2 dX2_soundBits_17 rfl ?_
    obtain ⟨v_18, e_v_18, q⟩ := bs q
    refine V_zald (pc := 18) h 6 rfl e_v_18 dX2_soundBits_18 ?_
    refine V_if_eq (pc := 19) h 26 dX2_soundBits_19 (by decide) (fun hc => ?_) (fun hc => ?_)
    · have q := if_p hc q
      refine V_iconst (pc := 26) h dX2_soundBits_26 ic_1 ?_
      refine V_iload_n (pc := 27) h 2 dX2_soundBits_27 rfl ?_
      refine V_ishl (pc := 28) h dX2_soundBits_28 ?_
      refine V_sub [(0, .ref (a oJ)), (2, .int l2)] [0, 2] rfl ?_
      exact vj_J_soundBits_29 h F a oJ l2 l1 ((1 : Int32) <<< (l2 &&& 31)) J_give J_clear J_yieldAt J_soft J_breakAt J_out J_pitches J_bolts J_upper J_lower _ q k1 k2
    · have q := if_n hc q
      refine V_iconst (pc := 22) h dX2_soundBits_22 ic_0 ?_
      refine V_goto (pc := 23) (tgt := 29) h dX2_soundBits_23 (by decide) ?_
      refine V_sub [(0, .ref (a oJ)), (2, .int l2)] [0, 2] rfl ?_
      exact vj_J_soundBits_29 h F a oJ l2 l1 (0 : Int32) J_give J_clear J_yieldAt J_soft J_breakAt J_out J_pitches J_bolts J_upper J_lower _ q k1 k2

set_option maxHeartbeats 4000000 in
set_option maxRecDepth 100000 in
theorem vl_J_soundBits_4 {G : Gm} (h : VOk G cX2_soundBits RX2 3 (rmC 1 0 0)) (F : Nat) (a : Nat → Nat) (oJ : Nat) (l1 : Int32) (l2 : Int32) (J_give : Nat → Int32) (J_clear : Nat → Int32) (J_yieldAt : Nat → Int32) (J_soft : Nat → Int32) (J_breakAt : Nat → Int32) (J_out : Nat → Int32) (J_pitches : Nat → Int32) (J_bolts : Int32) (J_upper : Int32) (J_lower : Int32) (r : Int32) (q : iter (un2 (fb_J_soundBits_4 J_out J_bolts)) F (l1, l2) = some r) (kx : V G 0 0 (wJ (gK G) a oJ J_give J_clear J_yieldAt J_soft J_breakAt J_out J_pitches J_bolts J_upper J_lower) 37 [(1, .int r)] []) : V G 0 0 (wJ (gK G) a oJ J_give J_clear J_yieldAt J_soft J_breakAt J_out J_pitches J_bolts J_upper J_lower) 4 [(0, .ref (a oJ)), (1, .int l1), (2, .int l2)] [] := by
  have hh := iter_ind (body := un2 (fb_J_soundBits_4 J_out J_bolts)) (P := fun z => V G 0 0 (wJ (gK G) a oJ J_give J_clear J_yieldAt J_soft J_breakAt J_out J_pitches J_bolts J_upper J_lower) 4 [(0, .ref (a oJ)), (1, .int (z.1)), (2, .int (z.2))] []) (X := fun r => V G 0 0 (wJ (gK G) a oJ J_give J_clear J_yieldAt J_soft J_breakAt J_out J_pitches J_bolts J_upper J_lower) 37 [(1, .int r)] []) (fun z o qb j1 j2 => vb_J_soundBits_4 h F a oJ (z.1) (z.2) J_give J_clear J_yieldAt J_soft J_breakAt J_out J_pitches J_bolts J_upper J_lower o qb (fun y0 y1 e => j1 (y0, y1) e) j2) F (l1, l2) r q kx
  exact hh

set_option maxHeartbeats 4000000 in
set_option maxRecDepth 100000 in
theorem v_J_soundBits {G : Gm} (h : VOk G cX2_soundBits RX2 3 (rmC 1 0 0)) (F : Nat) (a : Nat → Nat) (oJ : Nat) (J_give : Nat → Int32) (J_clear : Nat → Int32) (J_yieldAt : Nat → Int32) (J_soft : Nat → Int32) (J_breakAt : Nat → Int32) (J_out : Nat → Int32) (J_pitches : Nat → Int32) (J_bolts : Int32) (J_upper : Int32) (J_lower : Int32) (o : Int32) (q : f_J_soundBits F J_out J_bolts = some o) {Pst : Option Value → va_W → Prop} (hq : RetQ G 0 0 (some .int) Pst) (hp : Pst (some (.int o)) (wJ (gK G) a oJ J_give J_clear J_yieldAt J_soft J_breakAt J_out J_pitches J_bolts J_upper J_lower)) : V G 0 0 (wJ (gK G) a oJ J_give J_clear J_yieldAt J_soft J_breakAt J_out J_pitches J_bolts J_upper J_lower) 0 [(0, .ref (a oJ))] [] := by
  unfold f_J_soundBits at q
  refine V_iconst (pc := 0) h dX2_soundBits_0 ic_0 ?_
  refine V_istore_n (pc := 1) h [(1, .int (0 : Int32)), (0, .ref (a oJ))] dX2_soundBits_1 (Nat.le_of_ble_eq_true rfl) rfl ?_
  refine V_iconst (pc := 2) h dX2_soundBits_2 ic_0 ?_
  refine V_istore_n (pc := 3) h [(2, .int (0 : Int32)), (1, .int (0 : Int32)), (0, .ref (a oJ))] dX2_soundBits_3 (Nat.le_of_ble_eq_true rfl) rfl ?_
  obtain ⟨l1_4, e_4, q⟩ := bs q
  refine V_sub [(0, .ref (a oJ)), (1, .int (0 : Int32)), (2, .int (0 : Int32))] [2, 1, 0] rfl ?_
  refine vl_J_soundBits_4 h F a oJ (0 : Int32) (0 : Int32) J_give J_clear J_yieldAt J_soft J_breakAt J_out J_pitches J_bolts J_upper J_lower _ e_4 ?_
  show V G 0 0 (wJ (gK G) a oJ J_give J_clear J_yieldAt J_soft J_breakAt J_out J_pitches J_bolts J_upper J_lower) 37 [(1, .int l1_4)] []
  refine V_iload_n (pc := 37) h 0 dX2_soundBits_37 rfl ?_
  obtain rfl := Option.some.inj q
  exact V_iret (pc := 38) h hq dX2_soundBits_38 hp

set_option maxHeartbeats 4000000 in
set_option maxRecDepth 100000 in
theorem t_J_soundBits (K : Kd) (F : Nat) (a : Nat → Nat) (oJ : Nat) (J_give : Nat → Int32) (J_clear : Nat → Int32) (J_yieldAt : Nat → Int32) (J_soft : Nat → Int32) (J_breakAt : Nat → Int32) (J_out : Nat → Int32) (J_pitches : Nat → Int32) (J_bolts : Int32) (J_upper : Int32) (J_lower : Int32) (r : Int32) (q : f_J_soundBits F J_out J_bolts = some r) : Ctr yX2_soundBits cX2_soundBits 3 (some .int) 1 0 0 K [.ref (a oJ)] (wJ K a oJ J_give J_clear J_yieldAt J_soft J_breakAt J_out J_pitches J_bolts J_upper J_lower) (Eqs (some (.int r)) (wJ K a oJ J_give J_clear J_yieldAt J_soft J_breakAt J_out J_pitches J_bolts J_upper J_lower)) := by
  refine mkCtr (by decide) (Nat.le_of_ble_eq_true rfl) ?_
  intro G hK h hq _
  subst hK
  exact v_J_soundBits h F a oJ J_give J_clear J_yieldAt J_soft J_breakAt J_out J_pitches J_bolts J_upper J_lower _ q hq ⟨rfl, rfl⟩

set_option maxHeartbeats 4000000 in
set_option maxRecDepth 100000 in
theorem vj_J_breaksTogether_32 {G : Gm} (h : VOk G cX2_breaksTogether RX2 3 (rmC 1 0 0)) (F : Nat) (a : Nat → Nat) (oJ : Nat) (l2 : Int32) (s0 : Int32) (s1 : Int32) (J_give : Nat → Int32) (J_clear : Nat → Int32) (J_yieldAt : Nat → Int32) (J_soft : Nat → Int32) (J_breakAt : Nat → Int32) (J_out : Nat → Int32) (J_pitches : Nat → Int32) (J_bolts : Int32) (J_upper : Int32) (J_lower : Int32) (o : (Int32 × Int32) ⊕ (Int32)) (q : fj_J_breaksTogether_32 l2 s0 s1 = some o) (k1 : ∀ (l1' : Int32) (l2' : Int32), o = .inl (l1', l2') → V G 0 0 (wJ (gK G) a oJ J_give J_clear J_yieldAt J_soft J_breakAt J_out J_pitches J_bolts J_upper J_lower) 4 [(0, .ref (a oJ)), (1, .int l1'), (2, .int l2')] []) (k2 : ∀ (r : Int32), o = .inr r → V G 0 0 (wJ (gK G) a oJ J_give J_clear J_yieldAt J_soft J_breakAt J_out J_pitches J_bolts J_upper J_lower) 40 [(1, .int r)] []) : V G 0 0 (wJ (gK G) a oJ J_give J_clear J_yieldAt J_soft J_breakAt J_out J_pitches J_bolts J_upper J_lower) 32 [(0, .ref (a oJ)), (2, .int l2)] [.int s1, .int s0] := by
  unfold fj_J_breaksTogether_32 at q
  refine V_iadd (pc := 32) h dX2_breaksTogether_32 ?_
  refine V_topi (pc := 33) (fun l1_33 e_l1_33 => ?_)
  have q := nm_use e_l1_33 q
  refine V_istore_n (pc := 33) h [(1, .int l1_33), (0, .ref (a oJ)), (2, .int l2)] dX2_breaksTogether_33 (Nat.le_of_ble_eq_true rfl) rfl ?_
  obtain ⟨l2_34, e_l2_34⟩ : ∃ y : Int32, (l2 + (1 : Int32)) = y := ⟨_, rfl⟩
  have q := nm_use e_l2_34 q
  refine V_iinc (pc := 34) h [(2, .int l2_34), (1, .int l1_33), (0, .ref (a oJ))] 2 dX2_breaksTogether_34 rfl ic_1 (Nat.le_of_ble_eq_true rfl) (by rw [e_l2_34]; rfl) ?_
  refine V_goto (pc := 37) (tgt := 4) h dX2_breaksTogether_37 (by decide) ?_
  refine V_sub [(0, .ref (a oJ)), (1, .int l1_33), (2, .int l2_34)] [2, 1, 0] rfl ?_
  exact k1 l1_33 l2_34 (Option.some.inj q).symm

set_option maxHeartbeats 4000000 in
set_option maxRecDepth 100000 in
theorem vb_J_breaksTogether_4 {G : Gm} (h : VOk G cX2_breaksTogether RX2 3 (rmC 1 0 0)) (F : Nat) (a : Nat → Nat) (oJ : Nat) (l1 : Int32) (l2 : Int32) (J_give : Nat → Int32) (J_clear : Nat → Int32) (J_yieldAt : Nat → Int32) (J_soft : Nat → Int32) (J_breakAt : Nat → Int32) (J_out : Nat → Int32) (J_pitches : Nat → Int32) (J_bolts : Int32) (J_upper : Int32) (J_lower : Int32) (o : (Int32 × Int32) ⊕ (Int32)) (q : fb_J_breaksTogether_4 J_breakAt J_out J_bolts l1 l2 = some o) (k1 : ∀ (l1' : Int32) (l2' : Int32), o = .inl (l1', l2') → V G 0 0 (wJ (gK G) a oJ J_give J_clear J_yieldAt J_soft J_breakAt J_out J_pitches J_bolts J_upper J_lower) 4 [(0, .ref (a oJ)), (1, .int l1'), (2, .int l2')] []) (k2 : ∀ (r : Int32), o = .inr r → V G 0 0 (wJ (gK G) a oJ J_give J_clear J_yieldAt J_soft J_breakAt J_out J_pitches J_bolts J_upper J_lower) 40 [(1, .int r)] []) : V G 0 0 (wJ (gK G) a oJ J_give J_clear J_yieldAt J_soft J_breakAt J_out J_pitches J_bolts J_upper J_lower) 4 [(0, .ref (a oJ)), (1, .int l1), (2, .int l2)] [] := by
  unfold fb_J_breaksTogether_4 at q
  refine V_iload_n (pc := 4) h 2 dX2_breaksTogether_4 rfl ?_
  refine V_aload_n (pc := 5) h 0 dX2_breaksTogether_5 rfl ?_
  refine V_get (pc := 6) h fl_2_41 0 rfl rfl dX2_breaksTogether_6 ?_
  refine V_icmp_ge (pc := 9) h 40 dX2_breaksTogether_9 (by decide) (fun hc => ?_) (fun hc => ?_)
  · have q := if_p hc q
    refine V_sub [(1, .int l1)] [1] rfl ?_
    have kk := k2 _ (Option.some.inj q).symm
    exact kk
  · have q := if_n hc q
    refine V_iload_n (pc := 12) h 1 dX2_breaksTogether_12 rfl ?_
    refine V_aload_n (pc := 13) h 0 dX2_breaksTogether_13 rfl ?_
    refine V_get (pc := 14) h fl_2_27 0 rfl rfl dX2_breaksTogether_14 ?_
    refine V_iload_n (pc := 17) h 2 dX2_breaksTogether_17 rfl ?_
    obtain ⟨v_18, e_v_18, q⟩ := bs q
    refine V_zald (pc := 18) h 6 rfl e_v_18 dX2_breaksTogether_18 ?_
    refine V_if_eq (pc := 19) h 26 dX2_breaksTogether_19 (by decide) (fun hc => ?_) (fun hc => ?_)
    · have q := if_p hc q
      refine V_aload_n (pc := 26) h 0 dX2_breaksTogether_26 rfl ?_
      refine V_get (pc := 27) h fl_2_24 0 rfl rfl dX2_breaksTogether_27 ?_
      refine V_iload_n (pc := 30) h 2 dX2_breaksTogether_30 rfl ?_
      obtain ⟨v_31, e_v_31, q⟩ := bs q
      refine V_iald (pc := 31) h 5 rfl e_v_31 dX2_breaksTogether_31 ?_
      refine V_sub [(0, .ref (a oJ)), (2, .int l2)] [0, 2] rfl ?_
      exact vj_J_breaksTogether_32 h F a oJ l2 l1 v_31 J_give J_clear J_yieldAt J_soft J_breakAt J_out J_pitches J_bolts J_upper J_lower _ q k1 k2
    · have q := if_n hc q
      refine V_iconst (pc := 22) h dX2_breaksTogether_22 ic_0 ?_
      refine V_goto (pc := 23) (tgt := 32) h dX2_breaksTogether_23 (by decide) ?_
      refine V_sub [(0, .ref (a oJ)), (2, .int l2)] [0, 2] rfl ?_
      exact vj_J_breaksTogether_32 h F a oJ l2 l1 (0 : Int32) J_give J_clear J_yieldAt J_soft J_breakAt J_out J_pitches J_bolts J_upper J_lower _ q k1 k2

set_option maxHeartbeats 4000000 in
set_option maxRecDepth 100000 in
theorem vl_J_breaksTogether_4 {G : Gm} (h : VOk G cX2_breaksTogether RX2 3 (rmC 1 0 0)) (F : Nat) (a : Nat → Nat) (oJ : Nat) (l1 : Int32) (l2 : Int32) (J_give : Nat → Int32) (J_clear : Nat → Int32) (J_yieldAt : Nat → Int32) (J_soft : Nat → Int32) (J_breakAt : Nat → Int32) (J_out : Nat → Int32) (J_pitches : Nat → Int32) (J_bolts : Int32) (J_upper : Int32) (J_lower : Int32) (r : Int32) (q : iter (un2 (fb_J_breaksTogether_4 J_breakAt J_out J_bolts)) F (l1, l2) = some r) (kx : V G 0 0 (wJ (gK G) a oJ J_give J_clear J_yieldAt J_soft J_breakAt J_out J_pitches J_bolts J_upper J_lower) 40 [(1, .int r)] []) : V G 0 0 (wJ (gK G) a oJ J_give J_clear J_yieldAt J_soft J_breakAt J_out J_pitches J_bolts J_upper J_lower) 4 [(0, .ref (a oJ)), (1, .int l1), (2, .int l2)] [] := by
  have hh := iter_ind (body := un2 (fb_J_breaksTogether_4 J_breakAt J_out J_bolts)) (P := fun z => V G 0 0 (wJ (gK G) a oJ J_give J_clear J_yieldAt J_soft J_breakAt J_out J_pitches J_bolts J_upper J_lower) 4 [(0, .ref (a oJ)), (1, .int (z.1)), (2, .int (z.2))] []) (X := fun r => V G 0 0 (wJ (gK G) a oJ J_give J_clear J_yieldAt J_soft J_breakAt J_out J_pitches J_bolts J_upper J_lower) 40 [(1, .int r)] []) (fun z o qb j1 j2 => vb_J_breaksTogether_4 h F a oJ (z.1) (z.2) J_give J_clear J_yieldAt J_soft J_breakAt J_out J_pitches J_bolts J_upper J_lower o qb (fun y0 y1 e => j1 (y0, y1) e) j2) F (l1, l2) r q kx
  exact hh

set_option maxHeartbeats 4000000 in
set_option maxRecDepth 100000 in
theorem v_J_breaksTogether {G : Gm} (h : VOk G cX2_breaksTogether RX2 3 (rmC 1 0 0)) (F : Nat) (a : Nat → Nat) (oJ : Nat) (J_give : Nat → Int32) (J_clear : Nat → Int32) (J_yieldAt : Nat → Int32) (J_soft : Nat → Int32) (J_breakAt : Nat → Int32) (J_out : Nat → Int32) (J_pitches : Nat → Int32) (J_bolts : Int32) (J_upper : Int32) (J_lower : Int32) (o : Int32) (q : f_J_breaksTogether F J_breakAt J_out J_bolts = some o) {Pst : Option Value → va_W → Prop} (hq : RetQ G 0 0 (some .int) Pst) (hp : Pst (some (.int o)) (wJ (gK G) a oJ J_give J_clear J_yieldAt J_soft J_breakAt J_out J_pitches J_bolts J_upper J_lower)) : V G 0 0 (wJ (gK G) a oJ J_give J_clear J_yieldAt J_soft J_breakAt J_out J_pitches J_bolts J_upper J_lower) 0 [(0, .ref (a oJ))] [] := by
  unfold f_J_breaksTogether at q
  refine V_iconst (pc := 0) h dX2_breaksTogether_0 ic_0 ?_
  refine V_istore_n (pc := 1) h [(1, .int (0 : Int32)), (0, .ref (a oJ))] dX2_breaksTogether_1 (Nat.le_of_ble_eq_true rfl) rfl ?_
  refine V_iconst (pc := 2) h dX2_breaksTogether_2 ic_0 ?_
  refine V_istore_n (pc := 3) h [(2, .int (0 : Int32)), (1, .int (0 : Int32)), (0, .ref (a oJ))] dX2_breaksTogether_3 (Nat.le_of_ble_eq_true rfl) rfl ?_
  obtain ⟨l1_4, e_4, q⟩ := bs q
  refine V_sub [(0, .ref (a oJ)), (1, .int (0 : Int32)), (2, .int (0 : Int32))] [2, 1, 0] rfl ?_
  refine vl_J_breaksTogether_4 h F a oJ (0 : Int32) (0 : Int32) J_give J_clear J_yieldAt J_soft J_breakAt J_out J_pitches J_bolts J_upper J_lower _ e_4 ?_
  show V G 0 0 (wJ (gK G) a oJ J_give J_clear J_yieldAt J_soft J_breakAt J_out J_pitches J_bolts J_upper J_lower) 40 [(1, .int l1_4)] []
  refine V_iload_n (pc := 40) h 0 dX2_breaksTogether_40 rfl ?_
  obtain rfl := Option.some.inj q
  exact V_iret (pc := 41) h hq dX2_breaksTogether_41 hp

set_option maxHeartbeats 4000000 in
set_option maxRecDepth 100000 in
theorem t_J_breaksTogether (K : Kd) (F : Nat) (a : Nat → Nat) (oJ : Nat) (J_give : Nat → Int32) (J_clear : Nat → Int32) (J_yieldAt : Nat → Int32) (J_soft : Nat → Int32) (J_breakAt : Nat → Int32) (J_out : Nat → Int32) (J_pitches : Nat → Int32) (J_bolts : Int32) (J_upper : Int32) (J_lower : Int32) (r : Int32) (q : f_J_breaksTogether F J_breakAt J_out J_bolts = some r) : Ctr yX2_breaksTogether cX2_breaksTogether 3 (some .int) 1 0 0 K [.ref (a oJ)] (wJ K a oJ J_give J_clear J_yieldAt J_soft J_breakAt J_out J_pitches J_bolts J_upper J_lower) (Eqs (some (.int r)) (wJ K a oJ J_give J_clear J_yieldAt J_soft J_breakAt J_out J_pitches J_bolts J_upper J_lower)) := by
  refine mkCtr (by decide) (Nat.le_of_ble_eq_true rfl) ?_
  intro G hK h hq _
  subst hK
  exact v_J_breaksTogether h F a oJ J_give J_clear J_yieldAt J_soft J_breakAt J_out J_pitches J_bolts J_upper J_lower _ q hq ⟨rfl, rfl⟩

set_option maxHeartbeats 4000000 in
set_option maxRecDepth 100000 in
theorem vj_J_leastClear_43 {G : Gm} (h : VOk G cX2_leastClear RX2 4 (rmC 1 0 0)) (F : Nat) (a : Nat → Nat) (oJ : Nat) (l1 : Int32) (l2 : Int32) (l3 : Int32) (J_give : Nat → Int32) (J_clear : Nat → Int32) (J_yieldAt : Nat → Int32) (J_soft : Nat → Int32) (J_breakAt : Nat → Int32) (J_out : Nat → Int32) (J_pitches : Nat → Int32) (J_bolts : Int32) (J_upper : Int32) (J_lower : Int32) (o : (Int32 × Int32) ⊕ (Int32)) (q : fj_J_leastClear_43 l2 l3 = some o) (k1 : ∀ (l2' : Int32) (l3' : Int32), o = .inl (l2', l3') → V G 0 0 (wJ (gK G) a oJ J_give J_clear J_yieldAt J_soft J_breakAt J_out J_pitches J_bolts J_upper J_lower) 4 [(0, .ref (a oJ)), (1, .int l1), (2, .int l2'), (3, .int l3')] []) (k2 : ∀ (r : Int32), o = .inr r → V G 0 0 (wJ (gK G) a oJ J_give J_clear J_yieldAt J_soft J_breakAt J_out J_pitches J_bolts J_upper J_lower) 49 [(2, .int r)] []) : V G 0 0 (wJ (gK G) a oJ J_give J_clear J_yieldAt J_soft J_breakAt J_out J_pitches J_bolts J_upper J_lower) 43 [(0, .ref (a oJ)), (1, .int l1), (2, .int l2), (3, .int l3)] [] := by
  unfold fj_J_leastClear_43 at q
  obtain ⟨l3_43, e_l3_43⟩ : ∃ y : Int32, (l3 + (1 : Int32)) = y := ⟨_, rfl⟩
  have q := nm_use e_l3_43 q
  refine V_iinc (pc := 43) h [(3, .int l3_43), (0, .ref (a oJ)), (1, .int l1), (2, .int l2)] 3 dX2_leastClear_43 rfl ic_1 (Nat.le_of_ble_eq_true rfl) (by rw [e_l3_43]; rfl) ?_
  refine V_goto (pc := 46) (tgt := 4) h dX2_leastClear_46 (by decide) ?_
  refine V_sub [(0, .ref (a oJ)), (1, .int l1), (2, .int l2), (3, .int l3_43)] [1, 2, 3, 0] rfl ?_
  exact k1 l2 l3_43 (Option.some.inj q).symm

set_option maxHeartbeats 4000000 in
set_option maxRecDepth 100000 in
theorem vj_J_leastClear_36 {G : Gm} (h : VOk G cX2_leastClear RX2 4 (rmC 1 0 0)) (F : Nat) (a : Nat → Nat) (oJ : Nat) (l1 : Int32) (l3 : Int32) (J_give : Nat → Int32) (J_clear : Nat → Int32) (J_yieldAt : Nat → Int32) (J_soft : Nat → Int32) (J_breakAt : Nat → Int32) (J_out : Nat → Int32) (J_pitches : Nat → Int32) (J_bolts : Int32) (J_upper : Int32) (J_lower : Int32) (o : (Int32 × Int32) ⊕ (Int32)) (q : fj_J_leastClear_36 l3 J_clear = some o) (k1 : ∀ (l2' : Int32) (l3' : Int32), o = .inl (l2', l3') → V G 0 0 (wJ (gK G) a oJ J_give J_clear J_yieldAt J_soft J_breakAt J_out J_pitches J_bolts J_upper J_lower) 4 [(0, .ref (a oJ)), (1, .int l1), (2, .int l2'), (3, .int l3')] []) (k2 : ∀ (r : Int32), o = .inr r → V G 0 0 (wJ (gK G) a oJ J_give J_clear J_yieldAt J_soft J_breakAt J_out J_pitches J_bolts J_upper J_lower) 49 [(2, .int r)] []) : V G 0 0 (wJ (gK G) a oJ J_give J_clear J_yieldAt J_soft J_breakAt J_out J_pitches J_bolts J_upper J_lower) 36 [(0, .ref (a oJ)), (1, .int l1), (3, .int l3)] [] := by
  unfold fj_J_leastClear_36 at q
  refine V_aload_n (pc := 36) h 0 dX2_leastClear_36 rfl ?_
  refine V_get (pc := 37) h fl_2_15 0 rfl rfl dX2_leastClear_37 ?_
  refine V_iload_n (pc := 40) h 2 dX2_leastClear_40 rfl ?_
  obtain ⟨v_41, e_v_41, q⟩ := bs q
  refine V_iald (pc := 41) h 2 rfl e_v_41 dX2_leastClear_41 ?_
  refine V_istore_n (pc := 42) h [(2, .int v_41), (0, .ref (a oJ)), (1, .int l1), (3, .int l3)] dX2_leastClear_42 (Nat.le_of_ble_eq_true rfl) rfl ?_
  refine V_sub [(0, .ref (a oJ)), (1, .int l1), (2, .int v_41), (3, .int l3)] [1, 2, 0, 3] rfl ?_
  exact vj_J_leastClear_43 h F a oJ l1 v_41 l3 J_give J_clear J_yieldAt J_soft J_breakAt J_out J_pitches J_bolts J_upper J_lower _ q k1 k2

set_option maxHeartbeats 4000000 in
set_option maxRecDepth 100000 in
theorem vb_J_leastClear_4 {G : Gm} (h : VOk G cX2_leastClear RX2 4 (rmC 1 0 0)) (F : Nat) (a : Nat → Nat) (oJ : Nat) (l1 : Int32) (l2 : Int32) (l3 : Int32) (J_give : Nat → Int32) (J_clear : Nat → Int32) (J_yieldAt : Nat → Int32) (J_soft : Nat → Int32) (J_breakAt : Nat → Int32) (J_out : Nat → Int32) (J_pitches : Nat → Int32) (J_bolts : Int32) (J_upper : Int32) (J_lower : Int32) (o : (Int32 × Int32) ⊕ (Int32)) (q : fb_J_leastClear_4 l1 J_clear J_bolts l2 l3 = some o) (k1 : ∀ (l2' : Int32) (l3' : Int32), o = .inl (l2', l3') → V G 0 0 (wJ (gK G) a oJ J_give J_clear J_yieldAt J_soft J_breakAt J_out J_pitches J_bolts J_upper J_lower) 4 [(0, .ref (a oJ)), (1, .int l1), (2, .int l2'), (3, .int l3')] []) (k2 : ∀ (r : Int32), o = .inr r → V G 0 0 (wJ (gK G) a oJ J_give J_clear J_yieldAt J_soft J_breakAt J_out J_pitches J_bolts J_upper J_lower) 49 [(2, .int r)] []) : V G 0 0 (wJ (gK G) a oJ J_give J_clear J_yieldAt J_soft J_breakAt J_out J_pitches J_bolts J_upper J_lower) 4 [(0, .ref (a oJ)), (1, .int l1), (2, .int l2), (3, .int l3)] [] := by
  unfold fb_J_leastClear_4 at q
  refine V_iload_n (pc := 4) h 3 dX2_leastClear_4 rfl ?_
  refine V_aload_n (pc := 5) h 0 dX2_leastClear_5 rfl ?_
  refine V_get (pc := 6) h fl_2_41 0 rfl rfl dX2_leastClear_6 ?_
  refine V_icmp_ge (pc := 9) h 49 dX2_leastClear_9 (by decide) (fun hc => ?_) (fun hc => ?_)
  · have q := if_p hc q
    refine V_sub [(2, .int l2)] [2] rfl ?_
    have kk := k2 _ (Option.some.inj q).symm
    exact kk
  · have q := if_n hc q
    refine V_iload_n (pc := 12) h 1 dX2_leastClear_12 rfl ?_
    refine V_iload_n (pc := 13) h 3 dX2_leastClear_13 rfl ?_
    refine V_ishr (pc := 14) h dX2_leastClear_14 ?_
    refine V_iconst (pc := 15) h dX2_leastClear_15 ic_1 ?_
    refine V_iand (pc := 16) h dX2_leastClear_16 ?_
    refine V_iconst (pc := 17) h dX2_leastClear_17 ic_1 ?_
    refine V_icmp_ne (pc := 18) h 43 dX2_leastClear_18 (by decide) (fun hc => ?_) (fun hc => ?_)
    · have q := if_n hc q
      exact vj_J_leastClear_43 h F a oJ l1 l2 l3 J_give J_clear J_yieldAt J_soft J_breakAt J_out J_pitches J_bolts J_upper J_lower _ q k1 k2
    · have q := if_p hc q
      refine V_iload_n (pc := 21) h 2 dX2_leastClear_21 rfl ?_
      refine V_iconst (pc := 22) h dX2_leastClear_22 ic_m1 ?_
      refine V_icmp_eq (pc := 23) h 36 dX2_leastClear_23 (by decide) (fun hc => ?_) (fun hc => ?_)
      · have q := if_p hc q
        refine V_sub [(0, .ref (a oJ)), (1, .int l1), (3, .int l3)] [0, 1, 3] rfl ?_
        exact vj_J_leastClear_36 h F a oJ l1 l3 J_give J_clear J_yieldAt J_soft J_breakAt J_out J_pitches J_bolts J_upper J_lower _ q k1 k2
      · have q := if_n hc q
        refine V_aload_n (pc := 26) h 0 dX2_leastClear_26 rfl ?_
        refine V_get (pc := 27) h fl_2_15 0 rfl rfl dX2_leastClear_27 ?_
        refine V_iload_n (pc := 30) h 3 dX2_leastClear_30 rfl ?_
        obtain ⟨v_31, e_v_31, q⟩ := bs q
        refine V_iald (pc := 31) h 2 rfl e_v_31 dX2_leastClear_31 ?_
        refine V_iload_n (pc := 32) h 2 dX2_leastClear_32 rfl ?_
        refine V_icmp_ge (pc := 33) h 43 dX2_leastClear_33 (by decide) (fun hc => ?_) (fun hc => ?_)
        · have q := if_p hc q
          exact vj_J_leastClear_43 h F a oJ l1 l2 l3 J_give J_clear J_yieldAt J_soft J_breakAt J_out J_pitches J_bolts J_upper J_lower _ q k1 k2
        · have q := if_n hc q
          refine V_sub [(0, .ref (a oJ)), (1, .int l1), (3, .int l3)] [0, 1, 3] rfl ?_
          exact vj_J_leastClear_36 h F a oJ l1 l3 J_give J_clear J_yieldAt J_soft J_breakAt J_out J_pitches J_bolts J_upper J_lower _ q k1 k2

set_option maxHeartbeats 4000000 in
set_option maxRecDepth 100000 in
theorem vl_J_leastClear_4 {G : Gm} (h : VOk G cX2_leastClear RX2 4 (rmC 1 0 0)) (F : Nat) (a : Nat → Nat) (oJ : Nat) (l1 : Int32) (l2 : Int32) (l3 : Int32) (J_give : Nat → Int32) (J_clear : Nat → Int32) (J_yieldAt : Nat → Int32) (J_soft : Nat → Int32) (J_breakAt : Nat → Int32) (J_out : Nat → Int32) (J_pitches : Nat → Int32) (J_bolts : Int32) (J_upper : Int32) (J_lower : Int32) (r : Int32) (q : iter (un2 (fb_J_leastClear_4 l1 J_clear J_bolts)) F (l2, l3) = some r) (kx : V G 0 0 (wJ (gK G) a oJ J_give J_clear J_yieldAt J_soft J_breakAt J_out J_pitches J_bolts J_upper J_lower) 49 [(2, .int r)] []) : V G 0 0 (wJ (gK G) a oJ J_give J_clear J_yieldAt J_soft J_breakAt J_out J_pitches J_bolts J_upper J_lower) 4 [(0, .ref (a oJ)), (1, .int l1), (2, .int l2), (3, .int l3)] [] := by
  have hh := iter_ind (body := un2 (fb_J_leastClear_4 l1 J_clear J_bolts)) (P := fun z => V G 0 0 (wJ (gK G) a oJ J_give J_clear J_yieldAt J_soft J_breakAt J_out J_pitches J_bolts J_upper J_lower) 4 [(0, .ref (a oJ)), (1, .int l1), (2, .int (z.1)), (3, .int (z.2))] []) (X := fun r => V G 0 0 (wJ (gK G) a oJ J_give J_clear J_yieldAt J_soft J_breakAt J_out J_pitches J_bolts J_upper J_lower) 49 [(2, .int r)] []) (fun z o qb j1 j2 => vb_J_leastClear_4 h F a oJ l1 (z.1) (z.2) J_give J_clear J_yieldAt J_soft J_breakAt J_out J_pitches J_bolts J_upper J_lower o qb (fun y0 y1 e => j1 (y0, y1) e) j2) F (l2, l3) r q kx
  exact hh

set_option maxHeartbeats 4000000 in
set_option maxRecDepth 100000 in
theorem v_J_leastClear {G : Gm} (h : VOk G cX2_leastClear RX2 4 (rmC 1 0 0)) (F : Nat) (a : Nat → Nat) (oJ : Nat) (l1 : Int32) (J_give : Nat → Int32) (J_clear : Nat → Int32) (J_yieldAt : Nat → Int32) (J_soft : Nat → Int32) (J_breakAt : Nat → Int32) (J_out : Nat → Int32) (J_pitches : Nat → Int32) (J_bolts : Int32) (J_upper : Int32) (J_lower : Int32) (o : Int32) (q : f_J_leastClear F l1 J_clear J_bolts = some o) {Pst : Option Value → va_W → Prop} (hq : RetQ G 0 0 (some .int) Pst) (hp : Pst (some (.int o)) (wJ (gK G) a oJ J_give J_clear J_yieldAt J_soft J_breakAt J_out J_pitches J_bolts J_upper J_lower)) : V G 0 0 (wJ (gK G) a oJ J_give J_clear J_yieldAt J_soft J_breakAt J_out J_pitches J_bolts J_upper J_lower) 0 [(0, .ref (a oJ)), (1, .int l1)] [] := by
  unfold f_J_leastClear at q
  refine V_iconst (pc := 0) h dX2_leastClear_0 ic_m1 ?_
  refine V_istore_n (pc := 1) h [(2, .int (-1 : Int32)), (0, .ref (a oJ)), (1, .int l1)] dX2_leastClear_1 (Nat.le_of_ble_eq_true rfl) rfl ?_
  refine V_iconst (pc := 2) h dX2_leastClear_2 ic_0 ?_
  refine V_istore_n (pc := 3) h [(3, .int (0 : Int32)), (2, .int (-1 : Int32)), (0, .ref (a oJ)), (1, .int l1)] dX2_leastClear_3 (Nat.le_of_ble_eq_true rfl) rfl ?_
  obtain ⟨l2_4, e_4, q⟩ := bs q
  refine V_sub [(0, .ref (a oJ)), (1, .int l1), (2, .int (-1 : Int32)), (3, .int (0 : Int32))] [2, 3, 1, 0] rfl ?_
  refine vl_J_leastClear_4 h F a oJ l1 (-1 : Int32) (0 : Int32) J_give J_clear J_yieldAt J_soft J_breakAt J_out J_pitches J_bolts J_upper J_lower _ e_4 ?_
  show V G 0 0 (wJ (gK G) a oJ J_give J_clear J_yieldAt J_soft J_breakAt J_out J_pitches J_bolts J_upper J_lower) 49 [(2, .int l2_4)] []
  refine V_iload_n (pc := 49) h 0 dX2_leastClear_49 rfl ?_
  obtain rfl := Option.some.inj q
  exact V_iret (pc := 50) h hq dX2_leastClear_50 hp

set_option maxHeartbeats 4000000 in
set_option maxRecDepth 100000 in
theorem t_J_leastClear (K : Kd) (F : Nat) (a : Nat → Nat) (oJ : Nat) (l1 : Int32) (J_give : Nat → Int32) (J_clear : Nat → Int32) (J_yieldAt : Nat → Int32) (J_soft : Nat → Int32) (J_breakAt : Nat → Int32) (J_out : Nat → Int32) (J_pitches : Nat → Int32) (J_bolts : Int32) (J_upper : Int32) (J_lower : Int32) (r : Int32) (q : f_J_leastClear F l1 J_clear J_bolts = some r) : Ctr yX2_leastClear cX2_leastClear 4 (some .int) 1 0 0 K [.ref (a oJ), .int l1] (wJ K a oJ J_give J_clear J_yieldAt J_soft J_breakAt J_out J_pitches J_bolts J_upper J_lower) (Eqs (some (.int r)) (wJ K a oJ J_give J_clear J_yieldAt J_soft J_breakAt J_out J_pitches J_bolts J_upper J_lower)) := by
  refine mkCtr (by decide) (Nat.le_of_ble_eq_true rfl) ?_
  intro G hK h hq _
  subst hK
  exact v_J_leastClear h F a oJ l1 J_give J_clear J_yieldAt J_soft J_breakAt J_out J_pitches J_bolts J_upper J_lower _ q hq ⟨rfl, rfl⟩

set_option maxHeartbeats 4000000 in
set_option maxRecDepth 100000 in
theorem vj_L_walk_197 {G : Gm} (h : VOk G cX3_walk RX3 19 (rmC 1 0 0)) (F : Nat) (a : Nat → Nat) (oL : Nat) (oJ : Nat) (l1 : Int64) (l3 : Int64) (l5 : Int64) (l7 : Int64) (l9 : Int64) (l11 : Int64) (l13 : Int64) (l15 : Int32) (l16 : Int32) (s0 : Int32) (L_stretch : Nat → Int32) (L_rest : Nat → Int64) (L_forceRise : Nat → Int64) (L_forceStart : Nat → Int64) (L_slipRise : Nat → Int64) (L_slipStart : Nat → Int64) (L_under : Int64) (L_byFirst : Nat → Int64) (L_byLoad : Nat → Int64) (L_bare : Nat → Int64) (L_scale : Nat → Int64) (L_firstRise : Int64) (L_firstStart : Int64) (J_give : Nat → Int32) (J_clear : Nat → Int32) (J_yieldAt : Nat → Int32) (J_soft : Nat → Int32) (J_breakAt : Nat → Int32) (J_out : Nat → Int32) (J_pitches : Nat → Int32) (J_bolts : Int32) (J_upper : Int32) (J_lower : Int32) (o : (Int64 × Int64 × Int64 × Int64 × Int64 × Int64 × Int64 × Int32 × (Nat → Int64) × (Nat → Int64) × (Nat → Int64) × (Nat → Int64)) ⊕ (Int64 × Int64 × Int64 × Int64 × (Nat → Int64) × (Nat → Int64) × (Nat → Int64) × (Nat → Int64))) (q : fj_L_walk_197 l1 l3 l5 l7 l9 l11 l13 l15 l16 s0 L_byFirst L_byLoad L_bare L_scale J_upper = some o) (k1 : ∀ (l1' : Int64) (l3' : Int64) (l5' : Int64) (l7' : Int64) (l9' : Int64) (l11' : Int64) (l13' : Int64) (l16' : Int32) (L_byFirst' : Nat → Int64) (L_byLoad' : Nat → Int64) (L_bare' : Nat → Int64) (L_scale' : Nat → Int64), o = .inl (l1', l3', l5', l7', l9', l11', l13', l16', L_byFirst', L_byLoad', L_bare', L_scale') → V G 0 0 (wL (gK G) a oL oJ L_stretch L_rest L_forceRise L_forceStart L_slipRise L_slipStart L_under L_byFirst' L_byLoad' L_bare' L_scale' L_firstRise L_firstStart ++ (wJ (gK G) a oJ J_give J_clear J_yieldAt J_soft J_breakAt J_out J_pitches J_bolts J_upper J_lower)) 39 [(0, .ref (a oL)), (1, .long l1'), (3, .long l3'), (5, .long l5'), (7, .long l7'), (9, .long l9'), (11, .long l11'), (13, .long l13'), (15, .int l15), (16, .int l16')] []) (k2 : ∀ (r : Int64 × Int64 × Int64 × Int64 × (Nat → Int64) × (Nat → Int64) × (Nat → Int64) × (Nat → Int64)), o = .inr r → V G 0 0 (wL (gK G) a oL oJ L_stretch L_rest L_forceRise L_forceStart L_slipRise L_slipStart L_under (r.2.2.2.2.1) (r.2.2.2.2.2.1) (r.2.2.2.2.2.2.1) (r.2.2.2.2.2.2.2) L_firstRise L_firstStart ++ (wJ (gK G) a oJ J_give J_clear J_yieldAt J_soft J_breakAt J_out J_pitches J_bolts J_upper J_lower)) 259 [(0, .ref (a oL)), (1, .long (r.1)), (9, .long (r.2.1)), (11, .long (r.2.2.1)), (13, .long (r.2.2.2.1))] []) : V G 0 0 (wL (gK G) a oL oJ L_stretch L_rest L_forceRise L_forceStart L_slipRise L_slipStart L_under L_byFirst L_byLoad L_bare L_scale L_firstRise L_firstStart ++ (wJ (gK G) a oJ J_give J_clear J_yieldAt J_soft J_breakAt J_out J_pitches J_bolts J_upper J_lower)) 197 [(0, .ref (a oL)), (1, .long l1), (3, .long l3), (5, .long l5), (7, .long l7), (9, .long l9), (11, .long l11), (13, .long l13), (15, .int l15), (16, .int l16)] [.int s0] := by
  unfold fj_L_walk_197 at q
  refine V_istore (pc := 197) h [(18, .int s0), (0, .ref (a oL)), (1, .long l1), (3, .long l3), (5, .long l5), (7, .long l7), (9, .long l9), (11, .long l11), (13, .long l13), (15, .int l15), (16, .int l16)] dX3_walk_197 (Nat.le_of_ble_eq_true rfl) rfl ?_
  refine V_lload_n (pc := 199) h 3 dX3_walk_199 rfl ?_
  refine V_iload (pc := 200) h 0 dX3_walk_200 rfl ?_
  refine V_iload (pc := 202) h 9 dX3_walk_202 rfl ?_
  refine V_imul (pc := 204) h dX3_walk_204 ?_
  refine V_i2l (pc := 205) h dX3_walk_205 ?_
  refine V_lload (pc := 206) h 6 dX3_walk_206 rfl ?_
  refine V_lmul (pc := 208) h dX3_walk_208 ?_
  refine V_ladd (pc := 209) h dX3_walk_209 ?_
  refine V_topl (pc := 210) (fun l3_210 e_l3_210 => ?_)
  have q := nm_use e_l3_210 q
  refine V_lstore_n (pc := 210) h [(3, .long l3_210), (18, .int s0), (0, .ref (a oL)), (1, .long l1), (5, .long l5), (7, .long l7), (9, .long l9), (11, .long l11), (13, .long l13), (15, .int l15), (16, .int l16)] dX3_walk_210 (Nat.le_of_ble_eq_true rfl) rfl ?_
  refine V_lload (pc := 211) h 4 dX3_walk_211 rfl ?_
  refine V_iload (pc := 213) h 1 dX3_walk_213 rfl ?_
  refine V_iload (pc := 215) h 9 dX3_walk_215 rfl ?_
  refine V_imul (pc := 217) h dX3_walk_217 ?_
  refine V_i2l (pc := 218) h dX3_walk_218 ?_
  refine V_lload (pc := 219) h 7 dX3_walk_219 rfl ?_
  refine V_lmul (pc := 221) h dX3_walk_221 ?_
  refine V_iload (pc := 222) h 1 dX3_walk_222 rfl ?_
  refine V_aload_n (pc := 224) h 2 dX3_walk_224 rfl ?_
  refine V_get (pc := 225) h fl_3_47 0 rfl rfl dX3_walk_225 ?_
  refine V_get (pc := 228) h fl_3_51 11 rfl rfl dX3_walk_228 ?_
  refine V_imul (pc := 231) h dX3_walk_231 ?_
  refine V_i2l (pc := 232) h dX3_walk_232 ?_
  refine V_lload_n (pc := 233) h 3 dX3_walk_233 rfl ?_
  refine V_lmul (pc := 234) h dX3_walk_234 ?_
  refine V_lsub (pc := 235) h dX3_walk_235 ?_
  refine V_ladd (pc := 236) h dX3_walk_236 ?_
  refine V_topl (pc := 237) (fun l5_237 e_l5_237 => ?_)
  have q := nm_use e_l5_237 q
  refine V_lstore (pc := 237) h [(5, .long l5_237), (3, .long l3_210), (18, .int s0), (0, .ref (a oL)), (1, .long l1), (7, .long l7), (9, .long l9), (11, .long l11), (13, .long l13), (15, .int l15), (16, .int l16)] dX3_walk_237 (Nat.le_of_ble_eq_true rfl) rfl ?_
  refine V_lload (pc := 239) h 5 dX3_walk_239 rfl ?_
  refine V_iload (pc := 241) h 2 dX3_walk_241 rfl ?_
  refine V_iload (pc := 243) h 9 dX3_walk_243 rfl ?_
  refine V_imul (pc := 245) h dX3_walk_245 ?_
  refine V_i2l (pc := 246) h dX3_walk_246 ?_
  refine V_lload (pc := 247) h 8 dX3_walk_247 rfl ?_
  refine V_lmul (pc := 249) h dX3_walk_249 ?_
  refine V_ladd (pc := 250) h dX3_walk_250 ?_
  refine V_topl (pc := 251) (fun l7_251 e_l7_251 => ?_)
  have q := nm_use e_l7_251 q
  refine V_lstore (pc := 251) h [(7, .long l7_251), (5, .long l5_237), (3, .long l3_210), (18, .int s0), (0, .ref (a oL)), (1, .long l1), (9, .long l9), (11, .long l11), (13, .long l13), (15, .int l15), (16, .int l16)] dX3_walk_251 (Nat.le_of_ble_eq_true rfl) rfl ?_
  obtain ⟨l16_253, e_l16_253⟩ : ∃ y : Int32, (l16 + (1 : Int32)) = y := ⟨_, rfl⟩
  have q := nm_use e_l16_253 q
  refine V_iinc (pc := 253) h [(16, .int l16_253), (7, .long l7_251), (5, .long l5_237), (3, .long l3_210), (18, .int s0), (0, .ref (a oL)), (1, .long l1), (9, .long l9), (11, .long l11), (13, .long l13), (15, .int l15)] 10 dX3_walk_253 rfl ic_1 (Nat.le_of_ble_eq_true rfl) (by rw [e_l16_253]; rfl) ?_
  refine V_goto (pc := 256) (tgt := 39) h dX3_walk_256 (by decide) ?_
  refine V_sub [(0, .ref (a oL)), (1, .long l1), (3, .long l3_210), (5, .long l5_237), (7, .long l7_251), (9, .long l9), (11, .long l11), (13, .long l13), (15, .int l15), (16, .int l16_253)] [5, 6, 3, 2, 1, 7, 8, 9, 10, 0] rfl ?_
  exact k1 l1 l3_210 l5_237 l7_251 l9 l11 l13 l16_253 L_byFirst L_byLoad L_bare L_scale (Option.some.inj q).symm

set_option maxHeartbeats 4000000 in
set_option maxRecDepth 100000 in
theorem vj_L_walk_169 {G : Gm} (h : VOk G cX3_walk RX3 19 (rmC 1 0 0)) (F : Nat) (a : Nat → Nat) (oL : Nat) (oJ : Nat) (l1 : Int64) (l3 : Int64) (l5 : Int64) (l7 : Int64) (l9 : Int64) (l11 : Int64) (l13 : Int64) (l15 : Int32) (l16 : Int32) (L_stretch : Nat → Int32) (L_rest : Nat → Int64) (L_forceRise : Nat → Int64) (L_forceStart : Nat → Int64) (L_slipRise : Nat → Int64) (L_slipStart : Nat → Int64) (L_under : Int64) (L_byFirst : Nat → Int64) (L_byLoad : Nat → Int64) (L_bare : Nat → Int64) (L_scale : Nat → Int64) (L_firstRise : Int64) (L_firstStart : Int64) (J_give : Nat → Int32) (J_clear : Nat → Int32) (J_yieldAt : Nat → Int32) (J_soft : Nat → Int32) (J_breakAt : Nat → Int32) (J_out : Nat → Int32) (J_pitches : Nat → Int32) (J_bolts : Int32) (J_upper : Int32) (J_lower : Int32) (o : (Int64 × Int64 × Int64 × Int64 × Int64 × Int64 × Int64 × Int32 × (Nat → Int64) × (Nat → Int64) × (Nat → Int64) × (Nat → Int64)) ⊕ (Int64 × Int64 × Int64 × Int64 × (Nat → Int64) × (Nat → Int64) × (Nat → Int64) × (Nat → Int64))) (q : fj_L_walk_169 l1 l3 l5 l7 l9 l11 l13 l15 l16 L_byFirst L_byLoad L_bare L_scale J_pitches J_bolts J_upper = some o) (k1 : ∀ (l1' : Int64) (l3' : Int64) (l5' : Int64) (l7' : Int64) (l9' : Int64) (l11' : Int64) (l13' : Int64) (l16' : Int32) (L_byFirst' : Nat → Int64) (L_byLoad' : Nat → Int64) (L_bare' : Nat → Int64) (L_scale' : Nat → Int64), o = .inl (l1', l3', l5', l7', l9', l11', l13', l16', L_byFirst', L_byLoad', L_bare', L_scale') → V G 0 0 (wL (gK G) a oL oJ L_stretch L_rest L_forceRise L_forceStart L_slipRise L_slipStart L_under L_byFirst' L_byLoad' L_bare' L_scale' L_firstRise L_firstStart ++ (wJ (gK G) a oJ J_give J_clear J_yieldAt J_soft J_breakAt J_out J_pitches J_bolts J_upper J_lower)) 39 [(0, .ref (a oL)), (1, .long l1'), (3, .long l3'), (5, .long l5'), (7, .long l7'), (9, .long l9'), (11, .long l11'), (13, .long l13'), (15, .int l15), (16, .int l16')] []) (k2 : ∀ (r : Int64 × Int64 × Int64 × Int64 × (Nat → Int64) × (Nat → Int64) × (Nat → Int64) × (Nat → Int64)), o = .inr r → V G 0 0 (wL (gK G) a oL oJ L_stretch L_rest L_forceRise L_forceStart L_slipRise L_slipStart L_under (r.2.2.2.2.1) (r.2.2.2.2.2.1) (r.2.2.2.2.2.2.1) (r.2.2.2.2.2.2.2) L_firstRise L_firstStart ++ (wJ (gK G) a oJ J_give J_clear J_yieldAt J_soft J_breakAt J_out J_pitches J_bolts J_upper J_lower)) 259 [(0, .ref (a oL)), (1, .long (r.1)), (9, .long (r.2.1)), (11, .long (r.2.2.1)), (13, .long (r.2.2.2.1))] []) : V G 0 0 (wL (gK G) a oL oJ L_stretch L_rest L_forceRise L_forceStart L_slipRise L_slipStart L_under L_byFirst L_byLoad L_bare L_scale L_firstRise L_firstStart ++ (wJ (gK G) a oJ J_give J_clear J_yieldAt J_soft J_breakAt J_out J_pitches J_bolts J_upper J_lower)) 169 [(0, .ref (a oL)), (1, .long l1), (3, .long l3), (5, .long l5), (7, .long l7), (9, .long l9), (11, .long l11), (13, .long l13), (15, .int l15), (16, .int l16)] [] := by
  unfold fj_L_walk_169 at q
  refine V_iload (pc := 169) h 9 dX3_walk_169 rfl ?_
  refine V_iconst (pc := 171) h dX3_walk_171 ic_1 ?_
  refine V_iadd (pc := 172) h dX3_walk_172 ?_
  refine V_aload_n (pc := 173) h 0 dX3_walk_173 rfl ?_
  refine V_get (pc := 174) h fl_3_47 0 rfl rfl dX3_walk_174 ?_
  refine V_get (pc := 177) h fl_3_60 11 rfl rfl dX3_walk_177 ?_
  refine V_icmp_ge (pc := 180) h 196 dX3_walk_180 (by decide) (fun hc => ?_) (fun hc => ?_)
  · have q := if_p hc q
    refine V_iconst (pc := 196) h dX3_walk_196 ic_0 ?_
    exact vj_L_walk_197 h F a oL oJ l1 l3 l5 l7 l9 l11 l13 l15 l16 (0 : Int32) L_stretch L_rest L_forceRise L_forceStart L_slipRise L_slipStart L_under L_byFirst L_byLoad L_bare L_scale L_firstRise L_firstStart J_give J_clear J_yieldAt J_soft J_breakAt J_out J_pitches J_bolts J_upper J_lower _ q k1 k2
  · have q := if_n hc q
    refine V_aload_n (pc := 183) h 0 dX3_walk_183 rfl ?_
    refine V_get (pc := 184) h fl_3_47 0 rfl rfl dX3_walk_184 ?_
    refine V_get (pc := 187) h fl_3_63 11 rfl rfl dX3_walk_187 ?_
    refine V_iload (pc := 190) h 9 dX3_walk_190 rfl ?_
    obtain ⟨v_192, e_v_192, q⟩ := bs q
    refine V_iald (pc := 192) h 18 rfl e_v_192 dX3_walk_192 ?_
    refine V_goto (pc := 193) (tgt := 197) h dX3_walk_193 (by decide) ?_
    exact vj_L_walk_197 h F a oL oJ l1 l3 l5 l7 l9 l11 l13 l15 l16 v_192 L_stretch L_rest L_forceRise L_forceStart L_slipRise L_slipStart L_under L_byFirst L_byLoad L_bare L_scale L_firstRise L_firstStart J_give J_clear J_yieldAt J_soft J_breakAt J_out J_pitches J_bolts J_upper J_lower _ q k1 k2

set_option maxHeartbeats 4000000 in
set_option maxRecDepth 100000 in
theorem vb_L_walk_39 {G : Gm} (h : VOk G cX3_walk RX3 19 (rmC 1 0 0)) (F : Nat) (a : Nat → Nat) (oL : Nat) (oJ : Nat) (l1 : Int64) (l3 : Int64) (l5 : Int64) (l7 : Int64) (l9 : Int64) (l11 : Int64) (l13 : Int64) (l15 : Int32) (l16 : Int32) (L_stretch : Nat → Int32) (L_rest : Nat → Int64) (L_forceRise : Nat → Int64) (L_forceStart : Nat → Int64) (L_slipRise : Nat → Int64) (L_slipStart : Nat → Int64) (L_under : Int64) (L_byFirst : Nat → Int64) (L_byLoad : Nat → Int64) (L_bare : Nat → Int64) (L_scale : Nat → Int64) (L_firstRise : Int64) (L_firstStart : Int64) (J_give : Nat → Int32) (J_clear : Nat → Int32) (J_yieldAt : Nat → Int32) (J_soft : Nat → Int32) (J_breakAt : Nat → Int32) (J_out : Nat → Int32) (J_pitches : Nat → Int32) (J_bolts : Int32) (J_upper : Int32) (J_lower : Int32) (o : (Int64 × Int64 × Int64 × Int64 × Int64 × Int64 × Int64 × Int32 × (Nat → Int64) × (Nat → Int64) × (Nat → Int64) × (Nat → Int64)) ⊕ (Int64 × Int64 × Int64 × Int64 × (Nat → Int64) × (Nat → Int64) × (Nat → Int64) × (Nat → Int64))) (q : fb_L_walk_39 l15 L_stretch L_rest J_pitches J_bolts J_upper l1 l3 l5 l7 l9 l11 l13 l16 L_byFirst L_byLoad L_bare L_scale = some o) (k1 : ∀ (l1' : Int64) (l3' : Int64) (l5' : Int64) (l7' : Int64) (l9' : Int64) (l11' : Int64) (l13' : Int64) (l16' : Int32) (L_byFirst' : Nat → Int64) (L_byLoad' : Nat → Int64) (L_bare' : Nat → Int64) (L_scale' : Nat → Int64), o = .inl (l1', l3', l5', l7', l9', l11', l13', l16', L_byFirst', L_byLoad', L_bare', L_scale') → V G 0 0 (wL (gK G) a oL oJ L_stretch L_rest L_forceRise L_forceStart L_slipRise L_slipStart L_under L_byFirst' L_byLoad' L_bare' L_scale' L_firstRise L_firstStart ++ (wJ (gK G) a oJ J_give J_clear J_yieldAt J_soft J_breakAt J_out J_pitches J_bolts J_upper J_lower)) 39 [(0, .ref (a oL)), (1, .long l1'), (3, .long l3'), (5, .long l5'), (7, .long l7'), (9, .long l9'), (11, .long l11'), (13, .long l13'), (15, .int l15), (16, .int l16')] []) (k2 : ∀ (r : Int64 × Int64 × Int64 × Int64 × (Nat → Int64) × (Nat → Int64) × (Nat → Int64) × (Nat → Int64)), o = .inr r → V G 0 0 (wL (gK G) a oL oJ L_stretch L_rest L_forceRise L_forceStart L_slipRise L_slipStart L_under (r.2.2.2.2.1) (r.2.2.2.2.2.1) (r.2.2.2.2.2.2.1) (r.2.2.2.2.2.2.2) L_firstRise L_firstStart ++ (wJ (gK G) a oJ J_give J_clear J_yieldAt J_soft J_breakAt J_out J_pitches J_bolts J_upper J_lower)) 259 [(0, .ref (a oL)), (1, .long (r.1)), (9, .long (r.2.1)), (11, .long (r.2.2.1)), (13, .long (r.2.2.2.1))] []) : V G 0 0 (wL (gK G) a oL oJ L_stretch L_rest L_forceRise L_forceStart L_slipRise L_slipStart L_under L_byFirst L_byLoad L_bare L_scale L_firstRise L_firstStart ++ (wJ (gK G) a oJ J_give J_clear J_yieldAt J_soft J_breakAt J_out J_pitches J_bolts J_upper J_lower)) 39 [(0, .ref (a oL)), (1, .long l1), (3, .long l3), (5, .long l5), (7, .long l7), (9, .long l9), (11, .long l11), (13, .long l13), (15, .int l15), (16, .int l16)] [] := by
  unfold fb_L_walk_39 at q
  refine V_iload (pc := 39) h 9 dX3_walk_39 rfl ?_
  refine V_aload_n (pc := 41) h 0 dX3_walk_41 rfl ?_
  refine V_get (pc := 42) h fl_3_47 0 rfl rfl dX3_walk_42 ?_
  refine V_get (pc := 45) h fl_3_60 11 rfl rfl dX3_walk_45 ?_
  refine V_icmp_ge (pc := 48) h 259 dX3_walk_48 (by decide) (fun hc => ?_) (fun hc => ?_)
  · have q := if_p hc q
    refine V_sub [(0, .ref (a oL)), (1, .long l1), (9, .long l9), (11, .long l11), (13, .long l13)] [0, 1, 5, 6, 7] rfl ?_
    have kk := k2 _ (Option.some.inj q).symm
    exact kk
  · have q := if_n hc q
    refine V_aload_n (pc := 51) h 0 dX3_walk_51 rfl ?_
    refine V_get (pc := 52) h fl_3_35 0 rfl rfl dX3_walk_52 ?_
    refine V_iload (pc := 55) h 9 dX3_walk_55 rfl ?_
    refine V_lload_n (pc := 57) h 2 dX3_walk_57 rfl ?_
    obtain ⟨L_byFirst_58, e_L_byFirst_58, q⟩ := bs q
    refine V_last (pc := 58) h 7 (wL (gK G) a oL oJ L_stretch L_rest L_forceRise L_forceStart L_slipRise L_slipStart L_under L_byFirst_58 L_byLoad L_bare L_scale L_firstRise L_firstStart ++ (wJ (gK G) a oJ J_give J_clear J_yieldAt J_soft J_breakAt J_out J_pitches J_bolts J_upper J_lower)) rfl e_L_byFirst_58 rfl dX3_walk_58 ?_
    refine V_aload_n (pc := 59) h 0 dX3_walk_59 rfl ?_
    refine V_get (pc := 60) h fl_3_38 0 rfl rfl dX3_walk_60 ?_
    refine V_iload (pc := 63) h 9 dX3_walk_63 rfl ?_
    refine V_lload (pc := 65) h 3 dX3_walk_65 rfl ?_
    obtain ⟨L_byLoad_67, e_L_byLoad_67, q⟩ := bs q
    refine V_last (pc := 67) h 8 (wL (gK G) a oL oJ L_stretch L_rest L_forceRise L_forceStart L_slipRise L_slipStart L_under L_byFirst_58 L_byLoad_67 L_bare L_scale L_firstRise L_firstStart ++ (wJ (gK G) a oJ J_give J_clear J_yieldAt J_soft J_breakAt J_out J_pitches J_bolts J_upper J_lower)) rfl e_L_byLoad_67 rfl dX3_walk_67 ?_
    refine V_aload_n (pc := 68) h 0 dX3_walk_68 rfl ?_
    refine V_get (pc := 69) h fl_3_41 0 rfl rfl dX3_walk_69 ?_
    refine V_iload (pc := 72) h 9 dX3_walk_72 rfl ?_
    refine V_lload (pc := 74) h 4 dX3_walk_74 rfl ?_
    obtain ⟨L_bare_76, e_L_bare_76, q⟩ := bs q
    refine V_last (pc := 76) h 9 (wL (gK G) a oL oJ L_stretch L_rest L_forceRise L_forceStart L_slipRise L_slipStart L_under L_byFirst_58 L_byLoad_67 L_bare_76 L_scale L_firstRise L_firstStart ++ (wJ (gK G) a oJ J_give J_clear J_yieldAt J_soft J_breakAt J_out J_pitches J_bolts J_upper J_lower)) rfl e_L_bare_76 rfl dX3_walk_76 ?_
    refine V_aload_n (pc := 77) h 0 dX3_walk_77 rfl ?_
    refine V_get (pc := 78) h fl_3_44 0 rfl rfl dX3_walk_78 ?_
    refine V_iload (pc := 81) h 9 dX3_walk_81 rfl ?_
    refine V_lload_n (pc := 83) h 1 dX3_walk_83 rfl ?_
    obtain ⟨L_scale_84, e_L_scale_84, q⟩ := bs q
    refine V_last (pc := 84) h 10 (wL (gK G) a oL oJ L_stretch L_rest L_forceRise L_forceStart L_slipRise L_slipStart L_under L_byFirst_58 L_byLoad_67 L_bare_76 L_scale_84 L_firstRise L_firstStart ++ (wJ (gK G) a oJ J_give J_clear J_yieldAt J_soft J_breakAt J_out J_pitches J_bolts J_upper J_lower)) rfl e_L_scale_84 rfl dX3_walk_84 ?_
    refine V_aload_n (pc := 85) h 0 dX3_walk_85 rfl ?_
    refine V_get (pc := 86) h fl_3_9 0 rfl rfl dX3_walk_86 ?_
    refine V_iload (pc := 89) h 9 dX3_walk_89 rfl ?_
    obtain ⟨v_91, e_v_91, q⟩ := bs q
    refine V_iald (pc := 91) h 1 rfl e_v_91 dX3_walk_91 ?_
    refine V_istore (pc := 92) h [(17, .int v_91), (0, .ref (a oL)), (1, .long l1), (3, .long l3), (5, .long l5), (7, .long l7), (9, .long l9), (11, .long l11), (13, .long l13), (15, .int l15), (16, .int l16)] dX3_walk_92 (Nat.le_of_ble_eq_true rfl) rfl ?_
    refine V_iload (pc := 94) h 0 dX3_walk_94 rfl ?_
    refine V_if_le (pc := 96) h 169 dX3_walk_96 (by decide) (fun hc => ?_) (fun hc => ?_)
    · have q := if_p hc q
      refine V_sub [(0, .ref (a oL)), (1, .long l1), (3, .long l3), (5, .long l5), (7, .long l7), (9, .long l9), (11, .long l11), (13, .long l13), (15, .int l15), (16, .int l16)] [1, 2, 3, 4, 5, 6, 7, 8, 9, 10] rfl ?_
      exact vj_L_walk_169 h F a oL oJ l1 l3 l5 l7 l9 l11 l13 l15 l16 L_stretch L_rest L_forceRise L_forceStart L_slipRise L_slipStart L_under L_byFirst_58 L_byLoad_67 L_bare_76 L_scale_84 L_firstRise L_firstStart J_give J_clear J_yieldAt J_soft J_breakAt J_out J_pitches J_bolts J_upper J_lower _ q k1 k2
    · have q := if_n hc q
      refine V_lload (pc := 99) h 6 dX3_walk_99 rfl ?_
      refine V_iload (pc := 101) h 0 dX3_walk_101 rfl ?_
      refine V_i2l (pc := 103) h dX3_walk_103 ?_
      refine V_lmul (pc := 104) h dX3_walk_104 ?_
      refine V_lload_n (pc := 105) h 3 dX3_walk_105 rfl ?_
      refine V_ladd (pc := 106) h dX3_walk_106 ?_
      refine V_topl (pc := 107) (fun l9_107 e_l9_107 => ?_)
      have q := nm_use e_l9_107 q
      refine V_lstore (pc := 107) h [(9, .long l9_107), (17, .int v_91), (0, .ref (a oL)), (1, .long l1), (3, .long l3), (5, .long l5), (7, .long l7), (11, .long l11), (13, .long l13), (15, .int l15), (16, .int l16)] dX3_walk_107 (Nat.le_of_ble_eq_true rfl) rfl ?_
      refine V_lload (pc := 109) h 7 dX3_walk_109 rfl ?_
      refine V_iload (pc := 111) h 1 dX3_walk_111 rfl ?_
      refine V_i2l (pc := 113) h dX3_walk_113 ?_
      refine V_lmul (pc := 114) h dX3_walk_114 ?_
      refine V_lload (pc := 115) h 5 dX3_walk_115 rfl ?_
      refine V_ladd (pc := 117) h dX3_walk_117 ?_
      refine V_topl (pc := 118) (fun l11_118 e_l11_118 => ?_)
      have q := nm_use e_l11_118 q
      refine V_lstore (pc := 118) h [(11, .long l11_118), (9, .long l9_107), (17, .int v_91), (0, .ref (a oL)), (1, .long l1), (3, .long l3), (5, .long l5), (7, .long l7), (13, .long l13), (15, .int l15), (16, .int l16)] dX3_walk_118 (Nat.le_of_ble_eq_true rfl) rfl ?_
      refine V_lload (pc := 120) h 8 dX3_walk_120 rfl ?_
      refine V_iload (pc := 122) h 2 dX3_walk_122 rfl ?_
      refine V_i2l (pc := 124) h dX3_walk_124 ?_
      refine V_lmul (pc := 125) h dX3_walk_125 ?_
      refine V_lload (pc := 126) h 7 dX3_walk_126 rfl ?_
      refine V_ladd (pc := 128) h dX3_walk_128 ?_
      refine V_aload_n (pc := 129) h 3 dX3_walk_129 rfl ?_
      refine V_get (pc := 130) h fl_3_15 0 rfl rfl dX3_walk_130 ?_
      refine V_iload (pc := 133) h 10 dX3_walk_133 rfl ?_
      obtain ⟨v_135, e_v_135, q⟩ := bs q
      refine V_lald (pc := 135) h 2 rfl e_v_135 dX3_walk_135 ?_
      refine V_lload_n (pc := 136) h 4 dX3_walk_136 rfl ?_
      refine V_lmul (pc := 137) h dX3_walk_137 ?_
      refine V_lsub (pc := 138) h dX3_walk_138 ?_
      refine V_topl (pc := 139) (fun l13_139 e_l13_139 => ?_)
      have q := nm_use e_l13_139 q
      refine V_lstore (pc := 139) h [(13, .long l13_139), (11, .long l11_118), (9, .long l9_107), (17, .int v_91), (0, .ref (a oL)), (1, .long l1), (3, .long l3), (5, .long l5), (7, .long l7), (15, .int l15), (16, .int l16)] dX3_walk_139 (Nat.le_of_ble_eq_true rfl) rfl ?_
      refine V_lload_n (pc := 141) h 6 dX3_walk_141 rfl ?_
      refine V_iload (pc := 142) h 3 dX3_walk_142 rfl ?_
      refine V_i2l (pc := 144) h dX3_walk_144 ?_
      refine V_lmul (pc := 145) h dX3_walk_145 ?_
      refine V_topl (pc := 146) (fun l3_146 e_l3_146 => ?_)
      have q := nm_use e_l3_146 q
      refine V_lstore_n (pc := 146) h [(3, .long l3_146), (13, .long l13_139), (11, .long l11_118), (9, .long l9_107), (17, .int v_91), (0, .ref (a oL)), (1, .long l1), (5, .long l5), (7, .long l7), (15, .int l15), (16, .int l16)] dX3_walk_146 (Nat.le_of_ble_eq_true rfl) rfl ?_
      refine V_lload (pc := 147) h 7 dX3_walk_147 rfl ?_
      refine V_iload (pc := 149) h 4 dX3_walk_149 rfl ?_
      refine V_i2l (pc := 151) h dX3_walk_151 ?_
      refine V_lmul (pc := 152) h dX3_walk_152 ?_
      refine V_topl (pc := 153) (fun l5_153 e_l5_153 => ?_)
      have q := nm_use e_l5_153 q
      refine V_lstore (pc := 153) h [(5, .long l5_153), (3, .long l3_146), (13, .long l13_139), (11, .long l11_118), (9, .long l9_107), (17, .int v_91), (0, .ref (a oL)), (1, .long l1), (7, .long l7), (15, .int l15), (16, .int l16)] dX3_walk_153 (Nat.le_of_ble_eq_true rfl) rfl ?_
      refine V_lload (pc := 155) h 8 dX3_walk_155 rfl ?_
      refine V_iload (pc := 157) h 5 dX3_walk_157 rfl ?_
      refine V_i2l (pc := 159) h dX3_walk_159 ?_
      refine V_lmul (pc := 160) h dX3_walk_160 ?_
      refine V_topl (pc := 161) (fun l7_161 e_l7_161 => ?_)
      have q := nm_use e_l7_161 q
      refine V_lstore (pc := 161) h [(7, .long l7_161), (5, .long l5_153), (3, .long l3_146), (13, .long l13_139), (11, .long l11_118), (9, .long l9_107), (17, .int v_91), (0, .ref (a oL)), (1, .long l1), (15, .int l15), (16, .int l16)] dX3_walk_161 (Nat.le_of_ble_eq_true rfl) rfl ?_
      refine V_lload_n (pc := 163) h 8 dX3_walk_163 rfl ?_
      refine V_iload (pc := 164) h 6 dX3_walk_164 rfl ?_
      refine V_i2l (pc := 166) h dX3_walk_166 ?_
      refine V_lmul (pc := 167) h dX3_walk_167 ?_
      refine V_topl (pc := 168) (fun l1_168 e_l1_168 => ?_)
      have q := nm_use e_l1_168 q
      refine V_lstore_n (pc := 168) h [(1, .long l1_168), (7, .long l7_161), (5, .long l5_153), (3, .long l3_146), (13, .long l13_139), (11, .long l11_118), (9, .long l9_107), (17, .int v_91), (0, .ref (a oL)), (15, .int l15), (16, .int l16)] dX3_walk_168 (Nat.le_of_ble_eq_true rfl) rfl ?_
      refine V_sub [(0, .ref (a oL)), (1, .long l1_168), (3, .long l3_146), (5, .long l5_153), (7, .long l7_161), (9, .long l9_107), (11, .long l11_118), (13, .long l13_139), (15, .int l15), (16, .int l16)] [8, 0, 3, 2, 1, 6, 5, 4, 9, 10] rfl ?_
      exact vj_L_walk_169 h F a oL oJ l1_168 l3_146 l5_153 l7_161 l9_107 l11_118 l13_139 l15 l16 L_stretch L_rest L_forceRise L_forceStart L_slipRise L_slipStart L_under L_byFirst_58 L_byLoad_67 L_bare_76 L_scale_84 L_firstRise L_firstStart J_give J_clear J_yieldAt J_soft J_breakAt J_out J_pitches J_bolts J_upper J_lower _ q k1 k2

set_option maxHeartbeats 4000000 in
set_option maxRecDepth 100000 in
theorem vl_L_walk_39 {G : Gm} (h : VOk G cX3_walk RX3 19 (rmC 1 0 0)) (F : Nat) (a : Nat → Nat) (oL : Nat) (oJ : Nat) (l1 : Int64) (l3 : Int64) (l5 : Int64) (l7 : Int64) (l9 : Int64) (l11 : Int64) (l13 : Int64) (l15 : Int32) (l16 : Int32) (L_stretch : Nat → Int32) (L_rest : Nat → Int64) (L_forceRise : Nat → Int64) (L_forceStart : Nat → Int64) (L_slipRise : Nat → Int64) (L_slipStart : Nat → Int64) (L_under : Int64) (L_byFirst : Nat → Int64) (L_byLoad : Nat → Int64) (L_bare : Nat → Int64) (L_scale : Nat → Int64) (L_firstRise : Int64) (L_firstStart : Int64) (J_give : Nat → Int32) (J_clear : Nat → Int32) (J_yieldAt : Nat → Int32) (J_soft : Nat → Int32) (J_breakAt : Nat → Int32) (J_out : Nat → Int32) (J_pitches : Nat → Int32) (J_bolts : Int32) (J_upper : Int32) (J_lower : Int32) (r : Int64 × Int64 × Int64 × Int64 × (Nat → Int64) × (Nat → Int64) × (Nat → Int64) × (Nat → Int64)) (q : iter (un12 (fb_L_walk_39 l15 L_stretch L_rest J_pitches J_bolts J_upper)) F (l1, l3, l5, l7, l9, l11, l13, l16, L_byFirst, L_byLoad, L_bare, L_scale) = some r) (kx : V G 0 0 (wL (gK G) a oL oJ L_stretch L_rest L_forceRise L_forceStart L_slipRise L_slipStart L_under (r.2.2.2.2.1) (r.2.2.2.2.2.1) (r.2.2.2.2.2.2.1) (r.2.2.2.2.2.2.2) L_firstRise L_firstStart ++ (wJ (gK G) a oJ J_give J_clear J_yieldAt J_soft J_breakAt J_out J_pitches J_bolts J_upper J_lower)) 259 [(0, .ref (a oL)), (1, .long (r.1)), (9, .long (r.2.1)), (11, .long (r.2.2.1)), (13, .long (r.2.2.2.1))] []) : V G 0 0 (wL (gK G) a oL oJ L_stretch L_rest L_forceRise L_forceStart L_slipRise L_slipStart L_under L_byFirst L_byLoad L_bare L_scale L_firstRise L_firstStart ++ (wJ (gK G) a oJ J_give J_clear J_yieldAt J_soft J_breakAt J_out J_pitches J_bolts J_upper J_lower)) 39 [(0, .ref (a oL)), (1, .long l1), (3, .long l3), (5, .long l5), (7, .long l7), (9, .long l9), (11, .long l11), (13, .long l13), (15, .int l15), (16, .int l16)] [] := by
  have hh := iter_ind (body := un12 (fb_L_walk_39 l15 L_stretch L_rest J_pitches J_bolts J_upper)) (P := fun z => V G 0 0 (wL (gK G) a oL oJ L_stretch L_rest L_forceRise L_forceStart L_slipRise L_slipStart L_under (z.2.2.2.2.2.2.2.2.1) (z.2.2.2.2.2.2.2.2.2.1) (z.2.2.2.2.2.2.2.2.2.2.1) (z.2.2.2.2.2.2.2.2.2.2.2) L_firstRise L_firstStart ++ (wJ (gK G) a oJ J_give J_clear J_yieldAt J_soft J_breakAt J_out J_pitches J_bolts J_upper J_lower)) 39 [(0, .ref (a oL)), (1, .long (z.1)), (3, .long (z.2.1)), (5, .long (z.2.2.1)), (7, .long (z.2.2.2.1)), (9, .long (z.2.2.2.2.1)), (11, .long (z.2.2.2.2.2.1)), (13, .long (z.2.2.2.2.2.2.1)), (15, .int l15), (16, .int (z.2.2.2.2.2.2.2.1))] []) (X := fun r => V G 0 0 (wL (gK G) a oL oJ L_stretch L_rest L_forceRise L_forceStart L_slipRise L_slipStart L_under (r.2.2.2.2.1) (r.2.2.2.2.2.1) (r.2.2.2.2.2.2.1) (r.2.2.2.2.2.2.2) L_firstRise L_firstStart ++ (wJ (gK G) a oJ J_give J_clear J_yieldAt J_soft J_breakAt J_out J_pitches J_bolts J_upper J_lower)) 259 [(0, .ref (a oL)), (1, .long (r.1)), (9, .long (r.2.1)), (11, .long (r.2.2.1)), (13, .long (r.2.2.2.1))] []) (fun z o qb j1 j2 => vb_L_walk_39 h F a oL oJ (z.1) (z.2.1) (z.2.2.1) (z.2.2.2.1) (z.2.2.2.2.1) (z.2.2.2.2.2.1) (z.2.2.2.2.2.2.1) l15 (z.2.2.2.2.2.2.2.1) L_stretch L_rest L_forceRise L_forceStart L_slipRise L_slipStart L_under (z.2.2.2.2.2.2.2.2.1) (z.2.2.2.2.2.2.2.2.2.1) (z.2.2.2.2.2.2.2.2.2.2.1) (z.2.2.2.2.2.2.2.2.2.2.2) L_firstRise L_firstStart J_give J_clear J_yieldAt J_soft J_breakAt J_out J_pitches J_bolts J_upper J_lower o qb (fun y0 y1 y2 y3 y4 y5 y6 y7 y8 y9 y10 y11 e => j1 (y0, y1, y2, y3, y4, y5, y6, y7, y8, y9, y10, y11) e) j2) F (l1, l3, l5, l7, l9, l11, l13, l16, L_byFirst, L_byLoad, L_bare, L_scale) r q kx
  exact hh

set_option maxHeartbeats 4000000 in
set_option maxRecDepth 100000 in
theorem vj_L_walk_273 {G : Gm} (h : VOk G cX3_walk RX3 19 (rmC 1 0 0)) (F : Nat) (a : Nat → Nat) (oL : Nat) (oJ : Nat) (l1 : Int64) (l11 : Int64) (l13 : Int64) (s1 : Int64) (L_stretch : Nat → Int32) (L_rest : Nat → Int64) (L_forceRise : Nat → Int64) (L_forceStart : Nat → Int64) (L_slipRise : Nat → Int64) (L_slipStart : Nat → Int64) (L_under : Int64) (L_byFirst : Nat → Int64) (L_byLoad : Nat → Int64) (L_bare : Nat → Int64) (L_scale : Nat → Int64) (L_firstRise : Int64) (L_firstStart : Int64) (J_give : Nat → Int32) (J_clear : Nat → Int32) (J_yieldAt : Nat → Int32) (J_soft : Nat → Int32) (J_breakAt : Nat → Int32) (J_out : Nat → Int32) (J_pitches : Nat → Int32) (J_bolts : Int32) (J_upper : Int32) (J_lower : Int32) (o : Int64 × (Nat → Int64) × (Nat → Int64) × (Nat → Int64) × (Nat → Int64) × Int64 × Int64) (q : fj_L_walk_273 l1 l11 l13 s1 L_byFirst L_byLoad L_bare L_scale = some o) {Pst : Option Value → va_W → Prop} (hq : RetQ G 0 0 none Pst) (hp : Pst none (wL (gK G) a oL oJ L_stretch L_rest L_forceRise L_forceStart L_slipRise L_slipStart (o.1) (o.2.1) (o.2.2.1) (o.2.2.2.1) (o.2.2.2.2.1) (o.2.2.2.2.2.1) (o.2.2.2.2.2.2) ++ (wJ (gK G) a oJ J_give J_clear J_yieldAt J_soft J_breakAt J_out J_pitches J_bolts J_upper J_lower))) : V G 0 0 (wL (gK G) a oL oJ L_stretch L_rest L_forceRise L_forceStart L_slipRise L_slipStart L_under L_byFirst L_byLoad L_bare L_scale L_firstRise L_firstStart ++ (wJ (gK G) a oJ J_give J_clear J_yieldAt J_soft J_breakAt J_out J_pitches J_bolts J_upper J_lower)) 273 [(0, .ref (a oL)), (1, .long l1), (11, .long l11), (13, .long l13)] [.long s1, .ref (a oL)] := by
  unfold fj_L_walk_273 at q
  refine V_put (pc := 273) h fl_3_31 fp_3_7 0 (wL (gK G) a oL oJ L_stretch L_rest L_forceRise L_forceStart L_slipRise L_slipStart s1 L_byFirst L_byLoad L_bare L_scale L_firstRise L_firstStart ++ (wJ (gK G) a oJ J_give J_clear J_yieldAt J_soft J_breakAt J_out J_pitches J_bolts J_upper J_lower)) rfl rfl rfl (Nat.le_of_ble_eq_true rfl) rfl dX3_walk_273 ?_
  refine V_aload_n (pc := 276) h 0 dX3_walk_276 rfl ?_
  refine V_lload_n (pc := 277) h 1 dX3_walk_277 rfl ?_
  refine V_lload (pc := 278) h 2 dX3_walk_278 rfl ?_
  refine V_lsub (pc := 280) h dX3_walk_280 ?_
  refine V_topl (pc := 281) (fun L_firstRise_281 e_L_firstRise_281 => ?_)
  have q := nm_use e_L_firstRise_281 q
  refine V_put (pc := 281) h fl_3_66 fp_3_12 0 (wL (gK G) a oL oJ L_stretch L_rest L_forceRise L_forceStart L_slipRise L_slipStart s1 L_byFirst L_byLoad L_bare L_scale L_firstRise_281 L_firstStart ++ (wJ (gK G) a oJ J_give J_clear J_yieldAt J_soft J_breakAt J_out J_pitches J_bolts J_upper J_lower)) rfl rfl rfl (Nat.le_of_ble_eq_true rfl) rfl dX3_walk_281 ?_
  refine V_aload_n (pc := 284) h 0 dX3_walk_284 rfl ?_
  refine V_lload (pc := 285) h 3 dX3_walk_285 rfl ?_
  refine V_lneg (pc := 287) h dX3_walk_287 ?_
  refine V_topl (pc := 288) (fun L_firstStart_288 e_L_firstStart_288 => ?_)
  have q := nm_use e_L_firstStart_288 q
  refine V_put (pc := 288) h fl_3_69 fp_3_13 0 (wL (gK G) a oL oJ L_stretch L_rest L_forceRise L_forceStart L_slipRise L_slipStart s1 L_byFirst L_byLoad L_bare L_scale L_firstRise_281 L_firstStart_288 ++ (wJ (gK G) a oJ J_give J_clear J_yieldAt J_soft J_breakAt J_out J_pitches J_bolts J_upper J_lower)) rfl rfl rfl (Nat.le_of_ble_eq_true rfl) rfl dX3_walk_288 ?_
  obtain rfl := Option.some.inj q
  exact V_vret (pc := 291) h hq dX3_walk_291 hp

set_option maxHeartbeats 4000000 in
set_option maxRecDepth 100000 in
theorem v_L_walk {G : Gm} (h : VOk G cX3_walk RX3 19 (rmC 1 0 0)) (F : Nat) (a : Nat → Nat) (oL : Nat) (oJ : Nat) (L_stretch : Nat → Int32) (L_rest : Nat → Int64) (L_forceRise : Nat → Int64) (L_forceStart : Nat → Int64) (L_slipRise : Nat → Int64) (L_slipStart : Nat → Int64) (L_under : Int64) (L_byFirst : Nat → Int64) (L_byLoad : Nat → Int64) (L_bare : Nat → Int64) (L_scale : Nat → Int64) (L_firstRise : Int64) (L_firstStart : Int64) (J_give : Nat → Int32) (J_clear : Nat → Int32) (J_yieldAt : Nat → Int32) (J_soft : Nat → Int32) (J_breakAt : Nat → Int32) (J_out : Nat → Int32) (J_pitches : Nat → Int32) (J_bolts : Int32) (J_upper : Int32) (J_lower : Int32) (o : Int64 × (Nat → Int64) × (Nat → Int64) × (Nat → Int64) × (Nat → Int64) × Int64 × Int64) (q : f_L_walk F L_stretch L_rest L_under L_byFirst L_byLoad L_bare L_scale L_firstRise L_firstStart J_pitches J_bolts J_upper J_lower = some o) {Pst : Option Value → va_W → Prop} (hq : RetQ G 0 0 none Pst) (hp : Pst none (wL (gK G) a oL oJ L_stretch L_rest L_forceRise L_forceStart L_slipRise L_slipStart (o.1) (o.2.1) (o.2.2.1) (o.2.2.2.1) (o.2.2.2.2.1) (o.2.2.2.2.2.1) (o.2.2.2.2.2.2) ++ (wJ (gK G) a oJ J_give J_clear J_yieldAt J_soft J_breakAt J_out J_pitches J_bolts J_upper J_lower))) : V G 0 0 (wL (gK G) a oL oJ L_stretch L_rest L_forceRise L_forceStart L_slipRise L_slipStart L_under L_byFirst L_byLoad L_bare L_scale L_firstRise L_firstStart ++ (wJ (gK G) a oJ J_give J_clear J_yieldAt J_soft J_breakAt J_out J_pitches J_bolts J_upper J_lower)) 0 [(0, .ref (a oL))] [] := by
  unfold f_L_walk at q
  refine V_lconst (pc := 0) h dX3_walk_0 lc_1 ?_
  refine V_lstore_n (pc := 1) h [(1, .long (1 : Int64)), (0, .ref (a oL))] dX3_walk_1 (Nat.le_of_ble_eq_true rfl) rfl ?_
  refine V_lconst (pc := 2) h dX3_walk_2 lc_1 ?_
  refine V_lstore_n (pc := 3) h [(3, .long (1 : Int64)), (1, .long (1 : Int64)), (0, .ref (a oL))] dX3_walk_3 (Nat.le_of_ble_eq_true rfl) rfl ?_
  refine V_lconst (pc := 4) h dX3_walk_4 lc_0 ?_
  refine V_lstore (pc := 5) h [(5, .long (0 : Int64)), (3, .long (1 : Int64)), (1, .long (1 : Int64)), (0, .ref (a oL))] dX3_walk_5 (Nat.le_of_ble_eq_true rfl) rfl ?_
  refine V_lconst (pc := 7) h dX3_walk_7 lc_0 ?_
  refine V_lstore (pc := 8) h [(7, .long (0 : Int64)), (5, .long (0 : Int64)), (3, .long (1 : Int64)), (1, .long (1 : Int64)), (0, .ref (a oL))] dX3_walk_8 (Nat.le_of_ble_eq_true rfl) rfl ?_
  refine V_lconst (pc := 10) h dX3_walk_10 lc_0 ?_
  refine V_lstore (pc := 11) h [(9, .long (0 : Int64)), (7, .long (0 : Int64)), (5, .long (0 : Int64)), (3, .long (1 : Int64)), (1, .long (1 : Int64)), (0, .ref (a oL))] dX3_walk_11 (Nat.le_of_ble_eq_true rfl) rfl ?_
  refine V_lconst (pc := 13) h dX3_walk_13 lc_0 ?_
  refine V_lstore (pc := 14) h [(11, .long (0 : Int64)), (9, .long (0 : Int64)), (7, .long (0 : Int64)), (5, .long (0 : Int64)), (3, .long (1 : Int64)), (1, .long (1 : Int64)), (0, .ref (a oL))] dX3_walk_14 (Nat.le_of_ble_eq_true rfl) rfl ?_
  refine V_lconst (pc := 16) h dX3_walk_16 lc_0 ?_
  refine V_lstore (pc := 17) h [(13, .long (0 : Int64)), (11, .long (0 : Int64)), (9, .long (0 : Int64)), (7, .long (0 : Int64)), (5, .long (0 : Int64)), (3, .long (1 : Int64)), (1, .long (1 : Int64)), (0, .ref (a oL))] dX3_walk_17 (Nat.le_of_ble_eq_true rfl) rfl ?_
  refine V_aload_n (pc := 19) h 7 dX3_walk_19 rfl ?_
  refine V_get (pc := 20) h fl_3_47 0 rfl rfl dX3_walk_20 ?_
  refine V_get (pc := 23) h fl_3_51 11 rfl rfl dX3_walk_23 ?_
  refine V_aload_n (pc := 26) h 7 dX3_walk_26 rfl ?_
  refine V_get (pc := 27) h fl_3_47 0 rfl rfl dX3_walk_27 ?_
  refine V_get (pc := 30) h fl_3_57 11 rfl rfl dX3_walk_30 ?_
  refine V_iadd (pc := 33) h dX3_walk_33 ?_
  refine V_topi (pc := 34) (fun l15_34 e_l15_34 => ?_)
  have q := nm_use e_l15_34 q
  refine V_istore (pc := 34) h [(15, .int l15_34), (13, .long (0 : Int64)), (11, .long (0 : Int64)), (9, .long (0 : Int64)), (7, .long (0 : Int64)), (5, .long (0 : Int64)), (3, .long (1 : Int64)), (1, .long (1 : Int64)), (0, .ref (a oL))] dX3_walk_34 (Nat.le_of_ble_eq_true rfl) rfl ?_
  refine V_iconst (pc := 36) h dX3_walk_36 ic_0 ?_
  refine V_istore (pc := 37) h [(16, .int (0 : Int32)), (15, .int l15_34), (13, .long (0 : Int64)), (11, .long (0 : Int64)), (9, .long (0 : Int64)), (7, .long (0 : Int64)), (5, .long (0 : Int64)), (3, .long (1 : Int64)), (1, .long (1 : Int64)), (0, .ref (a oL))] dX3_walk_37 (Nat.le_of_ble_eq_true rfl) rfl ?_
  obtain ⟨l1_39, l9_39, l11_39, l13_39, L_byFirst_39, L_byLoad_39, L_bare_39, L_scale_39, e_39, q⟩ := bs8 q
  refine V_sub [(0, .ref (a oL)), (1, .long (1 : Int64)), (3, .long (1 : Int64)), (5, .long (0 : Int64)), (7, .long (0 : Int64)), (9, .long (0 : Int64)), (11, .long (0 : Int64)), (13, .long (0 : Int64)), (15, .int l15_34), (16, .int (0 : Int32))] [9, 8, 7, 6, 5, 4, 3, 2, 1, 0] rfl ?_
  refine vl_L_walk_39 h F a oL oJ (1 : Int64) (1 : Int64) (0 : Int64) (0 : Int64) (0 : Int64) (0 : Int64) (0 : Int64) l15_34 (0 : Int32) L_stretch L_rest L_forceRise L_forceStart L_slipRise L_slipStart L_under L_byFirst L_byLoad L_bare L_scale L_firstRise L_firstStart J_give J_clear J_yieldAt J_soft J_breakAt J_out J_pitches J_bolts J_upper J_lower _ e_39 ?_
  show V G 0 0 (wL (gK G) a oL oJ L_stretch L_rest L_forceRise L_forceStart L_slipRise L_slipStart L_under L_byFirst_39 L_byLoad_39 L_bare_39 L_scale_39 L_firstRise L_firstStart ++ (wJ (gK G) a oJ J_give J_clear J_yieldAt J_soft J_breakAt J_out J_pitches J_bolts J_upper J_lower)) 259 [(0, .ref (a oL)), (1, .long l1_39), (9, .long l9_39), (11, .long l11_39), (13, .long l13_39)] []
  refine V_aload_n (pc := 259) h 0 dX3_walk_259 rfl ?_
  refine V_lload (pc := 260) h 2 dX3_walk_260 rfl ?_
  refine V_lconst (pc := 262) h dX3_walk_262 lc_0 ?_
  refine V_lcmp_le (pc := 263) (pc2 := 0) h 272 dX3_walk_263 dX3_walk_264 (by decide) (fun hc => ?_) (fun hc => ?_)
  · have q := if_p hc q
    refine V_lconst (pc := 272) h dX3_walk_272 lc_1 ?_
    refine V_sub [(0, .ref (a oL)), (1, .long l1_39), (11, .long l11_39), (13, .long l13_39)] [0, 1, 3, 4] rfl ?_
    exact vj_L_walk_273 h F a oL oJ l1_39 l11_39 l13_39 (1 : Int64) L_stretch L_rest L_forceRise L_forceStart L_slipRise L_slipStart L_under L_byFirst_39 L_byLoad_39 L_bare_39 L_scale_39 L_firstRise L_firstStart J_give J_clear J_yieldAt J_soft J_breakAt J_out J_pitches J_bolts J_upper J_lower _ q hq hp
  · have q := if_n hc q
    refine V_lload (pc := 267) h 2 dX3_walk_267 rfl ?_
    refine V_goto (pc := 269) (tgt := 273) h dX3_walk_269 (by decide) ?_
    refine V_sub [(0, .ref (a oL)), (1, .long l1_39), (11, .long l11_39), (13, .long l13_39)] [0, 1, 3, 4] rfl ?_
    exact vj_L_walk_273 h F a oL oJ l1_39 l11_39 l13_39 l9_39 L_stretch L_rest L_forceRise L_forceStart L_slipRise L_slipStart L_under L_byFirst_39 L_byLoad_39 L_bare_39 L_scale_39 L_firstRise L_firstStart J_give J_clear J_yieldAt J_soft J_breakAt J_out J_pitches J_bolts J_upper J_lower _ q hq hp

set_option maxHeartbeats 4000000 in
set_option maxRecDepth 100000 in
theorem t_L_walk (K : Kd) (F : Nat) (a : Nat → Nat) (oL : Nat) (oJ : Nat) (L_stretch : Nat → Int32) (L_rest : Nat → Int64) (L_forceRise : Nat → Int64) (L_forceStart : Nat → Int64) (L_slipRise : Nat → Int64) (L_slipStart : Nat → Int64) (L_under : Int64) (L_byFirst : Nat → Int64) (L_byLoad : Nat → Int64) (L_bare : Nat → Int64) (L_scale : Nat → Int64) (L_firstRise : Int64) (L_firstStart : Int64) (J_give : Nat → Int32) (J_clear : Nat → Int32) (J_yieldAt : Nat → Int32) (J_soft : Nat → Int32) (J_breakAt : Nat → Int32) (J_out : Nat → Int32) (J_pitches : Nat → Int32) (J_bolts : Int32) (J_upper : Int32) (J_lower : Int32) (L_under' : Int64) (L_byFirst' : Nat → Int64) (L_byLoad' : Nat → Int64) (L_bare' : Nat → Int64) (L_scale' : Nat → Int64) (L_firstRise' : Int64) (L_firstStart' : Int64) (q : f_L_walk F L_stretch L_rest L_under L_byFirst L_byLoad L_bare L_scale L_firstRise L_firstStart J_pitches J_bolts J_upper J_lower = some (L_under', L_byFirst', L_byLoad', L_bare', L_scale', L_firstRise', L_firstStart')) : Ctr yX3_walk cX3_walk 19 none 1 0 0 K [.ref (a oL)] (wL K a oL oJ L_stretch L_rest L_forceRise L_forceStart L_slipRise L_slipStart L_under L_byFirst L_byLoad L_bare L_scale L_firstRise L_firstStart ++ (wJ K a oJ J_give J_clear J_yieldAt J_soft J_breakAt J_out J_pitches J_bolts J_upper J_lower)) (Eqs none (wL K a oL oJ L_stretch L_rest L_forceRise L_forceStart L_slipRise L_slipStart L_under' L_byFirst' L_byLoad' L_bare' L_scale' L_firstRise' L_firstStart' ++ (wJ K a oJ J_give J_clear J_yieldAt J_soft J_breakAt J_out J_pitches J_bolts J_upper J_lower))) := by
  refine mkCtr (by decide) (Nat.le_of_ble_eq_true rfl) ?_
  intro G hK h hq _
  subst hK
  exact v_L_walk h F a oL oJ L_stretch L_rest L_forceRise L_forceStart L_slipRise L_slipStart L_under L_byFirst L_byLoad L_bare L_scale L_firstRise L_firstStart J_give J_clear J_yieldAt J_soft J_breakAt J_out J_pitches J_bolts J_upper J_lower _ q hq ⟨rfl, rfl⟩

set_option maxHeartbeats 4000000 in
set_option maxRecDepth 100000 in
theorem vj_L_fill_166 {G : Gm} (h : VOk G cX3_fill RX3 5 (rmC 1 0 0)) (F : Nat) (a : Nat → Nat) (oL : Nat) (oJ : Nat) (l1 : Int32) (s1 : Int32) (s2 : Int64) (L_stretch : Nat → Int32) (L_rest : Nat → Int64) (L_forceRise : Nat → Int64) (L_forceStart : Nat → Int64) (L_slipRise : Nat → Int64) (L_slipStart : Nat → Int64) (L_under : Int64) (L_byFirst : Nat → Int64) (L_byLoad : Nat → Int64) (L_bare : Nat → Int64) (L_scale : Nat → Int64) (L_firstRise : Int64) (L_firstStart : Int64) (J_give : Nat → Int32) (J_clear : Nat → Int32) (J_yieldAt : Nat → Int32) (J_soft : Nat → Int32) (J_breakAt : Nat → Int32) (J_out : Nat → Int32) (J_pitches : Nat → Int32) (J_bolts : Int32) (J_upper : Int32) (J_lower : Int32) (o : (Int32 × (Nat → Int64) × (Nat → Int64) × (Nat → Int64) × (Nat → Int64)) ⊕ ((Nat → Int64) × (Nat → Int64) × (Nat → Int64) × (Nat → Int64))) (q : fj_L_fill_166 l1 s1 s2 L_forceRise L_forceStart L_slipRise L_slipStart = some o) (k1 : ∀ (l1' : Int32) (L_forceRise' : Nat → Int64) (L_forceStart' : Nat → Int64) (L_slipRise' : Nat → Int64) (L_slipStart' : Nat → Int64), o = .inl (l1', L_forceRise', L_forceStart', L_slipRise', L_slipStart') → V G 0 0 (wL (gK G) a oL oJ L_stretch L_rest L_forceRise' L_forceStart' L_slipRise' L_slipStart' L_under L_byFirst L_byLoad L_bare L_scale L_firstRise L_firstStart ++ (wJ (gK G) a oJ J_give J_clear J_yieldAt J_soft J_breakAt J_out J_pitches J_bolts J_upper J_lower)) 2 [(0, .ref (a oL)), (1, .int l1')] []) (k2 : ∀ (r : (Nat → Int64) × (Nat → Int64) × (Nat → Int64) × (Nat → Int64)), o = .inr r → V G 0 0 (wL (gK G) a oL oJ L_stretch L_rest (r.1) (r.2.1) (r.2.2.1) (r.2.2.2) L_under L_byFirst L_byLoad L_bare L_scale L_firstRise L_firstStart ++ (wJ (gK G) a oJ J_give J_clear J_yieldAt J_soft J_breakAt J_out J_pitches J_bolts J_upper J_lower)) 173 [] []) : V G 0 0 (wL (gK G) a oL oJ L_stretch L_rest L_forceRise L_forceStart L_slipRise L_slipStart L_under L_byFirst L_byLoad L_bare L_scale L_firstRise L_firstStart ++ (wJ (gK G) a oJ J_give J_clear J_yieldAt J_soft J_breakAt J_out J_pitches J_bolts J_upper J_lower)) 166 [(0, .ref (a oL)), (1, .int l1)] [.long s2, .int s1, .ref (a (oL + 4))] := by
  unfold fj_L_fill_166 at q
  obtain ⟨L_forceStart_166, e_L_forceStart_166, q⟩ := bs q
  refine V_last (pc := 166) h 4 (wL (gK G) a oL oJ L_stretch L_rest L_forceRise L_forceStart_166 L_slipRise L_slipStart L_under L_byFirst L_byLoad L_bare L_scale L_firstRise L_firstStart ++ (wJ (gK G) a oJ J_give J_clear J_yieldAt J_soft J_breakAt J_out J_pitches J_bolts J_upper J_lower)) rfl e_L_forceStart_166 rfl dX3_fill_166 ?_
  obtain ⟨l1_167, e_l1_167⟩ : ∃ y : Int32, (l1 + (1 : Int32)) = y := ⟨_, rfl⟩
  have q := nm_use e_l1_167 q
  refine V_iinc (pc := 167) h [(1, .int l1_167), (0, .ref (a oL))] 1 dX3_fill_167 rfl ic_1 (Nat.le_of_ble_eq_true rfl) (by rw [e_l1_167]; rfl) ?_
  refine V_goto (pc := 170) (tgt := 2) h dX3_fill_170 (by decide) ?_
  refine V_sub [(0, .ref (a oL)), (1, .int l1_167)] [1, 0] rfl ?_
  exact k1 l1_167 L_forceRise L_forceStart_166 L_slipRise L_slipStart (Option.some.inj q).symm

set_option maxHeartbeats 4000000 in
set_option maxRecDepth 100000 in
theorem vj_L_fill_129 {G : Gm} (h : VOk G cX3_fill RX3 5 (rmC 1 0 0)) (F : Nat) (a : Nat → Nat) (oL : Nat) (oJ : Nat) (l1 : Int32) (l4 : Int32) (s1 : Int32) (s2 : Int64) (L_stretch : Nat → Int32) (L_rest : Nat → Int64) (L_forceRise : Nat → Int64) (L_forceStart : Nat → Int64) (L_slipRise : Nat → Int64) (L_slipStart : Nat → Int64) (L_under : Int64) (L_byFirst : Nat → Int64) (L_byLoad : Nat → Int64) (L_bare : Nat → Int64) (L_scale : Nat → Int64) (L_firstRise : Int64) (L_firstStart : Int64) (J_give : Nat → Int32) (J_clear : Nat → Int32) (J_yieldAt : Nat → Int32) (J_soft : Nat → Int32) (J_breakAt : Nat → Int32) (J_out : Nat → Int32) (J_pitches : Nat → Int32) (J_bolts : Int32) (J_upper : Int32) (J_lower : Int32) (o : (Int32 × (Nat → Int64) × (Nat → Int64) × (Nat → Int64) × (Nat → Int64)) ⊕ ((Nat → Int64) × (Nat → Int64) × (Nat → Int64) × (Nat → Int64))) (q : fj_L_fill_129 l1 l4 s1 s2 L_rest L_forceRise L_forceStart L_slipRise L_slipStart L_under = some o) (k1 : ∀ (l1' : Int32) (L_forceRise' : Nat → Int64) (L_forceStart' : Nat → Int64) (L_slipRise' : Nat → Int64) (L_slipStart' : Nat → Int64), o = .inl (l1', L_forceRise', L_forceStart', L_slipRise', L_slipStart') → V G 0 0 (wL (gK G) a oL oJ L_stretch L_rest L_forceRise' L_forceStart' L_slipRise' L_slipStart' L_under L_byFirst L_byLoad L_bare L_scale L_firstRise L_firstStart ++ (wJ (gK G) a oJ J_give J_clear J_yieldAt J_soft J_breakAt J_out J_pitches J_bolts J_upper J_lower)) 2 [(0, .ref (a oL)), (1, .int l1')] []) (k2 : ∀ (r : (Nat → Int64) × (Nat → Int64) × (Nat → Int64) × (Nat → Int64)), o = .inr r → V G 0 0 (wL (gK G) a oL oJ L_stretch L_rest (r.1) (r.2.1) (r.2.2.1) (r.2.2.2) L_under L_byFirst L_byLoad L_bare L_scale L_firstRise L_firstStart ++ (wJ (gK G) a oJ J_give J_clear J_yieldAt J_soft J_breakAt J_out J_pitches J_bolts J_upper J_lower)) 173 [] []) : V G 0 0 (wL (gK G) a oL oJ L_stretch L_rest L_forceRise L_forceStart L_slipRise L_slipStart L_under L_byFirst L_byLoad L_bare L_scale L_firstRise L_firstStart ++ (wJ (gK G) a oJ J_give J_clear J_yieldAt J_soft J_breakAt J_out J_pitches J_bolts J_upper J_lower)) 129 [(0, .ref (a oL)), (1, .int l1), (4, .int l4)] [.long s2, .int s1, .ref (a (oL + 3))] := by
  unfold fj_L_fill_129 at q
  obtain ⟨L_forceRise_129, e_L_forceRise_129, q⟩ := bs q
  refine V_last (pc := 129) h 3 (wL (gK G) a oL oJ L_stretch L_rest L_forceRise_129 L_forceStart L_slipRise L_slipStart L_under L_byFirst L_byLoad L_bare L_scale L_firstRise L_firstStart ++ (wJ (gK G) a oJ J_give J_clear J_yieldAt J_soft J_breakAt J_out J_pitches J_bolts J_upper J_lower)) rfl e_L_forceRise_129 rfl dX3_fill_129 ?_
  refine V_aload_n (pc := 130) h 0 dX3_fill_130 rfl ?_
  refine V_get (pc := 131) h fl_3_22 0 rfl rfl dX3_fill_131 ?_
  refine V_iload_n (pc := 134) h 1 dX3_fill_134 rfl ?_
  refine V_iload (pc := 135) h 2 dX3_fill_135 rfl ?_
  refine V_if_le (pc := 137) h 165 dX3_fill_137 (by decide) (fun hc => ?_) (fun hc => ?_)
  · have q := if_p hc q
    refine V_lconst (pc := 165) h dX3_fill_165 lc_0 ?_
    refine V_sub [(0, .ref (a oL)), (1, .int l1)] [0, 1] rfl ?_
    exact vj_L_fill_166 h F a oL oJ l1 l1 (0 : Int64) L_stretch L_rest L_forceRise_129 L_forceStart L_slipRise L_slipStart L_under L_byFirst L_byLoad L_bare L_scale L_firstRise L_firstStart J_give J_clear J_yieldAt J_soft J_breakAt J_out J_pitches J_bolts J_upper J_lower _ q k1 k2
  · have q := if_n hc q
    refine V_aload_n (pc := 140) h 0 dX3_fill_140 rfl ?_
    refine V_get (pc := 141) h fl_3_28 0 rfl rfl dX3_fill_141 ?_
    refine V_iload_n (pc := 144) h 1 dX3_fill_144 rfl ?_
    obtain ⟨v_145, e_v_145, q⟩ := bs q
    refine V_lald (pc := 145) h 6 rfl e_v_145 dX3_fill_145 ?_
    refine V_aload_n (pc := 146) h 0 dX3_fill_146 rfl ?_
    refine V_get (pc := 147) h fl_3_15 0 rfl rfl dX3_fill_147 ?_
    refine V_iload_n (pc := 150) h 1 dX3_fill_150 rfl ?_
    obtain ⟨v_151, e_v_151, q⟩ := bs q
    refine V_lald (pc := 151) h 2 rfl e_v_151 dX3_fill_151 ?_
    refine V_aload_n (pc := 152) h 0 dX3_fill_152 rfl ?_
    refine V_get (pc := 153) h fl_3_31 0 rfl rfl dX3_fill_153 ?_
    refine V_lmul (pc := 156) h dX3_fill_156 ?_
    refine V_lsub (pc := 157) h dX3_fill_157 ?_
    refine V_iload (pc := 158) h 2 dX3_fill_158 rfl ?_
    refine V_i2l (pc := 160) h dX3_fill_160 ?_
    obtain ⟨v_161, e_v_161, q⟩ := bs q
    refine V_ldiv (pc := 161) h e_v_161 dX3_fill_161 ?_
    refine V_goto (pc := 162) (tgt := 166) h dX3_fill_162 (by decide) ?_
    refine V_sub [(0, .ref (a oL)), (1, .int l1)] [0, 1] rfl ?_
    exact vj_L_fill_166 h F a oL oJ l1 l1 v_161 L_stretch L_rest L_forceRise_129 L_forceStart L_slipRise L_slipStart L_under L_byFirst L_byLoad L_bare L_scale L_firstRise L_firstStart J_give J_clear J_yieldAt J_soft J_breakAt J_out J_pitches J_bolts J_upper J_lower _ q k1 k2

set_option maxHeartbeats 4000000 in
set_option maxRecDepth 100000 in
theorem vj_L_fill_34 {G : Gm} (h : VOk G cX3_fill RX3 5 (rmC 1 0 0)) (F : Nat) (a : Nat → Nat) (oL : Nat) (oJ : Nat) (l1 : Int32) (s0 : Int64) (L_stretch : Nat → Int32) (L_rest : Nat → Int64) (L_forceRise : Nat → Int64) (L_forceStart : Nat → Int64) (L_slipRise : Nat → Int64) (L_slipStart : Nat → Int64) (L_under : Int64) (L_byFirst : Nat → Int64) (L_byLoad : Nat → Int64) (L_bare : Nat → Int64) (L_scale : Nat → Int64) (L_firstRise : Int64) (L_firstStart : Int64) (J_give : Nat → Int32) (J_clear : Nat → Int32) (J_yieldAt : Nat → Int32) (J_soft : Nat → Int32) (J_breakAt : Nat → Int32) (J_out : Nat → Int32) (J_pitches : Nat → Int32) (J_bolts : Int32) (J_upper : Int32) (J_lower : Int32) (o : (Int32 × (Nat → Int64) × (Nat → Int64) × (Nat → Int64) × (Nat → Int64)) ⊕ ((Nat → Int64) × (Nat → Int64) × (Nat → Int64) × (Nat → Int64))) (q : fj_L_fill_34 l1 s0 L_stretch L_rest L_forceRise L_forceStart L_slipRise L_slipStart L_under L_byFirst L_byLoad L_bare L_firstRise L_firstStart = some o) (k1 : ∀ (l1' : Int32) (L_forceRise' : Nat → Int64) (L_forceStart' : Nat → Int64) (L_slipRise' : Nat → Int64) (L_slipStart' : Nat → Int64), o = .inl (l1', L_forceRise', L_forceStart', L_slipRise', L_slipStart') → V G 0 0 (wL (gK G) a oL oJ L_stretch L_rest L_forceRise' L_forceStart' L_slipRise' L_slipStart' L_under L_byFirst L_byLoad L_bare L_scale L_firstRise L_firstStart ++ (wJ (gK G) a oJ J_give J_clear J_yieldAt J_soft J_breakAt J_out J_pitches J_bolts J_upper J_lower)) 2 [(0, .ref (a oL)), (1, .int l1')] []) (k2 : ∀ (r : (Nat → Int64) × (Nat → Int64) × (Nat → Int64) × (Nat → Int64)), o = .inr r → V G 0 0 (wL (gK G) a oL oJ L_stretch L_rest (r.1) (r.2.1) (r.2.2.1) (r.2.2.2) L_under L_byFirst L_byLoad L_bare L_scale L_firstRise L_firstStart ++ (wJ (gK G) a oJ J_give J_clear J_yieldAt J_soft J_breakAt J_out J_pitches J_bolts J_upper J_lower)) 173 [] []) : V G 0 0 (wL (gK G) a oL oJ L_stretch L_rest L_forceRise L_forceStart L_slipRise L_slipStart L_under L_byFirst L_byLoad L_bare L_scale L_firstRise L_firstStart ++ (wJ (gK G) a oJ J_give J_clear J_yieldAt J_soft J_breakAt J_out J_pitches J_bolts J_upper J_lower)) 34 [(0, .ref (a oL)), (1, .int l1)] [.long s0] := by
  unfold fj_L_fill_34 at q
  refine V_lstore_n (pc := 34) h [(2, .long s0), (0, .ref (a oL)), (1, .int l1)] dX3_fill_34 (Nat.le_of_ble_eq_true rfl) rfl ?_
  refine V_aload_n (pc := 35) h 1 dX3_fill_35 rfl ?_
  refine V_get (pc := 36) h fl_3_25 0 rfl rfl dX3_fill_36 ?_
  refine V_iload_n (pc := 39) h 2 dX3_fill_39 rfl ?_
  refine V_aload_n (pc := 40) h 1 dX3_fill_40 rfl ?_
  refine V_get (pc := 41) h fl_3_35 0 rfl rfl dX3_fill_41 ?_
  refine V_iload_n (pc := 44) h 2 dX3_fill_44 rfl ?_
  obtain ⟨v_45, e_v_45, q⟩ := bs q
  refine V_lald (pc := 45) h 7 rfl e_v_45 dX3_fill_45 ?_
  refine V_aload_n (pc := 46) h 1 dX3_fill_46 rfl ?_
  refine V_get (pc := 47) h fl_3_66 0 rfl rfl dX3_fill_47 ?_
  refine V_lmul (pc := 50) h dX3_fill_50 ?_
  refine V_aload_n (pc := 51) h 1 dX3_fill_51 rfl ?_
  refine V_get (pc := 52) h fl_3_38 0 rfl rfl dX3_fill_52 ?_
  refine V_iload_n (pc := 55) h 2 dX3_fill_55 rfl ?_
  obtain ⟨v_56, e_v_56, q⟩ := bs q
  refine V_lald (pc := 56) h 8 rfl e_v_56 dX3_fill_56 ?_
  refine V_aload_n (pc := 57) h 1 dX3_fill_57 rfl ?_
  refine V_get (pc := 58) h fl_3_31 0 rfl rfl dX3_fill_58 ?_
  refine V_lmul (pc := 61) h dX3_fill_61 ?_
  refine V_ladd (pc := 62) h dX3_fill_62 ?_
  refine V_lload_n (pc := 63) h 0 dX3_fill_63 rfl ?_
  obtain ⟨v_64, e_v_64, q⟩ := bs q
  refine V_ldiv (pc := 64) h e_v_64 dX3_fill_64 ?_
  obtain ⟨L_slipRise_65, e_L_slipRise_65, q⟩ := bs q
  refine V_last (pc := 65) h 5 (wL (gK G) a oL oJ L_stretch L_rest L_forceRise L_forceStart L_slipRise_65 L_slipStart L_under L_byFirst L_byLoad L_bare L_scale L_firstRise L_firstStart ++ (wJ (gK G) a oJ J_give J_clear J_yieldAt J_soft J_breakAt J_out J_pitches J_bolts J_upper J_lower)) rfl e_L_slipRise_65 rfl dX3_fill_65 ?_
  refine V_aload_n (pc := 66) h 1 dX3_fill_66 rfl ?_
  refine V_get (pc := 67) h fl_3_28 0 rfl rfl dX3_fill_67 ?_
  refine V_iload_n (pc := 70) h 2 dX3_fill_70 rfl ?_
  refine V_aload_n (pc := 71) h 1 dX3_fill_71 rfl ?_
  refine V_get (pc := 72) h fl_3_35 0 rfl rfl dX3_fill_72 ?_
  refine V_iload_n (pc := 75) h 2 dX3_fill_75 rfl ?_
  obtain ⟨v_76, e_v_76, q⟩ := bs q
  refine V_lald (pc := 76) h 7 rfl e_v_76 dX3_fill_76 ?_
  refine V_aload_n (pc := 77) h 1 dX3_fill_77 rfl ?_
  refine V_get (pc := 78) h fl_3_69 0 rfl rfl dX3_fill_78 ?_
  refine V_lmul (pc := 81) h dX3_fill_81 ?_
  refine V_aload_n (pc := 82) h 1 dX3_fill_82 rfl ?_
  refine V_get (pc := 83) h fl_3_41 0 rfl rfl dX3_fill_83 ?_
  refine V_iload_n (pc := 86) h 2 dX3_fill_86 rfl ?_
  obtain ⟨v_87, e_v_87, q⟩ := bs q
  refine V_lald (pc := 87) h 9 rfl e_v_87 dX3_fill_87 ?_
  refine V_aload_n (pc := 88) h 1 dX3_fill_88 rfl ?_
  refine V_get (pc := 89) h fl_3_31 0 rfl rfl dX3_fill_89 ?_
  refine V_lmul (pc := 92) h dX3_fill_92 ?_
  refine V_ladd (pc := 93) h dX3_fill_93 ?_
  refine V_lload_n (pc := 94) h 0 dX3_fill_94 rfl ?_
  obtain ⟨v_95, e_v_95, q⟩ := bs q
  refine V_ldiv (pc := 95) h e_v_95 dX3_fill_95 ?_
  obtain ⟨L_slipStart_96, e_L_slipStart_96, q⟩ := bs q
  refine V_last (pc := 96) h 6 (wL (gK G) a oL oJ L_stretch L_rest L_forceRise L_forceStart L_slipRise_65 L_slipStart_96 L_under L_byFirst L_byLoad L_bare L_scale L_firstRise L_firstStart ++ (wJ (gK G) a oJ J_give J_clear J_yieldAt J_soft J_breakAt J_out J_pitches J_bolts J_upper J_lower)) rfl e_L_slipStart_96 rfl dX3_fill_96 ?_
  refine V_aload_n (pc := 97) h 1 dX3_fill_97 rfl ?_
  refine V_get (pc := 98) h fl_3_9 0 rfl rfl dX3_fill_98 ?_
  refine V_iload_n (pc := 101) h 2 dX3_fill_101 rfl ?_
  obtain ⟨v_102, e_v_102, q⟩ := bs q
  refine V_iald (pc := 102) h 1 rfl e_v_102 dX3_fill_102 ?_
  refine V_istore (pc := 103) h [(4, .int v_102), (2, .long s0), (0, .ref (a oL)), (1, .int l1)] dX3_fill_103 (Nat.le_of_ble_eq_true rfl) rfl ?_
  refine V_aload_n (pc := 105) h 2 dX3_fill_105 rfl ?_
  refine V_get (pc := 106) h fl_3_19 0 rfl rfl dX3_fill_106 ?_
  refine V_iload_n (pc := 109) h 3 dX3_fill_109 rfl ?_
  refine V_iload (pc := 110) h 0 dX3_fill_110 rfl ?_
  refine V_if_le (pc := 112) h 128 dX3_fill_112 (by decide) (fun hc => ?_) (fun hc => ?_)
  · have q := if_p hc q
    refine V_lconst (pc := 128) h dX3_fill_128 lc_0 ?_
    refine V_sub [(0, .ref (a oL)), (1, .int l1), (4, .int v_102)] [2, 3, 0] rfl ?_
    exact vj_L_fill_129 h F a oL oJ l1 v_102 l1 (0 : Int64) L_stretch L_rest L_forceRise L_forceStart L_slipRise_65 L_slipStart_96 L_under L_byFirst L_byLoad L_bare L_scale L_firstRise L_firstStart J_give J_clear J_yieldAt J_soft J_breakAt J_out J_pitches J_bolts J_upper J_lower _ q k1 k2
  · have q := if_n hc q
    refine V_aload_n (pc := 115) h 2 dX3_fill_115 rfl ?_
    refine V_get (pc := 116) h fl_3_25 0 rfl rfl dX3_fill_116 ?_
    refine V_iload_n (pc := 119) h 3 dX3_fill_119 rfl ?_
    obtain ⟨v_120, e_v_120, q⟩ := bs q
    refine V_lald (pc := 120) h 5 rfl e_v_120 dX3_fill_120 ?_
    refine V_iload (pc := 121) h 0 dX3_fill_121 rfl ?_
    refine V_i2l (pc := 123) h dX3_fill_123 ?_
    obtain ⟨v_124, e_v_124, q⟩ := bs q
    refine V_ldiv (pc := 124) h e_v_124 dX3_fill_124 ?_
    refine V_goto (pc := 125) (tgt := 129) h dX3_fill_125 (by decide) ?_
    refine V_sub [(0, .ref (a oL)), (1, .int l1), (4, .int v_102)] [2, 3, 0] rfl ?_
    exact vj_L_fill_129 h F a oL oJ l1 v_102 l1 v_124 L_stretch L_rest L_forceRise L_forceStart L_slipRise_65 L_slipStart_96 L_under L_byFirst L_byLoad L_bare L_scale L_firstRise L_firstStart J_give J_clear J_yieldAt J_soft J_breakAt J_out J_pitches J_bolts J_upper J_lower _ q k1 k2

set_option maxHeartbeats 4000000 in
set_option maxRecDepth 100000 in
theorem vb_L_fill_2 {G : Gm} (h : VOk G cX3_fill RX3 5 (rmC 1 0 0)) (F : Nat) (a : Nat → Nat) (oL : Nat) (oJ : Nat) (l1 : Int32) (L_stretch : Nat → Int32) (L_rest : Nat → Int64) (L_forceRise : Nat → Int64) (L_forceStart : Nat → Int64) (L_slipRise : Nat → Int64) (L_slipStart : Nat → Int64) (L_under : Int64) (L_byFirst : Nat → Int64) (L_byLoad : Nat → Int64) (L_bare : Nat → Int64) (L_scale : Nat → Int64) (L_firstRise : Int64) (L_firstStart : Int64) (J_give : Nat → Int32) (J_clear : Nat → Int32) (J_yieldAt : Nat → Int32) (J_soft : Nat → Int32) (J_breakAt : Nat → Int32) (J_out : Nat → Int32) (J_pitches : Nat → Int32) (J_bolts : Int32) (J_upper : Int32) (J_lower : Int32) (o : (Int32 × (Nat → Int64) × (Nat → Int64) × (Nat → Int64) × (Nat → Int64)) ⊕ ((Nat → Int64) × (Nat → Int64) × (Nat → Int64) × (Nat → Int64))) (q : fb_L_fill_2 L_stretch L_rest L_under L_byFirst L_byLoad L_bare L_scale L_firstRise L_firstStart J_bolts l1 L_forceRise L_forceStart L_slipRise L_slipStart = some o) (k1 : ∀ (l1' : Int32) (L_forceRise' : Nat → Int64) (L_forceStart' : Nat → Int64) (L_slipRise' : Nat → Int64) (L_slipStart' : Nat → Int64), o = .inl (l1', L_forceRise', L_forceStart', L_slipRise', L_slipStart') → V G 0 0 (wL (gK G) a oL oJ L_stretch L_rest L_forceRise' L_forceStart' L_slipRise' L_slipStart' L_under L_byFirst L_byLoad L_bare L_scale L_firstRise L_firstStart ++ (wJ (gK G) a oJ J_give J_clear J_yieldAt J_soft J_breakAt J_out J_pitches J_bolts J_upper J_lower)) 2 [(0, .ref (a oL)), (1, .int l1')] []) (k2 : ∀ (r : (Nat → Int64) × (Nat → Int64) × (Nat → Int64) × (Nat → Int64)), o = .inr r → V G 0 0 (wL (gK G) a oL oJ L_stretch L_rest (r.1) (r.2.1) (r.2.2.1) (r.2.2.2) L_under L_byFirst L_byLoad L_bare L_scale L_firstRise L_firstStart ++ (wJ (gK G) a oJ J_give J_clear J_yieldAt J_soft J_breakAt J_out J_pitches J_bolts J_upper J_lower)) 173 [] []) : V G 0 0 (wL (gK G) a oL oJ L_stretch L_rest L_forceRise L_forceStart L_slipRise L_slipStart L_under L_byFirst L_byLoad L_bare L_scale L_firstRise L_firstStart ++ (wJ (gK G) a oJ J_give J_clear J_yieldAt J_soft J_breakAt J_out J_pitches J_bolts J_upper J_lower)) 2 [(0, .ref (a oL)), (1, .int l1)] [] := by
  unfold fb_L_fill_2 at q
  refine V_iload_n (pc := 2) h 1 dX3_fill_2 rfl ?_
  refine V_aload_n (pc := 3) h 0 dX3_fill_3 rfl ?_
  refine V_get (pc := 4) h fl_3_47 0 rfl rfl dX3_fill_4 ?_
  refine V_get (pc := 7) h fl_3_60 11 rfl rfl dX3_fill_7 ?_
  refine V_icmp_ge (pc := 10) h 173 dX3_fill_10 (by decide) (fun hc => ?_) (fun hc => ?_)
  · have q := if_p hc q
    refine V_sub [] [] rfl ?_
    have kk := k2 _ (Option.some.inj q).symm
    exact kk
  · have q := if_n hc q
    refine V_aload_n (pc := 13) h 0 dX3_fill_13 rfl ?_
    refine V_get (pc := 14) h fl_3_44 0 rfl rfl dX3_fill_14 ?_
    refine V_iload_n (pc := 17) h 1 dX3_fill_17 rfl ?_
    obtain ⟨v_18, e_v_18, q⟩ := bs q
    refine V_lald (pc := 18) h 10 rfl e_v_18 dX3_fill_18 ?_
    refine V_lconst (pc := 19) h dX3_fill_19 lc_0 ?_
    refine V_lcmp_le (pc := 20) (pc2 := 0) h 33 dX3_fill_20 dX3_fill_21 (by decide) (fun hc => ?_) (fun hc => ?_)
    · have q := if_p hc q
      refine V_lconst (pc := 33) h dX3_fill_33 lc_1 ?_
      exact vj_L_fill_34 h F a oL oJ l1 (1 : Int64) L_stretch L_rest L_forceRise L_forceStart L_slipRise L_slipStart L_under L_byFirst L_byLoad L_bare L_scale L_firstRise L_firstStart J_give J_clear J_yieldAt J_soft J_breakAt J_out J_pitches J_bolts J_upper J_lower _ q k1 k2
    · have q := if_n hc q
      refine V_aload_n (pc := 24) h 0 dX3_fill_24 rfl ?_
      refine V_get (pc := 25) h fl_3_44 0 rfl rfl dX3_fill_25 ?_
      refine V_iload_n (pc := 28) h 1 dX3_fill_28 rfl ?_
      obtain ⟨v_29, e_v_29, q⟩ := bs q
      refine V_lald (pc := 29) h 10 rfl e_v_29 dX3_fill_29 ?_
      refine V_goto (pc := 30) (tgt := 34) h dX3_fill_30 (by decide) ?_
      exact vj_L_fill_34 h F a oL oJ l1 v_29 L_stretch L_rest L_forceRise L_forceStart L_slipRise L_slipStart L_under L_byFirst L_byLoad L_bare L_scale L_firstRise L_firstStart J_give J_clear J_yieldAt J_soft J_breakAt J_out J_pitches J_bolts J_upper J_lower _ q k1 k2

set_option maxHeartbeats 4000000 in
set_option maxRecDepth 100000 in
theorem vl_L_fill_2 {G : Gm} (h : VOk G cX3_fill RX3 5 (rmC 1 0 0)) (F : Nat) (a : Nat → Nat) (oL : Nat) (oJ : Nat) (l1 : Int32) (L_stretch : Nat → Int32) (L_rest : Nat → Int64) (L_forceRise : Nat → Int64) (L_forceStart : Nat → Int64) (L_slipRise : Nat → Int64) (L_slipStart : Nat → Int64) (L_under : Int64) (L_byFirst : Nat → Int64) (L_byLoad : Nat → Int64) (L_bare : Nat → Int64) (L_scale : Nat → Int64) (L_firstRise : Int64) (L_firstStart : Int64) (J_give : Nat → Int32) (J_clear : Nat → Int32) (J_yieldAt : Nat → Int32) (J_soft : Nat → Int32) (J_breakAt : Nat → Int32) (J_out : Nat → Int32) (J_pitches : Nat → Int32) (J_bolts : Int32) (J_upper : Int32) (J_lower : Int32) (r : (Nat → Int64) × (Nat → Int64) × (Nat → Int64) × (Nat → Int64)) (q : iter (un5 (fb_L_fill_2 L_stretch L_rest L_under L_byFirst L_byLoad L_bare L_scale L_firstRise L_firstStart J_bolts)) F (l1, L_forceRise, L_forceStart, L_slipRise, L_slipStart) = some r) (kx : V G 0 0 (wL (gK G) a oL oJ L_stretch L_rest (r.1) (r.2.1) (r.2.2.1) (r.2.2.2) L_under L_byFirst L_byLoad L_bare L_scale L_firstRise L_firstStart ++ (wJ (gK G) a oJ J_give J_clear J_yieldAt J_soft J_breakAt J_out J_pitches J_bolts J_upper J_lower)) 173 [] []) : V G 0 0 (wL (gK G) a oL oJ L_stretch L_rest L_forceRise L_forceStart L_slipRise L_slipStart L_under L_byFirst L_byLoad L_bare L_scale L_firstRise L_firstStart ++ (wJ (gK G) a oJ J_give J_clear J_yieldAt J_soft J_breakAt J_out J_pitches J_bolts J_upper J_lower)) 2 [(0, .ref (a oL)), (1, .int l1)] [] := by
  have hh := iter_ind (body := un5 (fb_L_fill_2 L_stretch L_rest L_under L_byFirst L_byLoad L_bare L_scale L_firstRise L_firstStart J_bolts)) (P := fun z => V G 0 0 (wL (gK G) a oL oJ L_stretch L_rest (z.2.1) (z.2.2.1) (z.2.2.2.1) (z.2.2.2.2) L_under L_byFirst L_byLoad L_bare L_scale L_firstRise L_firstStart ++ (wJ (gK G) a oJ J_give J_clear J_yieldAt J_soft J_breakAt J_out J_pitches J_bolts J_upper J_lower)) 2 [(0, .ref (a oL)), (1, .int (z.1))] []) (X := fun r => V G 0 0 (wL (gK G) a oL oJ L_stretch L_rest (r.1) (r.2.1) (r.2.2.1) (r.2.2.2) L_under L_byFirst L_byLoad L_bare L_scale L_firstRise L_firstStart ++ (wJ (gK G) a oJ J_give J_clear J_yieldAt J_soft J_breakAt J_out J_pitches J_bolts J_upper J_lower)) 173 [] []) (fun z o qb j1 j2 => vb_L_fill_2 h F a oL oJ (z.1) L_stretch L_rest (z.2.1) (z.2.2.1) (z.2.2.2.1) (z.2.2.2.2) L_under L_byFirst L_byLoad L_bare L_scale L_firstRise L_firstStart J_give J_clear J_yieldAt J_soft J_breakAt J_out J_pitches J_bolts J_upper J_lower o qb (fun y0 y1 y2 y3 y4 e => j1 (y0, y1, y2, y3, y4) e) j2) F (l1, L_forceRise, L_forceStart, L_slipRise, L_slipStart) r q kx
  exact hh

set_option maxHeartbeats 4000000 in
set_option maxRecDepth 100000 in
theorem v_L_fill {G : Gm} (h : VOk G cX3_fill RX3 5 (rmC 1 0 0)) (F : Nat) (a : Nat → Nat) (oL : Nat) (oJ : Nat) (L_stretch : Nat → Int32) (L_rest : Nat → Int64) (L_forceRise : Nat → Int64) (L_forceStart : Nat → Int64) (L_slipRise : Nat → Int64) (L_slipStart : Nat → Int64) (L_under : Int64) (L_byFirst : Nat → Int64) (L_byLoad : Nat → Int64) (L_bare : Nat → Int64) (L_scale : Nat → Int64) (L_firstRise : Int64) (L_firstStart : Int64) (J_give : Nat → Int32) (J_clear : Nat → Int32) (J_yieldAt : Nat → Int32) (J_soft : Nat → Int32) (J_breakAt : Nat → Int32) (J_out : Nat → Int32) (J_pitches : Nat → Int32) (J_bolts : Int32) (J_upper : Int32) (J_lower : Int32) (o : (Nat → Int64) × (Nat → Int64) × (Nat → Int64) × (Nat → Int64)) (q : f_L_fill F L_stretch L_rest L_forceRise L_forceStart L_slipRise L_slipStart L_under L_byFirst L_byLoad L_bare L_scale L_firstRise L_firstStart J_bolts = some o) {Pst : Option Value → va_W → Prop} (hq : RetQ G 0 0 none Pst) (hp : Pst none (wL (gK G) a oL oJ L_stretch L_rest (o.1) (o.2.1) (o.2.2.1) (o.2.2.2) L_under L_byFirst L_byLoad L_bare L_scale L_firstRise L_firstStart ++ (wJ (gK G) a oJ J_give J_clear J_yieldAt J_soft J_breakAt J_out J_pitches J_bolts J_upper J_lower))) : V G 0 0 (wL (gK G) a oL oJ L_stretch L_rest L_forceRise L_forceStart L_slipRise L_slipStart L_under L_byFirst L_byLoad L_bare L_scale L_firstRise L_firstStart ++ (wJ (gK G) a oJ J_give J_clear J_yieldAt J_soft J_breakAt J_out J_pitches J_bolts J_upper J_lower)) 0 [(0, .ref (a oL))] [] := by
  unfold f_L_fill at q
  refine V_iconst (pc := 0) h dX3_fill_0 ic_0 ?_
  refine V_istore_n (pc := 1) h [(1, .int (0 : Int32)), (0, .ref (a oL))] dX3_fill_1 (Nat.le_of_ble_eq_true rfl) rfl ?_
  obtain ⟨L_forceRise_2, L_forceStart_2, L_slipRise_2, L_slipStart_2, e_2, q⟩ := bs4 q
  refine V_sub [(0, .ref (a oL)), (1, .int (0 : Int32))] [1, 0] rfl ?_
  refine vl_L_fill_2 h F a oL oJ (0 : Int32) L_stretch L_rest L_forceRise L_forceStart L_slipRise L_slipStart L_under L_byFirst L_byLoad L_bare L_scale L_firstRise L_firstStart J_give J_clear J_yieldAt J_soft J_breakAt J_out J_pitches J_bolts J_upper J_lower _ e_2 ?_
  show V G 0 0 (wL (gK G) a oL oJ L_stretch L_rest L_forceRise_2 L_forceStart_2 L_slipRise_2 L_slipStart_2 L_under L_byFirst L_byLoad L_bare L_scale L_firstRise L_firstStart ++ (wJ (gK G) a oJ J_give J_clear J_yieldAt J_soft J_breakAt J_out J_pitches J_bolts J_upper J_lower)) 173 [] []
  obtain rfl := Option.some.inj q
  exact V_vret (pc := 173) h hq dX3_fill_173 hp

set_option maxHeartbeats 4000000 in
set_option maxRecDepth 100000 in
theorem t_L_fill (K : Kd) (F : Nat) (a : Nat → Nat) (oL : Nat) (oJ : Nat) (L_stretch : Nat → Int32) (L_rest : Nat → Int64) (L_forceRise : Nat → Int64) (L_forceStart : Nat → Int64) (L_slipRise : Nat → Int64) (L_slipStart : Nat → Int64) (L_under : Int64) (L_byFirst : Nat → Int64) (L_byLoad : Nat → Int64) (L_bare : Nat → Int64) (L_scale : Nat → Int64) (L_firstRise : Int64) (L_firstStart : Int64) (J_give : Nat → Int32) (J_clear : Nat → Int32) (J_yieldAt : Nat → Int32) (J_soft : Nat → Int32) (J_breakAt : Nat → Int32) (J_out : Nat → Int32) (J_pitches : Nat → Int32) (J_bolts : Int32) (J_upper : Int32) (J_lower : Int32) (L_forceRise' : Nat → Int64) (L_forceStart' : Nat → Int64) (L_slipRise' : Nat → Int64) (L_slipStart' : Nat → Int64) (q : f_L_fill F L_stretch L_rest L_forceRise L_forceStart L_slipRise L_slipStart L_under L_byFirst L_byLoad L_bare L_scale L_firstRise L_firstStart J_bolts = some (L_forceRise', L_forceStart', L_slipRise', L_slipStart')) : Ctr yX3_fill cX3_fill 5 none 1 0 0 K [.ref (a oL)] (wL K a oL oJ L_stretch L_rest L_forceRise L_forceStart L_slipRise L_slipStart L_under L_byFirst L_byLoad L_bare L_scale L_firstRise L_firstStart ++ (wJ K a oJ J_give J_clear J_yieldAt J_soft J_breakAt J_out J_pitches J_bolts J_upper J_lower)) (Eqs none (wL K a oL oJ L_stretch L_rest L_forceRise' L_forceStart' L_slipRise' L_slipStart' L_under L_byFirst L_byLoad L_bare L_scale L_firstRise L_firstStart ++ (wJ K a oJ J_give J_clear J_yieldAt J_soft J_breakAt J_out J_pitches J_bolts J_upper J_lower))) := by
  refine mkCtr (by decide) (Nat.le_of_ble_eq_true rfl) ?_
  intro G hK h hq _
  subst hK
  exact v_L_fill h F a oL oJ L_stretch L_rest L_forceRise L_forceStart L_slipRise L_slipStart L_under L_byFirst L_byLoad L_bare L_scale L_firstRise L_firstStart J_give J_clear J_yieldAt J_soft J_breakAt J_out J_pitches J_bolts J_upper J_lower _ q hq ⟨rfl, rfl⟩

set_option maxHeartbeats 4000000 in
set_option maxRecDepth 100000 in
theorem v_L_forceAt {G : Gm} (h : VOk G cX3_forceAt RX3 6 (rmC 1 0 0)) (F : Nat) (a : Nat → Nat) (oL : Nat) (oJ : Nat) (l1 : Int32) (l2 : Int64) (l4 : Int64) (L_stretch : Nat → Int32) (L_rest : Nat → Int64) (L_forceRise : Nat → Int64) (L_forceStart : Nat → Int64) (L_slipRise : Nat → Int64) (L_slipStart : Nat → Int64) (L_under : Int64) (L_byFirst : Nat → Int64) (L_byLoad : Nat → Int64) (L_bare : Nat → Int64) (L_scale : Nat → Int64) (L_firstRise : Int64) (L_firstStart : Int64) (J_give : Nat → Int32) (J_clear : Nat → Int32) (J_yieldAt : Nat → Int32) (J_soft : Nat → Int32) (J_breakAt : Nat → Int32) (J_out : Nat → Int32) (J_pitches : Nat → Int32) (J_bolts : Int32) (J_upper : Int32) (J_lower : Int32) (o : Int64) (q : f_L_forceAt l1 l2 l4 L_forceRise L_forceStart = some o) {Pst : Option Value → va_W → Prop} (hq : RetQ G 0 0 (some .long) Pst) (hp : Pst (some (.long o)) (wL (gK G) a oL oJ L_stretch L_rest L_forceRise L_forceStart L_slipRise L_slipStart L_under L_byFirst L_byLoad L_bare L_scale L_firstRise L_firstStart ++ (wJ (gK G) a oJ J_give J_clear J_yieldAt J_soft J_breakAt J_out J_pitches J_bolts J_upper J_lower))) : V G 0 0 (wL (gK G) a oL oJ L_stretch L_rest L_forceRise L_forceStart L_slipRise L_slipStart L_under L_byFirst L_byLoad L_bare L_scale L_firstRise L_firstStart ++ (wJ (gK G) a oJ J_give J_clear J_yieldAt J_soft J_breakAt J_out J_pitches J_bolts J_upper J_lower)) 0 [(0, .ref (a oL)), (1, .int l1), (2, .long l2), (4, .long l4)] [] := by
  unfold f_L_forceAt at q
  refine V_aload_n (pc := 0) h 0 dX3_forceAt_0 rfl ?_
  refine V_get (pc := 1) h fl_3_19 0 rfl rfl dX3_forceAt_1 ?_
  refine V_iload_n (pc := 4) h 1 dX3_forceAt_4 rfl ?_
  obtain ⟨v_5, e_v_5, q⟩ := bs q
  refine V_lald (pc := 5) h 3 rfl e_v_5 dX3_forceAt_5 ?_
  refine V_lload_n (pc := 6) h 2 dX3_forceAt_6 rfl ?_
  refine V_lmul (pc := 7) h dX3_forceAt_7 ?_
  refine V_aload_n (pc := 8) h 0 dX3_forceAt_8 rfl ?_
  refine V_get (pc := 9) h fl_3_22 0 rfl rfl dX3_forceAt_9 ?_
  refine V_iload_n (pc := 12) h 1 dX3_forceAt_12 rfl ?_
  obtain ⟨v_13, e_v_13, q⟩ := bs q
  refine V_lald (pc := 13) h 4 rfl e_v_13 dX3_forceAt_13 ?_
  refine V_lload (pc := 14) h 3 dX3_forceAt_14 rfl ?_
  refine V_lmul (pc := 16) h dX3_forceAt_16 ?_
  refine V_ladd (pc := 17) h dX3_forceAt_17 ?_
  obtain rfl := Option.some.inj q
  exact V_lret (pc := 18) h hq dX3_forceAt_18 hp

set_option maxHeartbeats 4000000 in
set_option maxRecDepth 100000 in
theorem t_L_forceAt (K : Kd) (F : Nat) (a : Nat → Nat) (oL : Nat) (oJ : Nat) (l1 : Int32) (l2 : Int64) (l4 : Int64) (L_stretch : Nat → Int32) (L_rest : Nat → Int64) (L_forceRise : Nat → Int64) (L_forceStart : Nat → Int64) (L_slipRise : Nat → Int64) (L_slipStart : Nat → Int64) (L_under : Int64) (L_byFirst : Nat → Int64) (L_byLoad : Nat → Int64) (L_bare : Nat → Int64) (L_scale : Nat → Int64) (L_firstRise : Int64) (L_firstStart : Int64) (J_give : Nat → Int32) (J_clear : Nat → Int32) (J_yieldAt : Nat → Int32) (J_soft : Nat → Int32) (J_breakAt : Nat → Int32) (J_out : Nat → Int32) (J_pitches : Nat → Int32) (J_bolts : Int32) (J_upper : Int32) (J_lower : Int32) (r : Int64) (q : f_L_forceAt l1 l2 l4 L_forceRise L_forceStart = some r) : Ctr yX3_forceAt cX3_forceAt 6 (some .long) 1 0 0 K [.ref (a oL), .int l1, .long l2, .long l4] (wL K a oL oJ L_stretch L_rest L_forceRise L_forceStart L_slipRise L_slipStart L_under L_byFirst L_byLoad L_bare L_scale L_firstRise L_firstStart ++ (wJ K a oJ J_give J_clear J_yieldAt J_soft J_breakAt J_out J_pitches J_bolts J_upper J_lower)) (Eqs (some (.long r)) (wL K a oL oJ L_stretch L_rest L_forceRise L_forceStart L_slipRise L_slipStart L_under L_byFirst L_byLoad L_bare L_scale L_firstRise L_firstStart ++ (wJ K a oJ J_give J_clear J_yieldAt J_soft J_breakAt J_out J_pitches J_bolts J_upper J_lower))) := by
  refine mkCtr (by decide) (Nat.le_of_ble_eq_true rfl) ?_
  intro G hK h hq _
  subst hK
  exact v_L_forceAt h F a oL oJ l1 l2 l4 L_stretch L_rest L_forceRise L_forceStart L_slipRise L_slipStart L_under L_byFirst L_byLoad L_bare L_scale L_firstRise L_firstStart J_give J_clear J_yieldAt J_soft J_breakAt J_out J_pitches J_bolts J_upper J_lower _ q hq ⟨rfl, rfl⟩

set_option maxHeartbeats 4000000 in
set_option maxRecDepth 100000 in
theorem v_L_slipAt {G : Gm} (h : VOk G cX3_slipAt RX3 6 (rmC 1 0 0)) (F : Nat) (a : Nat → Nat) (oL : Nat) (oJ : Nat) (l1 : Int32) (l2 : Int64) (l4 : Int64) (L_stretch : Nat → Int32) (L_rest : Nat → Int64) (L_forceRise : Nat → Int64) (L_forceStart : Nat → Int64) (L_slipRise : Nat → Int64) (L_slipStart : Nat → Int64) (L_under : Int64) (L_byFirst : Nat → Int64) (L_byLoad : Nat → Int64) (L_bare : Nat → Int64) (L_scale : Nat → Int64) (L_firstRise : Int64) (L_firstStart : Int64) (J_give : Nat → Int32) (J_clear : Nat → Int32) (J_yieldAt : Nat → Int32) (J_soft : Nat → Int32) (J_breakAt : Nat → Int32) (J_out : Nat → Int32) (J_pitches : Nat → Int32) (J_bolts : Int32) (J_upper : Int32) (J_lower : Int32) (o : Int64) (q : f_L_slipAt l1 l2 l4 L_slipRise L_slipStart = some o) {Pst : Option Value → va_W → Prop} (hq : RetQ G 0 0 (some .long) Pst) (hp : Pst (some (.long o)) (wL (gK G) a oL oJ L_stretch L_rest L_forceRise L_forceStart L_slipRise L_slipStart L_under L_byFirst L_byLoad L_bare L_scale L_firstRise L_firstStart ++ (wJ (gK G) a oJ J_give J_clear J_yieldAt J_soft J_breakAt J_out J_pitches J_bolts J_upper J_lower))) : V G 0 0 (wL (gK G) a oL oJ L_stretch L_rest L_forceRise L_forceStart L_slipRise L_slipStart L_under L_byFirst L_byLoad L_bare L_scale L_firstRise L_firstStart ++ (wJ (gK G) a oJ J_give J_clear J_yieldAt J_soft J_breakAt J_out J_pitches J_bolts J_upper J_lower)) 0 [(0, .ref (a oL)), (1, .int l1), (2, .long l2), (4, .long l4)] [] := by
  unfold f_L_slipAt at q
  refine V_aload_n (pc := 0) h 0 dX3_slipAt_0 rfl ?_
  refine V_get (pc := 1) h fl_3_25 0 rfl rfl dX3_slipAt_1 ?_
  refine V_iload_n (pc := 4) h 1 dX3_slipAt_4 rfl ?_
  obtain ⟨v_5, e_v_5, q⟩ := bs q
  refine V_lald (pc := 5) h 5 rfl e_v_5 dX3_slipAt_5 ?_
  refine V_lload_n (pc := 6) h 2 dX3_slipAt_6 rfl ?_
  refine V_lmul (pc := 7) h dX3_slipAt_7 ?_
  refine V_aload_n (pc := 8) h 0 dX3_slipAt_8 rfl ?_
  refine V_get (pc := 9) h fl_3_28 0 rfl rfl dX3_slipAt_9 ?_
  refine V_iload_n (pc := 12) h 1 dX3_slipAt_12 rfl ?_
  obtain ⟨v_13, e_v_13, q⟩ := bs q
  refine V_lald (pc := 13) h 6 rfl e_v_13 dX3_slipAt_13 ?_
  refine V_lload (pc := 14) h 3 dX3_slipAt_14 rfl ?_
  refine V_lmul (pc := 16) h dX3_slipAt_16 ?_
  refine V_ladd (pc := 17) h dX3_slipAt_17 ?_
  obtain rfl := Option.some.inj q
  exact V_lret (pc := 18) h hq dX3_slipAt_18 hp

set_option maxHeartbeats 4000000 in
set_option maxRecDepth 100000 in
theorem t_L_slipAt (K : Kd) (F : Nat) (a : Nat → Nat) (oL : Nat) (oJ : Nat) (l1 : Int32) (l2 : Int64) (l4 : Int64) (L_stretch : Nat → Int32) (L_rest : Nat → Int64) (L_forceRise : Nat → Int64) (L_forceStart : Nat → Int64) (L_slipRise : Nat → Int64) (L_slipStart : Nat → Int64) (L_under : Int64) (L_byFirst : Nat → Int64) (L_byLoad : Nat → Int64) (L_bare : Nat → Int64) (L_scale : Nat → Int64) (L_firstRise : Int64) (L_firstStart : Int64) (J_give : Nat → Int32) (J_clear : Nat → Int32) (J_yieldAt : Nat → Int32) (J_soft : Nat → Int32) (J_breakAt : Nat → Int32) (J_out : Nat → Int32) (J_pitches : Nat → Int32) (J_bolts : Int32) (J_upper : Int32) (J_lower : Int32) (r : Int64) (q : f_L_slipAt l1 l2 l4 L_slipRise L_slipStart = some r) : Ctr yX3_slipAt cX3_slipAt 6 (some .long) 1 0 0 K [.ref (a oL), .int l1, .long l2, .long l4] (wL K a oL oJ L_stretch L_rest L_forceRise L_forceStart L_slipRise L_slipStart L_under L_byFirst L_byLoad L_bare L_scale L_firstRise L_firstStart ++ (wJ K a oJ J_give J_clear J_yieldAt J_soft J_breakAt J_out J_pitches J_bolts J_upper J_lower)) (Eqs (some (.long r)) (wL K a oL oJ L_stretch L_rest L_forceRise L_forceStart L_slipRise L_slipStart L_under L_byFirst L_byLoad L_bare L_scale L_firstRise L_firstStart ++ (wJ K a oJ J_give J_clear J_yieldAt J_soft J_breakAt J_out J_pitches J_bolts J_upper J_lower))) := by
  refine mkCtr (by decide) (Nat.le_of_ble_eq_true rfl) ?_
  intro G hK h hq _
  subst hK
  exact v_L_slipAt h F a oL oJ l1 l2 l4 L_stretch L_rest L_forceRise L_forceStart L_slipRise L_slipStart L_under L_byFirst L_byLoad L_bare L_scale L_firstRise L_firstStart J_give J_clear J_yieldAt J_soft J_breakAt J_out J_pitches J_bolts J_upper J_lower _ q hq ⟨rfl, rfl⟩

set_option maxHeartbeats 4000000 in
set_option maxRecDepth 100000 in
theorem vb_L_borneAt_6 {G : Gm} (h : VOk G cX3_borneAt RX3 7 (rmC 2 0 0)) (F : Nat) (a : Nat → Nat) (oL : Nat) (oJ : Nat) (l1 : Int32) (l2 : Int64) (l4 : Int64) (l6 : Int32) (L_stretch : Nat → Int32) (L_rest : Nat → Int64) (L_forceRise : Nat → Int64) (L_forceStart : Nat → Int64) (L_slipRise : Nat → Int64) (L_slipStart : Nat → Int64) (L_under : Int64) (L_byFirst : Nat → Int64) (L_byLoad : Nat → Int64) (L_bare : Nat → Int64) (L_scale : Nat → Int64) (L_firstRise : Int64) (L_firstStart : Int64) (J_give : Nat → Int32) (J_clear : Nat → Int32) (J_yieldAt : Nat → Int32) (J_soft : Nat → Int32) (J_breakAt : Nat → Int32) (J_out : Nat → Int32) (J_pitches : Nat → Int32) (J_bolts : Int32) (J_upper : Int32) (J_lower : Int32) (o : (Int64 × Int32) ⊕ (Int64)) (q : fb_L_borneAt_6 l1 l2 L_forceRise L_forceStart J_bolts l4 l6 = some o) (k1 : ∀ (l4' : Int64) (l6' : Int32), o = .inl (l4', l6') → V G 0 0 (wL (gK G) a oL oJ L_stretch L_rest L_forceRise L_forceStart L_slipRise L_slipStart L_under L_byFirst L_byLoad L_bare L_scale L_firstRise L_firstStart ++ (wJ (gK G) a oJ J_give J_clear J_yieldAt J_soft J_breakAt J_out J_pitches J_bolts J_upper J_lower)) 6 [(0, .ref (a oL)), (1, .int l1), (2, .long l2), (4, .long l4'), (6, .int l6')] []) (k2 : ∀ (r : Int64), o = .inr r → V G 0 0 (wL (gK G) a oL oJ L_stretch L_rest L_forceRise L_forceStart L_slipRise L_slipStart L_under L_byFirst L_byLoad L_bare L_scale L_firstRise L_firstStart ++ (wJ (gK G) a oJ J_give J_clear J_yieldAt J_soft J_breakAt J_out J_pitches J_bolts J_upper J_lower)) 43 [(4, .long r)] []) : V G 0 0 (wL (gK G) a oL oJ L_stretch L_rest L_forceRise L_forceStart L_slipRise L_slipStart L_under L_byFirst L_byLoad L_bare L_scale L_firstRise L_firstStart ++ (wJ (gK G) a oJ J_give J_clear J_yieldAt J_soft J_breakAt J_out J_pitches J_bolts J_upper J_lower)) 6 [(0, .ref (a oL)), (1, .int l1), (2, .long l2), (4, .long l4), (6, .int l6)] [] := by
  unfold fb_L_borneAt_6 at q
  refine V_iload (pc := 6) h 4 dX3_borneAt_6 rfl ?_
  refine V_iload_n (pc := 8) h 1 dX3_borneAt_8 rfl ?_
  refine V_icmp_gt (pc := 9) h 43 dX3_borneAt_9 (by decide) (fun hc => ?_) (fun hc => ?_)
  · have q := if_p hc q
    refine V_sub [(4, .long l4)] [3] rfl ?_
    have kk := k2 _ (Option.some.inj q).symm
    exact kk
  · have q := if_n hc q
    refine V_iload (pc := 12) h 4 dX3_borneAt_12 rfl ?_
    refine V_aload_n (pc := 14) h 0 dX3_borneAt_14 rfl ?_
    refine V_get (pc := 15) h fl_3_47 0 rfl rfl dX3_borneAt_15 ?_
    refine V_get (pc := 18) h fl_3_60 11 rfl rfl dX3_borneAt_18 ?_
    refine V_icmp_ge (pc := 21) h 43 dX3_borneAt_21 (by decide) (fun hc => ?_) (fun hc => ?_)
    · have q := if_p hc q
      refine V_sub [(4, .long l4)] [3] rfl ?_
      have kk := k2 _ (Option.some.inj q).symm
      exact kk
    · have q := if_n hc q
      refine V_lload (pc := 24) h 3 dX3_borneAt_24 rfl ?_
      refine V_aload_n (pc := 26) h 0 dX3_borneAt_26 rfl ?_
      refine V_iload (pc := 27) h 4 dX3_borneAt_27 rfl ?_
      refine V_lload_n (pc := 29) h 2 dX3_borneAt_29 rfl ?_
      refine V_lconst (pc := 30) h dX3_borneAt_30 lc_1 ?_
      obtain ⟨r_31, e_31, q⟩ := bs q
      refine V_wallV (pc := 31) h _ (t_L_forceAt (gK G) F a oL oJ l6 l2 (1 : Int64) L_stretch L_rest L_forceRise L_forceStart L_slipRise L_slipStart L_under L_byFirst L_byLoad L_bare L_scale L_firstRise L_firstStart J_give J_clear J_yieldAt J_soft J_breakAt J_out J_pitches J_bolts J_upper J_lower _ e_31) mf_L_forceAt lk_RX3_72 im_L_forceAt se_L_forceAt ⟨Nat.le_of_ble_eq_true rfl, Nat.le_of_ble_eq_true rfl⟩ ⟨Nat.zero_le _, Nat.zero_le _⟩ rfl 0 rfl rfl rfl rfl (Nat.le_of_ble_eq_true rfl) [.long r_31, .long l4] rfl dX3_borneAt_31 ?_
      refine V_ladd (pc := 34) h dX3_borneAt_34 ?_
      refine V_topl (pc := 35) (fun l4_35 e_l4_35 => ?_)
      have q := nm_use e_l4_35 q
      refine V_lstore (pc := 35) h [(4, .long l4_35), (0, .ref (a oL)), (1, .int l1), (2, .long l2), (6, .int l6)] dX3_borneAt_35 (Nat.le_of_ble_eq_true rfl) rfl ?_
      obtain ⟨l6_37, e_l6_37⟩ : ∃ y : Int32, (l6 + (1 : Int32)) = y := ⟨_, rfl⟩
      have q := nm_use e_l6_37 q
      refine V_iinc (pc := 37) h [(6, .int l6_37), (4, .long l4_35), (0, .ref (a oL)), (1, .int l1), (2, .long l2)] 4 dX3_borneAt_37 rfl ic_1 (Nat.le_of_ble_eq_true rfl) (by rw [e_l6_37]; rfl) ?_
      refine V_goto (pc := 40) (tgt := 6) h dX3_borneAt_40 (by decide) ?_
      refine V_sub [(0, .ref (a oL)), (1, .int l1), (2, .long l2), (4, .long l4_35), (6, .int l6_37)] [2, 3, 4, 1, 0] rfl ?_
      exact k1 l4_35 l6_37 (Option.some.inj q).symm

set_option maxHeartbeats 4000000 in
set_option maxRecDepth 100000 in
theorem vl_L_borneAt_6 {G : Gm} (h : VOk G cX3_borneAt RX3 7 (rmC 2 0 0)) (F : Nat) (a : Nat → Nat) (oL : Nat) (oJ : Nat) (l1 : Int32) (l2 : Int64) (l4 : Int64) (l6 : Int32) (L_stretch : Nat → Int32) (L_rest : Nat → Int64) (L_forceRise : Nat → Int64) (L_forceStart : Nat → Int64) (L_slipRise : Nat → Int64) (L_slipStart : Nat → Int64) (L_under : Int64) (L_byFirst : Nat → Int64) (L_byLoad : Nat → Int64) (L_bare : Nat → Int64) (L_scale : Nat → Int64) (L_firstRise : Int64) (L_firstStart : Int64) (J_give : Nat → Int32) (J_clear : Nat → Int32) (J_yieldAt : Nat → Int32) (J_soft : Nat → Int32) (J_breakAt : Nat → Int32) (J_out : Nat → Int32) (J_pitches : Nat → Int32) (J_bolts : Int32) (J_upper : Int32) (J_lower : Int32) (r : Int64) (q : iter (un2 (fb_L_borneAt_6 l1 l2 L_forceRise L_forceStart J_bolts)) F (l4, l6) = some r) (kx : V G 0 0 (wL (gK G) a oL oJ L_stretch L_rest L_forceRise L_forceStart L_slipRise L_slipStart L_under L_byFirst L_byLoad L_bare L_scale L_firstRise L_firstStart ++ (wJ (gK G) a oJ J_give J_clear J_yieldAt J_soft J_breakAt J_out J_pitches J_bolts J_upper J_lower)) 43 [(4, .long r)] []) : V G 0 0 (wL (gK G) a oL oJ L_stretch L_rest L_forceRise L_forceStart L_slipRise L_slipStart L_under L_byFirst L_byLoad L_bare L_scale L_firstRise L_firstStart ++ (wJ (gK G) a oJ J_give J_clear J_yieldAt J_soft J_breakAt J_out J_pitches J_bolts J_upper J_lower)) 6 [(0, .ref (a oL)), (1, .int l1), (2, .long l2), (4, .long l4), (6, .int l6)] [] := by
  have hh := iter_ind (body := un2 (fb_L_borneAt_6 l1 l2 L_forceRise L_forceStart J_bolts)) (P := fun z => V G 0 0 (wL (gK G) a oL oJ L_stretch L_rest L_forceRise L_forceStart L_slipRise L_slipStart L_under L_byFirst L_byLoad L_bare L_scale L_firstRise L_firstStart ++ (wJ (gK G) a oJ J_give J_clear J_yieldAt J_soft J_breakAt J_out J_pitches J_bolts J_upper J_lower)) 6 [(0, .ref (a oL)), (1, .int l1), (2, .long l2), (4, .long (z.1)), (6, .int (z.2))] []) (X := fun r => V G 0 0 (wL (gK G) a oL oJ L_stretch L_rest L_forceRise L_forceStart L_slipRise L_slipStart L_under L_byFirst L_byLoad L_bare L_scale L_firstRise L_firstStart ++ (wJ (gK G) a oJ J_give J_clear J_yieldAt J_soft J_breakAt J_out J_pitches J_bolts J_upper J_lower)) 43 [(4, .long r)] []) (fun z o qb j1 j2 => vb_L_borneAt_6 h F a oL oJ l1 l2 (z.1) (z.2) L_stretch L_rest L_forceRise L_forceStart L_slipRise L_slipStart L_under L_byFirst L_byLoad L_bare L_scale L_firstRise L_firstStart J_give J_clear J_yieldAt J_soft J_breakAt J_out J_pitches J_bolts J_upper J_lower o qb (fun y0 y1 e => j1 (y0, y1) e) j2) F (l4, l6) r q kx
  exact hh

set_option maxHeartbeats 4000000 in
set_option maxRecDepth 100000 in
theorem v_L_borneAt {G : Gm} (h : VOk G cX3_borneAt RX3 7 (rmC 2 0 0)) (F : Nat) (a : Nat → Nat) (oL : Nat) (oJ : Nat) (l1 : Int32) (l2 : Int64) (L_stretch : Nat → Int32) (L_rest : Nat → Int64) (L_forceRise : Nat → Int64) (L_forceStart : Nat → Int64) (L_slipRise : Nat → Int64) (L_slipStart : Nat → Int64) (L_under : Int64) (L_byFirst : Nat → Int64) (L_byLoad : Nat → Int64) (L_bare : Nat → Int64) (L_scale : Nat → Int64) (L_firstRise : Int64) (L_firstStart : Int64) (J_give : Nat → Int32) (J_clear : Nat → Int32) (J_yieldAt : Nat → Int32) (J_soft : Nat → Int32) (J_breakAt : Nat → Int32) (J_out : Nat → Int32) (J_pitches : Nat → Int32) (J_bolts : Int32) (J_upper : Int32) (J_lower : Int32) (o : Int64) (q : f_L_borneAt F l1 l2 L_forceRise L_forceStart J_bolts = some o) {Pst : Option Value → va_W → Prop} (hq : RetQ G 0 0 (some .long) Pst) (hp : Pst (some (.long o)) (wL (gK G) a oL oJ L_stretch L_rest L_forceRise L_forceStart L_slipRise L_slipStart L_under L_byFirst L_byLoad L_bare L_scale L_firstRise L_firstStart ++ (wJ (gK G) a oJ J_give J_clear J_yieldAt J_soft J_breakAt J_out J_pitches J_bolts J_upper J_lower))) : V G 0 0 (wL (gK G) a oL oJ L_stretch L_rest L_forceRise L_forceStart L_slipRise L_slipStart L_under L_byFirst L_byLoad L_bare L_scale L_firstRise L_firstStart ++ (wJ (gK G) a oJ J_give J_clear J_yieldAt J_soft J_breakAt J_out J_pitches J_bolts J_upper J_lower)) 0 [(0, .ref (a oL)), (1, .int l1), (2, .long l2)] [] := by
  unfold f_L_borneAt at q
  refine V_lconst (pc := 0) h dX3_borneAt_0 lc_0 ?_
  refine V_lstore (pc := 1) h [(4, .long (0 : Int64)), (0, .ref (a oL)), (1, .int l1), (2, .long l2)] dX3_borneAt_1 (Nat.le_of_ble_eq_true rfl) rfl ?_
  refine V_iconst (pc := 3) h dX3_borneAt_3 ic_0 ?_
  refine V_istore (pc := 4) h [(6, .int (0 : Int32)), (4, .long (0 : Int64)), (0, .ref (a oL)), (1, .int l1), (2, .long l2)] dX3_borneAt_4 (Nat.le_of_ble_eq_true rfl) rfl ?_
  obtain ⟨l4_6, e_6, q⟩ := bs q
  refine V_sub [(0, .ref (a oL)), (1, .int l1), (2, .long l2), (4, .long (0 : Int64)), (6, .int (0 : Int32))] [2, 3, 4, 1, 0] rfl ?_
  refine vl_L_borneAt_6 h F a oL oJ l1 l2 (0 : Int64) (0 : Int32) L_stretch L_rest L_forceRise L_forceStart L_slipRise L_slipStart L_under L_byFirst L_byLoad L_bare L_scale L_firstRise L_firstStart J_give J_clear J_yieldAt J_soft J_breakAt J_out J_pitches J_bolts J_upper J_lower _ e_6 ?_
  show V G 0 0 (wL (gK G) a oL oJ L_stretch L_rest L_forceRise L_forceStart L_slipRise L_slipStart L_under L_byFirst L_byLoad L_bare L_scale L_firstRise L_firstStart ++ (wJ (gK G) a oJ J_give J_clear J_yieldAt J_soft J_breakAt J_out J_pitches J_bolts J_upper J_lower)) 43 [(4, .long l4_6)] []
  refine V_lload (pc := 43) h 0 dX3_borneAt_43 rfl ?_
  obtain rfl := Option.some.inj q
  exact V_lret (pc := 45) h hq dX3_borneAt_45 hp

set_option maxHeartbeats 4000000 in
set_option maxRecDepth 100000 in
theorem t_L_borneAt (K : Kd) (F : Nat) (a : Nat → Nat) (oL : Nat) (oJ : Nat) (l1 : Int32) (l2 : Int64) (L_stretch : Nat → Int32) (L_rest : Nat → Int64) (L_forceRise : Nat → Int64) (L_forceStart : Nat → Int64) (L_slipRise : Nat → Int64) (L_slipStart : Nat → Int64) (L_under : Int64) (L_byFirst : Nat → Int64) (L_byLoad : Nat → Int64) (L_bare : Nat → Int64) (L_scale : Nat → Int64) (L_firstRise : Int64) (L_firstStart : Int64) (J_give : Nat → Int32) (J_clear : Nat → Int32) (J_yieldAt : Nat → Int32) (J_soft : Nat → Int32) (J_breakAt : Nat → Int32) (J_out : Nat → Int32) (J_pitches : Nat → Int32) (J_bolts : Int32) (J_upper : Int32) (J_lower : Int32) (r : Int64) (q : f_L_borneAt F l1 l2 L_forceRise L_forceStart J_bolts = some r) : Ctr yX3_borneAt cX3_borneAt 7 (some .long) 2 0 0 K [.ref (a oL), .int l1, .long l2] (wL K a oL oJ L_stretch L_rest L_forceRise L_forceStart L_slipRise L_slipStart L_under L_byFirst L_byLoad L_bare L_scale L_firstRise L_firstStart ++ (wJ K a oJ J_give J_clear J_yieldAt J_soft J_breakAt J_out J_pitches J_bolts J_upper J_lower)) (Eqs (some (.long r)) (wL K a oL oJ L_stretch L_rest L_forceRise L_forceStart L_slipRise L_slipStart L_under L_byFirst L_byLoad L_bare L_scale L_firstRise L_firstStart ++ (wJ K a oJ J_give J_clear J_yieldAt J_soft J_breakAt J_out J_pitches J_bolts J_upper J_lower))) := by
  refine mkCtr (by decide) (Nat.le_of_ble_eq_true rfl) ?_
  intro G hK h hq _
  subst hK
  exact v_L_borneAt h F a oL oJ l1 l2 L_stretch L_rest L_forceRise L_forceStart L_slipRise L_slipStart L_under L_byFirst L_byLoad L_bare L_scale L_firstRise L_firstStart J_give J_clear J_yieldAt J_soft J_breakAt J_out J_pitches J_bolts J_upper J_lower _ q hq ⟨rfl, rfl⟩

set_option maxHeartbeats 4000000 in
set_option maxRecDepth 100000 in
theorem vb_X_divisor_31 {G : Gm} (h : VOk G cX6_divisor RX6 11 (rmC 1 0 0)) (F : Nat) (a : Nat → Nat) (l4 : Int64) (l6 : Int64) (l8 : Int32) (o : (Int64 × Int64 × Int32) ⊕ (Int64)) (q : fb_X_divisor_31 l4 l6 l8 = some o) (k1 : ∀ (l4' : Int64) (l6' : Int64) (l8' : Int32), o = .inl (l4', l6', l8') → V G 0 0 ([]) 31 [(4, .long l4'), (6, .long l6'), (8, .int l8')] []) (k2 : ∀ (r : Int64), o = .inr r → V G 0 0 ([]) 66 [(4, .long r)] []) : V G 0 0 ([]) 31 [(4, .long l4), (6, .long l6), (8, .int l8)] [] := by
  unfold fb_X_divisor_31 at q
  refine V_iload (pc := 31) h 2 dX6_divisor_31 rfl ?_
  refine V_bipush (pc := 33) h dX6_divisor_33 bi_100 ?_
  refine V_icmp_ge (pc := 35) h 66 dX6_divisor_35 (by decide) (fun hc => ?_) (fun hc => ?_)
  · have q := if_p hc q
    refine V_sub [(4, .long l4)] [0] rfl ?_
    have kk := k2 _ (Option.some.inj q).symm
    exact kk
  · have q := if_n hc q
    refine V_lload (pc := 38) h 1 dX6_divisor_38 rfl ?_
    refine V_lconst (pc := 40) h dX6_divisor_40 lc_0 ?_
    refine V_lcmp_eq (pc := 41) (pc2 := 0) h 66 dX6_divisor_41 dX6_divisor_42 (by decide) (fun hc => ?_) (fun hc => ?_)
    · have q := if_p hc q
      refine V_sub [(4, .long l4)] [0] rfl ?_
      have kk := k2 _ (Option.some.inj q).symm
      exact kk
    · have q := if_n hc q
      refine V_lload (pc := 45) h 0 dX6_divisor_45 rfl ?_
      refine V_lload (pc := 47) h 1 dX6_divisor_47 rfl ?_
      obtain ⟨v_49, e_v_49, q⟩ := bs q
      refine V_lrem (pc := 49) h e_v_49 dX6_divisor_49 ?_
      refine V_lstore (pc := 50) h [(9, .long v_49), (4, .long l4), (6, .long l6), (8, .int l8)] dX6_divisor_50 (Nat.le_of_ble_eq_true rfl) rfl ?_
      refine V_lload (pc := 52) h 2 dX6_divisor_52 rfl ?_
      refine V_lstore (pc := 54) h [(4, .long l6), (9, .long v_49), (6, .long l6), (8, .int l8)] dX6_divisor_54 (Nat.le_of_ble_eq_true rfl) rfl ?_
      refine V_lload (pc := 56) h 1 dX6_divisor_56 rfl ?_
      refine V_lstore (pc := 58) h [(6, .long v_49), (4, .long l6), (9, .long v_49), (8, .int l8)] dX6_divisor_58 (Nat.le_of_ble_eq_true rfl) rfl ?_
      obtain ⟨l8_60, e_l8_60⟩ : ∃ y : Int32, (l8 + (1 : Int32)) = y := ⟨_, rfl⟩
      have q := nm_use e_l8_60 q
      refine V_iinc (pc := 60) h [(8, .int l8_60), (6, .long v_49), (4, .long l6), (9, .long v_49)] 3 dX6_divisor_60 rfl ic_1 (Nat.le_of_ble_eq_true rfl) (by rw [e_l8_60]; rfl) ?_
      refine V_goto (pc := 63) (tgt := 31) h dX6_divisor_63 (by decide) ?_
      refine V_sub [(4, .long l6), (6, .long v_49), (8, .int l8_60)] [2, 1, 0] rfl ?_
      exact k1 l6 v_49 l8_60 (Option.some.inj q).symm

set_option maxHeartbeats 4000000 in
set_option maxRecDepth 100000 in
theorem vl_X_divisor_31 {G : Gm} (h : VOk G cX6_divisor RX6 11 (rmC 1 0 0)) (F : Nat) (a : Nat → Nat) (l4 : Int64) (l6 : Int64) (l8 : Int32) (r : Int64) (q : iter (un3 (fb_X_divisor_31)) F (l4, l6, l8) = some r) (kx : V G 0 0 ([]) 66 [(4, .long r)] []) : V G 0 0 ([]) 31 [(4, .long l4), (6, .long l6), (8, .int l8)] [] := by
  have hh := iter_ind (body := un3 (fb_X_divisor_31)) (P := fun z => V G 0 0 ([]) 31 [(4, .long (z.1)), (6, .long (z.2.1)), (8, .int (z.2.2))] []) (X := fun r => V G 0 0 ([]) 66 [(4, .long r)] []) (fun z o qb j1 j2 => vb_X_divisor_31 h F a (z.1) (z.2.1) (z.2.2) o qb (fun y0 y1 y2 e => j1 (y0, y1, y2) e) j2) F (l4, l6, l8) r q kx
  exact hh

set_option maxHeartbeats 4000000 in
set_option maxRecDepth 100000 in
theorem vj_X_divisor_26 {G : Gm} (h : VOk G cX6_divisor RX6 11 (rmC 1 0 0)) (F : Nat) (a : Nat → Nat) (l4 : Int64) (s0 : Int64) (o : Int64) (q : fj_X_divisor_26 F l4 s0 = some o) {Pst : Option Value → va_W → Prop} (hq : RetQ G 0 0 (some .long) Pst) (hp : Pst (some (.long o)) ([])) : V G 0 0 ([]) 26 [(4, .long l4)] [.long s0] := by
  unfold fj_X_divisor_26 at q
  refine V_lstore (pc := 26) h [(6, .long s0), (4, .long l4)] dX6_divisor_26 (Nat.le_of_ble_eq_true rfl) rfl ?_
  refine V_iconst (pc := 28) h dX6_divisor_28 ic_0 ?_
  refine V_istore (pc := 29) h [(8, .int (0 : Int32)), (6, .long s0), (4, .long l4)] dX6_divisor_29 (Nat.le_of_ble_eq_true rfl) rfl ?_
  obtain ⟨l4_31, e_31, q⟩ := bs q
  refine V_sub [(4, .long l4), (6, .long s0), (8, .int (0 : Int32))] [2, 1, 0] rfl ?_
  refine vl_X_divisor_31 h F a l4 s0 (0 : Int32) _ e_31 ?_
  show V G 0 0 ([]) 66 [(4, .long l4_31)] []
  refine V_lload (pc := 66) h 0 dX6_divisor_66 rfl ?_
  obtain rfl := Option.some.inj q
  exact V_lret (pc := 68) h hq dX6_divisor_68 hp

set_option maxHeartbeats 4000000 in
set_option maxRecDepth 100000 in
theorem vj_X_divisor_12 {G : Gm} (h : VOk G cX6_divisor RX6 11 (rmC 1 0 0)) (F : Nat) (a : Nat → Nat) (l2 : Int64) (s0 : Int64) (o : Int64) (q : fj_X_divisor_12 F l2 s0 = some o) {Pst : Option Value → va_W → Prop} (hq : RetQ G 0 0 (some .long) Pst) (hp : Pst (some (.long o)) ([])) : V G 0 0 ([]) 12 [(2, .long l2)] [.long s0] := by
  unfold fj_X_divisor_12 at q
  refine V_lstore (pc := 12) h [(4, .long s0), (2, .long l2)] dX6_divisor_12 (Nat.le_of_ble_eq_true rfl) rfl ?_
  refine V_lload_n (pc := 14) h 1 dX6_divisor_14 rfl ?_
  refine V_lconst (pc := 15) h dX6_divisor_15 lc_0 ?_
  refine V_lcmp_ge (pc := 16) (pc2 := 0) h 25 dX6_divisor_16 dX6_divisor_17 (by decide) (fun hc => ?_) (fun hc => ?_)
  · have q := if_p hc q
    refine V_lload_n (pc := 25) h 1 dX6_divisor_25 rfl ?_
    refine V_sub [(4, .long s0)] [0] rfl ?_
    exact vj_X_divisor_26 h F a s0 l2 _ q hq hp
  · have q := if_n hc q
    refine V_lload_n (pc := 20) h 1 dX6_divisor_20 rfl ?_
    refine V_lneg (pc := 21) h dX6_divisor_21 ?_
    refine V_goto (pc := 22) (tgt := 26) h dX6_divisor_22 (by decide) ?_
    refine V_sub [(4, .long s0)] [0] rfl ?_
    exact vj_X_divisor_26 h F a s0 (-l2) _ q hq hp

set_option maxHeartbeats 4000000 in
set_option maxRecDepth 100000 in
theorem v_X_divisor {G : Gm} (h : VOk G cX6_divisor RX6 11 (rmC 1 0 0)) (F : Nat) (a : Nat → Nat) (l0 : Int64) (l2 : Int64) (o : Int64) (q : f_X_divisor F l0 l2 = some o) {Pst : Option Value → va_W → Prop} (hq : RetQ G 0 0 (some .long) Pst) (hp : Pst (some (.long o)) ([])) : V G 0 0 ([]) 0 [(0, .long l0), (2, .long l2)] [] := by
  unfold f_X_divisor at q
  refine V_lload_n (pc := 0) h 0 dX6_divisor_0 rfl ?_
  refine V_lconst (pc := 1) h dX6_divisor_1 lc_0 ?_
  refine V_lcmp_ge (pc := 2) (pc2 := 0) h 11 dX6_divisor_2 dX6_divisor_3 (by decide) (fun hc => ?_) (fun hc => ?_)
  · have q := if_p hc q
    refine V_lload_n (pc := 11) h 0 dX6_divisor_11 rfl ?_
    refine V_sub [(2, .long l2)] [1] rfl ?_
    exact vj_X_divisor_12 h F a l2 l0 _ q hq hp
  · have q := if_n hc q
    refine V_lload_n (pc := 6) h 0 dX6_divisor_6 rfl ?_
    refine V_lneg (pc := 7) h dX6_divisor_7 ?_
    refine V_goto (pc := 8) (tgt := 12) h dX6_divisor_8 (by decide) ?_
    refine V_sub [(2, .long l2)] [1] rfl ?_
    exact vj_X_divisor_12 h F a l2 (-l0) _ q hq hp

set_option maxHeartbeats 4000000 in
set_option maxRecDepth 100000 in
theorem t_X_divisor (K : Kd) (F : Nat) (l0 : Int64) (l2 : Int64) (r : Int64) (q : f_X_divisor F l0 l2 = some r) : Ctr yX6_divisor cX6_divisor 11 (some .long) 1 0 0 K [.long l0, .long l2] ([]) (Eqs (some (.long r)) ([])) := by
  refine mkCtr (by decide) (Nat.le_of_ble_eq_true rfl) ?_
  intro G hK h hq _
  subst hK
  exact v_X_divisor h F (fun _ => 0) l0 l2 _ q hq ⟨rfl, rfl⟩

set_option maxHeartbeats 4000000 in
set_option maxRecDepth 100000 in
theorem v_R_whole {G : Gm} (h : VOk G cX4_whole RX4 3 (rmC 1 0 0)) (F : Nat) (a : Nat → Nat) (oR : Nat) (l1 : Int64) (R_numbers : Nat → Int64) (R_size : Int32) (o : (Nat → Int64) × Int32) (q : f_R_whole l1 R_numbers R_size = some o) {Pst : Option Value → va_W → Prop} (hq : RetQ G 0 0 none Pst) (hp : Pst none (wR (gK G) a oR (o.1) (o.2))) : V G 0 0 (wR (gK G) a oR R_numbers R_size) 0 [(0, .ref (a oR)), (1, .long l1)] [] := by
  unfold f_R_whole at q
  refine V_aload_n (pc := 0) h 0 dX4_whole_0 rfl ?_
  refine V_get (pc := 1) h fl_4_15 0 rfl rfl dX4_whole_1 ?_
  refine V_aload_n (pc := 4) h 0 dX4_whole_4 rfl ?_
  refine V_get (pc := 5) h fl_4_9 0 rfl rfl dX4_whole_5 ?_
  refine V_alenL (pc := 8) h 1 rfl al_8 dX4_whole_8 ?_
  refine V_icmp_ge (pc := 9) h 29 dX4_whole_9 (by decide) (fun hc => ?_) (fun hc => ?_)
  · have q := if_p hc q
    obtain rfl := Option.some.inj q
    exact V_vret (pc := 29) h hq dX4_whole_29 hp
  · have q := if_n hc q
    refine V_aload_n (pc := 12) h 0 dX4_whole_12 rfl ?_
    refine V_get (pc := 13) h fl_4_9 0 rfl rfl dX4_whole_13 ?_
    refine V_aload_n (pc := 16) h 0 dX4_whole_16 rfl ?_
    refine V_dup (pc := 17) h dX4_whole_17 rfl ?_
    refine V_get (pc := 18) h fl_4_15 0 rfl rfl dX4_whole_18 ?_
    refine V_dup_x1 (pc := 21) h dX4_whole_21 rfl rfl ?_
    refine V_iconst (pc := 22) h dX4_whole_22 ic_1 ?_
    refine V_iadd (pc := 23) h dX4_whole_23 ?_
    refine V_topi (pc := 24) (fun R_size_24 e_R_size_24 => ?_)
    have q := nm_use e_R_size_24 q
    refine V_put (pc := 24) h fl_4_15 fp_4_1 0 (wR (gK G) a oR R_numbers R_size_24) rfl rfl rfl (Nat.le_of_ble_eq_true rfl) rfl dX4_whole_24 ?_
    refine V_lload_n (pc := 27) h 1 dX4_whole_27 rfl ?_
    obtain ⟨R_numbers_28, e_R_numbers_28, q⟩ := bs q
    refine V_last (pc := 28) h 1 (wR (gK G) a oR R_numbers_28 R_size_24) rfl e_R_numbers_28 rfl dX4_whole_28 ?_
    obtain rfl := Option.some.inj q
    exact V_vret (pc := 29) h hq dX4_whole_29 hp

set_option maxHeartbeats 4000000 in
set_option maxRecDepth 100000 in
theorem t_R_whole (K : Kd) (F : Nat) (a : Nat → Nat) (oR : Nat) (l1 : Int64) (R_numbers : Nat → Int64) (R_size : Int32) (R_numbers' : Nat → Int64) (R_size' : Int32) (q : f_R_whole l1 R_numbers R_size = some (R_numbers', R_size')) : Ctr yX4_whole cX4_whole 3 none 1 0 0 K [.ref (a oR), .long l1] (wR K a oR R_numbers R_size) (Eqs none (wR K a oR R_numbers' R_size')) := by
  refine mkCtr (by decide) (Nat.le_of_ble_eq_true rfl) ?_
  intro G hK h hq _
  subst hK
  exact v_R_whole h F a oR l1 R_numbers R_size _ q hq ⟨rfl, rfl⟩

set_option maxHeartbeats 4000000 in
set_option maxRecDepth 100000 in
theorem vj_R_fraction_17 {G : Gm} (h : VOk G cX4_fraction RX4 7 (rmC 2 0 0)) (F : Nat) (a : Nat → Nat) (oR : Nat) (l1 : Int64) (l3 : Int64) (l5 : Int64) (R_numbers : Nat → Int64) (R_size : Int32) (o : (Nat → Int64) × Int32) (q : fj_R_fraction_17 l1 l3 l5 R_numbers R_size = some o) {Pst : Option Value → va_W → Prop} (hq : RetQ G 0 0 none Pst) (hp : Pst none (wR (gK G) a oR (o.1) (o.2))) : V G 0 0 (wR (gK G) a oR R_numbers R_size) 17 [(0, .ref (a oR)), (1, .long l1), (3, .long l3), (5, .long l5)] [] := by
  unfold fj_R_fraction_17 at q
  refine V_aload_n (pc := 17) h 0 dX4_fraction_17 rfl ?_
  refine V_lload_n (pc := 18) h 1 dX4_fraction_18 rfl ?_
  refine V_lload (pc := 19) h 3 dX4_fraction_19 rfl ?_
  obtain ⟨v_21, e_v_21, q⟩ := bs q
  refine V_ldiv (pc := 21) h e_v_21 dX4_fraction_21 ?_
  obtain ⟨R_numbers_22, R_size_22, e_22, q⟩ := bs2 q
  refine V_wallV (pc := 22) h _ (t_R_whole (gK G) F a oR v_21 R_numbers R_size _ _ e_22) mf_R_whole lk_RX4_23 im_R_whole se_R_whole ⟨Nat.le_of_ble_eq_true rfl, Nat.le_of_ble_eq_true rfl⟩ ⟨Nat.zero_le _, Nat.zero_le _⟩ rfl 0 rfl rfl rfl rfl (Nat.le_of_ble_eq_true rfl) [] rfl dX4_fraction_22 ?_
  refine V_aload_n (pc := 25) h 0 dX4_fraction_25 rfl ?_
  refine V_lload_n (pc := 26) h 2 dX4_fraction_26 rfl ?_
  refine V_lload (pc := 27) h 3 dX4_fraction_27 rfl ?_
  obtain ⟨v_29, e_v_29, q⟩ := bs q
  refine V_ldiv (pc := 29) h e_v_29 dX4_fraction_29 ?_
  obtain ⟨R_numbers_30, R_size_30, e_30, q⟩ := bs2 q
  refine V_wallV (pc := 30) h _ (t_R_whole (gK G) F a oR v_29 R_numbers_22 R_size_22 _ _ e_30) mf_R_whole lk_RX4_23 im_R_whole se_R_whole ⟨Nat.le_of_ble_eq_true rfl, Nat.le_of_ble_eq_true rfl⟩ ⟨Nat.zero_le _, Nat.zero_le _⟩ rfl 0 rfl rfl rfl rfl (Nat.le_of_ble_eq_true rfl) [] rfl dX4_fraction_30 ?_
  obtain rfl := Option.some.inj q
  exact V_vret (pc := 33) h hq dX4_fraction_33 hp

set_option maxHeartbeats 4000000 in
set_option maxRecDepth 100000 in
theorem v_R_fraction {G : Gm} (h : VOk G cX4_fraction RX4 7 (rmC 2 0 0)) (F : Nat) (a : Nat → Nat) (oR : Nat) (l1 : Int64) (l3 : Int64) (R_numbers : Nat → Int64) (R_size : Int32) (o : (Nat → Int64) × Int32) (q : f_R_fraction F l1 l3 R_numbers R_size = some o) {Pst : Option Value → va_W → Prop} (hq : RetQ G 0 0 none Pst) (hp : Pst none (wR (gK G) a oR (o.1) (o.2))) : V G 0 0 (wR (gK G) a oR R_numbers R_size) 0 [(0, .ref (a oR)), (1, .long l1), (3, .long l3)] [] := by
  unfold f_R_fraction at q
  refine V_lload_n (pc := 0) h 1 dX4_fraction_0 rfl ?_
  refine V_lload_n (pc := 1) h 2 dX4_fraction_1 rfl ?_
  obtain ⟨r_2, e_2, q⟩ := bs q
  refine V_callSN (pc := 2) h _ (t_X_divisor (gK G) F  l1 l3 _ e_2) mf_X_divisor (fun q => q.2.1) sm_X_divisor ⟨Nat.le_of_ble_eq_true rfl, Nat.le_of_ble_eq_true rfl⟩ ⟨Nat.zero_le _, Nat.zero_le _⟩ [] rfl rfl rfl rfl rfl (Nat.le_of_ble_eq_true rfl) (wR (gK G) a oR R_numbers R_size) rfl [.long r_2] rfl dX4_fraction_2 ?_
  refine V_lstore (pc := 5) h [(5, .long r_2), (0, .ref (a oR)), (1, .long l1), (3, .long l3)] dX4_fraction_5 (Nat.le_of_ble_eq_true rfl) rfl ?_
  refine V_lload (pc := 7) h 0 dX4_fraction_7 rfl ?_
  refine V_lconst (pc := 9) h dX4_fraction_9 lc_0 ?_
  refine V_lcmp_ne (pc := 10) (pc2 := 0) h 17 dX4_fraction_10 dX4_fraction_11 (by decide) (fun hc => ?_) (fun hc => ?_)
  · have q := if_n hc q
    refine V_sub [(0, .ref (a oR)), (1, .long l1), (3, .long l3), (5, .long r_2)] [1, 2, 3, 0] rfl ?_
    exact vj_R_fraction_17 h F a oR l1 l3 r_2 R_numbers R_size _ q hq hp
  · have q := if_p hc q
    refine V_lconst (pc := 14) h dX4_fraction_14 lc_1 ?_
    refine V_lstore (pc := 15) h [(5, .long (1 : Int64)), (0, .ref (a oR)), (1, .long l1), (3, .long l3)] dX4_fraction_15 (Nat.le_of_ble_eq_true rfl) rfl ?_
    refine V_sub [(0, .ref (a oR)), (1, .long l1), (3, .long l3), (5, .long (1 : Int64))] [1, 2, 3, 0] rfl ?_
    exact vj_R_fraction_17 h F a oR l1 l3 (1 : Int64) R_numbers R_size _ q hq hp

set_option maxHeartbeats 4000000 in
set_option maxRecDepth 100000 in
theorem t_R_fraction (K : Kd) (F : Nat) (a : Nat → Nat) (oR : Nat) (l1 : Int64) (l3 : Int64) (R_numbers : Nat → Int64) (R_size : Int32) (R_numbers' : Nat → Int64) (R_size' : Int32) (q : f_R_fraction F l1 l3 R_numbers R_size = some (R_numbers', R_size')) : Ctr yX4_fraction cX4_fraction 7 none 2 0 0 K [.ref (a oR), .long l1, .long l3] (wR K a oR R_numbers R_size) (Eqs none (wR K a oR R_numbers' R_size')) := by
  refine mkCtr (by decide) (Nat.le_of_ble_eq_true rfl) ?_
  intro G hK h hq _
  subst hK
  exact v_R_fraction h F a oR l1 l3 R_numbers R_size _ q hq ⟨rfl, rfl⟩

set_option maxHeartbeats 4000000 in
set_option maxRecDepth 100000 in
theorem vb_T_addFour_16 {G : Gm} (h : VOk G cX5_addFour RX5 3 (rmC 1 0 0)) (F : Nat) (a : Nat → Nat) (oT : Nat) (l1 : Int32) (l2 : Int32) (T_signs : Nat → Int32) (T_size : Int32) (T_next : Int32) (T_fault : Int32) (o : (Int32 × (Nat → Int32) × Int32) ⊕ ((Nat → Int32) × Int32)) (q : fb_T_addFour_16 l1 l2 T_signs T_size = some o) (k1 : ∀ (l2' : Int32) (T_signs' : Nat → Int32) (T_size' : Int32), o = .inl (l2', T_signs', T_size') → V G 0 0 (wT (gK G) a oT T_signs' T_size' T_next T_fault) 16 [(0, .ref (a oT)), (1, .int l1), (2, .int l2')] []) (k2 : ∀ (r : (Nat → Int32) × Int32), o = .inr r → V G 0 0 (wT (gK G) a oT (r.1) (r.2) T_next T_fault) 49 [] []) : V G 0 0 (wT (gK G) a oT T_signs T_size T_next T_fault) 16 [(0, .ref (a oT)), (1, .int l1), (2, .int l2)] [] := by
  unfold fb_T_addFour_16 at q
  refine V_iload_n (pc := 16) h 2 dX5_addFour_16 rfl ?_
  refine V_if_lt (pc := 17) h 49 dX5_addFour_17 (by decide) (fun hc => ?_) (fun hc => ?_)
  · have q := if_p hc q
    refine V_sub [] [] rfl ?_
    have kk := k2 _ (Option.some.inj q).symm
    exact kk
  · have q := if_n hc q
    refine V_aload_n (pc := 20) h 0 dX5_addFour_20 rfl ?_
    refine V_get (pc := 21) h fl_5_9 0 rfl rfl dX5_addFour_21 ?_
    refine V_aload_n (pc := 24) h 0 dX5_addFour_24 rfl ?_
    refine V_dup (pc := 25) h dX5_addFour_25 rfl ?_
    refine V_get (pc := 26) h fl_5_15 0 rfl rfl dX5_addFour_26 ?_
    refine V_dup_x1 (pc := 29) h dX5_addFour_29 rfl rfl ?_
    refine V_iconst (pc := 30) h dX5_addFour_30 ic_1 ?_
    refine V_iadd (pc := 31) h dX5_addFour_31 ?_
    refine V_topi (pc := 32) (fun T_size_32 e_T_size_32 => ?_)
    have q := nm_use e_T_size_32 q
    refine V_put (pc := 32) h fl_5_15 fp_5_1 0 (wT (gK G) a oT T_signs T_size_32 T_next T_fault) rfl rfl rfl (Nat.le_of_ble_eq_true rfl) rfl dX5_addFour_32 ?_
    refine V_iload_n (pc := 35) h 1 dX5_addFour_35 rfl ?_
    refine V_iload_n (pc := 36) h 2 dX5_addFour_36 rfl ?_
    refine V_iushr (pc := 37) h dX5_addFour_37 ?_
    refine V_sipush (pc := 38) h dX5_addFour_38 si_255 ?_
    refine V_iand (pc := 41) h dX5_addFour_41 ?_
    obtain ⟨T_signs_42, e_T_signs_42, q⟩ := bs q
    refine V_iast (pc := 42) h 1 (wT (gK G) a oT T_signs_42 T_size_32 T_next T_fault) rfl e_T_signs_42 rfl dX5_addFour_42 ?_
    obtain ⟨l2_43, e_l2_43⟩ : ∃ y : Int32, (l2 + (-8 : Int32)) = y := ⟨_, rfl⟩
    have q := nm_use e_l2_43 q
    refine V_iinc (pc := 43) h [(2, .int l2_43), (0, .ref (a oT)), (1, .int l1)] 2 dX5_addFour_43 rfl ic_m8 (Nat.le_of_ble_eq_true rfl) (by rw [e_l2_43]; rfl) ?_
    refine V_goto (pc := 46) (tgt := 16) h dX5_addFour_46 (by decide) ?_
    refine V_sub [(0, .ref (a oT)), (1, .int l1), (2, .int l2_43)] [1, 2, 0] rfl ?_
    exact k1 l2_43 T_signs_42 T_size_32 (Option.some.inj q).symm

set_option maxHeartbeats 4000000 in
set_option maxRecDepth 100000 in
theorem vl_T_addFour_16 {G : Gm} (h : VOk G cX5_addFour RX5 3 (rmC 1 0 0)) (F : Nat) (a : Nat → Nat) (oT : Nat) (l1 : Int32) (l2 : Int32) (T_signs : Nat → Int32) (T_size : Int32) (T_next : Int32) (T_fault : Int32) (r : (Nat → Int32) × Int32) (q : iter (un3 (fb_T_addFour_16 l1)) F (l2, T_signs, T_size) = some r) (kx : V G 0 0 (wT (gK G) a oT (r.1) (r.2) T_next T_fault) 49 [] []) : V G 0 0 (wT (gK G) a oT T_signs T_size T_next T_fault) 16 [(0, .ref (a oT)), (1, .int l1), (2, .int l2)] [] := by
  have hh := iter_ind (body := un3 (fb_T_addFour_16 l1)) (P := fun z => V G 0 0 (wT (gK G) a oT (z.2.1) (z.2.2) T_next T_fault) 16 [(0, .ref (a oT)), (1, .int l1), (2, .int (z.1))] []) (X := fun r => V G 0 0 (wT (gK G) a oT (r.1) (r.2) T_next T_fault) 49 [] []) (fun z o qb j1 j2 => vb_T_addFour_16 h F a oT l1 (z.1) (z.2.1) (z.2.2) T_next T_fault o qb (fun y0 y1 y2 e => j1 (y0, y1, y2) e) j2) F (l2, T_signs, T_size) r q kx
  exact hh

set_option maxHeartbeats 4000000 in
set_option maxRecDepth 100000 in
theorem v_T_addFour {G : Gm} (h : VOk G cX5_addFour RX5 3 (rmC 1 0 0)) (F : Nat) (a : Nat → Nat) (oT : Nat) (l1 : Int32) (T_signs : Nat → Int32) (T_size : Int32) (T_next : Int32) (T_fault : Int32) (o : Int32 × (Nat → Int32) × Int32) (q : f_T_addFour F l1 T_signs T_size = some o) {Pst : Option Value → va_W → Prop} (hq : RetQ G 0 0 (some .boolean) Pst) (hp : Pst (some (.int (o.1))) (wT (gK G) a oT (o.2.1) (o.2.2) T_next T_fault)) : V G 0 0 (wT (gK G) a oT T_signs T_size T_next T_fault) 0 [(0, .ref (a oT)), (1, .int l1)] [] := by
  unfold f_T_addFour at q
  refine V_aload_n (pc := 0) h 0 dX5_addFour_0 rfl ?_
  refine V_get (pc := 1) h fl_5_15 0 rfl rfl dX5_addFour_1 ?_
  refine V_iconst (pc := 4) h dX5_addFour_4 ic_4 ?_
  refine V_iadd (pc := 5) h dX5_addFour_5 ?_
  refine V_bipush (pc := 6) h dX5_addFour_6 bi_80 ?_
  refine V_icmp_le (pc := 8) h 13 dX5_addFour_8 (by decide) (fun hc => ?_) (fun hc => ?_)
  · have q := if_p hc q
    refine V_bipush (pc := 13) h dX5_addFour_13 bi_24 ?_
    refine V_istore_n (pc := 15) h [(2, .int (24 : Int32)), (0, .ref (a oT)), (1, .int l1)] dX5_addFour_15 (Nat.le_of_ble_eq_true rfl) rfl ?_
    obtain ⟨T_signs_16, T_size_16, e_16, q⟩ := bs2 q
    refine V_sub [(0, .ref (a oT)), (1, .int l1), (2, .int (24 : Int32))] [1, 2, 0] rfl ?_
    refine vl_T_addFour_16 h F a oT l1 (24 : Int32) T_signs T_size T_next T_fault _ e_16 ?_
    show V G 0 0 (wT (gK G) a oT T_signs_16 T_size_16 T_next T_fault) 49 [] []
    refine V_iconst (pc := 49) h dX5_addFour_49 ic_1 ?_
    obtain rfl := Option.some.inj q
    exact V_zret (pc := 50) h hq rfl dX5_addFour_50 hp
  · have q := if_n hc q
    refine V_iconst (pc := 11) h dX5_addFour_11 ic_0 ?_
    obtain rfl := Option.some.inj q
    exact V_zret (pc := 12) h hq rfl dX5_addFour_12 hp

set_option maxHeartbeats 4000000 in
set_option maxRecDepth 100000 in
theorem t_T_addFour (K : Kd) (F : Nat) (a : Nat → Nat) (oT : Nat) (l1 : Int32) (T_signs : Nat → Int32) (T_size : Int32) (T_next : Int32) (T_fault : Int32) (r : Int32) (T_signs' : Nat → Int32) (T_size' : Int32) (q : f_T_addFour F l1 T_signs T_size = some (r, T_signs', T_size')) : Ctr yX5_addFour cX5_addFour 3 (some .boolean) 1 0 0 K [.ref (a oT), .int l1] (wT K a oT T_signs T_size T_next T_fault) (Eqs (some (.int r)) (wT K a oT T_signs' T_size' T_next T_fault)) := by
  refine mkCtr (by decide) (Nat.le_of_ble_eq_true rfl) ?_
  intro G hK h hq _
  subst hK
  exact v_T_addFour h F a oT l1 T_signs T_size T_next T_fault _ q hq ⟨rfl, rfl⟩

set_option maxHeartbeats 4000000 in
set_option maxRecDepth 100000 in
theorem v_T_cut {G : Gm} (h : VOk G cX5_cut RX5 2 (rmC 1 0 0)) (F : Nat) (a : Nat → Nat) (oT : Nat) (l1 : Int32) (T_signs : Nat → Int32) (T_size : Int32) (T_next : Int32) (T_fault : Int32) (o : Int32 × Int32) (q : f_T_cut l1 T_size = some o) {Pst : Option Value → va_W → Prop} (hq : RetQ G 0 0 (some .boolean) Pst) (hp : Pst (some (.int (o.1))) (wT (gK G) a oT T_signs (o.2) T_next T_fault)) : V G 0 0 (wT (gK G) a oT T_signs T_size T_next T_fault) 0 [(0, .ref (a oT)), (1, .int l1)] [] := by
  unfold f_T_cut at q
  refine V_iload_n (pc := 0) h 1 dX5_cut_0 rfl ?_
  refine V_if_lt (pc := 1) h 12 dX5_cut_1 (by decide) (fun hc => ?_) (fun hc => ?_)
  · have q := if_p hc q
    refine V_iconst (pc := 12) h dX5_cut_12 ic_0 ?_
    obtain rfl := Option.some.inj q
    exact V_zret (pc := 13) h hq rfl dX5_cut_13 hp
  · have q := if_n hc q
    refine V_iload_n (pc := 4) h 1 dX5_cut_4 rfl ?_
    refine V_aload_n (pc := 5) h 0 dX5_cut_5 rfl ?_
    refine V_get (pc := 6) h fl_5_15 0 rfl rfl dX5_cut_6 ?_
    refine V_icmp_le (pc := 9) h 14 dX5_cut_9 (by decide) (fun hc => ?_) (fun hc => ?_)
    · have q := if_p hc q
      refine V_aload_n (pc := 14) h 0 dX5_cut_14 rfl ?_
      refine V_iload_n (pc := 15) h 1 dX5_cut_15 rfl ?_
      refine V_put (pc := 16) h fl_5_15 fp_5_1 0 (wT (gK G) a oT T_signs l1 T_next T_fault) rfl rfl rfl (Nat.le_of_ble_eq_true rfl) rfl dX5_cut_16 ?_
      refine V_iconst (pc := 19) h dX5_cut_19 ic_1 ?_
      obtain rfl := Option.some.inj q
      exact V_zret (pc := 20) h hq rfl dX5_cut_20 hp
    · have q := if_n hc q
      refine V_iconst (pc := 12) h dX5_cut_12 ic_0 ?_
      obtain rfl := Option.some.inj q
      exact V_zret (pc := 13) h hq rfl dX5_cut_13 hp

set_option maxHeartbeats 4000000 in
set_option maxRecDepth 100000 in
theorem t_T_cut (K : Kd) (F : Nat) (a : Nat → Nat) (oT : Nat) (l1 : Int32) (T_signs : Nat → Int32) (T_size : Int32) (T_next : Int32) (T_fault : Int32) (r : Int32) (T_size' : Int32) (q : f_T_cut l1 T_size = some (r, T_size')) : Ctr yX5_cut cX5_cut 2 (some .boolean) 1 0 0 K [.ref (a oT), .int l1] (wT K a oT T_signs T_size T_next T_fault) (Eqs (some (.int r)) (wT K a oT T_signs T_size' T_next T_fault)) := by
  refine mkCtr (by decide) (Nat.le_of_ble_eq_true rfl) ?_
  intro G hK h hq _
  subst hK
  exact v_T_cut h F a oT l1 T_signs T_size T_next T_fault _ q hq ⟨rfl, rfl⟩

set_option maxHeartbeats 4000000 in
set_option maxRecDepth 100000 in
theorem v_T_digitAt {G : Gm} (h : VOk G cX5_digitAt RX5 2 (rmC 1 0 0)) (F : Nat) (a : Nat → Nat) (oT : Nat) (l1 : Int32) (T_signs : Nat → Int32) (T_size : Int32) (T_next : Int32) (T_fault : Int32) (o : Int32) (q : f_T_digitAt l1 T_signs T_size = some o) {Pst : Option Value → va_W → Prop} (hq : RetQ G 0 0 (some .int) Pst) (hp : Pst (some (.int o)) (wT (gK G) a oT T_signs T_size T_next T_fault)) : V G 0 0 (wT (gK G) a oT T_signs T_size T_next T_fault) 0 [(0, .ref (a oT)), (1, .int l1)] [] := by
  unfold f_T_digitAt at q
  refine V_iload_n (pc := 0) h 1 dX5_digitAt_0 rfl ?_
  refine V_if_lt (pc := 1) h 18 dX5_digitAt_1 (by decide) (fun hc => ?_) (fun hc => ?_)
  · have q := if_p hc q
    refine V_iconst (pc := 18) h dX5_digitAt_18 ic_m1 ?_
    obtain rfl := Option.some.inj q
    exact V_iret (pc := 19) h hq dX5_digitAt_19 hp
  · have q := if_n hc q
    refine V_iload_n (pc := 4) h 1 dX5_digitAt_4 rfl ?_
    refine V_aload_n (pc := 5) h 0 dX5_digitAt_5 rfl ?_
    refine V_get (pc := 6) h fl_5_15 0 rfl rfl dX5_digitAt_6 ?_
    refine V_icmp_ge (pc := 9) h 18 dX5_digitAt_9 (by decide) (fun hc => ?_) (fun hc => ?_)
    · have q := if_p hc q
      refine V_iconst (pc := 18) h dX5_digitAt_18 ic_m1 ?_
      obtain rfl := Option.some.inj q
      exact V_iret (pc := 19) h hq dX5_digitAt_19 hp
    · have q := if_n hc q
      refine V_iload_n (pc := 12) h 1 dX5_digitAt_12 rfl ?_
      refine V_bipush (pc := 13) h dX5_digitAt_13 bi_80 ?_
      refine V_icmp_lt (pc := 15) h 20 dX5_digitAt_15 (by decide) (fun hc => ?_) (fun hc => ?_)
      · have q := if_p hc q
        refine V_aload_n (pc := 20) h 0 dX5_digitAt_20 rfl ?_
        refine V_get (pc := 21) h fl_5_9 0 rfl rfl dX5_digitAt_21 ?_
        refine V_iload_n (pc := 24) h 1 dX5_digitAt_24 rfl ?_
        obtain ⟨v_25, e_v_25, q⟩ := bs q
        refine V_iald (pc := 25) h 1 rfl e_v_25 dX5_digitAt_25 ?_
        refine V_bipush (pc := 26) h dX5_digitAt_26 bi_48 ?_
        refine V_icmp_lt (pc := 28) h 54 dX5_digitAt_28 (by decide) (fun hc => ?_) (fun hc => ?_)
        · have q := if_p hc q
          refine V_iconst (pc := 54) h dX5_digitAt_54 ic_m1 ?_
          obtain rfl := Option.some.inj q
          exact V_iret (pc := 55) h hq dX5_digitAt_55 hp
        · have q := if_n hc q
          refine V_aload_n (pc := 31) h 0 dX5_digitAt_31 rfl ?_
          refine V_get (pc := 32) h fl_5_9 0 rfl rfl dX5_digitAt_32 ?_
          refine V_iload_n (pc := 35) h 1 dX5_digitAt_35 rfl ?_
          obtain ⟨v_36, e_v_36, q⟩ := bs q
          refine V_iald (pc := 36) h 1 rfl e_v_36 dX5_digitAt_36 ?_
          refine V_bipush (pc := 37) h dX5_digitAt_37 bi_57 ?_
          refine V_icmp_gt (pc := 39) h 54 dX5_digitAt_39 (by decide) (fun hc => ?_) (fun hc => ?_)
          · have q := if_p hc q
            refine V_iconst (pc := 54) h dX5_digitAt_54 ic_m1 ?_
            obtain rfl := Option.some.inj q
            exact V_iret (pc := 55) h hq dX5_digitAt_55 hp
          · have q := if_n hc q
            refine V_aload_n (pc := 42) h 0 dX5_digitAt_42 rfl ?_
            refine V_get (pc := 43) h fl_5_9 0 rfl rfl dX5_digitAt_43 ?_
            refine V_iload_n (pc := 46) h 1 dX5_digitAt_46 rfl ?_
            obtain ⟨v_47, e_v_47, q⟩ := bs q
            refine V_iald (pc := 47) h 1 rfl e_v_47 dX5_digitAt_47 ?_
            refine V_bipush (pc := 48) h dX5_digitAt_48 bi_48 ?_
            refine V_isub (pc := 50) h dX5_digitAt_50 ?_
            refine V_goto (pc := 51) (tgt := 55) h dX5_digitAt_51 (by decide) ?_
            obtain rfl := Option.some.inj q
            exact V_iret (pc := 55) h hq dX5_digitAt_55 hp
      · have q := if_n hc q
        refine V_iconst (pc := 18) h dX5_digitAt_18 ic_m1 ?_
        obtain rfl := Option.some.inj q
        exact V_iret (pc := 19) h hq dX5_digitAt_19 hp

set_option maxHeartbeats 4000000 in
set_option maxRecDepth 100000 in
theorem t_T_digitAt (K : Kd) (F : Nat) (a : Nat → Nat) (oT : Nat) (l1 : Int32) (T_signs : Nat → Int32) (T_size : Int32) (T_next : Int32) (T_fault : Int32) (r : Int32) (q : f_T_digitAt l1 T_signs T_size = some r) : Ctr yX5_digitAt cX5_digitAt 2 (some .int) 1 0 0 K [.ref (a oT), .int l1] (wT K a oT T_signs T_size T_next T_fault) (Eqs (some (.int r)) (wT K a oT T_signs T_size T_next T_fault)) := by
  refine mkCtr (by decide) (Nat.le_of_ble_eq_true rfl) ?_
  intro G hK h hq _
  subst hK
  exact v_T_digitAt h F a oT l1 T_signs T_size T_next T_fault _ q hq ⟨rfl, rfl⟩

set_option maxHeartbeats 4000000 in
set_option maxRecDepth 100000 in
theorem vb_T_findOrderFault_4 {G : Gm} (h : VOk G cX5_findOrderFault RX5 5 (rmC 2 0 0)) (F : Nat) (a : Nat → Nat) (oT : Nat) (l1 : Int32) (l2 : Int32) (l3 : Int32) (T_signs : Nat → Int32) (T_size : Int32) (T_next : Int32) (T_fault : Int32) (o : (Int32 × Int32) ⊕ (Nat × Int32)) (q : fb_T_findOrderFault_4 l1 T_signs T_size l2 l3 = some o) (k1 : ∀ (l2' : Int32) (l3' : Int32), o = .inl (l2', l3') → V G 0 0 (wT (gK G) a oT T_signs T_size T_next T_fault) 4 [(0, .ref (a oT)), (1, .int l1), (2, .int l2'), (3, .int l3')] []) (k2 : ∀ (r : Nat × Int32), o = .inr r → (r.1 = 0 → V G 0 0 (wT (gK G) a oT T_signs T_size T_next T_fault) 40 [(3, .int (r.2))] []) ∧ (r.1 = 1 → V G 0 0 (wT (gK G) a oT T_signs T_size T_next T_fault) 55 [] [])) : V G 0 0 (wT (gK G) a oT T_signs T_size T_next T_fault) 4 [(0, .ref (a oT)), (1, .int l1), (2, .int l2), (3, .int l3)] [] := by
  unfold fb_T_findOrderFault_4 at q
  refine V_iload_n (pc := 4) h 3 dX5_findOrderFault_4 rfl ?_
  refine V_aload_n (pc := 5) h 0 dX5_findOrderFault_5 rfl ?_
  refine V_get (pc := 6) h fl_5_15 0 rfl rfl dX5_findOrderFault_6 ?_
  refine V_icmp_ge (pc := 9) h 55 dX5_findOrderFault_9 (by decide) (fun hc => ?_) (fun hc => ?_)
  · have q := if_p hc q
    refine V_sub [] [] rfl ?_
    have kk := k2 _ (Option.some.inj q).symm
    exact kk.2 rfl
  · have q := if_n hc q
    refine V_aload_n (pc := 12) h 0 dX5_findOrderFault_12 rfl ?_
    refine V_iload_n (pc := 13) h 3 dX5_findOrderFault_13 rfl ?_
    obtain ⟨r_14, e_14, q⟩ := bs q
    refine V_wallV (pc := 14) h _ (t_T_digitAt (gK G) F a oT l3 T_signs T_size T_next T_fault _ e_14) mf_T_digitAt lk_RX5_19 im_T_digitAt se_T_digitAt ⟨Nat.le_of_ble_eq_true rfl, Nat.le_of_ble_eq_true rfl⟩ ⟨Nat.zero_le _, Nat.zero_le _⟩ rfl 0 rfl rfl rfl rfl (Nat.le_of_ble_eq_true rfl) [.int r_14] rfl dX5_findOrderFault_14 ?_
    refine V_istore (pc := 17) h [(4, .int r_14), (0, .ref (a oT)), (1, .int l1), (2, .int l2), (3, .int l3)] dX5_findOrderFault_17 (Nat.le_of_ble_eq_true rfl) rfl ?_
    refine V_iload (pc := 19) h 0 dX5_findOrderFault_19 rfl ?_
    refine V_if_lt (pc := 21) h 40 dX5_findOrderFault_21 (by decide) (fun hc => ?_) (fun hc => ?_)
    · have q := if_p hc q
      refine V_sub [(3, .int l3)] [4] rfl ?_
      have kk := k2 _ (Option.some.inj q).symm
      exact kk.1 rfl
    · have q := if_n hc q
      refine V_iload (pc := 24) h 0 dX5_findOrderFault_24 rfl ?_
      refine V_iload_n (pc := 26) h 2 dX5_findOrderFault_26 rfl ?_
      refine V_icmp_ge (pc := 27) h 40 dX5_findOrderFault_27 (by decide) (fun hc => ?_) (fun hc => ?_)
      · have q := if_p hc q
        refine V_sub [(3, .int l3)] [4] rfl ?_
        have kk := k2 _ (Option.some.inj q).symm
        exact kk.1 rfl
      · have q := if_n hc q
        refine V_iload_n (pc := 30) h 3 dX5_findOrderFault_30 rfl ?_
        refine V_iload (pc := 31) h 0 dX5_findOrderFault_31 rfl ?_
        refine V_ishr (pc := 33) h dX5_findOrderFault_33 ?_
        refine V_iconst (pc := 34) h dX5_findOrderFault_34 ic_1 ?_
        refine V_iand (pc := 35) h dX5_findOrderFault_35 ?_
        refine V_iconst (pc := 36) h dX5_findOrderFault_36 ic_1 ?_
        refine V_icmp_ne (pc := 37) h 42 dX5_findOrderFault_37 (by decide) (fun hc => ?_) (fun hc => ?_)
        · have q := if_n hc q
          refine V_iload_n (pc := 42) h 3 dX5_findOrderFault_42 rfl ?_
          refine V_iconst (pc := 43) h dX5_findOrderFault_43 ic_1 ?_
          refine V_iload (pc := 44) h 0 dX5_findOrderFault_44 rfl ?_
          refine V_ishl (pc := 46) h dX5_findOrderFault_46 ?_
          refine V_ior (pc := 47) h dX5_findOrderFault_47 ?_
          refine V_topi (pc := 48) (fun l2_48 e_l2_48 => ?_)
          have q := nm_use e_l2_48 q
          refine V_istore_n (pc := 48) h [(2, .int l2_48), (4, .int r_14), (0, .ref (a oT)), (1, .int l1), (3, .int l3)] dX5_findOrderFault_48 (Nat.le_of_ble_eq_true rfl) rfl ?_
          obtain ⟨l3_49, e_l3_49⟩ : ∃ y : Int32, (l3 + (1 : Int32)) = y := ⟨_, rfl⟩
          have q := nm_use e_l3_49 q
          refine V_iinc (pc := 49) h [(3, .int l3_49), (2, .int l2_48), (4, .int r_14), (0, .ref (a oT)), (1, .int l1)] 4 dX5_findOrderFault_49 rfl ic_1 (Nat.le_of_ble_eq_true rfl) (by rw [e_l3_49]; rfl) ?_
          refine V_goto (pc := 52) (tgt := 4) h dX5_findOrderFault_52 (by decide) ?_
          refine V_sub [(0, .ref (a oT)), (1, .int l1), (2, .int l2_48), (3, .int l3_49)] [3, 4, 1, 0] rfl ?_
          exact k1 l2_48 l3_49 (Option.some.inj q).symm
        · have q := if_p hc q
          refine V_sub [(3, .int l3)] [4] rfl ?_
          have kk := k2 _ (Option.some.inj q).symm
          exact kk.1 rfl

set_option maxHeartbeats 4000000 in
set_option maxRecDepth 100000 in
theorem vl_T_findOrderFault_4 {G : Gm} (h : VOk G cX5_findOrderFault RX5 5 (rmC 2 0 0)) (F : Nat) (a : Nat → Nat) (oT : Nat) (l1 : Int32) (l2 : Int32) (l3 : Int32) (T_signs : Nat → Int32) (T_size : Int32) (T_next : Int32) (T_fault : Int32) (r : Nat × Int32) (q : iter (un2 (fb_T_findOrderFault_4 l1 T_signs T_size)) F (l2, l3) = some r) (kx : (r.1 = 0 → V G 0 0 (wT (gK G) a oT T_signs T_size T_next T_fault) 40 [(3, .int (r.2))] []) ∧ (r.1 = 1 → V G 0 0 (wT (gK G) a oT T_signs T_size T_next T_fault) 55 [] [])) : V G 0 0 (wT (gK G) a oT T_signs T_size T_next T_fault) 4 [(0, .ref (a oT)), (1, .int l1), (2, .int l2), (3, .int l3)] [] := by
  have hh := iter_ind (body := un2 (fb_T_findOrderFault_4 l1 T_signs T_size)) (P := fun z => V G 0 0 (wT (gK G) a oT T_signs T_size T_next T_fault) 4 [(0, .ref (a oT)), (1, .int l1), (2, .int (z.1)), (3, .int (z.2))] []) (X := fun r => (r.1 = 0 → V G 0 0 (wT (gK G) a oT T_signs T_size T_next T_fault) 40 [(3, .int (r.2))] []) ∧ (r.1 = 1 → V G 0 0 (wT (gK G) a oT T_signs T_size T_next T_fault) 55 [] [])) (fun z o qb j1 j2 => vb_T_findOrderFault_4 h F a oT l1 (z.1) (z.2) T_signs T_size T_next T_fault o qb (fun y0 y1 e => j1 (y0, y1) e) j2) F (l2, l3) r q kx
  exact hh

set_option maxHeartbeats 4000000 in
set_option maxRecDepth 100000 in
theorem v_T_findOrderFault {G : Gm} (h : VOk G cX5_findOrderFault RX5 5 (rmC 2 0 0)) (F : Nat) (a : Nat → Nat) (oT : Nat) (l1 : Int32) (T_signs : Nat → Int32) (T_size : Int32) (T_next : Int32) (T_fault : Int32) (o : Int32) (q : f_T_findOrderFault F l1 T_signs T_size = some o) {Pst : Option Value → va_W → Prop} (hq : RetQ G 0 0 (some .int) Pst) (hp : Pst (some (.int o)) (wT (gK G) a oT T_signs T_size T_next T_fault)) : V G 0 0 (wT (gK G) a oT T_signs T_size T_next T_fault) 0 [(0, .ref (a oT)), (1, .int l1)] [] := by
  unfold f_T_findOrderFault at q
  refine V_iconst (pc := 0) h dX5_findOrderFault_0 ic_0 ?_
  refine V_istore_n (pc := 1) h [(2, .int (0 : Int32)), (0, .ref (a oT)), (1, .int l1)] dX5_findOrderFault_1 (Nat.le_of_ble_eq_true rfl) rfl ?_
  refine V_iconst (pc := 2) h dX5_findOrderFault_2 ic_0 ?_
  refine V_istore_n (pc := 3) h [(3, .int (0 : Int32)), (2, .int (0 : Int32)), (0, .ref (a oT)), (1, .int l1)] dX5_findOrderFault_3 (Nat.le_of_ble_eq_true rfl) rfl ?_
  obtain ⟨c_4, l3_4, e_4, q⟩ := bs2 q
  refine V_sub [(0, .ref (a oT)), (1, .int l1), (2, .int (0 : Int32)), (3, .int (0 : Int32))] [2, 3, 1, 0] rfl ?_
  refine vl_T_findOrderFault_4 h F a oT l1 (0 : Int32) (0 : Int32) T_signs T_size T_next T_fault _ e_4 ?_
  refine ⟨?_, ?_⟩
  · intro hc
    have hc : c_4 = 0 := hc
    have q := if_p hc q
    show V G 0 0 (wT (gK G) a oT T_signs T_size T_next T_fault) 40 [(3, .int l3_4)] []
    refine V_iload_n (pc := 40) h 0 dX5_findOrderFault_40 rfl ?_
    obtain rfl := Option.some.inj q
    exact V_iret (pc := 41) h hq dX5_findOrderFault_41 hp
  · intro hc
    have hc : c_4 = 1 := hc
    have q := if_n (by omega) q
    show V G 0 0 (wT (gK G) a oT T_signs T_size T_next T_fault) 55 [] []
    refine V_iconst (pc := 55) h dX5_findOrderFault_55 ic_m1 ?_
    obtain rfl := Option.some.inj q
    exact V_iret (pc := 56) h hq dX5_findOrderFault_56 hp

set_option maxHeartbeats 4000000 in
set_option maxRecDepth 100000 in
theorem t_T_findOrderFault (K : Kd) (F : Nat) (a : Nat → Nat) (oT : Nat) (l1 : Int32) (T_signs : Nat → Int32) (T_size : Int32) (T_next : Int32) (T_fault : Int32) (r : Int32) (q : f_T_findOrderFault F l1 T_signs T_size = some r) : Ctr yX5_findOrderFault cX5_findOrderFault 5 (some .int) 2 0 0 K [.ref (a oT), .int l1] (wT K a oT T_signs T_size T_next T_fault) (Eqs (some (.int r)) (wT K a oT T_signs T_size T_next T_fault)) := by
  refine mkCtr (by decide) (Nat.le_of_ble_eq_true rfl) ?_
  intro G hK h hq _
  subst hK
  exact v_T_findOrderFault h F a oT l1 T_signs T_size T_next T_fault _ q hq ⟨rfl, rfl⟩

set_option maxHeartbeats 4000000 in
set_option maxRecDepth 100000 in
theorem v_X_within {G : Gm} (h : VOk G cX6_within RX6 3 (rmC 1 0 0)) (F : Nat) (a : Nat → Nat) (l0 : Int32) (l1 : Int32) (l2 : Int32) (o : Int32) (q : f_X_within l0 l1 l2 = some o) {Pst : Option Value → va_W → Prop} (hq : RetQ G 0 0 (some .boolean) Pst) (hp : Pst (some (.int o)) ([])) : V G 0 0 ([]) 0 [(0, .int l0), (1, .int l1), (2, .int l2)] [] := by
  unfold f_X_within at q
  refine V_iload_n (pc := 0) h 0 dX6_within_0 rfl ?_
  refine V_iload_n (pc := 1) h 1 dX6_within_1 rfl ?_
  refine V_icmp_lt (pc := 2) h 14 dX6_within_2 (by decide) (fun hc => ?_) (fun hc => ?_)
  · have q := if_p hc q
    refine V_iconst (pc := 14) h dX6_within_14 ic_0 ?_
    obtain rfl := Option.some.inj q
    exact V_zret (pc := 15) h hq rfl dX6_within_15 hp
  · have q := if_n hc q
    refine V_iload_n (pc := 5) h 0 dX6_within_5 rfl ?_
    refine V_iload_n (pc := 6) h 2 dX6_within_6 rfl ?_
    refine V_icmp_gt (pc := 7) h 14 dX6_within_7 (by decide) (fun hc => ?_) (fun hc => ?_)
    · have q := if_p hc q
      refine V_iconst (pc := 14) h dX6_within_14 ic_0 ?_
      obtain rfl := Option.some.inj q
      exact V_zret (pc := 15) h hq rfl dX6_within_15 hp
    · have q := if_n hc q
      refine V_iconst (pc := 10) h dX6_within_10 ic_1 ?_
      refine V_goto (pc := 11) (tgt := 15) h dX6_within_11 (by decide) ?_
      obtain rfl := Option.some.inj q
      exact V_zret (pc := 15) h hq rfl dX6_within_15 hp

set_option maxHeartbeats 4000000 in
set_option maxRecDepth 100000 in
theorem t_X_within (K : Kd) (F : Nat) (l0 : Int32) (l1 : Int32) (l2 : Int32) (r : Int32) (q : f_X_within l0 l1 l2 = some r) : Ctr yX6_within cX6_within 3 (some .boolean) 1 0 0 K [.int l0, .int l1, .int l2] ([]) (Eqs (some (.int r)) ([])) := by
  refine mkCtr (by decide) (Nat.le_of_ble_eq_true rfl) ?_
  intro G hK h hq _
  subst hK
  exact v_X_within h F (fun _ => 0) l0 l1 l2 _ q hq ⟨rfl, rfl⟩

set_option maxHeartbeats 4000000 in
set_option maxRecDepth 100000 in
theorem vj_T_readNumber_65 {G : Gm} (h : VOk G cX5_readNumber RX5 7 (rmC 2 0 0)) (F : Nat) (a : Nat → Nat) (oT : Nat) (l1 : Int32) (l2 : Int32) (l3 : Int32) (l4 : Int32) (l5 : Int32) (T_signs : Nat → Int32) (T_size : Int32) (T_next : Int32) (T_fault : Int32) (o : (Int32 × Int32 × Int32 × Int32) ⊕ (Int32 × Int32 × Int32)) (q : fj_T_readNumber_65 l4 l5 T_next T_fault = some o) (k1 : ∀ (l4' : Int32) (l5' : Int32) (T_next' : Int32) (T_fault' : Int32), o = .inl (l4', l5', T_next', T_fault') → V G 0 0 (wT (gK G) a oT T_signs T_size T_next' T_fault') 6 [(0, .ref (a oT)), (1, .int l1), (2, .int l2), (3, .int l3), (4, .int l4'), (5, .int l5')] []) (k2 : ∀ (r : Int32 × Int32 × Int32), o = .inr r → V G 0 0 (wT (gK G) a oT T_signs T_size (r.2.1) (r.2.2)) 71 [(0, .ref (a oT)), (2, .int l2), (3, .int l3), (4, .int (r.1))] []) : V G 0 0 (wT (gK G) a oT T_signs T_size T_next T_fault) 65 [(0, .ref (a oT)), (1, .int l1), (2, .int l2), (3, .int l3), (4, .int l4), (5, .int l5)] [] := by
  unfold fj_T_readNumber_65 at q
  obtain ⟨l5_65, e_l5_65⟩ : ∃ y : Int32, (l5 + (1 : Int32)) = y := ⟨_, rfl⟩
  have q := nm_use e_l5_65 q
  refine V_iinc (pc := 65) h [(5, .int l5_65), (0, .ref (a oT)), (1, .int l1), (2, .int l2), (3, .int l3), (4, .int l4)] 5 dX5_readNumber_65 rfl ic_1 (Nat.le_of_ble_eq_true rfl) (by rw [e_l5_65]; rfl) ?_
  refine V_goto (pc := 68) (tgt := 6) h dX5_readNumber_68 (by decide) ?_
  refine V_sub [(0, .ref (a oT)), (1, .int l1), (2, .int l2), (3, .int l3), (4, .int l4), (5, .int l5_65)] [1, 2, 3, 4, 5, 0] rfl ?_
  exact k1 l4 l5_65 T_next T_fault (Option.some.inj q).symm

set_option maxHeartbeats 4000000 in
set_option maxRecDepth 100000 in
theorem vb_T_readNumber_6 {G : Gm} (h : VOk G cX5_readNumber RX5 7 (rmC 2 0 0)) (F : Nat) (a : Nat → Nat) (oT : Nat) (l1 : Int32) (l2 : Int32) (l3 : Int32) (l4 : Int32) (l5 : Int32) (T_signs : Nat → Int32) (T_size : Int32) (T_next : Int32) (T_fault : Int32) (o : (Int32 × Int32 × Int32 × Int32) ⊕ (Int32 × Int32 × Int32)) (q : fb_T_readNumber_6 l1 T_signs T_size l4 l5 T_next T_fault = some o) (k1 : ∀ (l4' : Int32) (l5' : Int32) (T_next' : Int32) (T_fault' : Int32), o = .inl (l4', l5', T_next', T_fault') → V G 0 0 (wT (gK G) a oT T_signs T_size T_next' T_fault') 6 [(0, .ref (a oT)), (1, .int l1), (2, .int l2), (3, .int l3), (4, .int l4'), (5, .int l5')] []) (k2 : ∀ (r : Int32 × Int32 × Int32), o = .inr r → V G 0 0 (wT (gK G) a oT T_signs T_size (r.2.1) (r.2.2)) 71 [(0, .ref (a oT)), (2, .int l2), (3, .int l3), (4, .int (r.1))] []) : V G 0 0 (wT (gK G) a oT T_signs T_size T_next T_fault) 6 [(0, .ref (a oT)), (1, .int l1), (2, .int l2), (3, .int l3), (4, .int l4), (5, .int l5)] [] := by
  unfold fb_T_readNumber_6 at q
  refine V_iload (pc := 6) h 5 dX5_readNumber_6 rfl ?_
  refine V_iload_n (pc := 8) h 1 dX5_readNumber_8 rfl ?_
  refine V_icmp_ge (pc := 9) h 71 dX5_readNumber_9 (by decide) (fun hc => ?_) (fun hc => ?_)
  · have q := if_p hc q
    refine V_sub [(0, .ref (a oT)), (2, .int l2), (3, .int l3), (4, .int l4)] [0, 2, 3, 4] rfl ?_
    have kk := k2 _ (Option.some.inj q).symm
    exact kk
  · have q := if_n hc q
    refine V_aload_n (pc := 12) h 0 dX5_readNumber_12 rfl ?_
    refine V_get (pc := 13) h fl_5_26 0 rfl rfl dX5_readNumber_13 ?_
    refine V_if_ge (pc := 16) h 71 dX5_readNumber_16 (by decide) (fun hc => ?_) (fun hc => ?_)
    · have q := if_p hc q
      refine V_sub [(0, .ref (a oT)), (2, .int l2), (3, .int l3), (4, .int l4)] [0, 2, 3, 4] rfl ?_
      have kk := k2 _ (Option.some.inj q).symm
      exact kk
    · have q := if_n hc q
      refine V_aload_n (pc := 19) h 0 dX5_readNumber_19 rfl ?_
      refine V_aload_n (pc := 20) h 0 dX5_readNumber_20 rfl ?_
      refine V_get (pc := 21) h fl_5_23 0 rfl rfl dX5_readNumber_21 ?_
      obtain ⟨r_24, e_24, q⟩ := bs q
      refine V_wallV (pc := 24) h _ (t_T_digitAt (gK G) F a oT T_next T_signs T_size T_next T_fault _ e_24) mf_T_digitAt lk_RX5_19 im_T_digitAt se_T_digitAt ⟨Nat.le_of_ble_eq_true rfl, Nat.le_of_ble_eq_true rfl⟩ ⟨Nat.zero_le _, Nat.zero_le _⟩ rfl 0 rfl rfl rfl rfl (Nat.le_of_ble_eq_true rfl) [.int r_24] rfl dX5_readNumber_24 ?_
      refine V_istore (pc := 27) h [(6, .int r_24), (0, .ref (a oT)), (1, .int l1), (2, .int l2), (3, .int l3), (4, .int l4), (5, .int l5)] dX5_readNumber_27 (Nat.le_of_ble_eq_true rfl) rfl ?_
      refine V_iload (pc := 29) h 0 dX5_readNumber_29 rfl ?_
      refine V_if_ge (pc := 31) h 45 dX5_readNumber_31 (by decide) (fun hc => ?_) (fun hc => ?_)
      · have q := if_p hc q
        refine V_bipush (pc := 45) h dX5_readNumber_45 bi_10 ?_
        refine V_iload (pc := 47) h 5 dX5_readNumber_47 rfl ?_
        refine V_imul (pc := 49) h dX5_readNumber_49 ?_
        refine V_iload (pc := 50) h 0 dX5_readNumber_50 rfl ?_
        refine V_iadd (pc := 52) h dX5_readNumber_52 ?_
        refine V_topi (pc := 53) (fun l4_53 e_l4_53 => ?_)
        have q := nm_use e_l4_53 q
        refine V_istore (pc := 53) h [(4, .int l4_53), (6, .int r_24), (0, .ref (a oT)), (1, .int l1), (2, .int l2), (3, .int l3), (5, .int l5)] dX5_readNumber_53 (Nat.le_of_ble_eq_true rfl) rfl ?_
        refine V_aload_n (pc := 55) h 2 dX5_readNumber_55 rfl ?_
        refine V_dup (pc := 56) h dX5_readNumber_56 rfl ?_
        refine V_get (pc := 57) h fl_5_23 0 rfl rfl dX5_readNumber_57 ?_
        refine V_iconst (pc := 60) h dX5_readNumber_60 ic_1 ?_
        refine V_iadd (pc := 61) h dX5_readNumber_61 ?_
        refine V_topi (pc := 62) (fun T_next_62 e_T_next_62 => ?_)
        have q := nm_use e_T_next_62 q
        refine V_put (pc := 62) h fl_5_23 fp_5_2 0 (wT (gK G) a oT T_signs T_size T_next_62 T_fault) rfl rfl rfl (Nat.le_of_ble_eq_true rfl) rfl dX5_readNumber_62 ?_
        refine V_sub [(0, .ref (a oT)), (1, .int l1), (2, .int l2), (3, .int l3), (4, .int l4_53), (5, .int l5)] [2, 3, 4, 5, 0, 6] rfl ?_
        exact vj_T_readNumber_65 h F a oT l1 l2 l3 l4_53 l5 T_signs T_size T_next_62 T_fault _ q k1 k2
      · have q := if_n hc q
        refine V_aload_n (pc := 34) h 1 dX5_readNumber_34 rfl ?_
        refine V_aload_n (pc := 35) h 1 dX5_readNumber_35 rfl ?_
        refine V_get (pc := 36) h fl_5_23 0 rfl rfl dX5_readNumber_36 ?_
        refine V_put (pc := 39) h fl_5_26 fp_5_3 0 (wT (gK G) a oT T_signs T_size T_next T_next) rfl rfl rfl (Nat.le_of_ble_eq_true rfl) rfl dX5_readNumber_39 ?_
        refine V_goto (pc := 42) (tgt := 65) h dX5_readNumber_42 (by decide) ?_
        refine V_sub [(0, .ref (a oT)), (1, .int l1), (2, .int l2), (3, .int l3), (4, .int l4), (5, .int l5)] [1, 2, 3, 4, 5, 6] rfl ?_
        exact vj_T_readNumber_65 h F a oT l1 l2 l3 l4 l5 T_signs T_size T_next T_next _ q k1 k2

set_option maxHeartbeats 4000000 in
set_option maxRecDepth 100000 in
theorem vl_T_readNumber_6 {G : Gm} (h : VOk G cX5_readNumber RX5 7 (rmC 2 0 0)) (F : Nat) (a : Nat → Nat) (oT : Nat) (l1 : Int32) (l2 : Int32) (l3 : Int32) (l4 : Int32) (l5 : Int32) (T_signs : Nat → Int32) (T_size : Int32) (T_next : Int32) (T_fault : Int32) (r : Int32 × Int32 × Int32) (q : iter (un4 (fb_T_readNumber_6 l1 T_signs T_size)) F (l4, l5, T_next, T_fault) = some r) (kx : V G 0 0 (wT (gK G) a oT T_signs T_size (r.2.1) (r.2.2)) 71 [(0, .ref (a oT)), (2, .int l2), (3, .int l3), (4, .int (r.1))] []) : V G 0 0 (wT (gK G) a oT T_signs T_size T_next T_fault) 6 [(0, .ref (a oT)), (1, .int l1), (2, .int l2), (3, .int l3), (4, .int l4), (5, .int l5)] [] := by
  have hh := iter_ind (body := un4 (fb_T_readNumber_6 l1 T_signs T_size)) (P := fun z => V G 0 0 (wT (gK G) a oT T_signs T_size (z.2.2.1) (z.2.2.2)) 6 [(0, .ref (a oT)), (1, .int l1), (2, .int l2), (3, .int l3), (4, .int (z.1)), (5, .int (z.2.1))] []) (X := fun r => V G 0 0 (wT (gK G) a oT T_signs T_size (r.2.1) (r.2.2)) 71 [(0, .ref (a oT)), (2, .int l2), (3, .int l3), (4, .int (r.1))] []) (fun z o qb j1 j2 => vb_T_readNumber_6 h F a oT l1 l2 l3 (z.1) (z.2.1) T_signs T_size (z.2.2.1) (z.2.2.2) o qb (fun y0 y1 y2 y3 e => j1 (y0, y1, y2, y3) e) j2) F (l4, l5, T_next, T_fault) r q kx
  exact hh

set_option maxHeartbeats 4000000 in
set_option maxRecDepth 100000 in
theorem vj_T_readNumber_71 {G : Gm} (h : VOk G cX5_readNumber RX5 7 (rmC 2 0 0)) (F : Nat) (a : Nat → Nat) (oT : Nat) (l2 : Int32) (l3 : Int32) (l4 : Int32) (T_signs : Nat → Int32) (T_size : Int32) (T_next : Int32) (T_fault : Int32) (o : Int32 × Int32 × Int32) (q : fj_T_readNumber_71 l2 l3 l4 T_next T_fault = some o) {Pst : Option Value → va_W → Prop} (hq : RetQ G 0 0 (some .int) Pst) (hp : Pst (some (.int (o.1))) (wT (gK G) a oT T_signs T_size (o.2.1) (o.2.2))) : V G 0 0 (wT (gK G) a oT T_signs T_size T_next T_fault) 71 [(0, .ref (a oT)), (2, .int l2), (3, .int l3), (4, .int l4)] [] := by
  unfold fj_T_readNumber_71 at q
  refine V_aload_n (pc := 71) h 0 dX5_readNumber_71 rfl ?_
  refine V_get (pc := 72) h fl_5_26 0 rfl rfl dX5_readNumber_72 ?_
  refine V_if_ge (pc := 75) h 98 dX5_readNumber_75 (by decide) (fun hc => ?_) (fun hc => ?_)
  · have q := if_p hc q
    refine V_aload_n (pc := 98) h 0 dX5_readNumber_98 rfl ?_
    refine V_get (pc := 99) h fl_5_26 0 rfl rfl dX5_readNumber_99 ?_
    refine V_if_ge (pc := 102) h 110 dX5_readNumber_102 (by decide) (fun hc => ?_) (fun hc => ?_)
    · have q := if_p hc q
      refine V_iload_n (pc := 110) h 1 dX5_readNumber_110 rfl ?_
      obtain rfl := Option.some.inj q
      exact V_iret (pc := 111) h hq dX5_readNumber_111 hp
    · have q := if_n hc q
      refine V_iload (pc := 105) h 3 dX5_readNumber_105 rfl ?_
      refine V_goto (pc := 107) (tgt := 111) h dX5_readNumber_107 (by decide) ?_
      obtain rfl := Option.some.inj q
      exact V_iret (pc := 111) h hq dX5_readNumber_111 hp
  · have q := if_n hc q
    refine V_iload (pc := 78) h 3 dX5_readNumber_78 rfl ?_
    refine V_iload_n (pc := 80) h 1 dX5_readNumber_80 rfl ?_
    refine V_iload_n (pc := 81) h 2 dX5_readNumber_81 rfl ?_
    obtain ⟨r_82, e_82, q⟩ := bs q
    refine V_callSN (pc := 82) h _ (t_X_within (gK G) F  l4 l2 l3 _ e_82) mf_X_within (fun q => q.2.2.1) sm_X_within ⟨Nat.le_of_ble_eq_true rfl, Nat.le_of_ble_eq_true rfl⟩ ⟨Nat.zero_le _, Nat.zero_le _⟩ [] rfl rfl rfl rfl rfl (Nat.le_of_ble_eq_true rfl) (wT (gK G) a oT T_signs T_size T_next T_fault) rfl [.int r_82] rfl dX5_readNumber_82 ?_
    refine V_if_ne (pc := 85) h 98 dX5_readNumber_85 (by decide) (fun hc => ?_) (fun hc => ?_)
    · have q := if_n hc q
      refine V_aload_n (pc := 98) h 0 dX5_readNumber_98 rfl ?_
      refine V_get (pc := 99) h fl_5_26 0 rfl rfl dX5_readNumber_99 ?_
      refine V_if_ge (pc := 102) h 110 dX5_readNumber_102 (by decide) (fun hc => ?_) (fun hc => ?_)
      · have q := if_p hc q
        refine V_iload_n (pc := 110) h 1 dX5_readNumber_110 rfl ?_
        obtain rfl := Option.some.inj q
        exact V_iret (pc := 111) h hq dX5_readNumber_111 hp
      · have q := if_n hc q
        refine V_iload (pc := 105) h 3 dX5_readNumber_105 rfl ?_
        refine V_goto (pc := 107) (tgt := 111) h dX5_readNumber_107 (by decide) ?_
        obtain rfl := Option.some.inj q
        exact V_iret (pc := 111) h hq dX5_readNumber_111 hp
    · have q := if_p hc q
      refine V_aload_n (pc := 88) h 0 dX5_readNumber_88 rfl ?_
      refine V_aload_n (pc := 89) h 0 dX5_readNumber_89 rfl ?_
      refine V_get (pc := 90) h fl_5_23 0 rfl rfl dX5_readNumber_90 ?_
      refine V_iconst (pc := 93) h dX5_readNumber_93 ic_1 ?_
      refine V_isub (pc := 94) h dX5_readNumber_94 ?_
      refine V_topi (pc := 95) (fun T_fault_95 e_T_fault_95 => ?_)
      have q := nm_use e_T_fault_95 q
      refine V_put (pc := 95) h fl_5_26 fp_5_3 0 (wT (gK G) a oT T_signs T_size T_next T_fault_95) rfl rfl rfl (Nat.le_of_ble_eq_true rfl) rfl dX5_readNumber_95 ?_
      refine V_aload_n (pc := 98) h 0 dX5_readNumber_98 rfl ?_
      refine V_get (pc := 99) h fl_5_26 0 rfl rfl dX5_readNumber_99 ?_
      refine V_if_ge (pc := 102) h 110 dX5_readNumber_102 (by decide) (fun hc => ?_) (fun hc => ?_)
      · have q := if_p hc q
        refine V_iload_n (pc := 110) h 1 dX5_readNumber_110 rfl ?_
        obtain rfl := Option.some.inj q
        exact V_iret (pc := 111) h hq dX5_readNumber_111 hp
      · have q := if_n hc q
        refine V_iload (pc := 105) h 3 dX5_readNumber_105 rfl ?_
        refine V_goto (pc := 107) (tgt := 111) h dX5_readNumber_107 (by decide) ?_
        obtain rfl := Option.some.inj q
        exact V_iret (pc := 111) h hq dX5_readNumber_111 hp

set_option maxHeartbeats 4000000 in
set_option maxRecDepth 100000 in
theorem v_T_readNumber {G : Gm} (h : VOk G cX5_readNumber RX5 7 (rmC 2 0 0)) (F : Nat) (a : Nat → Nat) (oT : Nat) (l1 : Int32) (l2 : Int32) (l3 : Int32) (T_signs : Nat → Int32) (T_size : Int32) (T_next : Int32) (T_fault : Int32) (o : Int32 × Int32 × Int32) (q : f_T_readNumber F l1 l2 l3 T_signs T_size T_next T_fault = some o) {Pst : Option Value → va_W → Prop} (hq : RetQ G 0 0 (some .int) Pst) (hp : Pst (some (.int (o.1))) (wT (gK G) a oT T_signs T_size (o.2.1) (o.2.2))) : V G 0 0 (wT (gK G) a oT T_signs T_size T_next T_fault) 0 [(0, .ref (a oT)), (1, .int l1), (2, .int l2), (3, .int l3)] [] := by
  unfold f_T_readNumber at q
  refine V_iconst (pc := 0) h dX5_readNumber_0 ic_0 ?_
  refine V_istore (pc := 1) h [(4, .int (0 : Int32)), (0, .ref (a oT)), (1, .int l1), (2, .int l2), (3, .int l3)] dX5_readNumber_1 (Nat.le_of_ble_eq_true rfl) rfl ?_
  refine V_iconst (pc := 3) h dX5_readNumber_3 ic_0 ?_
  refine V_istore (pc := 4) h [(5, .int (0 : Int32)), (4, .int (0 : Int32)), (0, .ref (a oT)), (1, .int l1), (2, .int l2), (3, .int l3)] dX5_readNumber_4 (Nat.le_of_ble_eq_true rfl) rfl ?_
  obtain ⟨l4_6, T_next_6, T_fault_6, e_6, q⟩ := bs3 q
  refine V_sub [(0, .ref (a oT)), (1, .int l1), (2, .int l2), (3, .int l3), (4, .int (0 : Int32)), (5, .int (0 : Int32))] [2, 3, 4, 5, 1, 0] rfl ?_
  refine vl_T_readNumber_6 h F a oT l1 l2 l3 (0 : Int32) (0 : Int32) T_signs T_size T_next T_fault _ e_6 ?_
  show V G 0 0 (wT (gK G) a oT T_signs T_size T_next_6 T_fault_6) 71 [(0, .ref (a oT)), (2, .int l2), (3, .int l3), (4, .int l4_6)] []
  exact vj_T_readNumber_71 h F a oT l2 l3 l4_6 T_signs T_size T_next_6 T_fault_6 _ q hq hp

set_option maxHeartbeats 4000000 in
set_option maxRecDepth 100000 in
theorem t_T_readNumber (K : Kd) (F : Nat) (a : Nat → Nat) (oT : Nat) (l1 : Int32) (l2 : Int32) (l3 : Int32) (T_signs : Nat → Int32) (T_size : Int32) (T_next : Int32) (T_fault : Int32) (r : Int32) (T_next' : Int32) (T_fault' : Int32) (q : f_T_readNumber F l1 l2 l3 T_signs T_size T_next T_fault = some (r, T_next', T_fault')) : Ctr yX5_readNumber cX5_readNumber 7 (some .int) 2 0 0 K [.ref (a oT), .int l1, .int l2, .int l3] (wT K a oT T_signs T_size T_next T_fault) (Eqs (some (.int r)) (wT K a oT T_signs T_size T_next' T_fault')) := by
  refine mkCtr (by decide) (Nat.le_of_ble_eq_true rfl) ?_
  intro G hK h hq _
  subst hK
  exact v_T_readNumber h F a oT l1 l2 l3 T_signs T_size T_next T_fault _ q hq ⟨rfl, rfl⟩

set_option maxHeartbeats 4000000 in
set_option maxRecDepth 100000 in
theorem v_T_readBolt {G : Gm} (h : VOk G cX5_readBolt RX5 7 (rmC 3 0 0)) (F : Nat) (a : Nat → Nat) (oT : Nat) (oJ : Nat) (T_signs : Nat → Int32) (T_size : Int32) (T_next : Int32) (T_fault : Int32) (J_give : Nat → Int32) (J_clear : Nat → Int32) (J_yieldAt : Nat → Int32) (J_soft : Nat → Int32) (J_breakAt : Nat → Int32) (J_out : Nat → Int32) (J_pitches : Nat → Int32) (J_bolts : Int32) (J_upper : Int32) (J_lower : Int32) (o : Int32 × Int32 × (Nat → Int32) × (Nat → Int32) × (Nat → Int32) × (Nat → Int32) × (Nat → Int32) × (Nat → Int32) × (Nat → Int32) × Int32) (q : f_T_readBolt F T_signs T_size T_next T_fault J_give J_clear J_yieldAt J_soft J_breakAt J_out J_pitches J_bolts = some o) {Pst : Option Value → va_W → Prop} (hq : RetQ G 0 0 none Pst) (hp : Pst none (wT (gK G) a oT T_signs T_size (o.1) (o.2.1) ++ (wJ (gK G) a oJ (o.2.2.1) (o.2.2.2.1) (o.2.2.2.2.1) (o.2.2.2.2.2.1) (o.2.2.2.2.2.2.1) (o.2.2.2.2.2.2.2.1) (o.2.2.2.2.2.2.2.2.1) (o.2.2.2.2.2.2.2.2.2) J_upper J_lower))) : V G 0 0 (wT (gK G) a oT T_signs T_size T_next T_fault ++ (wJ (gK G) a oJ J_give J_clear J_yieldAt J_soft J_breakAt J_out J_pitches J_bolts J_upper J_lower)) 0 [(0, .ref (a oT)), (1, .ref (a oJ))] [] := by
  unfold f_T_readBolt at q
  refine V_aload_n (pc := 0) h 0 dX5_readBolt_0 rfl ?_
  refine V_iconst (pc := 1) h dX5_readBolt_1 ic_1 ?_
  refine V_iconst (pc := 2) h dX5_readBolt_2 ic_1 ?_
  refine V_iconst (pc := 3) h dX5_readBolt_3 ic_5 ?_
  obtain ⟨r_4, T_next_4, T_fault_4, e_4, q⟩ := bs3 q
  refine V_partV (pc := 4) h _ (t_T_readNumber (gK G) F a oT (1 : Int32) (1 : Int32) (5 : Int32) T_signs T_size T_next T_fault _ _ _ e_4) mf_T_readNumber lk_RX5_34 im_T_readNumber se_T_readNumber ⟨Nat.le_of_ble_eq_true rfl, Nat.le_of_ble_eq_true rfl⟩ ⟨Nat.zero_le _, Nat.zero_le _⟩ (wT (gK G) a oT T_signs T_size T_next_4 T_fault_4 ++ (wJ (gK G) a oJ J_give J_clear J_yieldAt J_soft J_breakAt J_out J_pitches J_bolts J_upper J_lower)) [0, 1] [2, 3, 4, 5, 6, 7, 8, 9] 10 rfl rfl rfl rfl rfl (wJ (gK G) a oJ J_give J_clear J_yieldAt J_soft J_breakAt J_out J_pitches J_bolts J_upper J_lower) rfl rfl rfl 0 rfl rfl rfl rfl (Nat.le_of_ble_eq_true rfl) [.int r_4] rfl dX5_readBolt_4 ?_
  refine V_istore_n (pc := 7) h [(2, .int r_4), (0, .ref (a oT)), (1, .ref (a oJ))] dX5_readBolt_7 (Nat.le_of_ble_eq_true rfl) rfl ?_
  refine V_aload_n (pc := 8) h 1 dX5_readBolt_8 rfl ?_
  refine V_iconst (pc := 9) h dX5_readBolt_9 ic_1 ?_
  refine V_iconst (pc := 10) h dX5_readBolt_10 ic_0 ?_
  refine V_bipush (pc := 11) h dX5_readBolt_11 bi_9 ?_
  obtain ⟨r_13, T_next_13, T_fault_13, e_13, q⟩ := bs3 q
  refine V_partV (pc := 13) h _ (t_T_readNumber (gK G) F a oT (1 : Int32) (0 : Int32) (9 : Int32) T_signs T_size T_next_4 T_fault_4 _ _ _ e_13) mf_T_readNumber lk_RX5_34 im_T_readNumber se_T_readNumber ⟨Nat.le_of_ble_eq_true rfl, Nat.le_of_ble_eq_true rfl⟩ ⟨Nat.zero_le _, Nat.zero_le _⟩ (wT (gK G) a oT T_signs T_size T_next_13 T_fault_13 ++ (wJ (gK G) a oJ J_give J_clear J_yieldAt J_soft J_breakAt J_out J_pitches J_bolts J_upper J_lower)) [0, 1] [2, 3, 4, 5, 6, 7, 8, 9] 10 rfl rfl rfl rfl rfl (wJ (gK G) a oJ J_give J_clear J_yieldAt J_soft J_breakAt J_out J_pitches J_bolts J_upper J_lower) rfl rfl rfl 0 rfl rfl rfl rfl (Nat.le_of_ble_eq_true rfl) [.int r_13] rfl dX5_readBolt_13 ?_
  refine V_istore_n (pc := 16) h [(3, .int r_13), (2, .int r_4), (0, .ref (a oT)), (1, .ref (a oJ))] dX5_readBolt_16 (Nat.le_of_ble_eq_true rfl) rfl ?_
  refine V_aload_n (pc := 17) h 2 dX5_readBolt_17 rfl ?_
  refine V_iconst (pc := 18) h dX5_readBolt_18 ic_2 ?_
  refine V_iconst (pc := 19) h dX5_readBolt_19 ic_1 ?_
  refine V_bipush (pc := 20) h dX5_readBolt_20 bi_30 ?_
  obtain ⟨r_22, T_next_22, T_fault_22, e_22, q⟩ := bs3 q
  refine V_partV (pc := 22) h _ (t_T_readNumber (gK G) F a oT (2 : Int32) (1 : Int32) (30 : Int32) T_signs T_size T_next_13 T_fault_13 _ _ _ e_22) mf_T_readNumber lk_RX5_34 im_T_readNumber se_T_readNumber ⟨Nat.le_of_ble_eq_true rfl, Nat.le_of_ble_eq_true rfl⟩ ⟨Nat.zero_le _, Nat.zero_le _⟩ (wT (gK G) a oT T_signs T_size T_next_22 T_fault_22 ++ (wJ (gK G) a oJ J_give J_clear J_yieldAt J_soft J_breakAt J_out J_pitches J_bolts J_upper J_lower)) [0, 1] [2, 3, 4, 5, 6, 7, 8, 9] 10 rfl rfl rfl rfl rfl (wJ (gK G) a oJ J_give J_clear J_yieldAt J_soft J_breakAt J_out J_pitches J_bolts J_upper J_lower) rfl rfl rfl 0 rfl rfl rfl rfl (Nat.le_of_ble_eq_true rfl) [.int r_22] rfl dX5_readBolt_22 ?_
  refine V_istore (pc := 25) h [(4, .int r_22), (3, .int r_13), (2, .int r_4), (0, .ref (a oT)), (1, .ref (a oJ))] dX5_readBolt_25 (Nat.le_of_ble_eq_true rfl) rfl ?_
  refine V_aload_n (pc := 27) h 3 dX5_readBolt_27 rfl ?_
  refine V_iconst (pc := 28) h dX5_readBolt_28 ic_2 ?_
  refine V_iload_n (pc := 29) h 2 dX5_readBolt_29 rfl ?_
  refine V_bipush (pc := 30) h dX5_readBolt_30 bi_9 ?_
  obtain ⟨r_32, T_next_32, T_fault_32, e_32, q⟩ := bs3 q
  refine V_partV (pc := 32) h _ (t_T_readNumber (gK G) F a oT (2 : Int32) r_4 (9 : Int32) T_signs T_size T_next_22 T_fault_22 _ _ _ e_32) mf_T_readNumber lk_RX5_34 im_T_readNumber se_T_readNumber ⟨Nat.le_of_ble_eq_true rfl, Nat.le_of_ble_eq_true rfl⟩ ⟨Nat.zero_le _, Nat.zero_le _⟩ (wT (gK G) a oT T_signs T_size T_next_32 T_fault_32 ++ (wJ (gK G) a oJ J_give J_clear J_yieldAt J_soft J_breakAt J_out J_pitches J_bolts J_upper J_lower)) [0, 1] [2, 3, 4, 5, 6, 7, 8, 9] 10 rfl rfl rfl rfl rfl (wJ (gK G) a oJ J_give J_clear J_yieldAt J_soft J_breakAt J_out J_pitches J_bolts J_upper J_lower) rfl rfl rfl 0 rfl rfl rfl rfl (Nat.le_of_ble_eq_true rfl) [.int r_32] rfl dX5_readBolt_32 ?_
  refine V_istore (pc := 35) h [(5, .int r_32), (4, .int r_22), (3, .int r_13), (2, .int r_4), (0, .ref (a oT)), (1, .ref (a oJ))] dX5_readBolt_35 (Nat.le_of_ble_eq_true rfl) rfl ?_
  refine V_aload_n (pc := 37) h 4 dX5_readBolt_37 rfl ?_
  refine V_iconst (pc := 38) h dX5_readBolt_38 ic_2 ?_
  refine V_iload (pc := 39) h 1 dX5_readBolt_39 rfl ?_
  refine V_iconst (pc := 41) h dX5_readBolt_41 ic_1 ?_
  refine V_iadd (pc := 42) h dX5_readBolt_42 ?_
  refine V_bipush (pc := 43) h dX5_readBolt_43 bi_60 ?_
  obtain ⟨r_45, T_next_45, T_fault_45, e_45, q⟩ := bs3 q
  refine V_partV (pc := 45) h _ (t_T_readNumber (gK G) F a oT (2 : Int32) (r_22 + (1 : Int32)) (60 : Int32) T_signs T_size T_next_32 T_fault_32 _ _ _ e_45) mf_T_readNumber lk_RX5_34 im_T_readNumber se_T_readNumber ⟨Nat.le_of_ble_eq_true rfl, Nat.le_of_ble_eq_true rfl⟩ ⟨Nat.zero_le _, Nat.zero_le _⟩ (wT (gK G) a oT T_signs T_size T_next_45 T_fault_45 ++ (wJ (gK G) a oJ J_give J_clear J_yieldAt J_soft J_breakAt J_out J_pitches J_bolts J_upper J_lower)) [0, 1] [2, 3, 4, 5, 6, 7, 8, 9] 10 rfl rfl rfl rfl rfl (wJ (gK G) a oJ J_give J_clear J_yieldAt J_soft J_breakAt J_out J_pitches J_bolts J_upper J_lower) rfl rfl rfl 0 rfl rfl rfl rfl (Nat.le_of_ble_eq_true rfl) [.int r_45] rfl dX5_readBolt_45 ?_
  refine V_istore (pc := 48) h [(6, .int r_45), (5, .int r_32), (4, .int r_22), (3, .int r_13), (2, .int r_4), (0, .ref (a oT)), (1, .ref (a oJ))] dX5_readBolt_48 (Nat.le_of_ble_eq_true rfl) rfl ?_
  refine V_aload_n (pc := 50) h 6 dX5_readBolt_50 rfl ?_
  refine V_iload_n (pc := 51) h 4 dX5_readBolt_51 rfl ?_
  refine V_iload_n (pc := 52) h 3 dX5_readBolt_52 rfl ?_
  refine V_iload (pc := 53) h 2 dX5_readBolt_53 rfl ?_
  refine V_iload (pc := 55) h 1 dX5_readBolt_55 rfl ?_
  refine V_iload (pc := 57) h 0 dX5_readBolt_57 rfl ?_
  obtain ⟨J_give_59, J_clear_59, J_yieldAt_59, J_soft_59, J_breakAt_59, J_out_59, J_pitches_59, J_bolts_59, e_59, q⟩ := bs8 q
  refine V_partV (pc := 59) h _ (t_J_add (gK G) F a oJ r_4 r_13 r_22 r_32 r_45 J_give J_clear J_yieldAt J_soft J_breakAt J_out J_pitches J_bolts J_upper J_lower _ _ _ _ _ _ _ _ e_59) mf_J_add lk_RX5_55 im_J_add se_J_add ⟨Nat.le_of_ble_eq_true rfl, Nat.le_of_ble_eq_true rfl⟩ ⟨Nat.zero_le _, Nat.zero_le _⟩ (wT (gK G) a oT T_signs T_size T_next_45 T_fault_45 ++ (wJ (gK G) a oJ J_give_59 J_clear_59 J_yieldAt_59 J_soft_59 J_breakAt_59 J_out_59 J_pitches_59 J_bolts_59 J_upper J_lower)) [2, 3, 4, 5, 6, 7, 8, 9] [0, 1] 10 rfl rfl rfl rfl rfl (wT (gK G) a oT T_signs T_size T_next_45 T_fault_45) rfl rfl rfl 2 rfl rfl rfl rfl (Nat.le_of_ble_eq_true rfl) [] rfl dX5_readBolt_59 ?_
  obtain rfl := Option.some.inj q
  exact V_vret (pc := 62) h hq dX5_readBolt_62 hp

set_option maxHeartbeats 4000000 in
set_option maxRecDepth 100000 in
theorem t_T_readBolt (K : Kd) (F : Nat) (a : Nat → Nat) (oT : Nat) (oJ : Nat) (T_signs : Nat → Int32) (T_size : Int32) (T_next : Int32) (T_fault : Int32) (J_give : Nat → Int32) (J_clear : Nat → Int32) (J_yieldAt : Nat → Int32) (J_soft : Nat → Int32) (J_breakAt : Nat → Int32) (J_out : Nat → Int32) (J_pitches : Nat → Int32) (J_bolts : Int32) (J_upper : Int32) (J_lower : Int32) (T_next' : Int32) (T_fault' : Int32) (J_give' : Nat → Int32) (J_clear' : Nat → Int32) (J_yieldAt' : Nat → Int32) (J_soft' : Nat → Int32) (J_breakAt' : Nat → Int32) (J_out' : Nat → Int32) (J_pitches' : Nat → Int32) (J_bolts' : Int32) (q : f_T_readBolt F T_signs T_size T_next T_fault J_give J_clear J_yieldAt J_soft J_breakAt J_out J_pitches J_bolts = some (T_next', T_fault', J_give', J_clear', J_yieldAt', J_soft', J_breakAt', J_out', J_pitches', J_bolts')) : Ctr yX5_readBolt cX5_readBolt 7 none 3 0 0 K [.ref (a oT), .ref (a oJ)] (wT K a oT T_signs T_size T_next T_fault ++ (wJ K a oJ J_give J_clear J_yieldAt J_soft J_breakAt J_out J_pitches J_bolts J_upper J_lower)) (Eqs none (wT K a oT T_signs T_size T_next' T_fault' ++ (wJ K a oJ J_give' J_clear' J_yieldAt' J_soft' J_breakAt' J_out' J_pitches' J_bolts' J_upper J_lower))) := by
  refine mkCtr (by decide) (Nat.le_of_ble_eq_true rfl) ?_
  intro G hK h hq _
  subst hK
  exact v_T_readBolt h F a oT oJ T_signs T_size T_next T_fault J_give J_clear J_yieldAt J_soft J_breakAt J_out J_pitches J_bolts J_upper J_lower _ q hq ⟨rfl, rfl⟩

set_option maxHeartbeats 4000000 in
set_option maxRecDepth 100000 in
theorem vj_T_readJoint_138 {G : Gm} (h : VOk G cX5_readJoint RX5 4 (rmC 4 0 0)) (F : Nat) (a : Nat → Nat) (oT : Nat) (oJ : Nat) (l2 : Int32) (T_signs : Nat → Int32) (T_size : Int32) (T_next : Int32) (T_fault : Int32) (J_give : Nat → Int32) (J_clear : Nat → Int32) (J_yieldAt : Nat → Int32) (J_soft : Nat → Int32) (J_breakAt : Nat → Int32) (J_out : Nat → Int32) (J_pitches : Nat → Int32) (J_bolts : Int32) (J_upper : Int32) (J_lower : Int32) (o : (Int32 × Int32 × Int32 × (Nat → Int32) × (Nat → Int32) × (Nat → Int32) × (Nat → Int32) × (Nat → Int32) × (Nat → Int32) × (Nat → Int32) × Int32) ⊕ (Int32 × Int32 × (Nat → Int32) × (Nat → Int32) × (Nat → Int32) × (Nat → Int32) × (Nat → Int32) × (Nat → Int32) × (Nat → Int32) × Int32)) (q : fj_T_readJoint_138 l2 T_next T_fault J_give J_clear J_yieldAt J_soft J_breakAt J_out J_pitches J_bolts = some o) (k1 : ∀ (l2' : Int32) (T_next' : Int32) (T_fault' : Int32) (J_give' : Nat → Int32) (J_clear' : Nat → Int32) (J_yieldAt' : Nat → Int32) (J_soft' : Nat → Int32) (J_breakAt' : Nat → Int32) (J_out' : Nat → Int32) (J_pitches' : Nat → Int32) (J_bolts' : Int32), o = .inl (l2', T_next', T_fault', J_give', J_clear', J_yieldAt', J_soft', J_breakAt', J_out', J_pitches', J_bolts') → V G 0 0 (wT (gK G) a oT T_signs T_size T_next' T_fault' ++ (wJ (gK G) a oJ J_give' J_clear' J_yieldAt' J_soft' J_breakAt' J_out' J_pitches' J_bolts' J_upper J_lower)) 44 [(0, .ref (a oT)), (1, .ref (a oJ)), (2, .int l2')] []) (k2 : ∀ (r : Int32 × Int32 × (Nat → Int32) × (Nat → Int32) × (Nat → Int32) × (Nat → Int32) × (Nat → Int32) × (Nat → Int32) × (Nat → Int32) × Int32), o = .inr r → V G 0 0 (wT (gK G) a oT T_signs T_size (r.1) (r.2.1) ++ (wJ (gK G) a oJ (r.2.2.1) (r.2.2.2.1) (r.2.2.2.2.1) (r.2.2.2.2.2.1) (r.2.2.2.2.2.2.1) (r.2.2.2.2.2.2.2.1) (r.2.2.2.2.2.2.2.2.1) (r.2.2.2.2.2.2.2.2.2) J_upper J_lower)) 144 [(0, .ref (a oT))] []) : V G 0 0 (wT (gK G) a oT T_signs T_size T_next T_fault ++ (wJ (gK G) a oJ J_give J_clear J_yieldAt J_soft J_breakAt J_out J_pitches J_bolts J_upper J_lower)) 138 [(0, .ref (a oT)), (1, .ref (a oJ)), (2, .int l2)] [] := by
  unfold fj_T_readJoint_138 at q
  obtain ⟨l2_138, e_l2_138⟩ : ∃ y : Int32, (l2 + (1 : Int32)) = y := ⟨_, rfl⟩
  have q := nm_use e_l2_138 q
  refine V_iinc (pc := 138) h [(2, .int l2_138), (0, .ref (a oT)), (1, .ref (a oJ))] 2 dX5_readJoint_138 rfl ic_1 (Nat.le_of_ble_eq_true rfl) (by rw [e_l2_138]; rfl) ?_
  refine V_goto (pc := 141) (tgt := 44) h dX5_readJoint_141 (by decide) ?_
  refine V_sub [(0, .ref (a oT)), (1, .ref (a oJ)), (2, .int l2_138)] [1, 2, 0] rfl ?_
  exact k1 l2_138 T_next T_fault J_give J_clear J_yieldAt J_soft J_breakAt J_out J_pitches J_bolts (Option.some.inj q).symm

set_option maxHeartbeats 4000000 in
set_option maxRecDepth 100000 in
theorem vj_T_readJoint_97 {G : Gm} (h : VOk G cX5_readJoint RX5 4 (rmC 4 0 0)) (F : Nat) (a : Nat → Nat) (oT : Nat) (oJ : Nat) (l2 : Int32) (T_signs : Nat → Int32) (T_size : Int32) (T_next : Int32) (T_fault : Int32) (J_give : Nat → Int32) (J_clear : Nat → Int32) (J_yieldAt : Nat → Int32) (J_soft : Nat → Int32) (J_breakAt : Nat → Int32) (J_out : Nat → Int32) (J_pitches : Nat → Int32) (J_bolts : Int32) (J_upper : Int32) (J_lower : Int32) (o : (Int32 × Int32 × Int32 × (Nat → Int32) × (Nat → Int32) × (Nat → Int32) × (Nat → Int32) × (Nat → Int32) × (Nat → Int32) × (Nat → Int32) × Int32) ⊕ (Int32 × Int32 × (Nat → Int32) × (Nat → Int32) × (Nat → Int32) × (Nat → Int32) × (Nat → Int32) × (Nat → Int32) × (Nat → Int32) × Int32)) (q : fj_T_readJoint_97 l2 T_next J_give J_clear J_yieldAt J_soft J_breakAt J_out J_pitches J_bolts = some o) (k1 : ∀ (l2' : Int32) (T_next' : Int32) (T_fault' : Int32) (J_give' : Nat → Int32) (J_clear' : Nat → Int32) (J_yieldAt' : Nat → Int32) (J_soft' : Nat → Int32) (J_breakAt' : Nat → Int32) (J_out' : Nat → Int32) (J_pitches' : Nat → Int32) (J_bolts' : Int32), o = .inl (l2', T_next', T_fault', J_give', J_clear', J_yieldAt', J_soft', J_breakAt', J_out', J_pitches', J_bolts') → V G 0 0 (wT (gK G) a oT T_signs T_size T_next' T_fault' ++ (wJ (gK G) a oJ J_give' J_clear' J_yieldAt' J_soft' J_breakAt' J_out' J_pitches' J_bolts' J_upper J_lower)) 44 [(0, .ref (a oT)), (1, .ref (a oJ)), (2, .int l2')] []) (k2 : ∀ (r : Int32 × Int32 × (Nat → Int32) × (Nat → Int32) × (Nat → Int32) × (Nat → Int32) × (Nat → Int32) × (Nat → Int32) × (Nat → Int32) × Int32), o = .inr r → V G 0 0 (wT (gK G) a oT T_signs T_size (r.1) (r.2.1) ++ (wJ (gK G) a oJ (r.2.2.1) (r.2.2.2.1) (r.2.2.2.2.1) (r.2.2.2.2.2.1) (r.2.2.2.2.2.2.1) (r.2.2.2.2.2.2.2.1) (r.2.2.2.2.2.2.2.2.1) (r.2.2.2.2.2.2.2.2.2) J_upper J_lower)) 144 [(0, .ref (a oT))] []) : V G 0 0 (wT (gK G) a oT T_signs T_size T_next T_fault ++ (wJ (gK G) a oJ J_give J_clear J_yieldAt J_soft J_breakAt J_out J_pitches J_bolts J_upper J_lower)) 97 [(0, .ref (a oT)), (1, .ref (a oJ)), (2, .int l2)] [] := by
  unfold fj_T_readJoint_97 at q
  refine V_aload_n (pc := 97) h 0 dX5_readJoint_97 rfl ?_
  refine V_aload_n (pc := 98) h 0 dX5_readJoint_98 rfl ?_
  refine V_get (pc := 99) h fl_5_23 0 rfl rfl dX5_readJoint_99 ?_
  refine V_put (pc := 102) h fl_5_26 fp_5_3 0 (wT (gK G) a oT T_signs T_size T_next T_next ++ (wJ (gK G) a oJ J_give J_clear J_yieldAt J_soft J_breakAt J_out J_pitches J_bolts J_upper J_lower)) rfl rfl rfl (Nat.le_of_ble_eq_true rfl) rfl dX5_readJoint_102 ?_
  refine V_goto (pc := 105) (tgt := 138) h dX5_readJoint_105 (by decide) ?_
  exact vj_T_readJoint_138 h F a oT oJ l2 T_signs T_size T_next T_next J_give J_clear J_yieldAt J_soft J_breakAt J_out J_pitches J_bolts J_upper J_lower _ q k1 k2

set_option maxHeartbeats 4000000 in
set_option maxRecDepth 100000 in
theorem vb_T_readJoint_44 {G : Gm} (h : VOk G cX5_readJoint RX5 4 (rmC 4 0 0)) (F : Nat) (a : Nat → Nat) (oT : Nat) (oJ : Nat) (l2 : Int32) (T_signs : Nat → Int32) (T_size : Int32) (T_next : Int32) (T_fault : Int32) (J_give : Nat → Int32) (J_clear : Nat → Int32) (J_yieldAt : Nat → Int32) (J_soft : Nat → Int32) (J_breakAt : Nat → Int32) (J_out : Nat → Int32) (J_pitches : Nat → Int32) (J_bolts : Int32) (J_upper : Int32) (J_lower : Int32) (o : (Int32 × Int32 × Int32 × (Nat → Int32) × (Nat → Int32) × (Nat → Int32) × (Nat → Int32) × (Nat → Int32) × (Nat → Int32) × (Nat → Int32) × Int32) ⊕ (Int32 × Int32 × (Nat → Int32) × (Nat → Int32) × (Nat → Int32) × (Nat → Int32) × (Nat → Int32) × (Nat → Int32) × (Nat → Int32) × Int32)) (q : fb_T_readJoint_44 F T_signs T_size l2 T_next T_fault J_give J_clear J_yieldAt J_soft J_breakAt J_out J_pitches J_bolts = some o) (k1 : ∀ (l2' : Int32) (T_next' : Int32) (T_fault' : Int32) (J_give' : Nat → Int32) (J_clear' : Nat → Int32) (J_yieldAt' : Nat → Int32) (J_soft' : Nat → Int32) (J_breakAt' : Nat → Int32) (J_out' : Nat → Int32) (J_pitches' : Nat → Int32) (J_bolts' : Int32), o = .inl (l2', T_next', T_fault', J_give', J_clear', J_yieldAt', J_soft', J_breakAt', J_out', J_pitches', J_bolts') → V G 0 0 (wT (gK G) a oT T_signs T_size T_next' T_fault' ++ (wJ (gK G) a oJ J_give' J_clear' J_yieldAt' J_soft' J_breakAt' J_out' J_pitches' J_bolts' J_upper J_lower)) 44 [(0, .ref (a oT)), (1, .ref (a oJ)), (2, .int l2')] []) (k2 : ∀ (r : Int32 × Int32 × (Nat → Int32) × (Nat → Int32) × (Nat → Int32) × (Nat → Int32) × (Nat → Int32) × (Nat → Int32) × (Nat → Int32) × Int32), o = .inr r → V G 0 0 (wT (gK G) a oT T_signs T_size (r.1) (r.2.1) ++ (wJ (gK G) a oJ (r.2.2.1) (r.2.2.2.1) (r.2.2.2.2.1) (r.2.2.2.2.2.1) (r.2.2.2.2.2.2.1) (r.2.2.2.2.2.2.2.1) (r.2.2.2.2.2.2.2.2.1) (r.2.2.2.2.2.2.2.2.2) J_upper J_lower)) 144 [(0, .ref (a oT))] []) : V G 0 0 (wT (gK G) a oT T_signs T_size T_next T_fault ++ (wJ (gK G) a oJ J_give J_clear J_yieldAt J_soft J_breakAt J_out J_pitches J_bolts J_upper J_lower)) 44 [(0, .ref (a oT)), (1, .ref (a oJ)), (2, .int l2)] [] := by
  unfold fb_T_readJoint_44 at q
  refine V_iload_n (pc := 44) h 2 dX5_readJoint_44 rfl ?_
  refine V_iconst (pc := 45) h dX5_readJoint_45 ic_5 ?_
  refine V_icmp_ge (pc := 46) h 144 dX5_readJoint_46 (by decide) (fun hc => ?_) (fun hc => ?_)
  · have q := if_p hc q
    refine V_sub [(0, .ref (a oT))] [0] rfl ?_
    have kk := k2 _ (Option.some.inj q).symm
    exact kk
  · have q := if_n hc q
    refine V_aload_n (pc := 49) h 0 dX5_readJoint_49 rfl ?_
    refine V_get (pc := 50) h fl_5_26 0 rfl rfl dX5_readJoint_50 ?_
    refine V_if_ge (pc := 53) h 144 dX5_readJoint_53 (by decide) (fun hc => ?_) (fun hc => ?_)
    · have q := if_p hc q
      refine V_sub [(0, .ref (a oT))] [0] rfl ?_
      have kk := k2 _ (Option.some.inj q).symm
      exact kk
    · have q := if_n hc q
      refine V_aload_n (pc := 56) h 0 dX5_readJoint_56 rfl ?_
      refine V_get (pc := 57) h fl_5_23 0 rfl rfl dX5_readJoint_57 ?_
      refine V_aload_n (pc := 60) h 0 dX5_readJoint_60 rfl ?_
      refine V_get (pc := 61) h fl_5_15 0 rfl rfl dX5_readJoint_61 ?_
      refine V_icmp_ge (pc := 64) h 144 dX5_readJoint_64 (by decide) (fun hc => ?_) (fun hc => ?_)
      · have q := if_p hc q
        refine V_sub [(0, .ref (a oT))] [0] rfl ?_
        have kk := k2 _ (Option.some.inj q).symm
        exact kk
      · have q := if_n hc q
        refine V_aload_n (pc := 67) h 0 dX5_readJoint_67 rfl ?_
        refine V_get (pc := 68) h fl_5_9 0 rfl rfl dX5_readJoint_68 ?_
        refine V_aload_n (pc := 71) h 0 dX5_readJoint_71 rfl ?_
        refine V_get (pc := 72) h fl_5_23 0 rfl rfl dX5_readJoint_72 ?_
        obtain ⟨v_75, e_v_75, q⟩ := bs q
        refine V_iald (pc := 75) h 1 rfl e_v_75 dX5_readJoint_75 ?_
        refine V_bipush (pc := 76) h dX5_readJoint_76 bi_47 ?_
        refine V_icmp_ne (pc := 78) h 97 dX5_readJoint_78 (by decide) (fun hc => ?_) (fun hc => ?_)
        · have q := if_n hc q
          exact vj_T_readJoint_97 h F a oT oJ l2 T_signs T_size T_next T_fault J_give J_clear J_yieldAt J_soft J_breakAt J_out J_pitches J_bolts J_upper J_lower _ q k1 k2
        · have q := if_p hc q
          refine V_aload_n (pc := 81) h 1 dX5_readJoint_81 rfl ?_
          refine V_iload_n (pc := 82) h 2 dX5_readJoint_82 rfl ?_
          obtain ⟨r_83, e_83, q⟩ := bs q
          refine V_partV (pc := 83) h _ (t_J_has (gK G) F a oJ l2 J_give J_clear J_yieldAt J_soft J_breakAt J_out J_pitches J_bolts J_upper J_lower _ e_83) mf_J_has lk_RX5_48 im_J_has se_J_has ⟨Nat.le_of_ble_eq_true rfl, Nat.le_of_ble_eq_true rfl⟩ ⟨Nat.zero_le _, Nat.zero_le _⟩ (wT (gK G) a oT T_signs T_size T_next T_fault ++ (wJ (gK G) a oJ J_give J_clear J_yieldAt J_soft J_breakAt J_out J_pitches J_bolts J_upper J_lower)) [2, 3, 4, 5, 6, 7, 8, 9] [0, 1] 10 rfl rfl rfl rfl rfl (wT (gK G) a oT T_signs T_size T_next T_fault) rfl rfl rfl 2 rfl rfl rfl rfl (Nat.le_of_ble_eq_true rfl) [.int r_83] rfl dX5_readJoint_83 ?_
          refine V_if_eq (pc := 86) h 97 dX5_readJoint_86 (by decide) (fun hc => ?_) (fun hc => ?_)
          · have q := if_p hc q
            exact vj_T_readJoint_97 h F a oT oJ l2 T_signs T_size T_next T_fault J_give J_clear J_yieldAt J_soft J_breakAt J_out J_pitches J_bolts J_upper J_lower _ q k1 k2
          · have q := if_n hc q
            refine V_aload_n (pc := 89) h 1 dX5_readJoint_89 rfl ?_
            refine V_get (pc := 90) h fl_5_29 2 rfl rfl dX5_readJoint_90 ?_
            refine V_iconst (pc := 93) h dX5_readJoint_93 ic_5 ?_
            refine V_icmp_lt (pc := 94) h 108 dX5_readJoint_94 (by decide) (fun hc => ?_) (fun hc => ?_)
            · have q := if_p hc q
              refine V_aload_n (pc := 108) h 0 dX5_readJoint_108 rfl ?_
              refine V_dup (pc := 109) h dX5_readJoint_109 rfl ?_
              refine V_get (pc := 110) h fl_5_23 0 rfl rfl dX5_readJoint_110 ?_
              refine V_iconst (pc := 113) h dX5_readJoint_113 ic_1 ?_
              refine V_iadd (pc := 114) h dX5_readJoint_114 ?_
              refine V_topi (pc := 115) (fun T_next_115 e_T_next_115 => ?_)
              have q := nm_use e_T_next_115 q
              refine V_put (pc := 115) h fl_5_23 fp_5_2 0 (wT (gK G) a oT T_signs T_size T_next_115 T_fault ++ (wJ (gK G) a oJ J_give J_clear J_yieldAt J_soft J_breakAt J_out J_pitches J_bolts J_upper J_lower)) rfl rfl rfl (Nat.le_of_ble_eq_true rfl) rfl dX5_readJoint_115 ?_
              refine V_aload_n (pc := 118) h 0 dX5_readJoint_118 rfl ?_
              refine V_iconst (pc := 119) h dX5_readJoint_119 ic_1 ?_
              refine V_iconst (pc := 120) h dX5_readJoint_120 ic_0 ?_
              refine V_iconst (pc := 121) h dX5_readJoint_121 ic_2 ?_
              obtain ⟨r_122, T_next_122, T_fault_122, e_122, q⟩ := bs3 q
              refine V_partV (pc := 122) h _ (t_T_readNumber (gK G) F a oT (1 : Int32) (0 : Int32) (2 : Int32) T_signs T_size T_next_115 T_fault _ _ _ e_122) mf_T_readNumber lk_RX5_34 im_T_readNumber se_T_readNumber ⟨Nat.le_of_ble_eq_true rfl, Nat.le_of_ble_eq_true rfl⟩ ⟨Nat.zero_le _, Nat.zero_le _⟩ (wT (gK G) a oT T_signs T_size T_next_122 T_fault_122 ++ (wJ (gK G) a oJ J_give J_clear J_yieldAt J_soft J_breakAt J_out J_pitches J_bolts J_upper J_lower)) [0, 1] [2, 3, 4, 5, 6, 7, 8, 9] 10 rfl rfl rfl rfl rfl (wJ (gK G) a oJ J_give J_clear J_yieldAt J_soft J_breakAt J_out J_pitches J_bolts J_upper J_lower) rfl rfl rfl 0 rfl rfl rfl rfl (Nat.le_of_ble_eq_true rfl) [.int r_122] rfl dX5_readJoint_122 ?_
              refine V_istore_n (pc := 125) h [(3, .int r_122), (0, .ref (a oT)), (1, .ref (a oJ)), (2, .int l2)] dX5_readJoint_125 (Nat.le_of_ble_eq_true rfl) rfl ?_
              refine V_aload_n (pc := 126) h 1 dX5_readJoint_126 rfl ?_
              refine V_aload_n (pc := 127) h 2 dX5_readJoint_127 rfl ?_
              obtain ⟨T_next_128, T_fault_128, J_give_128, J_clear_128, J_yieldAt_128, J_soft_128, J_breakAt_128, J_out_128, J_pitches_128, J_bolts_128, e_128, q⟩ := bs10 q
              refine V_wallV (pc := 128) h _ (t_T_readBolt (gK G) F a oT oJ T_signs T_size T_next_122 T_fault_122 J_give J_clear J_yieldAt J_soft J_breakAt J_out J_pitches J_bolts J_upper J_lower _ _ _ _ _ _ _ _ _ _ e_128) mf_T_readBolt lk_RX5_44 im_T_readBolt se_T_readBolt ⟨Nat.le_of_ble_eq_true rfl, Nat.le_of_ble_eq_true rfl⟩ ⟨Nat.zero_le _, Nat.zero_le _⟩ rfl 0 rfl rfl rfl rfl (Nat.le_of_ble_eq_true rfl) [] rfl dX5_readJoint_128 ?_
              refine V_aload_n (pc := 131) h 2 dX5_readJoint_131 rfl ?_
              refine V_get (pc := 132) h fl_5_52 2 rfl rfl dX5_readJoint_132 ?_
              refine V_iload_n (pc := 135) h 3 dX5_readJoint_135 rfl ?_
              refine V_iload_n (pc := 136) h 0 dX5_readJoint_136 rfl ?_
              obtain ⟨J_pitches_137, e_J_pitches_137, q⟩ := bs q
              refine V_iast (pc := 137) h 9 (wT (gK G) a oT T_signs T_size T_next_128 T_fault_128 ++ (wJ (gK G) a oJ J_give_128 J_clear_128 J_yieldAt_128 J_soft_128 J_breakAt_128 J_out_128 J_pitches_137 J_bolts_128 J_upper J_lower)) rfl e_J_pitches_137 rfl dX5_readJoint_137 ?_
              refine V_sub [(0, .ref (a oT)), (1, .ref (a oJ)), (2, .int l2)] [1, 2, 3] rfl ?_
              exact vj_T_readJoint_138 h F a oT oJ l2 T_signs T_size T_next_128 T_fault_128 J_give_128 J_clear_128 J_yieldAt_128 J_soft_128 J_breakAt_128 J_out_128 J_pitches_137 J_bolts_128 J_upper J_lower _ q k1 k2
            · have q := if_n hc q
              exact vj_T_readJoint_97 h F a oT oJ l2 T_signs T_size T_next T_fault J_give J_clear J_yieldAt J_soft J_breakAt J_out J_pitches J_bolts J_upper J_lower _ q k1 k2

set_option maxHeartbeats 4000000 in
set_option maxRecDepth 100000 in
theorem vl_T_readJoint_44 {G : Gm} (h : VOk G cX5_readJoint RX5 4 (rmC 4 0 0)) (F : Nat) (a : Nat → Nat) (oT : Nat) (oJ : Nat) (l2 : Int32) (T_signs : Nat → Int32) (T_size : Int32) (T_next : Int32) (T_fault : Int32) (J_give : Nat → Int32) (J_clear : Nat → Int32) (J_yieldAt : Nat → Int32) (J_soft : Nat → Int32) (J_breakAt : Nat → Int32) (J_out : Nat → Int32) (J_pitches : Nat → Int32) (J_bolts : Int32) (J_upper : Int32) (J_lower : Int32) (r : Int32 × Int32 × (Nat → Int32) × (Nat → Int32) × (Nat → Int32) × (Nat → Int32) × (Nat → Int32) × (Nat → Int32) × (Nat → Int32) × Int32) (q : iter (un11 (fb_T_readJoint_44 F T_signs T_size)) F (l2, T_next, T_fault, J_give, J_clear, J_yieldAt, J_soft, J_breakAt, J_out, J_pitches, J_bolts) = some r) (kx : V G 0 0 (wT (gK G) a oT T_signs T_size (r.1) (r.2.1) ++ (wJ (gK G) a oJ (r.2.2.1) (r.2.2.2.1) (r.2.2.2.2.1) (r.2.2.2.2.2.1) (r.2.2.2.2.2.2.1) (r.2.2.2.2.2.2.2.1) (r.2.2.2.2.2.2.2.2.1) (r.2.2.2.2.2.2.2.2.2) J_upper J_lower)) 144 [(0, .ref (a oT))] []) : V G 0 0 (wT (gK G) a oT T_signs T_size T_next T_fault ++ (wJ (gK G) a oJ J_give J_clear J_yieldAt J_soft J_breakAt J_out J_pitches J_bolts J_upper J_lower)) 44 [(0, .ref (a oT)), (1, .ref (a oJ)), (2, .int l2)] [] := by
  have hh := iter_ind (body := un11 (fb_T_readJoint_44 F T_signs T_size)) (P := fun z => V G 0 0 (wT (gK G) a oT T_signs T_size (z.2.1) (z.2.2.1) ++ (wJ (gK G) a oJ (z.2.2.2.1) (z.2.2.2.2.1) (z.2.2.2.2.2.1) (z.2.2.2.2.2.2.1) (z.2.2.2.2.2.2.2.1) (z.2.2.2.2.2.2.2.2.1) (z.2.2.2.2.2.2.2.2.2.1) (z.2.2.2.2.2.2.2.2.2.2) J_upper J_lower)) 44 [(0, .ref (a oT)), (1, .ref (a oJ)), (2, .int (z.1))] []) (X := fun r => V G 0 0 (wT (gK G) a oT T_signs T_size (r.1) (r.2.1) ++ (wJ (gK G) a oJ (r.2.2.1) (r.2.2.2.1) (r.2.2.2.2.1) (r.2.2.2.2.2.1) (r.2.2.2.2.2.2.1) (r.2.2.2.2.2.2.2.1) (r.2.2.2.2.2.2.2.2.1) (r.2.2.2.2.2.2.2.2.2) J_upper J_lower)) 144 [(0, .ref (a oT))] []) (fun z o qb j1 j2 => vb_T_readJoint_44 h F a oT oJ (z.1) T_signs T_size (z.2.1) (z.2.2.1) (z.2.2.2.1) (z.2.2.2.2.1) (z.2.2.2.2.2.1) (z.2.2.2.2.2.2.1) (z.2.2.2.2.2.2.2.1) (z.2.2.2.2.2.2.2.2.1) (z.2.2.2.2.2.2.2.2.2.1) (z.2.2.2.2.2.2.2.2.2.2) J_upper J_lower o qb (fun y0 y1 y2 y3 y4 y5 y6 y7 y8 y9 y10 e => j1 (y0, y1, y2, y3, y4, y5, y6, y7, y8, y9, y10) e) j2) F (l2, T_next, T_fault, J_give, J_clear, J_yieldAt, J_soft, J_breakAt, J_out, J_pitches, J_bolts) r q kx
  exact hh

set_option maxHeartbeats 4000000 in
set_option maxRecDepth 100000 in
theorem v_T_readJoint {G : Gm} (h : VOk G cX5_readJoint RX5 4 (rmC 4 0 0)) (F : Nat) (a : Nat → Nat) (oT : Nat) (oJ : Nat) (T_signs : Nat → Int32) (T_size : Int32) (T_next : Int32) (T_fault : Int32) (J_give : Nat → Int32) (J_clear : Nat → Int32) (J_yieldAt : Nat → Int32) (J_soft : Nat → Int32) (J_breakAt : Nat → Int32) (J_out : Nat → Int32) (J_pitches : Nat → Int32) (J_bolts : Int32) (J_upper : Int32) (J_lower : Int32) (o : Int32 × Int32 × Int32 × (Nat → Int32) × (Nat → Int32) × (Nat → Int32) × (Nat → Int32) × (Nat → Int32) × (Nat → Int32) × (Nat → Int32) × Int32 × Int32 × Int32) (q : f_T_readJoint F T_signs T_size T_next T_fault J_give J_clear J_yieldAt J_soft J_breakAt J_out J_pitches J_bolts J_upper J_lower = some o) {Pst : Option Value → va_W → Prop} (hq : RetQ G 0 0 (some .int) Pst) (hp : Pst (some (.int (o.1))) (wT (gK G) a oT T_signs T_size (o.2.1) (o.2.2.1) ++ (wJ (gK G) a oJ (o.2.2.2.1) (o.2.2.2.2.1) (o.2.2.2.2.2.1) (o.2.2.2.2.2.2.1) (o.2.2.2.2.2.2.2.1) (o.2.2.2.2.2.2.2.2.1) (o.2.2.2.2.2.2.2.2.2.1) (o.2.2.2.2.2.2.2.2.2.2.1) (o.2.2.2.2.2.2.2.2.2.2.2.1) (o.2.2.2.2.2.2.2.2.2.2.2.2)))) : V G 0 0 (wT (gK G) a oT T_signs T_size T_next T_fault ++ (wJ (gK G) a oJ J_give J_clear J_yieldAt J_soft J_breakAt J_out J_pitches J_bolts J_upper J_lower)) 0 [(0, .ref (a oT)), (1, .ref (a oJ))] [] := by
  unfold f_T_readJoint at q
  refine V_aload_n (pc := 0) h 0 dX5_readJoint_0 rfl ?_
  refine V_iconst (pc := 1) h dX5_readJoint_1 ic_0 ?_
  refine V_put (pc := 2) h fl_5_23 fp_5_2 0 (wT (gK G) a oT T_signs T_size (0 : Int32) T_fault ++ (wJ (gK G) a oJ J_give J_clear J_yieldAt J_soft J_breakAt J_out J_pitches J_bolts J_upper J_lower)) rfl rfl rfl (Nat.le_of_ble_eq_true rfl) rfl dX5_readJoint_2 ?_
  refine V_aload_n (pc := 5) h 0 dX5_readJoint_5 rfl ?_
  refine V_iconst (pc := 6) h dX5_readJoint_6 ic_m1 ?_
  refine V_put (pc := 7) h fl_5_26 fp_5_3 0 (wT (gK G) a oT T_signs T_size (0 : Int32) (-1 : Int32) ++ (wJ (gK G) a oJ J_give J_clear J_yieldAt J_soft J_breakAt J_out J_pitches J_bolts J_upper J_lower)) rfl rfl rfl (Nat.le_of_ble_eq_true rfl) rfl dX5_readJoint_7 ?_
  refine V_aload_n (pc := 10) h 1 dX5_readJoint_10 rfl ?_
  refine V_iconst (pc := 11) h dX5_readJoint_11 ic_0 ?_
  refine V_put (pc := 12) h fl_5_29 fp_2_7 2 (wT (gK G) a oT T_signs T_size (0 : Int32) (-1 : Int32) ++ (wJ (gK G) a oJ J_give J_clear J_yieldAt J_soft J_breakAt J_out J_pitches (0 : Int32) J_upper J_lower)) rfl rfl rfl (Nat.le_of_ble_eq_true rfl) rfl dX5_readJoint_12 ?_
  refine V_aload_n (pc := 15) h 1 dX5_readJoint_15 rfl ?_
  refine V_aload_n (pc := 16) h 0 dX5_readJoint_16 rfl ?_
  refine V_iconst (pc := 17) h dX5_readJoint_17 ic_1 ?_
  refine V_iconst (pc := 18) h dX5_readJoint_18 ic_0 ?_
  refine V_iconst (pc := 19) h dX5_readJoint_19 ic_2 ?_
  obtain ⟨r_20, T_next_20, T_fault_20, e_20, q⟩ := bs3 q
  refine V_partV (pc := 20) h _ (t_T_readNumber (gK G) F a oT (1 : Int32) (0 : Int32) (2 : Int32) T_signs T_size (0 : Int32) (-1 : Int32) _ _ _ e_20) mf_T_readNumber lk_RX5_34 im_T_readNumber se_T_readNumber ⟨Nat.le_of_ble_eq_true rfl, Nat.le_of_ble_eq_true rfl⟩ ⟨Nat.zero_le _, Nat.zero_le _⟩ (wT (gK G) a oT T_signs T_size T_next_20 T_fault_20 ++ (wJ (gK G) a oJ J_give J_clear J_yieldAt J_soft J_breakAt J_out J_pitches (0 : Int32) J_upper J_lower)) [0, 1] [2, 3, 4, 5, 6, 7, 8, 9] 10 rfl rfl rfl rfl rfl (wJ (gK G) a oJ J_give J_clear J_yieldAt J_soft J_breakAt J_out J_pitches (0 : Int32) J_upper J_lower) rfl rfl rfl 0 rfl rfl rfl rfl (Nat.le_of_ble_eq_true rfl) [.int r_20, .ref (a oJ)] rfl dX5_readJoint_20 ?_
  refine V_put (pc := 23) h fl_5_38 fp_2_8 2 (wT (gK G) a oT T_signs T_size T_next_20 T_fault_20 ++ (wJ (gK G) a oJ J_give J_clear J_yieldAt J_soft J_breakAt J_out J_pitches (0 : Int32) r_20 J_lower)) rfl rfl rfl (Nat.le_of_ble_eq_true rfl) rfl dX5_readJoint_23 ?_
  refine V_aload_n (pc := 26) h 1 dX5_readJoint_26 rfl ?_
  refine V_aload_n (pc := 27) h 0 dX5_readJoint_27 rfl ?_
  refine V_iconst (pc := 28) h dX5_readJoint_28 ic_1 ?_
  refine V_iconst (pc := 29) h dX5_readJoint_29 ic_0 ?_
  refine V_iconst (pc := 30) h dX5_readJoint_30 ic_2 ?_
  obtain ⟨r_31, T_next_31, T_fault_31, e_31, q⟩ := bs3 q
  refine V_partV (pc := 31) h _ (t_T_readNumber (gK G) F a oT (1 : Int32) (0 : Int32) (2 : Int32) T_signs T_size T_next_20 T_fault_20 _ _ _ e_31) mf_T_readNumber lk_RX5_34 im_T_readNumber se_T_readNumber ⟨Nat.le_of_ble_eq_true rfl, Nat.le_of_ble_eq_true rfl⟩ ⟨Nat.zero_le _, Nat.zero_le _⟩ (wT (gK G) a oT T_signs T_size T_next_31 T_fault_31 ++ (wJ (gK G) a oJ J_give J_clear J_yieldAt J_soft J_breakAt J_out J_pitches (0 : Int32) r_20 J_lower)) [0, 1] [2, 3, 4, 5, 6, 7, 8, 9] 10 rfl rfl rfl rfl rfl (wJ (gK G) a oJ J_give J_clear J_yieldAt J_soft J_breakAt J_out J_pitches (0 : Int32) r_20 J_lower) rfl rfl rfl 0 rfl rfl rfl rfl (Nat.le_of_ble_eq_true rfl) [.int r_31, .ref (a oJ)] rfl dX5_readJoint_31 ?_
  refine V_put (pc := 34) h fl_5_41 fp_2_9 2 (wT (gK G) a oT T_signs T_size T_next_31 T_fault_31 ++ (wJ (gK G) a oJ J_give J_clear J_yieldAt J_soft J_breakAt J_out J_pitches (0 : Int32) r_20 r_31)) rfl rfl rfl (Nat.le_of_ble_eq_true rfl) rfl dX5_readJoint_34 ?_
  refine V_aload_n (pc := 37) h 0 dX5_readJoint_37 rfl ?_
  refine V_aload_n (pc := 38) h 1 dX5_readJoint_38 rfl ?_
  obtain ⟨T_next_39, T_fault_39, J_give_39, J_clear_39, J_yieldAt_39, J_soft_39, J_breakAt_39, J_out_39, J_pitches_39, J_bolts_39, e_39, q⟩ := bs10 q
  refine V_wallV (pc := 39) h _ (t_T_readBolt (gK G) F a oT oJ T_signs T_size T_next_31 T_fault_31 J_give J_clear J_yieldAt J_soft J_breakAt J_out J_pitches (0 : Int32) r_20 r_31 _ _ _ _ _ _ _ _ _ _ e_39) mf_T_readBolt lk_RX5_44 im_T_readBolt se_T_readBolt ⟨Nat.le_of_ble_eq_true rfl, Nat.le_of_ble_eq_true rfl⟩ ⟨Nat.zero_le _, Nat.zero_le _⟩ rfl 0 rfl rfl rfl rfl (Nat.le_of_ble_eq_true rfl) [] rfl dX5_readJoint_39 ?_
  refine V_iconst (pc := 42) h dX5_readJoint_42 ic_0 ?_
  refine V_istore_n (pc := 43) h [(2, .int (0 : Int32)), (0, .ref (a oT)), (1, .ref (a oJ))] dX5_readJoint_43 (Nat.le_of_ble_eq_true rfl) rfl ?_
  obtain ⟨T_next_44, T_fault_44, J_give_44, J_clear_44, J_yieldAt_44, J_soft_44, J_breakAt_44, J_out_44, J_pitches_44, J_bolts_44, e_44, q⟩ := bs10 q
  refine V_sub [(0, .ref (a oT)), (1, .ref (a oJ)), (2, .int (0 : Int32))] [1, 2, 0] rfl ?_
  refine vl_T_readJoint_44 h F a oT oJ (0 : Int32) T_signs T_size T_next_39 T_fault_39 J_give_39 J_clear_39 J_yieldAt_39 J_soft_39 J_breakAt_39 J_out_39 J_pitches_39 J_bolts_39 r_20 r_31 _ e_44 ?_
  show V G 0 0 (wT (gK G) a oT T_signs T_size T_next_44 T_fault_44 ++ (wJ (gK G) a oJ J_give_44 J_clear_44 J_yieldAt_44 J_soft_44 J_breakAt_44 J_out_44 J_pitches_44 J_bolts_44 r_20 r_31)) 144 [(0, .ref (a oT))] []
  refine V_aload_n (pc := 144) h 0 dX5_readJoint_144 rfl ?_
  refine V_get (pc := 145) h fl_5_26 0 rfl rfl dX5_readJoint_145 ?_
  obtain rfl := Option.some.inj q
  exact V_iret (pc := 148) h hq dX5_readJoint_148 hp

set_option maxHeartbeats 4000000 in
set_option maxRecDepth 100000 in
theorem t_T_readJoint (K : Kd) (F : Nat) (a : Nat → Nat) (oT : Nat) (oJ : Nat) (T_signs : Nat → Int32) (T_size : Int32) (T_next : Int32) (T_fault : Int32) (J_give : Nat → Int32) (J_clear : Nat → Int32) (J_yieldAt : Nat → Int32) (J_soft : Nat → Int32) (J_breakAt : Nat → Int32) (J_out : Nat → Int32) (J_pitches : Nat → Int32) (J_bolts : Int32) (J_upper : Int32) (J_lower : Int32) (r : Int32) (T_next' : Int32) (T_fault' : Int32) (J_give' : Nat → Int32) (J_clear' : Nat → Int32) (J_yieldAt' : Nat → Int32) (J_soft' : Nat → Int32) (J_breakAt' : Nat → Int32) (J_out' : Nat → Int32) (J_pitches' : Nat → Int32) (J_bolts' : Int32) (J_upper' : Int32) (J_lower' : Int32) (q : f_T_readJoint F T_signs T_size T_next T_fault J_give J_clear J_yieldAt J_soft J_breakAt J_out J_pitches J_bolts J_upper J_lower = some (r, T_next', T_fault', J_give', J_clear', J_yieldAt', J_soft', J_breakAt', J_out', J_pitches', J_bolts', J_upper', J_lower')) : Ctr yX5_readJoint cX5_readJoint 4 (some .int) 4 0 0 K [.ref (a oT), .ref (a oJ)] (wT K a oT T_signs T_size T_next T_fault ++ (wJ K a oJ J_give J_clear J_yieldAt J_soft J_breakAt J_out J_pitches J_bolts J_upper J_lower)) (Eqs (some (.int r)) (wT K a oT T_signs T_size T_next' T_fault' ++ (wJ K a oJ J_give' J_clear' J_yieldAt' J_soft' J_breakAt' J_out' J_pitches' J_bolts' J_upper' J_lower'))) := by
  refine mkCtr (by decide) (Nat.le_of_ble_eq_true rfl) ?_
  intro G hK h hq _
  subst hK
  exact v_T_readJoint h F a oT oJ T_signs T_size T_next T_fault J_give J_clear J_yieldAt J_soft J_breakAt J_out J_pitches J_bolts J_upper J_lower _ q hq ⟨rfl, rfl⟩

set_option maxHeartbeats 4000000 in
set_option maxRecDepth 100000 in
theorem v_X_fair {G : Gm} (h : VOk G cX6_fair RX6 5 (rmC 2 0 0)) (F : Nat) (a : Nat → Nat) (l0 : Int32) (l1 : Int32) (l2 : Int32) (l3 : Int32) (l4 : Int32) (o : Int32) (q : f_X_fair l0 l1 l2 l3 l4 = some o) {Pst : Option Value → va_W → Prop} (hq : RetQ G 0 0 (some .boolean) Pst) (hp : Pst (some (.int o)) ([])) : V G 0 0 ([]) 0 [(0, .int l0), (1, .int l1), (2, .int l2), (3, .int l3), (4, .int l4)] [] := by
  unfold f_X_fair at q
  refine V_iload_n (pc := 0) h 0 dX6_fair_0 rfl ?_
  refine V_iconst (pc := 1) h dX6_fair_1 ic_1 ?_
  refine V_iconst (pc := 2) h dX6_fair_2 ic_5 ?_
  obtain ⟨r_3, e_3, q⟩ := bs q
  refine V_wallS (pc := 3) h _ (t_X_within (gK G) F  l0 (1 : Int32) (5 : Int32) _ e_3) mf_X_within lk_RX6_77 sm_X_within ⟨Nat.le_of_ble_eq_true rfl, Nat.le_of_ble_eq_true rfl⟩ ⟨Nat.zero_le _, Nat.zero_le _⟩ rfl rfl rfl (Nat.le_of_ble_eq_true rfl) [.int r_3] rfl dX6_fair_3 ?_
  refine V_if_eq (pc := 6) h 56 dX6_fair_6 (by decide) (fun hc => ?_) (fun hc => ?_)
  · have q := if_p hc q
    refine V_iconst (pc := 56) h dX6_fair_56 ic_0 ?_
    obtain rfl := Option.some.inj q
    exact V_zret (pc := 57) h hq rfl dX6_fair_57 hp
  · have q := if_n hc q
    refine V_iload_n (pc := 9) h 1 dX6_fair_9 rfl ?_
    refine V_iconst (pc := 10) h dX6_fair_10 ic_0 ?_
    refine V_bipush (pc := 11) h dX6_fair_11 bi_9 ?_
    obtain ⟨r_13, e_13, q⟩ := bs q
    refine V_wallS (pc := 13) h _ (t_X_within (gK G) F  l1 (0 : Int32) (9 : Int32) _ e_13) mf_X_within lk_RX6_77 sm_X_within ⟨Nat.le_of_ble_eq_true rfl, Nat.le_of_ble_eq_true rfl⟩ ⟨Nat.zero_le _, Nat.zero_le _⟩ rfl rfl rfl (Nat.le_of_ble_eq_true rfl) [.int r_13] rfl dX6_fair_13 ?_
    refine V_if_eq (pc := 16) h 56 dX6_fair_16 (by decide) (fun hc => ?_) (fun hc => ?_)
    · have q := if_p hc q
      refine V_iconst (pc := 56) h dX6_fair_56 ic_0 ?_
      obtain rfl := Option.some.inj q
      exact V_zret (pc := 57) h hq rfl dX6_fair_57 hp
    · have q := if_n hc q
      refine V_iload_n (pc := 19) h 2 dX6_fair_19 rfl ?_
      refine V_iconst (pc := 20) h dX6_fair_20 ic_1 ?_
      refine V_bipush (pc := 21) h dX6_fair_21 bi_30 ?_
      obtain ⟨r_23, e_23, q⟩ := bs q
      refine V_wallS (pc := 23) h _ (t_X_within (gK G) F  l2 (1 : Int32) (30 : Int32) _ e_23) mf_X_within lk_RX6_77 sm_X_within ⟨Nat.le_of_ble_eq_true rfl, Nat.le_of_ble_eq_true rfl⟩ ⟨Nat.zero_le _, Nat.zero_le _⟩ rfl rfl rfl (Nat.le_of_ble_eq_true rfl) [.int r_23] rfl dX6_fair_23 ?_
      refine V_if_eq (pc := 26) h 56 dX6_fair_26 (by decide) (fun hc => ?_) (fun hc => ?_)
      · have q := if_p hc q
        refine V_iconst (pc := 56) h dX6_fair_56 ic_0 ?_
        obtain rfl := Option.some.inj q
        exact V_zret (pc := 57) h hq rfl dX6_fair_57 hp
      · have q := if_n hc q
        refine V_iload_n (pc := 29) h 3 dX6_fair_29 rfl ?_
        refine V_iload_n (pc := 30) h 0 dX6_fair_30 rfl ?_
        refine V_bipush (pc := 31) h dX6_fair_31 bi_9 ?_
        obtain ⟨r_33, e_33, q⟩ := bs q
        refine V_wallS (pc := 33) h _ (t_X_within (gK G) F  l3 l0 (9 : Int32) _ e_33) mf_X_within lk_RX6_77 sm_X_within ⟨Nat.le_of_ble_eq_true rfl, Nat.le_of_ble_eq_true rfl⟩ ⟨Nat.zero_le _, Nat.zero_le _⟩ rfl rfl rfl (Nat.le_of_ble_eq_true rfl) [.int r_33] rfl dX6_fair_33 ?_
        refine V_if_eq (pc := 36) h 56 dX6_fair_36 (by decide) (fun hc => ?_) (fun hc => ?_)
        · have q := if_p hc q
          refine V_iconst (pc := 56) h dX6_fair_56 ic_0 ?_
          obtain rfl := Option.some.inj q
          exact V_zret (pc := 57) h hq rfl dX6_fair_57 hp
        · have q := if_n hc q
          refine V_iload (pc := 39) h 4 dX6_fair_39 rfl ?_
          refine V_iload_n (pc := 41) h 2 dX6_fair_41 rfl ?_
          refine V_iconst (pc := 42) h dX6_fair_42 ic_1 ?_
          refine V_iadd (pc := 43) h dX6_fair_43 ?_
          refine V_bipush (pc := 44) h dX6_fair_44 bi_60 ?_
          obtain ⟨r_46, e_46, q⟩ := bs q
          refine V_wallS (pc := 46) h _ (t_X_within (gK G) F  l4 (l2 + (1 : Int32)) (60 : Int32) _ e_46) mf_X_within lk_RX6_77 sm_X_within ⟨Nat.le_of_ble_eq_true rfl, Nat.le_of_ble_eq_true rfl⟩ ⟨Nat.zero_le _, Nat.zero_le _⟩ rfl rfl rfl (Nat.le_of_ble_eq_true rfl) [.int r_46] rfl dX6_fair_46 ?_
          refine V_if_eq (pc := 49) h 56 dX6_fair_49 (by decide) (fun hc => ?_) (fun hc => ?_)
          · have q := if_p hc q
            refine V_iconst (pc := 56) h dX6_fair_56 ic_0 ?_
            obtain rfl := Option.some.inj q
            exact V_zret (pc := 57) h hq rfl dX6_fair_57 hp
          · have q := if_n hc q
            refine V_iconst (pc := 52) h dX6_fair_52 ic_1 ?_
            refine V_goto (pc := 53) (tgt := 57) h dX6_fair_53 (by decide) ?_
            obtain rfl := Option.some.inj q
            exact V_zret (pc := 57) h hq rfl dX6_fair_57 hp

set_option maxHeartbeats 4000000 in
set_option maxRecDepth 100000 in
theorem t_X_fair (K : Kd) (F : Nat) (l0 : Int32) (l1 : Int32) (l2 : Int32) (l3 : Int32) (l4 : Int32) (r : Int32) (q : f_X_fair l0 l1 l2 l3 l4 = some r) : Ctr yX6_fair cX6_fair 5 (some .boolean) 2 0 0 K [.int l0, .int l1, .int l2, .int l3, .int l4] ([]) (Eqs (some (.int r)) ([])) := by
  refine mkCtr (by decide) (Nat.le_of_ble_eq_true rfl) ?_
  intro G hK h hq _
  subst hK
  exact v_X_fair h F (fun _ => 0) l0 l1 l2 l3 l4 _ q hq ⟨rfl, rfl⟩

set_option maxHeartbeats 4000000 in
set_option maxRecDepth 100000 in
theorem v_X_isLoad {G : Gm} (h : VOk G cX6_isLoad RX6 1 (rmC 2 0 0)) (F : Nat) (a : Nat → Nat) (l0 : Int32) (o : Int32) (q : f_X_isLoad l0 = some o) {Pst : Option Value → va_W → Prop} (hq : RetQ G 0 0 (some .boolean) Pst) (hp : Pst (some (.int o)) ([])) : V G 0 0 ([]) 0 [(0, .int l0)] [] := by
  unfold f_X_isLoad at q
  refine V_iload_n (pc := 0) h 0 dX6_isLoad_0 rfl ?_
  refine V_iconst (pc := 1) h dX6_isLoad_1 ic_0 ?_
  refine V_sipush (pc := 2) h dX6_isLoad_2 si_300 ?_
  obtain ⟨r_5, e_5, q⟩ := bs q
  refine V_wallS (pc := 5) h _ (t_X_within (gK G) F  l0 (0 : Int32) (300 : Int32) _ e_5) mf_X_within lk_RX6_77 sm_X_within ⟨Nat.le_of_ble_eq_true rfl, Nat.le_of_ble_eq_true rfl⟩ ⟨Nat.zero_le _, Nat.zero_le _⟩ rfl rfl rfl (Nat.le_of_ble_eq_true rfl) [.int r_5] rfl dX6_isLoad_5 ?_
  obtain ⟨b_8, e_b_8, q⟩ := bs q
  obtain ⟨hb, hn⟩ := bz_nar e_b_8
  have hb := hb.symm
  subst hb
  obtain rfl := Option.some.inj q
  exact V_zret (pc := 8) h hq hn dX6_isLoad_8 hp

set_option maxHeartbeats 4000000 in
set_option maxRecDepth 100000 in
theorem t_X_isLoad (K : Kd) (F : Nat) (l0 : Int32) (r : Int32) (q : f_X_isLoad l0 = some r) : Ctr yX6_isLoad cX6_isLoad 1 (some .boolean) 2 0 0 K [.int l0] ([]) (Eqs (some (.int r)) ([])) := by
  refine mkCtr (by decide) (Nat.le_of_ble_eq_true rfl) ?_
  intro G hK h hq _
  subst hK
  exact v_X_isLoad h F (fun _ => 0) l0 _ q hq ⟨rfl, rfl⟩

