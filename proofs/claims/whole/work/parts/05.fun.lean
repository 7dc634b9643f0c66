noncomputable def f_JI_bitCount (l0 : Int32) : Option (Int32) :=
  nm (l0 - ((ushrI l0 (1 : Int32)) &&& (1431655765 : Int32))) fun l0_9 =>
  nm ((l0_9 &&& (858993459 : Int32)) + ((ushrI l0_9 (2 : Int32)) &&& (858993459 : Int32))) fun l0_23 =>
  nm ((l0_23 + (ushrI l0_23 (4 : Int32))) &&& (252645135 : Int32)) fun l0_33 =>
  nm (l0_33 + (ushrI l0_33 (8 : Int32))) fun l0_40 =>
  nm (l0_40 + (ushrI l0_40 (16 : Int32))) fun l0_47 =>
  some (l0_47 &&& (63 : Int32))
noncomputable def f_JL_compare (l0 : Int64) (l2 : Int64) : Option (Int32) :=
  if l2 ≤ l0 then
    if l0 = l2 then
      some (0 : Int32)
    else
      some (1 : Int32)
  else
    some (-1 : Int32)
noncomputable def f_J_has (l1 : Int32) (J_bolts : Int32) : Option (Int32) :=
  if l1 < (0 : Int32) then
    some (0 : Int32)
  else
    if J_bolts ≤ l1 then
      some (0 : Int32)
    else
      if (5 : Int32) ≤ l1 then
        some (0 : Int32)
      else
        some (1 : Int32)
noncomputable def f_J_hasGap (l1 : Int32) (J_bolts : Int32) : Option (Int32) :=
  (f_J_has l1 J_bolts).bind fun r_2 =>
  if r_2 = (0 : Int32) then
    some (0 : Int32)
  else
    (f_J_has (l1 + (1 : Int32)) J_bolts).bind fun r_12 =>
    if r_12 = (0 : Int32) then
      some (0 : Int32)
    else
      some (1 : Int32)
noncomputable def f_J_write (l1 : Int32) (l2 : Int32) (l3 : Int32) (l4 : Int32) (l5 : Int32) (l6 : Int32) (J_give : Nat → Int32) (J_clear : Nat → Int32) (J_yieldAt : Nat → Int32) (J_soft : Nat → Int32) (J_breakAt : Nat → Int32) : Option ((Nat → Int32) × (Nat → Int32) × (Nat → Int32) × (Nat → Int32) × (Nat → Int32)) :=
  (stI J_give 5 l1 l2).bind fun J_give_6 =>
  (stI J_clear 5 l1 l3).bind fun J_clear_13 =>
  (stI J_yieldAt 5 l1 l4).bind fun J_yieldAt_21 =>
  (stI J_soft 5 l1 l5).bind fun J_soft_29 =>
  (stI J_breakAt 5 l1 l6).bind fun J_breakAt_37 =>
  some (J_give_6, J_clear_13, J_yieldAt_21, J_soft_29, J_breakAt_37)
noncomputable def fj_J_add_28 (l1 : Int32) (l2 : Int32) (l3 : Int32) (l4 : Int32) (l5 : Int32) (J_give : Nat → Int32) (J_clear : Nat → Int32) (J_yieldAt : Nat → Int32) (J_soft : Nat → Int32) (J_breakAt : Nat → Int32) (J_out : Nat → Int32) (J_pitches : Nat → Int32) (J_bolts : Int32) : Option ((Nat → Int32) × (Nat → Int32) × (Nat → Int32) × (Nat → Int32) × (Nat → Int32) × (Nat → Int32) × (Nat → Int32) × Int32) :=
  (stZ J_out 5 J_bolts (0 : Int32)).bind fun J_out_37 =>
  bd5 (f_J_write J_bolts l1 l2 l3 l4 l5 J_give J_clear J_yieldAt J_soft J_breakAt) fun J_give_50 J_clear_50 J_yieldAt_50 J_soft_50 J_breakAt_50 =>
  nm (J_bolts + (1 : Int32)) fun J_bolts_60 =>
  some (J_give_50, J_clear_50, J_yieldAt_50, J_soft_50, J_breakAt_50, J_out_37, J_pitches, J_bolts_60)
noncomputable def f_J_add (l1 : Int32) (l2 : Int32) (l3 : Int32) (l4 : Int32) (l5 : Int32) (J_give : Nat → Int32) (J_clear : Nat → Int32) (J_yieldAt : Nat → Int32) (J_soft : Nat → Int32) (J_breakAt : Nat → Int32) (J_out : Nat → Int32) (J_pitches : Nat → Int32) (J_bolts : Int32) : Option ((Nat → Int32) × (Nat → Int32) × (Nat → Int32) × (Nat → Int32) × (Nat → Int32) × (Nat → Int32) × (Nat → Int32) × Int32) :=
  if J_bolts < (5 : Int32) then
    if J_bolts ≤ (0 : Int32) then
      fj_J_add_28 l1 l2 l3 l4 l5 J_give J_clear J_yieldAt J_soft J_breakAt J_out J_pitches J_bolts
    else
      (stI J_pitches 5 (J_bolts - (1 : Int32)) (1 : Int32)).bind fun J_pitches_27 =>
      fj_J_add_28 l1 l2 l3 l4 l5 J_give J_clear J_yieldAt J_soft J_breakAt J_out J_pitches_27 J_bolts
  else
    some (J_give, J_clear, J_yieldAt, J_soft, J_breakAt, J_out, J_pitches, J_bolts)
noncomputable def f_J_copyBolt (l2 : Int32) (l3 : Int32) (J_give : Nat → Int32) (J_clear : Nat → Int32) (J_yieldAt : Nat → Int32) (J_soft : Nat → Int32) (J_breakAt : Nat → Int32) (J_out : Nat → Int32) (Jb_give : Nat → Int32) (Jb_clear : Nat → Int32) (Jb_yieldAt : Nat → Int32) (Jb_soft : Nat → Int32) (Jb_breakAt : Nat → Int32) (Jb_out : Nat → Int32) : Option ((Nat → Int32) × (Nat → Int32) × (Nat → Int32) × (Nat → Int32) × (Nat → Int32) × (Nat → Int32)) :=
  (ldA Jb_give 5 l2).bind fun v_7 =>
  (ldA Jb_clear 5 l2).bind fun v_13 =>
  (ldA Jb_yieldAt 5 l2).bind fun v_19 =>
  (ldA Jb_soft 5 l2).bind fun v_25 =>
  (ldA Jb_breakAt 5 l2).bind fun v_31 =>
  bd5 (f_J_write l3 v_7 v_13 v_19 v_25 v_31 J_give J_clear J_yieldAt J_soft J_breakAt) fun J_give_32 J_clear_32 J_yieldAt_32 J_soft_32 J_breakAt_32 =>
  (ldA Jb_out 5 l2).bind fun v_45 =>
  (stZ J_out 5 l3 v_45).bind fun J_out_46 =>
  some (J_give_32, J_clear_32, J_yieldAt_32, J_soft_32, J_breakAt_32, J_out_46)
noncomputable def fb_J_copyAll_26 (J_bolts : Int32) (Jb_give : Nat → Int32) (Jb_clear : Nat → Int32) (Jb_yieldAt : Nat → Int32) (Jb_soft : Nat → Int32) (Jb_breakAt : Nat → Int32) (Jb_out : Nat → Int32) (Jb_pitches : Nat → Int32) (l2 : Int32) (J_give : Nat → Int32) (J_clear : Nat → Int32) (J_yieldAt : Nat → Int32) (J_soft : Nat → Int32) (J_breakAt : Nat → Int32) (J_out : Nat → Int32) (J_pitches : Nat → Int32) : Option ((Int32 × (Nat → Int32) × (Nat → Int32) × (Nat → Int32) × (Nat → Int32) × (Nat → Int32) × (Nat → Int32) × (Nat → Int32)) ⊕ ((Nat → Int32) × (Nat → Int32) × (Nat → Int32) × (Nat → Int32) × (Nat → Int32) × (Nat → Int32) × (Nat → Int32))) :=
  if J_bolts ≤ l2 then
    some (.inr (J_give, J_clear, J_yieldAt, J_soft, J_breakAt, J_out, J_pitches))
  else
    if (5 : Int32) ≤ l2 then
      some (.inr (J_give, J_clear, J_yieldAt, J_soft, J_breakAt, J_out, J_pitches))
    else
      bd6 (f_J_copyBolt l2 l2 J_give J_clear J_yieldAt J_soft J_breakAt J_out Jb_give Jb_clear Jb_yieldAt Jb_soft Jb_breakAt Jb_out) fun J_give_43 J_clear_43 J_yieldAt_43 J_soft_43 J_breakAt_43 J_out_43 =>
      (ldA Jb_pitches 5 l2).bind fun v_56 =>
      (stI J_pitches 5 l2 v_56).bind fun J_pitches_57 =>
      nm (l2 + (1 : Int32)) fun l2_58 =>
      some (.inl (l2_58, J_give_43, J_clear_43, J_yieldAt_43, J_soft_43, J_breakAt_43, J_out_43, J_pitches_57))
noncomputable def f_J_copyAll (F : Nat) (J_give : Nat → Int32) (J_clear : Nat → Int32) (J_yieldAt : Nat → Int32) (J_soft : Nat → Int32) (J_breakAt : Nat → Int32) (J_out : Nat → Int32) (J_pitches : Nat → Int32) (J_bolts : Int32) (J_upper : Int32) (J_lower : Int32) (Jb_give : Nat → Int32) (Jb_clear : Nat → Int32) (Jb_yieldAt : Nat → Int32) (Jb_soft : Nat → Int32) (Jb_breakAt : Nat → Int32) (Jb_out : Nat → Int32) (Jb_pitches : Nat → Int32) (Jb_bolts : Int32) (Jb_upper : Int32) (Jb_lower : Int32) : Option ((Nat → Int32) × (Nat → Int32) × (Nat → Int32) × (Nat → Int32) × (Nat → Int32) × (Nat → Int32) × (Nat → Int32) × Int32 × Int32 × Int32) :=
  bd7 (iter (un8 (fb_J_copyAll_26 Jb_bolts Jb_give Jb_clear Jb_yieldAt Jb_soft Jb_breakAt Jb_out Jb_pitches)) F ((0 : Int32), J_give, J_clear, J_yieldAt, J_soft, J_breakAt, J_out, J_pitches)) fun J_give_26 J_clear_26 J_yieldAt_26 J_soft_26 J_breakAt_26 J_out_26 J_pitches_26 =>
  some (J_give_26, J_clear_26, J_yieldAt_26, J_soft_26, J_breakAt_26, J_out_26, J_pitches_26, Jb_bolts, Jb_upper, Jb_lower)
noncomputable def fj_J_soundBits_29 (l2 : Int32) (s0 : Int32) (s1 : Int32) : Option ((Int32 × Int32) ⊕ (Int32)) :=
  nm (s0 ||| s1) fun l1_30 =>
  nm (l2 + (1 : Int32)) fun l2_31 =>
  some (.inl (l1_30, l2_31))
noncomputable def fb_J_soundBits_4 (J_out : Nat → Int32) (J_bolts : Int32) (l1 : Int32) (l2 : Int32) : Option ((Int32 × Int32) ⊕ (Int32)) :=
  if J_bolts ≤ l2 then
    some (.inr l1)
  else
    (ldA J_out 5 l2).bind fun v_18 =>
    if v_18 = (0 : Int32) then
      fj_J_soundBits_29 l2 l1 ((1 : Int32) <<< (l2 &&& 31))
    else
      fj_J_soundBits_29 l2 l1 (0 : Int32)
noncomputable def f_J_soundBits (F : Nat) (J_out : Nat → Int32) (J_bolts : Int32) : Option (Int32) :=
  (iter (un2 (fb_J_soundBits_4 J_out J_bolts)) F ((0 : Int32), (0 : Int32))).bind fun l1_4 =>
  some l1_4
noncomputable def fj_J_breaksTogether_32 (l2 : Int32) (s0 : Int32) (s1 : Int32) : Option ((Int32 × Int32) ⊕ (Int32)) :=
  nm (s0 + s1) fun l1_33 =>
  nm (l2 + (1 : Int32)) fun l2_34 =>
  some (.inl (l1_33, l2_34))
noncomputable def fb_J_breaksTogether_4 (J_breakAt : Nat → Int32) (J_out : Nat → Int32) (J_bolts : Int32) (l1 : Int32) (l2 : Int32) : Option ((Int32 × Int32) ⊕ (Int32)) :=
  if J_bolts ≤ l2 then
    some (.inr l1)
  else
    (ldA J_out 5 l2).bind fun v_18 =>
    if v_18 = (0 : Int32) then
      (ldA J_breakAt 5 l2).bind fun v_31 =>
      fj_J_breaksTogether_32 l2 l1 v_31
    else
      fj_J_breaksTogether_32 l2 l1 (0 : Int32)
noncomputable def f_J_breaksTogether (F : Nat) (J_breakAt : Nat → Int32) (J_out : Nat → Int32) (J_bolts : Int32) : Option (Int32) :=
  (iter (un2 (fb_J_breaksTogether_4 J_breakAt J_out J_bolts)) F ((0 : Int32), (0 : Int32))).bind fun l1_4 =>
  some l1_4
noncomputable def fj_J_leastClear_43 (l2 : Int32) (l3 : Int32) : Option ((Int32 × Int32) ⊕ (Int32)) :=
  nm (l3 + (1 : Int32)) fun l3_43 =>
  some (.inl (l2, l3_43))
noncomputable def fj_J_leastClear_36 (l3 : Int32) (J_clear : Nat → Int32) : Option ((Int32 × Int32) ⊕ (Int32)) :=
  (ldA J_clear 5 l3).bind fun v_41 =>
  fj_J_leastClear_43 v_41 l3
noncomputable def fb_J_leastClear_4 (l1 : Int32) (J_clear : Nat → Int32) (J_bolts : Int32) (l2 : Int32) (l3 : Int32) : Option ((Int32 × Int32) ⊕ (Int32)) :=
  if J_bolts ≤ l3 then
    some (.inr l2)
  else
    if ((l1 >>> (l3 &&& 31)) &&& (1 : Int32)) = (1 : Int32) then
      if l2 = (-1 : Int32) then
        fj_J_leastClear_36 l3 J_clear
      else
        (ldA J_clear 5 l3).bind fun v_31 =>
        if l2 ≤ v_31 then
          fj_J_leastClear_43 l2 l3
        else
          fj_J_leastClear_36 l3 J_clear
    else
      fj_J_leastClear_43 l2 l3
noncomputable def f_J_leastClear (F : Nat) (l1 : Int32) (J_clear : Nat → Int32) (J_bolts : Int32) : Option (Int32) :=
  (iter (un2 (fb_J_leastClear_4 l1 J_clear J_bolts)) F ((-1 : Int32), (0 : Int32))).bind fun l2_4 =>
  some l2_4
noncomputable def fj_L_walk_197 (l1 : Int64) (l3 : Int64) (l5 : Int64) (l7 : Int64) (l9 : Int64) (l11 : Int64) (l13 : Int64) (l15 : Int32) (l16 : Int32) (s0 : Int32) (L_byFirst : Nat → Int64) (L_byLoad : Nat → Int64) (L_bare : Nat → Int64) (L_scale : Nat → Int64) (J_upper : Int32) : Option ((Int64 × Int64 × Int64 × Int64 × Int64 × Int64 × Int64 × Int32 × (Nat → Int64) × (Nat → Int64) × (Nat → Int64) × (Nat → Int64)) ⊕ (Int64 × Int64 × Int64 × Int64 × (Nat → Int64) × (Nat → Int64) × (Nat → Int64) × (Nat → Int64))) :=
  nm (l3 + ((Int32.toInt64 (s0 * l15)) * l9)) fun l3_210 =>
  nm (l5 + (((Int32.toInt64 (s0 * l15)) * l11) - ((Int32.toInt64 (s0 * J_upper)) * l1))) fun l5_237 =>
  nm (l7 + ((Int32.toInt64 (s0 * l15)) * l13)) fun l7_251 =>
  nm (l16 + (1 : Int32)) fun l16_253 =>
  some (.inl (l1, l3_210, l5_237, l7_251, l9, l11, l13, l16_253, L_byFirst, L_byLoad, L_bare, L_scale))
noncomputable def fj_L_walk_169 (l1 : Int64) (l3 : Int64) (l5 : Int64) (l7 : Int64) (l9 : Int64) (l11 : Int64) (l13 : Int64) (l15 : Int32) (l16 : Int32) (L_byFirst : Nat → Int64) (L_byLoad : Nat → Int64) (L_bare : Nat → Int64) (L_scale : Nat → Int64) (J_pitches : Nat → Int32) (J_bolts : Int32) (J_upper : Int32) : Option ((Int64 × Int64 × Int64 × Int64 × Int64 × Int64 × Int64 × Int32 × (Nat → Int64) × (Nat → Int64) × (Nat → Int64) × (Nat → Int64)) ⊕ (Int64 × Int64 × Int64 × Int64 × (Nat → Int64) × (Nat → Int64) × (Nat → Int64) × (Nat → Int64))) :=
  if J_bolts ≤ (l16 + (1 : Int32)) then
    fj_L_walk_197 l1 l3 l5 l7 l9 l11 l13 l15 l16 (0 : Int32) L_byFirst L_byLoad L_bare L_scale J_upper
  else
    (ldA J_pitches 5 l16).bind fun v_192 =>
    fj_L_walk_197 l1 l3 l5 l7 l9 l11 l13 l15 l16 v_192 L_byFirst L_byLoad L_bare L_scale J_upper
noncomputable def fb_L_walk_39 (l15 : Int32) (L_stretch : Nat → Int32) (L_rest : Nat → Int64) (J_pitches : Nat → Int32) (J_bolts : Int32) (J_upper : Int32) (l1 : Int64) (l3 : Int64) (l5 : Int64) (l7 : Int64) (l9 : Int64) (l11 : Int64) (l13 : Int64) (l16 : Int32) (L_byFirst : Nat → Int64) (L_byLoad : Nat → Int64) (L_bare : Nat → Int64) (L_scale : Nat → Int64) : Option ((Int64 × Int64 × Int64 × Int64 × Int64 × Int64 × Int64 × Int32 × (Nat → Int64) × (Nat → Int64) × (Nat → Int64) × (Nat → Int64)) ⊕ (Int64 × Int64 × Int64 × Int64 × (Nat → Int64) × (Nat → Int64) × (Nat → Int64) × (Nat → Int64))) :=
  if J_bolts ≤ l16 then
    some (.inr (l1, l9, l11, l13, L_byFirst, L_byLoad, L_bare, L_scale))
  else
    (stL L_byFirst 5 l16 l3).bind fun L_byFirst_58 =>
    (stL L_byLoad 5 l16 l5).bind fun L_byLoad_67 =>
    (stL L_bare 5 l16 l7).bind fun L_bare_76 =>
    (stL L_scale 5 l16 l1).bind fun L_scale_84 =>
    (ldA L_stretch 5 l16).bind fun v_91 =>
    if v_91 ≤ (0 : Int32) then
      fj_L_walk_169 l1 l3 l5 l7 l9 l11 l13 l15 l16 L_byFirst_58 L_byLoad_67 L_bare_76 L_scale_84 J_pitches J_bolts J_upper
    else
      nm ((l9 * (Int32.toInt64 v_91)) + l3) fun l9_107 =>
      nm ((l11 * (Int32.toInt64 v_91)) + l5) fun l11_118 =>
      (ldA L_rest 5 l16).bind fun v_135 =>
      nm (((l13 * (Int32.toInt64 v_91)) + l7) - (v_135 * l1)) fun l13_139 =>
      nm (l3 * (Int32.toInt64 v_91)) fun l3_146 =>
      nm (l5 * (Int32.toInt64 v_91)) fun l5_153 =>
      nm (l7 * (Int32.toInt64 v_91)) fun l7_161 =>
      nm (l1 * (Int32.toInt64 v_91)) fun l1_168 =>
      fj_L_walk_169 l1_168 l3_146 l5_153 l7_161 l9_107 l11_118 l13_139 l15 l16 L_byFirst_58 L_byLoad_67 L_bare_76 L_scale_84 J_pitches J_bolts J_upper
noncomputable def fj_L_walk_273 (l1 : Int64) (l11 : Int64) (l13 : Int64) (s1 : Int64) (L_byFirst : Nat → Int64) (L_byLoad : Nat → Int64) (L_bare : Nat → Int64) (L_scale : Nat → Int64) : Option (Int64 × (Nat → Int64) × (Nat → Int64) × (Nat → Int64) × (Nat → Int64) × Int64 × Int64) :=
  nm (l1 - l11) fun L_firstRise_281 =>
  nm (-l13) fun L_firstStart_288 =>
  some (s1, L_byFirst, L_byLoad, L_bare, L_scale, L_firstRise_281, L_firstStart_288)
noncomputable def f_L_walk (F : Nat) (L_stretch : Nat → Int32) (L_rest : Nat → Int64) (L_under : Int64) (L_byFirst : Nat → Int64) (L_byLoad : Nat → Int64) (L_bare : Nat → Int64) (L_scale : Nat → Int64) (L_firstRise : Int64) (L_firstStart : Int64) (J_pitches : Nat → Int32) (J_bolts : Int32) (J_upper : Int32) (J_lower : Int32) : Option (Int64 × (Nat → Int64) × (Nat → Int64) × (Nat → Int64) × (Nat → Int64) × Int64 × Int64) :=
  nm (J_upper + J_lower) fun l15_34 =>
  bd8 (iter (un12 (fb_L_walk_39 l15_34 L_stretch L_rest J_pitches J_bolts J_upper)) F ((1 : Int64), (1 : Int64), (0 : Int64), (0 : Int64), (0 : Int64), (0 : Int64), (0 : Int64), (0 : Int32), L_byFirst, L_byLoad, L_bare, L_scale)) fun l1_39 l9_39 l11_39 l13_39 L_byFirst_39 L_byLoad_39 L_bare_39 L_scale_39 =>
  if l9_39 ≤ (0 : Int64) then
    fj_L_walk_273 l1_39 l11_39 l13_39 (1 : Int64) L_byFirst_39 L_byLoad_39 L_bare_39 L_scale_39
  else
    fj_L_walk_273 l1_39 l11_39 l13_39 l9_39 L_byFirst_39 L_byLoad_39 L_bare_39 L_scale_39
noncomputable def fj_L_fill_166 (l1 : Int32) (s1 : Int32) (s2 : Int64) (L_forceRise : Nat → Int64) (L_forceStart : Nat → Int64) (L_slipRise : Nat → Int64) (L_slipStart : Nat → Int64) : Option ((Int32 × (Nat → Int64) × (Nat → Int64) × (Nat → Int64) × (Nat → Int64)) ⊕ ((Nat → Int64) × (Nat → Int64) × (Nat → Int64) × (Nat → Int64))) :=
  (stL L_forceStart 5 s1 s2).bind fun L_forceStart_166 =>
  nm (l1 + (1 : Int32)) fun l1_167 =>
  some (.inl (l1_167, L_forceRise, L_forceStart_166, L_slipRise, L_slipStart))
noncomputable def fj_L_fill_129 (l1 : Int32) (l4 : Int32) (s1 : Int32) (s2 : Int64) (L_rest : Nat → Int64) (L_forceRise : Nat → Int64) (L_forceStart : Nat → Int64) (L_slipRise : Nat → Int64) (L_slipStart : Nat → Int64) (L_under : Int64) : Option ((Int32 × (Nat → Int64) × (Nat → Int64) × (Nat → Int64) × (Nat → Int64)) ⊕ ((Nat → Int64) × (Nat → Int64) × (Nat → Int64) × (Nat → Int64))) :=
  (stL L_forceRise 5 s1 s2).bind fun L_forceRise_129 =>
  if l4 ≤ (0 : Int32) then
    fj_L_fill_166 l1 l1 (0 : Int64) L_forceRise_129 L_forceStart L_slipRise L_slipStart
  else
    (ldA L_slipStart 5 l1).bind fun v_145 =>
    (ldA L_rest 5 l1).bind fun v_151 =>
    (dvL (v_145 - (v_151 * L_under)) (Int32.toInt64 l4)).bind fun v_161 =>
    fj_L_fill_166 l1 l1 v_161 L_forceRise_129 L_forceStart L_slipRise L_slipStart
noncomputable def fj_L_fill_34 (l1 : Int32) (s0 : Int64) (L_stretch : Nat → Int32) (L_rest : Nat → Int64) (L_forceRise : Nat → Int64) (L_forceStart : Nat → Int64) (L_slipRise : Nat → Int64) (L_slipStart : Nat → Int64) (L_under : Int64) (L_byFirst : Nat → Int64) (L_byLoad : Nat → Int64) (L_bare : Nat → Int64) (L_firstRise : Int64) (L_firstStart : Int64) : Option ((Int32 × (Nat → Int64) × (Nat → Int64) × (Nat → Int64) × (Nat → Int64)) ⊕ ((Nat → Int64) × (Nat → Int64) × (Nat → Int64) × (Nat → Int64))) :=
  (ldA L_byFirst 5 l1).bind fun v_45 =>
  (ldA L_byLoad 5 l1).bind fun v_56 =>
  (dvL ((v_45 * L_firstRise) + (v_56 * L_under)) s0).bind fun v_64 =>
  (stL L_slipRise 5 l1 v_64).bind fun L_slipRise_65 =>
  (ldA L_byFirst 5 l1).bind fun v_76 =>
  (ldA L_bare 5 l1).bind fun v_87 =>
  (dvL ((v_76 * L_firstStart) + (v_87 * L_under)) s0).bind fun v_95 =>
  (stL L_slipStart 5 l1 v_95).bind fun L_slipStart_96 =>
  (ldA L_stretch 5 l1).bind fun v_102 =>
  if v_102 ≤ (0 : Int32) then
    fj_L_fill_129 l1 v_102 l1 (0 : Int64) L_rest L_forceRise L_forceStart L_slipRise_65 L_slipStart_96 L_under
  else
    (ldA L_slipRise_65 5 l1).bind fun v_120 =>
    (dvL v_120 (Int32.toInt64 v_102)).bind fun v_124 =>
    fj_L_fill_129 l1 v_102 l1 v_124 L_rest L_forceRise L_forceStart L_slipRise_65 L_slipStart_96 L_under
noncomputable def fb_L_fill_2 (L_stretch : Nat → Int32) (L_rest : Nat → Int64) (L_under : Int64) (L_byFirst : Nat → Int64) (L_byLoad : Nat → Int64) (L_bare : Nat → Int64) (L_scale : Nat → Int64) (L_firstRise : Int64) (L_firstStart : Int64) (J_bolts : Int32) (l1 : Int32) (L_forceRise : Nat → Int64) (L_forceStart : Nat → Int64) (L_slipRise : Nat → Int64) (L_slipStart : Nat → Int64) : Option ((Int32 × (Nat → Int64) × (Nat → Int64) × (Nat → Int64) × (Nat → Int64)) ⊕ ((Nat → Int64) × (Nat → Int64) × (Nat → Int64) × (Nat → Int64))) :=
  if J_bolts ≤ l1 then
    some (.inr (L_forceRise, L_forceStart, L_slipRise, L_slipStart))
  else
    (ldA L_scale 5 l1).bind fun v_18 =>
    if v_18 ≤ (0 : Int64) then
      fj_L_fill_34 l1 (1 : Int64) L_stretch L_rest L_forceRise L_forceStart L_slipRise L_slipStart L_under L_byFirst L_byLoad L_bare L_firstRise L_firstStart
    else
      (ldA L_scale 5 l1).bind fun v_29 =>
      fj_L_fill_34 l1 v_29 L_stretch L_rest L_forceRise L_forceStart L_slipRise L_slipStart L_under L_byFirst L_byLoad L_bare L_firstRise L_firstStart
noncomputable def f_L_fill (F : Nat) (L_stretch : Nat → Int32) (L_rest : Nat → Int64) (L_forceRise : Nat → Int64) (L_forceStart : Nat → Int64) (L_slipRise : Nat → Int64) (L_slipStart : Nat → Int64) (L_under : Int64) (L_byFirst : Nat → Int64) (L_byLoad : Nat → Int64) (L_bare : Nat → Int64) (L_scale : Nat → Int64) (L_firstRise : Int64) (L_firstStart : Int64) (J_bolts : Int32) : Option ((Nat → Int64) × (Nat → Int64) × (Nat → Int64) × (Nat → Int64)) :=
  bd4 (iter (un5 (fb_L_fill_2 L_stretch L_rest L_under L_byFirst L_byLoad L_bare L_scale L_firstRise L_firstStart J_bolts)) F ((0 : Int32), L_forceRise, L_forceStart, L_slipRise, L_slipStart)) fun L_forceRise_2 L_forceStart_2 L_slipRise_2 L_slipStart_2 =>
  some (L_forceRise_2, L_forceStart_2, L_slipRise_2, L_slipStart_2)
noncomputable def f_L_forceAt (l1 : Int32) (l2 : Int64) (l4 : Int64) (L_forceRise : Nat → Int64) (L_forceStart : Nat → Int64) : Option (Int64) :=
  (ldA L_forceRise 5 l1).bind fun v_5 =>
  (ldA L_forceStart 5 l1).bind fun v_13 =>
  some ((v_5 * l2) + (v_13 * l4))
noncomputable def f_L_slipAt (l1 : Int32) (l2 : Int64) (l4 : Int64) (L_slipRise : Nat → Int64) (L_slipStart : Nat → Int64) : Option (Int64) :=
  (ldA L_slipRise 5 l1).bind fun v_5 =>
  (ldA L_slipStart 5 l1).bind fun v_13 =>
  some ((v_5 * l2) + (v_13 * l4))
noncomputable def fb_L_borneAt_6 (l1 : Int32) (l2 : Int64) (L_forceRise : Nat → Int64) (L_forceStart : Nat → Int64) (J_bolts : Int32) (l4 : Int64) (l6 : Int32) : Option ((Int64 × Int32) ⊕ (Int64)) :=
  if l1 < l6 then
    some (.inr l4)
  else
    if J_bolts ≤ l6 then
      some (.inr l4)
    else
      (f_L_forceAt l6 l2 (1 : Int64) L_forceRise L_forceStart).bind fun r_31 =>
      nm (l4 + r_31) fun l4_35 =>
      nm (l6 + (1 : Int32)) fun l6_37 =>
      some (.inl (l4_35, l6_37))
noncomputable def f_L_borneAt (F : Nat) (l1 : Int32) (l2 : Int64) (L_forceRise : Nat → Int64) (L_forceStart : Nat → Int64) (J_bolts : Int32) : Option (Int64) :=
  (iter (un2 (fb_L_borneAt_6 l1 l2 L_forceRise L_forceStart J_bolts)) F ((0 : Int64), (0 : Int32))).bind fun l4_6 =>
  some l4_6
noncomputable def fj_G_mostOverloaded_142 (l1 : Int32) (l2 : Int64) (l4 : Int32) : Option ((Int32 × Int64 × Int32) ⊕ (Int32)) :=
  nm (l4 + (1 : Int32)) fun l4_142 =>
  some (.inl (l1, l2, l4_142))
noncomputable def fj_G_mostOverloaded_136 (l4 : Int32) (l5 : Int64) : Option ((Int32 × Int64 × Int32) ⊕ (Int32)) :=
  fj_G_mostOverloaded_142 l4 l5 l4
noncomputable def fj_G_mostOverloaded_95 (l1 : Int32) (l2 : Int64) (l4 : Int32) (l5 : Int64) (s0 : Int32) (J_breakAt : Nat → Int32) : Option ((Int32 × Int64 × Int32) ⊕ (Int32)) :=
  if s0 = (0 : Int32) then
    fj_G_mostOverloaded_142 l1 l2 l4
  else
    if l1 < (0 : Int32) then
      fj_G_mostOverloaded_136 l4 l5
    else
      (ldA J_breakAt 5 l1).bind fun v_116 =>
      (ldA J_breakAt 5 l4).bind fun v_129 =>
      if (l5 * (Int32.toInt64 v_116)) ≤ (l2 * (Int32.toInt64 v_129)) then
        fj_G_mostOverloaded_142 l1 l2 l4
      else
        fj_G_mostOverloaded_136 l4 l5
noncomputable def fj_G_mostOverloaded_94 (l1 : Int32) (l2 : Int64) (l4 : Int32) (l5 : Int64) (J_breakAt : Nat → Int32) : Option ((Int32 × Int64 × Int32) ⊕ (Int32)) :=
  fj_G_mostOverloaded_95 l1 l2 l4 l5 (0 : Int32) J_breakAt
noncomputable def fj_G_mostOverloaded_51 (l1 : Int32) (l2 : Int64) (l4 : Int32) (s0 : Int64) (G_endUnder : Int64) (L_under : Int64) (J_breakAt : Nat → Int32) : Option ((Int32 × Int64 × Int32) ⊕ (Int32)) :=
  if s0 ≤ (0 : Int64) then
    fj_G_mostOverloaded_94 l1 l2 l4 s0 J_breakAt
  else
    (ldA J_breakAt 5 l4).bind fun v_71 =>
    if s0 < (((Int32.toInt64 v_71) * L_under) * G_endUnder) then
      fj_G_mostOverloaded_94 l1 l2 l4 s0 J_breakAt
    else
      fj_G_mostOverloaded_95 l1 l2 l4 s0 (1 : Int32) J_breakAt
noncomputable def fb_G_mostOverloaded_7 (G_way : Nat → Int32) (G_endOver : Int64) (G_endUnder : Int64) (L_forceRise : Nat → Int64) (L_forceStart : Nat → Int64) (L_under : Int64) (J_breakAt : Nat → Int32) (J_bolts : Int32) (l1 : Int32) (l2 : Int64) (l4 : Int32) : Option ((Int32 × Int64 × Int32) ⊕ (Int32)) :=
  if J_bolts ≤ l4 then
    some (.inr l1)
  else
    (ldA G_way 5 l4).bind fun v_25 =>
    if v_25 = (2 : Int32) then
      (f_L_forceAt l4 G_endOver G_endUnder L_forceRise L_forceStart).bind fun r_44 =>
      fj_G_mostOverloaded_51 l1 l2 l4 r_44 G_endUnder L_under J_breakAt
    else
      fj_G_mostOverloaded_51 l1 l2 l4 (0 : Int64) G_endUnder L_under J_breakAt
noncomputable def f_G_mostOverloaded (F : Nat) (G_way : Nat → Int32) (G_endOver : Int64) (G_endUnder : Int64) (L_forceRise : Nat → Int64) (L_forceStart : Nat → Int64) (L_under : Int64) (J_breakAt : Nat → Int32) (J_bolts : Int32) : Option (Int32) :=
  (iter (un3 (fb_G_mostOverloaded_7 G_way G_endOver G_endUnder L_forceRise L_forceStart L_under J_breakAt J_bolts)) F ((-1 : Int32), (0 : Int64), (0 : Int32))).bind fun l1_7 =>
  some l1_7
noncomputable def f_G_note (l1 : Int32) (l2 : Int32) (G_total : Int32) (G_kind : Nat → Int32) (G_who : Nat → Int32) (G_over : Nat → Int64) (G_under : Nat → Int64) (G_endOver : Int64) (G_endUnder : Int64) : Option (Int32 × (Nat → Int32) × (Nat → Int32) × (Nat → Int64) × (Nat → Int64)) :=
  if (15 : Int32) ≤ G_total then
    some (G_total, G_kind, G_who, G_over, G_under)
  else
    (stI G_kind 15 G_total l1).bind fun G_kind_18 =>
    (stI G_who 15 G_total l2).bind fun G_who_28 =>
    (stL G_over 15 G_total G_endOver).bind fun G_over_41 =>
    (stL G_under 15 G_total G_endUnder).bind fun G_under_54 =>
    nm (G_total + (1 : Int32)) fun G_total_62 =>
    some (G_total_62, G_kind_18, G_who_28, G_over_41, G_under_54)
noncomputable def fj_G_noteRaised_49 (l3 : Int32) (G_total : Int32) (G_kind : Nat → Int32) (G_who : Nat → Int32) (G_over : Nat → Int64) (G_under : Nat → Int64) : Option ((Int32 × Int32 × (Nat → Int32) × (Nat → Int32) × (Nat → Int64) × (Nat → Int64)) ⊕ (Int32 × (Nat → Int32) × (Nat → Int32) × (Nat → Int64) × (Nat → Int64))) :=
  nm (l3 + (1 : Int32)) fun l3_49 =>
  some (.inl (l3_49, G_total, G_kind, G_who, G_over, G_under))
noncomputable def fb_G_noteRaised_2 (l1 : Int32) (l2 : Int32) (G_way : Nat → Int32) (G_wayBefore : Nat → Int32) (G_endOver : Int64) (G_endUnder : Int64) (J_bolts : Int32) (l3 : Int32) (G_total : Int32) (G_kind : Nat → Int32) (G_who : Nat → Int32) (G_over : Nat → Int64) (G_under : Nat → Int64) : Option ((Int32 × Int32 × (Nat → Int32) × (Nat → Int32) × (Nat → Int64) × (Nat → Int64)) ⊕ (Int32 × (Nat → Int32) × (Nat → Int32) × (Nat → Int64) × (Nat → Int64))) :=
  if J_bolts ≤ l3 then
    some (.inr (G_total, G_kind, G_who, G_over, G_under))
  else
    (ldA G_wayBefore 5 l3).bind fun v_18 =>
    if l1 < v_18 then
      fj_G_noteRaised_49 l3 G_total G_kind G_who G_over G_under
    else
      (ldA G_way 5 l3).bind fun v_28 =>
      if v_28 ≤ l1 then
        fj_G_noteRaised_49 l3 G_total G_kind G_who G_over G_under
      else
        (ldA G_way 5 l3).bind fun v_38 =>
        if (2 : Int32) < v_38 then
          fj_G_noteRaised_49 l3 G_total G_kind G_who G_over G_under
        else
          bd5 (f_G_note l2 l3 G_total G_kind G_who G_over G_under G_endOver G_endUnder) fun G_total_46 G_kind_46 G_who_46 G_over_46 G_under_46 =>
          fj_G_noteRaised_49 l3 G_total_46 G_kind_46 G_who_46 G_over_46 G_under_46
noncomputable def f_G_noteRaised (F : Nat) (l1 : Int32) (l2 : Int32) (G_way : Nat → Int32) (G_wayBefore : Nat → Int32) (G_total : Int32) (G_kind : Nat → Int32) (G_who : Nat → Int32) (G_over : Nat → Int64) (G_under : Nat → Int64) (G_endOver : Int64) (G_endUnder : Int64) (J_bolts : Int32) : Option (Int32 × (Nat → Int32) × (Nat → Int32) × (Nat → Int64) × (Nat → Int64)) :=
  bd5 (iter (un6 (fb_G_noteRaised_2 l1 l2 G_way G_wayBefore G_endOver G_endUnder J_bolts)) F ((0 : Int32), G_total, G_kind, G_who, G_over, G_under)) fun G_total_2 G_kind_2 G_who_2 G_over_2 G_under_2 =>
  some (G_total_2, G_kind_2, G_who_2, G_over_2, G_under_2)
noncomputable def f_G_isDue (l1 : Int32) (G_dueOver : Nat → Int64) (G_dueUnder : Nat → Int64) (G_soonOver : Int64) (G_soonUnder : Int64) : Option (Int32) :=
  (ldA G_dueUnder 5 l1).bind fun v_5 =>
  if v_5 ≤ (0 : Int64) then
    some (0 : Int32)
  else
    (ldA G_dueOver 5 l1).bind fun v_16 =>
    (ldA G_dueUnder 5 l1).bind fun v_31 =>
    if (v_16 * G_soonUnder) = (G_soonOver * v_31) then
      some (1 : Int32)
    else
      some (0 : Int32)
noncomputable def fj_G_raiseDue_41 (l1 : Int32) (G_way : Nat → Int32) : Option ((Int32 × (Nat → Int32)) ⊕ ((Nat → Int32))) :=
  nm (l1 + (1 : Int32)) fun l1_41 =>
  some (.inl (l1_41, G_way))
noncomputable def fb_G_raiseDue_2 (G_dueOver : Nat → Int64) (G_dueUnder : Nat → Int64) (G_soonOver : Int64) (G_soonUnder : Int64) (J_bolts : Int32) (l1 : Int32) (G_way : Nat → Int32) : Option ((Int32 × (Nat → Int32)) ⊕ ((Nat → Int32))) :=
  if J_bolts ≤ l1 then
    some (.inr G_way)
  else
    (f_G_isDue l1 G_dueOver G_dueUnder G_soonOver G_soonUnder).bind fun r_15 =>
    if r_15 = (0 : Int32) then
      fj_G_raiseDue_41 l1 G_way
    else
      (ldA G_way 5 l1).bind fun v_26 =>
      if (2 : Int32) ≤ v_26 then
        fj_G_raiseDue_41 l1 G_way
      else
        (ldA G_way 5 l1).bind fun v_37 =>
        (stI G_way 5 l1 (v_37 + (1 : Int32))).bind fun G_way_40 =>
        fj_G_raiseDue_41 l1 G_way_40
noncomputable def f_G_raiseDue (F : Nat) (G_way : Nat → Int32) (G_dueOver : Nat → Int64) (G_dueUnder : Nat → Int64) (G_soonOver : Int64) (G_soonUnder : Int64) (J_bolts : Int32) : Option ((Nat → Int32)) :=
  (iter (un2 (fb_G_raiseDue_2 G_dueOver G_dueUnder G_soonOver G_soonUnder J_bolts)) F ((0 : Int32), G_way)).bind fun G_way_2 =>
  some G_way_2
noncomputable def f_G_layLine (l1 : Int32) (G_way : Nat → Int32) (L_stretch : Nat → Int32) (L_rest : Nat → Int64) (J_give : Nat → Int32) (J_clear : Nat → Int32) (J_yieldAt : Nat → Int32) (J_soft : Nat → Int32) : Option ((Nat → Int32) × (Nat → Int64)) :=
  (ldA J_clear 5 l1).bind fun v_16 =>
  (stL L_rest 5 l1 (Int32.toInt64 v_16)).bind fun L_rest_18 =>
  (stI L_stretch 5 l1 (0 : Int32)).bind fun L_stretch_28 =>
  (ldA G_way 5 l1).bind fun v_34 =>
  if v_34 = (1 : Int32) then
    (ldA J_give 5 l1).bind fun v_55 =>
    (stI L_stretch_28 5 l1 v_55).bind fun L_stretch_56 =>
    some (L_stretch_56, L_rest_18)
  else
    (ldA G_way 5 l1).bind fun v_65 =>
    if v_65 = (2 : Int32) then
      (ldA J_soft 5 l1).bind fun v_86 =>
      (stI L_stretch_28 5 l1 v_86).bind fun L_stretch_87 =>
      (ldA J_clear 5 l1).bind fun v_104 =>
      (ldA J_give 5 l1).bind fun v_113 =>
      (ldA J_soft 5 l1).bind fun v_122 =>
      (ldA J_yieldAt 5 l1).bind fun v_132 =>
      (stL L_rest_18 5 l1 (Int32.toInt64 (v_104 + ((v_113 - v_122) * v_132)))).bind fun L_rest_136 =>
      some (L_stretch_87, L_rest_136)
    else
      some (L_stretch_28, L_rest_18)
noncomputable def fj_G_seekDue_123 (l1 : Int32) (s0 : Int32) (G_dueOver : Nat → Int64) (G_dueUnder : Nat → Int64) (L_forceRise : Nat → Int64) (L_forceStart : Nat → Int64) (L_under : Int64) : Option ((Nat → Int64) × (Nat → Int64)) :=
  (ldA L_forceStart 5 l1).bind fun v_147 =>
  (stL G_dueOver 5 l1 (((Int32.toInt64 s0) * L_under) - v_147)).bind fun G_dueOver_149 =>
  (ldA L_forceRise 5 l1).bind fun v_163 =>
  (stL G_dueUnder 5 l1 v_163).bind fun G_dueUnder_164 =>
  some (G_dueOver_149, G_dueUnder_164)
noncomputable def fj_G_seekDue_92 (l1 : Int32) (G_way : Nat → Int32) (G_dueOver : Nat → Int64) (G_dueUnder : Nat → Int64) (L_forceRise : Nat → Int64) (L_forceStart : Nat → Int64) (L_under : Int64) (J_yieldAt : Nat → Int32) (J_breakAt : Nat → Int32) : Option ((Nat → Int64) × (Nat → Int64)) :=
  (ldA G_way 5 l1).bind fun v_97 =>
  if v_97 = (1 : Int32) then
    (ldA J_yieldAt 5 l1).bind fun v_110 =>
    fj_G_seekDue_123 l1 v_110 G_dueOver G_dueUnder L_forceRise L_forceStart L_under
  else
    (ldA J_breakAt 5 l1).bind fun v_122 =>
    fj_G_seekDue_123 l1 v_122 G_dueOver G_dueUnder L_forceRise L_forceStart L_under
noncomputable def f_G_seekDue (l1 : Int32) (l2 : Int32) (G_way : Nat → Int32) (G_dueOver : Nat → Int64) (G_dueUnder : Nat → Int64) (L_forceRise : Nat → Int64) (L_forceStart : Nat → Int64) (L_slipRise : Nat → Int64) (L_slipStart : Nat → Int64) (L_under : Int64) (J_clear : Nat → Int32) (J_yieldAt : Nat → Int32) (J_breakAt : Nat → Int32) : Option ((Nat → Int64) × (Nat → Int64)) :=
  (stL G_dueUnder 5 l1 (0 : Int64)).bind fun G_dueUnder_6 =>
  (ldA G_way 5 l1).bind fun v_12 =>
  if v_12 = (0 : Int32) then
    (ldA J_clear 5 l1).bind fun v_29 =>
    (ldA L_slipStart 5 l1).bind fun v_47 =>
    (stL G_dueOver 5 l1 (((Int32.toInt64 v_29) * L_under) - v_47)).bind fun G_dueOver_49 =>
    (ldA L_slipRise 5 l1).bind fun v_63 =>
    (stL G_dueUnder_6 5 l1 v_63).bind fun G_dueUnder_64 =>
    some (G_dueOver_49, G_dueUnder_64)
  else
    (ldA G_way 5 l1).bind fun v_73 =>
    if v_73 = (1 : Int32) then
      fj_G_seekDue_92 l1 G_way G_dueOver G_dueUnder_6 L_forceRise L_forceStart L_under J_yieldAt J_breakAt
    else
      (ldA G_way 5 l1).bind fun v_83 =>
      if v_83 = (2 : Int32) then
        if l2 = (0 : Int32) then
          some (G_dueOver, G_dueUnder_6)
        else
          fj_G_seekDue_92 l1 G_way G_dueOver G_dueUnder_6 L_forceRise L_forceStart L_under J_yieldAt J_breakAt
      else
        some (G_dueOver, G_dueUnder_6)
noncomputable def fb_G_seek_2 (G_way : Nat → Int32) (J_give : Nat → Int32) (J_clear : Nat → Int32) (J_yieldAt : Nat → Int32) (J_soft : Nat → Int32) (J_bolts : Int32) (l2 : Int32) (L_stretch : Nat → Int32) (L_rest : Nat → Int64) : Option ((Int32 × (Nat → Int32) × (Nat → Int64)) ⊕ ((Nat → Int32) × (Nat → Int64))) :=
  if J_bolts ≤ l2 then
    some (.inr (L_stretch, L_rest))
  else
    bd2 (f_G_layLine l2 G_way L_stretch L_rest J_give J_clear J_yieldAt J_soft) fun L_stretch_15 L_rest_15 =>
    nm (l2 + (1 : Int32)) fun l2_18 =>
    some (.inl (l2_18, L_stretch_15, L_rest_15))
noncomputable def fj_G_seek_128 (l2 : Int32) (G_dueOver : Nat → Int64) (G_dueUnder : Nat → Int64) (G_soonOver : Int64) (G_soonUnder : Int64) : Option ((Int32 × (Nat → Int64) × (Nat → Int64) × Int64 × Int64) ⊕ ((Nat → Int64) × (Nat → Int64) × Int64 × Int64)) :=
  nm (l2 + (1 : Int32)) fun l2_128 =>
  some (.inl (l2_128, G_dueOver, G_dueUnder, G_soonOver, G_soonUnder))
noncomputable def fj_G_seek_108 (l2 : Int32) (G_dueOver : Nat → Int64) (G_dueUnder : Nat → Int64) : Option ((Int32 × (Nat → Int64) × (Nat → Int64) × Int64 × Int64) ⊕ ((Nat → Int64) × (Nat → Int64) × Int64 × Int64)) :=
  (ldA G_dueOver 5 l2).bind fun v_114 =>
  (ldA G_dueUnder 5 l2).bind fun v_124 =>
  fj_G_seek_128 l2 G_dueOver G_dueUnder v_114 v_124
noncomputable def fb_G_seek_45 (l1 : Int32) (G_way : Nat → Int32) (L_forceRise : Nat → Int64) (L_forceStart : Nat → Int64) (L_slipRise : Nat → Int64) (L_slipStart : Nat → Int64) (L_under : Int64) (J_clear : Nat → Int32) (J_yieldAt : Nat → Int32) (J_breakAt : Nat → Int32) (J_bolts : Int32) (l2 : Int32) (G_dueOver : Nat → Int64) (G_dueUnder : Nat → Int64) (G_soonOver : Int64) (G_soonUnder : Int64) : Option ((Int32 × (Nat → Int64) × (Nat → Int64) × Int64 × Int64) ⊕ ((Nat → Int64) × (Nat → Int64) × Int64 × Int64)) :=
  if J_bolts ≤ l2 then
    some (.inr (G_dueOver, G_dueUnder, G_soonOver, G_soonUnder))
  else
    bd2 (f_G_seekDue l2 l1 G_way G_dueOver G_dueUnder L_forceRise L_forceStart L_slipRise L_slipStart L_under J_clear J_yieldAt J_breakAt) fun G_dueOver_59 G_dueUnder_59 =>
    (ldA G_dueUnder_59 5 l2).bind fun v_67 =>
    if v_67 ≤ (0 : Int64) then
      fj_G_seek_128 l2 G_dueOver_59 G_dueUnder_59 G_soonOver G_soonUnder
    else
      if G_soonUnder = (0 : Int64) then
        fj_G_seek_108 l2 G_dueOver_59 G_dueUnder_59
      else
        (ldA G_dueOver_59 5 l2).bind fun v_87 =>
        (ldA G_dueUnder_59 5 l2).bind fun v_102 =>
        if (G_soonOver * v_102) ≤ (v_87 * G_soonUnder) then
          fj_G_seek_128 l2 G_dueOver_59 G_dueUnder_59 G_soonOver G_soonUnder
        else
          fj_G_seek_108 l2 G_dueOver_59 G_dueUnder_59
noncomputable def f_G_seek (F : Nat) (l1 : Int32) (G_way : Nat → Int32) (G_dueOver : Nat → Int64) (G_dueUnder : Nat → Int64) (G_soonOver : Int64) (G_soonUnder : Int64) (L_stretch : Nat → Int32) (L_rest : Nat → Int64) (L_forceRise : Nat → Int64) (L_forceStart : Nat → Int64) (L_slipRise : Nat → Int64) (L_slipStart : Nat → Int64) (L_under : Int64) (L_byFirst : Nat → Int64) (L_byLoad : Nat → Int64) (L_bare : Nat → Int64) (L_scale : Nat → Int64) (L_firstRise : Int64) (L_firstStart : Int64) (J_give : Nat → Int32) (J_clear : Nat → Int32) (J_yieldAt : Nat → Int32) (J_soft : Nat → Int32) (J_breakAt : Nat → Int32) (J_pitches : Nat → Int32) (J_bolts : Int32) (J_upper : Int32) (J_lower : Int32) : Option (Int32 × (Nat → Int64) × (Nat → Int64) × Int64 × Int64 × (Nat → Int32) × (Nat → Int64) × (Nat → Int64) × (Nat → Int64) × (Nat → Int64) × (Nat → Int64) × Int64 × (Nat → Int64) × (Nat → Int64) × (Nat → Int64) × (Nat → Int64) × Int64 × Int64) :=
  bd2 (iter (un3 (fb_G_seek_2 G_way J_give J_clear J_yieldAt J_soft J_bolts)) F ((0 : Int32), L_stretch, L_rest)) fun L_stretch_2 L_rest_2 =>
  bd7 (f_L_walk F L_stretch_2 L_rest_2 L_under L_byFirst L_byLoad L_bare L_scale L_firstRise L_firstStart J_pitches J_bolts J_upper J_lower) fun L_under_28 L_byFirst_28 L_byLoad_28 L_bare_28 L_scale_28 L_firstRise_28 L_firstStart_28 =>
  bd4 (f_L_fill F L_stretch_2 L_rest_2 L_forceRise L_forceStart L_slipRise L_slipStart L_under_28 L_byFirst_28 L_byLoad_28 L_bare_28 L_scale_28 L_firstRise_28 L_firstStart_28 J_bolts) fun L_forceRise_35 L_forceStart_35 L_slipRise_35 L_slipStart_35 =>
  bd4 (iter (un5 (fb_G_seek_45 l1 G_way L_forceRise_35 L_forceStart_35 L_slipRise_35 L_slipStart_35 L_under_28 J_clear J_yieldAt J_breakAt J_bolts)) F ((0 : Int32), G_dueOver, G_dueUnder, G_soonOver, (0 : Int64))) fun G_dueOver_45 G_dueUnder_45 G_soonOver_45 G_soonUnder_45 =>
  if G_soonUnder_45 ≤ (0 : Int64) then
    some ((0 : Int32), G_dueOver_45, G_dueUnder_45, G_soonOver_45, G_soonUnder_45, L_stretch_2, L_rest_2, L_forceRise_35, L_forceStart_35, L_slipRise_35, L_slipStart_35, L_under_28, L_byFirst_28, L_byLoad_28, L_bare_28, L_scale_28, L_firstRise_28, L_firstStart_28)
  else
    some ((1 : Int32), G_dueOver_45, G_dueUnder_45, G_soonOver_45, G_soonUnder_45, L_stretch_2, L_rest_2, L_forceRise_35, L_forceStart_35, L_slipRise_35, L_slipStart_35, L_under_28, L_byFirst_28, L_byLoad_28, L_bare_28, L_scale_28, L_firstRise_28, L_firstStart_28)
noncomputable def fj_G_start_81 (l3 : Int32) (G_way : Nat → Int32) : Option ((Int32 × (Nat → Int32)) ⊕ ((Nat → Int32))) :=
  nm (l3 + (1 : Int32)) fun l3_81 =>
  some (.inl (l3_81, G_way))
noncomputable def fj_G_start_80 (l3 : Int32) (s1 : Int32) (s2 : Int32) (G_way : Nat → Int32) : Option ((Int32 × (Nat → Int32)) ⊕ ((Nat → Int32))) :=
  (stI G_way 5 s1 s2).bind fun G_way_80 =>
  fj_G_start_81 l3 G_way_80
noncomputable def fj_G_start_54 (l3 : Int32) (s1 : Int32) (s2 : Int32) (G_way : Nat → Int32) : Option ((Int32 × (Nat → Int32)) ⊕ ((Nat → Int32))) :=
  (stI G_way 5 s1 s2).bind fun G_way_54 =>
  fj_G_start_81 l3 G_way_54
noncomputable def fb_G_start_11 (l1 : Int32) (l2 : Int32) (J_clear : Nat → Int32) (J_out : Nat → Int32) (J_bolts : Int32) (l3 : Int32) (G_way : Nat → Int32) : Option ((Int32 × (Nat → Int32)) ⊕ ((Nat → Int32))) :=
  if J_bolts ≤ l3 then
    some (.inr G_way)
  else
    if ((l1 >>> (l3 &&& 31)) &&& (1 : Int32)) = (1 : Int32) then
      (ldA J_clear 5 l3).bind fun v_44 =>
      if v_44 = l2 then
        fj_G_start_54 l3 l3 (1 : Int32) G_way
      else
        fj_G_start_54 l3 l3 (0 : Int32) G_way
    else
      (ldA J_out 5 l3).bind fun v_71 =>
      if v_71 = (0 : Int32) then
        fj_G_start_80 l3 l3 (3 : Int32) G_way
      else
        fj_G_start_80 l3 l3 (4 : Int32) G_way
noncomputable def f_G_start (F : Nat) (l1 : Int32) (G_way : Nat → Int32) (J_clear : Nat → Int32) (J_out : Nat → Int32) (J_bolts : Int32) : Option ((Nat → Int32)) :=
  (f_J_leastClear F l1 J_clear J_bolts).bind fun r_5 =>
  (iter (un2 (fb_G_start_11 l1 r_5 J_clear J_out J_bolts)) F ((0 : Int32), G_way)).bind fun G_way_11 =>
  some G_way_11
noncomputable def fb_G_settle_8 (F : Nat) (l2 : Int64) (l4 : Int64) (J_give : Nat → Int32) (J_clear : Nat → Int32) (J_yieldAt : Nat → Int32) (J_soft : Nat → Int32) (J_breakAt : Nat → Int32) (J_pitches : Nat → Int32) (J_bolts : Int32) (J_upper : Int32) (J_lower : Int32) (l6 : Int32) (G_way : Nat → Int32) (G_dueOver : Nat → Int64) (G_dueUnder : Nat → Int64) (G_soonOver : Int64) (G_soonUnder : Int64) (L_stretch : Nat → Int32) (L_rest : Nat → Int64) (L_forceRise : Nat → Int64) (L_forceStart : Nat → Int64) (L_slipRise : Nat → Int64) (L_slipStart : Nat → Int64) (L_under : Int64) (L_byFirst : Nat → Int64) (L_byLoad : Nat → Int64) (L_bare : Nat → Int64) (L_scale : Nat → Int64) (L_firstRise : Int64) (L_firstStart : Int64) : Option ((Int32 × (Nat → Int32) × (Nat → Int64) × (Nat → Int64) × Int64 × Int64 × (Nat → Int32) × (Nat → Int64) × (Nat → Int64) × (Nat → Int64) × (Nat → Int64) × (Nat → Int64) × Int64 × (Nat → Int64) × (Nat → Int64) × (Nat → Int64) × (Nat → Int64) × Int64 × Int64) ⊕ (Nat × (Nat → Int32) × (Nat → Int64) × (Nat → Int64) × Int64 × Int64 × (Nat → Int32) × (Nat → Int64) × (Nat → Int64) × (Nat → Int64) × (Nat → Int64) × (Nat → Int64) × Int64 × (Nat → Int64) × (Nat → Int64) × (Nat → Int64) × (Nat → Int64) × Int64 × Int64)) :=
  if (15 : Int32) < l6 then
    some (.inr (1, G_way, G_dueOver, G_dueUnder, G_soonOver, G_soonUnder, L_stretch, L_rest, L_forceRise, L_forceStart, L_slipRise, L_slipStart, L_under, L_byFirst, L_byLoad, L_bare, L_scale, L_firstRise, L_firstStart))
  else
    bd18 (f_G_seek F (0 : Int32) G_way G_dueOver G_dueUnder G_soonOver G_soonUnder L_stretch L_rest L_forceRise L_forceStart L_slipRise L_slipStart L_under L_byFirst L_byLoad L_bare L_scale L_firstRise L_firstStart J_give J_clear J_yieldAt J_soft J_breakAt J_pitches J_bolts J_upper J_lower) fun r_17 G_dueOver_17 G_dueUnder_17 G_soonOver_17 G_soonUnder_17 L_stretch_17 L_rest_17 L_forceRise_17 L_forceStart_17 L_slipRise_17 L_slipStart_17 L_under_17 L_byFirst_17 L_byLoad_17 L_bare_17 L_scale_17 L_firstRise_17 L_firstStart_17 =>
    if r_17 = (0 : Int32) then
      some (.inr (0, G_way, G_dueOver_17, G_dueUnder_17, G_soonOver_17, G_soonUnder_17, L_stretch_17, L_rest_17, L_forceRise_17, L_forceStart_17, L_slipRise_17, L_slipStart_17, L_under_17, L_byFirst_17, L_byLoad_17, L_bare_17, L_scale_17, L_firstRise_17, L_firstStart_17))
    else
      if (G_soonOver_17 * l4) < (l2 * G_soonUnder_17) then
        (f_G_raiseDue F G_way G_dueOver_17 G_dueUnder_17 G_soonOver_17 G_soonUnder_17 J_bolts).bind fun G_way_42 =>
        nm (l6 + (1 : Int32)) fun l6_45 =>
        some (.inl (l6_45, G_way_42, G_dueOver_17, G_dueUnder_17, G_soonOver_17, G_soonUnder_17, L_stretch_17, L_rest_17, L_forceRise_17, L_forceStart_17, L_slipRise_17, L_slipStart_17, L_under_17, L_byFirst_17, L_byLoad_17, L_bare_17, L_scale_17, L_firstRise_17, L_firstStart_17))
      else
        some (.inr (0, G_way, G_dueOver_17, G_dueUnder_17, G_soonOver_17, G_soonUnder_17, L_stretch_17, L_rest_17, L_forceRise_17, L_forceStart_17, L_slipRise_17, L_slipStart_17, L_under_17, L_byFirst_17, L_byLoad_17, L_bare_17, L_scale_17, L_firstRise_17, L_firstStart_17))
noncomputable def f_G_settle (F : Nat) (l1 : Int32) (l2 : Int64) (l4 : Int64) (G_way : Nat → Int32) (G_dueOver : Nat → Int64) (G_dueUnder : Nat → Int64) (G_soonOver : Int64) (G_soonUnder : Int64) (L_stretch : Nat → Int32) (L_rest : Nat → Int64) (L_forceRise : Nat → Int64) (L_forceStart : Nat → Int64) (L_slipRise : Nat → Int64) (L_slipStart : Nat → Int64) (L_under : Int64) (L_byFirst : Nat → Int64) (L_byLoad : Nat → Int64) (L_bare : Nat → Int64) (L_scale : Nat → Int64) (L_firstRise : Int64) (L_firstStart : Int64) (J_give : Nat → Int32) (J_clear : Nat → Int32) (J_yieldAt : Nat → Int32) (J_soft : Nat → Int32) (J_breakAt : Nat → Int32) (J_out : Nat → Int32) (J_pitches : Nat → Int32) (J_bolts : Int32) (J_upper : Int32) (J_lower : Int32) : Option ((Nat → Int32) × (Nat → Int64) × (Nat → Int64) × Int64 × Int64 × (Nat → Int32) × (Nat → Int64) × (Nat → Int64) × (Nat → Int64) × (Nat → Int64) × (Nat → Int64) × Int64 × (Nat → Int64) × (Nat → Int64) × (Nat → Int64) × (Nat → Int64) × Int64 × Int64) :=
  (f_G_start F l1 G_way J_clear J_out J_bolts).bind fun G_way_2 =>
  bd19 (iter (un19 (fb_G_settle_8 F l2 l4 J_give J_clear J_yieldAt J_soft J_breakAt J_pitches J_bolts J_upper J_lower)) F ((0 : Int32), G_way_2, G_dueOver, G_dueUnder, G_soonOver, G_soonUnder, L_stretch, L_rest, L_forceRise, L_forceStart, L_slipRise, L_slipStart, L_under, L_byFirst, L_byLoad, L_bare, L_scale, L_firstRise, L_firstStart)) fun c_8 G_way_8 G_dueOver_8 G_dueUnder_8 G_soonOver_8 G_soonUnder_8 L_stretch_8 L_rest_8 L_forceRise_8 L_forceStart_8 L_slipRise_8 L_slipStart_8 L_under_8 L_byFirst_8 L_byLoad_8 L_bare_8 L_scale_8 L_firstRise_8 L_firstStart_8 =>
  if c_8 = 0 then
    some (G_way_8, G_dueOver_8, G_dueUnder_8, G_soonOver_8, G_soonUnder_8, L_stretch_8, L_rest_8, L_forceRise_8, L_forceStart_8, L_slipRise_8, L_slipStart_8, L_under_8, L_byFirst_8, L_byLoad_8, L_bare_8, L_scale_8, L_firstRise_8, L_firstStart_8)
  else
    some (G_way_8, G_dueOver_8, G_dueUnder_8, G_soonOver_8, G_soonUnder_8, L_stretch_8, L_rest_8, L_forceRise_8, L_forceStart_8, L_slipRise_8, L_slipStart_8, L_under_8, L_byFirst_8, L_byLoad_8, L_bare_8, L_scale_8, L_firstRise_8, L_firstStart_8)
noncomputable def fb_G_breakOn_8 (F : Nat) (G_endOver : Int64) (G_endUnder : Int64) (J_give : Nat → Int32) (J_clear : Nat → Int32) (J_yieldAt : Nat → Int32) (J_soft : Nat → Int32) (J_breakAt : Nat → Int32) (J_out : Nat → Int32) (J_pitches : Nat → Int32) (J_bolts : Int32) (J_upper : Int32) (J_lower : Int32) (l3 : Int32) (l4 : Int32) (l5 : Int32) (G_way : Nat → Int32) (G_wayBefore : Nat → Int32) (G_total : Int32) (G_kind : Nat → Int32) (G_who : Nat → Int32) (G_over : Nat → Int64) (G_under : Nat → Int64) (G_dueOver : Nat → Int64) (G_dueUnder : Nat → Int64) (G_soonOver : Int64) (G_soonUnder : Int64) (L_stretch : Nat → Int32) (L_rest : Nat → Int64) (L_forceRise : Nat → Int64) (L_forceStart : Nat → Int64) (L_slipRise : Nat → Int64) (L_slipStart : Nat → Int64) (L_under : Int64) (L_byFirst : Nat → Int64) (L_byLoad : Nat → Int64) (L_bare : Nat → Int64) (L_scale : Nat → Int64) (L_firstRise : Int64) (L_firstStart : Int64) : Option ((Int32 × Int32 × Int32 × (Nat → Int32) × (Nat → Int32) × Int32 × (Nat → Int32) × (Nat → Int32) × (Nat → Int64) × (Nat → Int64) × (Nat → Int64) × (Nat → Int64) × Int64 × Int64 × (Nat → Int32) × (Nat → Int64) × (Nat → Int64) × (Nat → Int64) × (Nat → Int64) × (Nat → Int64) × Int64 × (Nat → Int64) × (Nat → Int64) × (Nat → Int64) × (Nat → Int64) × Int64 × Int64) ⊕ (Nat × Int32 × (Nat → Int32) × (Nat → Int32) × Int32 × (Nat → Int32) × (Nat → Int32) × (Nat → Int64) × (Nat → Int64) × (Nat → Int64) × (Nat → Int64) × Int64 × Int64 × (Nat → Int32) × (Nat → Int64) × (Nat → Int64) × (Nat → Int64) × (Nat → Int64) × (Nat → Int64) × Int64 × (Nat → Int64) × (Nat → Int64) × (Nat → Int64) × (Nat → Int64) × Int64 × Int64)) :=
  if (5 : Int32) ≤ l5 then
    some (.inr (1, l3, G_way, G_wayBefore, G_total, G_kind, G_who, G_over, G_under, G_dueOver, G_dueUnder, G_soonOver, G_soonUnder, L_stretch, L_rest, L_forceRise, L_forceStart, L_slipRise, L_slipStart, L_under, L_byFirst, L_byLoad, L_bare, L_scale, L_firstRise, L_firstStart))
  else
    if l4 < (0 : Int32) then
      some (.inr (1, l3, G_way, G_wayBefore, G_total, G_kind, G_who, G_over, G_under, G_dueOver, G_dueUnder, G_soonOver, G_soonUnder, L_stretch, L_rest, L_forceRise, L_forceStart, L_slipRise, L_slipStart, L_under, L_byFirst, L_byLoad, L_bare, L_scale, L_firstRise, L_firstStart))
    else
      bd5 (f_G_note (2 : Int32) l4 G_total G_kind G_who G_over G_under G_endOver G_endUnder) fun G_total_23 G_kind_23 G_who_23 G_over_23 G_under_23 =>
      nm (l3 &&& (((1 : Int32) <<< (l4 &&& 31)) ^^^ (-1 : Int32))) fun l3_34 =>
      if l3_34 = (0 : Int32) then
        some (.inr (0, l3_34, G_way, G_wayBefore, G_total_23, G_kind_23, G_who_23, G_over_23, G_under_23, G_dueOver, G_dueUnder, G_soonOver, G_soonUnder, L_stretch, L_rest, L_forceRise, L_forceStart, L_slipRise, L_slipStart, L_under, L_byFirst, L_byLoad, L_bare, L_scale, L_firstRise, L_firstStart))
      else
        (cpI G_way G_wayBefore 5 5 (0 : Int32) (0 : Int32) (5 : Int32)).bind fun G_wayBefore_52 =>
        bd18 (f_G_settle F l3_34 G_endOver G_endUnder G_way G_dueOver G_dueUnder G_soonOver G_soonUnder L_stretch L_rest L_forceRise L_forceStart L_slipRise L_slipStart L_under L_byFirst L_byLoad L_bare L_scale L_firstRise L_firstStart J_give J_clear J_yieldAt J_soft J_breakAt J_out J_pitches J_bolts J_upper J_lower) fun G_way_65 G_dueOver_65 G_dueUnder_65 G_soonOver_65 G_soonUnder_65 L_stretch_65 L_rest_65 L_forceRise_65 L_forceStart_65 L_slipRise_65 L_slipStart_65 L_under_65 L_byFirst_65 L_byLoad_65 L_bare_65 L_scale_65 L_firstRise_65 L_firstStart_65 =>
        bd5 (f_G_noteRaised F (0 : Int32) (0 : Int32) G_way_65 G_wayBefore_52 G_total_23 G_kind_23 G_who_23 G_over_23 G_under_23 G_endOver G_endUnder J_bolts) fun G_total_71 G_kind_71 G_who_71 G_over_71 G_under_71 =>
        bd5 (f_G_noteRaised F (1 : Int32) (1 : Int32) G_way_65 G_wayBefore_52 G_total_71 G_kind_71 G_who_71 G_over_71 G_under_71 G_endOver G_endUnder J_bolts) fun G_total_77 G_kind_77 G_who_77 G_over_77 G_under_77 =>
        (f_G_mostOverloaded F G_way_65 G_endOver G_endUnder L_forceRise_65 L_forceStart_65 L_under_65 J_breakAt J_bolts).bind fun r_81 =>
        nm (l5 + (1 : Int32)) fun l5_86 =>
        some (.inl (l3_34, r_81, l5_86, G_way_65, G_wayBefore_52, G_total_77, G_kind_77, G_who_77, G_over_77, G_under_77, G_dueOver_65, G_dueUnder_65, G_soonOver_65, G_soonUnder_65, L_stretch_65, L_rest_65, L_forceRise_65, L_forceStart_65, L_slipRise_65, L_slipStart_65, L_under_65, L_byFirst_65, L_byLoad_65, L_bare_65, L_scale_65, L_firstRise_65, L_firstStart_65))
noncomputable def f_G_breakOn (F : Nat) (l1 : Int32) (l2 : Int32) (G_way : Nat → Int32) (G_wayBefore : Nat → Int32) (G_total : Int32) (G_kind : Nat → Int32) (G_who : Nat → Int32) (G_over : Nat → Int64) (G_under : Nat → Int64) (G_endOver : Int64) (G_endUnder : Int64) (G_dueOver : Nat → Int64) (G_dueUnder : Nat → Int64) (G_soonOver : Int64) (G_soonUnder : Int64) (L_stretch : Nat → Int32) (L_rest : Nat → Int64) (L_forceRise : Nat → Int64) (L_forceStart : Nat → Int64) (L_slipRise : Nat → Int64) (L_slipStart : Nat → Int64) (L_under : Int64) (L_byFirst : Nat → Int64) (L_byLoad : Nat → Int64) (L_bare : Nat → Int64) (L_scale : Nat → Int64) (L_firstRise : Int64) (L_firstStart : Int64) (J_give : Nat → Int32) (J_clear : Nat → Int32) (J_yieldAt : Nat → Int32) (J_soft : Nat → Int32) (J_breakAt : Nat → Int32) (J_out : Nat → Int32) (J_pitches : Nat → Int32) (J_bolts : Int32) (J_upper : Int32) (J_lower : Int32) : Option (Int32 × (Nat → Int32) × (Nat → Int32) × Int32 × (Nat → Int32) × (Nat → Int32) × (Nat → Int64) × (Nat → Int64) × (Nat → Int64) × (Nat → Int64) × Int64 × Int64 × (Nat → Int32) × (Nat → Int64) × (Nat → Int64) × (Nat → Int64) × (Nat → Int64) × (Nat → Int64) × Int64 × (Nat → Int64) × (Nat → Int64) × (Nat → Int64) × (Nat → Int64) × Int64 × Int64) :=
  bd26 (iter (un27 (fb_G_breakOn_8 F G_endOver G_endUnder J_give J_clear J_yieldAt J_soft J_breakAt J_out J_pitches J_bolts J_upper J_lower)) F (l2, l1, (0 : Int32), G_way, G_wayBefore, G_total, G_kind, G_who, G_over, G_under, G_dueOver, G_dueUnder, G_soonOver, G_soonUnder, L_stretch, L_rest, L_forceRise, L_forceStart, L_slipRise, L_slipStart, L_under, L_byFirst, L_byLoad, L_bare, L_scale, L_firstRise, L_firstStart)) fun c_8 l3_8 G_way_8 G_wayBefore_8 G_total_8 G_kind_8 G_who_8 G_over_8 G_under_8 G_dueOver_8 G_dueUnder_8 G_soonOver_8 G_soonUnder_8 L_stretch_8 L_rest_8 L_forceRise_8 L_forceStart_8 L_slipRise_8 L_slipStart_8 L_under_8 L_byFirst_8 L_byLoad_8 L_bare_8 L_scale_8 L_firstRise_8 L_firstStart_8 =>
  if c_8 = 0 then
    some ((0 : Int32), G_way_8, G_wayBefore_8, G_total_8, G_kind_8, G_who_8, G_over_8, G_under_8, G_dueOver_8, G_dueUnder_8, G_soonOver_8, G_soonUnder_8, L_stretch_8, L_rest_8, L_forceRise_8, L_forceStart_8, L_slipRise_8, L_slipStart_8, L_under_8, L_byFirst_8, L_byLoad_8, L_bare_8, L_scale_8, L_firstRise_8, L_firstStart_8)
  else
    some (l3_8, G_way_8, G_wayBefore_8, G_total_8, G_kind_8, G_who_8, G_over_8, G_under_8, G_dueOver_8, G_dueUnder_8, G_soonOver_8, G_soonUnder_8, L_stretch_8, L_rest_8, L_forceRise_8, L_forceStart_8, L_slipRise_8, L_slipStart_8, L_under_8, L_byFirst_8, L_byLoad_8, L_bare_8, L_scale_8, L_firstRise_8, L_firstStart_8)
noncomputable def fj_G_firstDue_33 (l2 : Int32) : Option ((Int32) ⊕ (Nat × Int32)) :=
  nm (l2 + (1 : Int32)) fun l2_33 =>
  some (.inl l2_33)
noncomputable def fb_G_firstDue_2 (l1 : Int32) (G_way : Nat → Int32) (G_dueOver : Nat → Int64) (G_dueUnder : Nat → Int64) (G_soonOver : Int64) (G_soonUnder : Int64) (J_bolts : Int32) (l2 : Int32) : Option ((Int32) ⊕ (Nat × Int32)) :=
  if J_bolts ≤ l2 then
    some (.inr (1, l2))
  else
    (ldA G_way 5 l2).bind fun v_18 =>
    if v_18 = l1 then
      (f_G_isDue l2 G_dueOver G_dueUnder G_soonOver G_soonUnder).bind fun r_25 =>
      if r_25 = (0 : Int32) then
        fj_G_firstDue_33 l2
      else
        some (.inr (0, l2))
    else
      fj_G_firstDue_33 l2
noncomputable def f_G_firstDue (F : Nat) (l1 : Int32) (G_way : Nat → Int32) (G_dueOver : Nat → Int64) (G_dueUnder : Nat → Int64) (G_soonOver : Int64) (G_soonUnder : Int64) (J_bolts : Int32) : Option (Int32) :=
  bd2 (iter (fb_G_firstDue_2 l1 G_way G_dueOver G_dueUnder G_soonOver G_soonUnder J_bolts) F (0 : Int32)) fun c_2 l2_2 =>
  if c_2 = 0 then
    some l2_2
  else
    some (-1 : Int32)
noncomputable def fj_G_noteDue_37 (l3 : Int32) (G_total : Int32) (G_kind : Nat → Int32) (G_who : Nat → Int32) (G_over : Nat → Int64) (G_under : Nat → Int64) : Option ((Int32 × Int32 × (Nat → Int32) × (Nat → Int32) × (Nat → Int64) × (Nat → Int64)) ⊕ (Int32 × (Nat → Int32) × (Nat → Int32) × (Nat → Int64) × (Nat → Int64))) :=
  nm (l3 + (1 : Int32)) fun l3_37 =>
  some (.inl (l3_37, G_total, G_kind, G_who, G_over, G_under))
noncomputable def fb_G_noteDue_2 (l1 : Int32) (l2 : Int32) (G_way : Nat → Int32) (G_endOver : Int64) (G_endUnder : Int64) (G_dueOver : Nat → Int64) (G_dueUnder : Nat → Int64) (G_soonOver : Int64) (G_soonUnder : Int64) (J_bolts : Int32) (l3 : Int32) (G_total : Int32) (G_kind : Nat → Int32) (G_who : Nat → Int32) (G_over : Nat → Int64) (G_under : Nat → Int64) : Option ((Int32 × Int32 × (Nat → Int32) × (Nat → Int32) × (Nat → Int64) × (Nat → Int64)) ⊕ (Int32 × (Nat → Int32) × (Nat → Int32) × (Nat → Int64) × (Nat → Int64))) :=
  if J_bolts ≤ l3 then
    some (.inr (G_total, G_kind, G_who, G_over, G_under))
  else
    (ldA G_way 5 l3).bind fun v_18 =>
    if v_18 = l1 then
      (f_G_isDue l3 G_dueOver G_dueUnder G_soonOver G_soonUnder).bind fun r_25 =>
      if r_25 = (0 : Int32) then
        fj_G_noteDue_37 l3 G_total G_kind G_who G_over G_under
      else
        bd5 (f_G_note l2 l3 G_total G_kind G_who G_over G_under G_endOver G_endUnder) fun G_total_34 G_kind_34 G_who_34 G_over_34 G_under_34 =>
        fj_G_noteDue_37 l3 G_total_34 G_kind_34 G_who_34 G_over_34 G_under_34
    else
      fj_G_noteDue_37 l3 G_total G_kind G_who G_over G_under
noncomputable def f_G_noteDue (F : Nat) (l1 : Int32) (l2 : Int32) (G_way : Nat → Int32) (G_total : Int32) (G_kind : Nat → Int32) (G_who : Nat → Int32) (G_over : Nat → Int64) (G_under : Nat → Int64) (G_endOver : Int64) (G_endUnder : Int64) (G_dueOver : Nat → Int64) (G_dueUnder : Nat → Int64) (G_soonOver : Int64) (G_soonUnder : Int64) (J_bolts : Int32) : Option (Int32 × (Nat → Int32) × (Nat → Int32) × (Nat → Int64) × (Nat → Int64)) :=
  bd5 (iter (un6 (fb_G_noteDue_2 l1 l2 G_way G_endOver G_endUnder G_dueOver G_dueUnder G_soonOver G_soonUnder J_bolts)) F ((0 : Int32), G_total, G_kind, G_who, G_over, G_under)) fun G_total_2 G_kind_2 G_who_2 G_over_2 G_under_2 =>
  some (G_total_2, G_kind_2, G_who_2, G_over_2, G_under_2)
noncomputable def fb_X_divisor_31 (l4 : Int64) (l6 : Int64) (l8 : Int32) : Option ((Int64 × Int64 × Int32) ⊕ (Int64)) :=
  if (100 : Int32) ≤ l8 then
    some (.inr l4)
  else
    if l6 = (0 : Int64) then
      some (.inr l4)
    else
      (rmL l4 l6).bind fun v_49 =>
      nm (l8 + (1 : Int32)) fun l8_60 =>
      some (.inl (l6, v_49, l8_60))
noncomputable def fj_X_divisor_26 (F : Nat) (l4 : Int64) (s0 : Int64) : Option (Int64) :=
  (iter (un3 (fb_X_divisor_31)) F (l4, s0, (0 : Int32))).bind fun l4_31 =>
  some l4_31
noncomputable def fj_X_divisor_12 (F : Nat) (l2 : Int64) (s0 : Int64) : Option (Int64) :=
  if (0 : Int64) ≤ l2 then
    fj_X_divisor_26 F s0 l2
  else
    fj_X_divisor_26 F s0 (-l2)
noncomputable def f_X_divisor (F : Nat) (l0 : Int64) (l2 : Int64) : Option (Int64) :=
  if (0 : Int64) ≤ l0 then
    fj_X_divisor_12 F l2 l0
  else
    fj_X_divisor_12 F l2 (-l0)
noncomputable def f_G_reach (F : Nat) (l1 : Int64) (l3 : Int64) (G_endOver : Int64) (G_endUnder : Int64) : Option (Int64 × Int64) :=
  (f_X_divisor F l1 l3).bind fun r_2 =>
  if r_2 ≤ (0 : Int64) then
    some (G_endOver, G_endUnder)
  else
    (dvL l1 r_2).bind fun v_18 =>
    (dvL l3 r_2).bind fun v_26 =>
    some (v_18, v_26)
noncomputable def fj_G_run_70 (l2 : Int32) (G_total : Int32) (G_kind : Nat → Int32) (G_who : Nat → Int32) (G_over : Nat → Int64) (G_under : Nat → Int64) : Option ((Int32 × Int32 × (Nat → Int32) × (Nat → Int32) × (Nat → Int64) × (Nat → Int64)) ⊕ (Int32 × (Nat → Int32) × (Nat → Int32) × (Nat → Int64) × (Nat → Int64))) :=
  nm (l2 + (1 : Int32)) fun l2_70 =>
  some (.inl (l2_70, G_total, G_kind, G_who, G_over, G_under))
noncomputable def fb_G_run_43 (G_way : Nat → Int32) (G_endOver : Int64) (G_endUnder : Int64) (J_bolts : Int32) (l2 : Int32) (G_total : Int32) (G_kind : Nat → Int32) (G_who : Nat → Int32) (G_over : Nat → Int64) (G_under : Nat → Int64) : Option ((Int32 × Int32 × (Nat → Int32) × (Nat → Int32) × (Nat → Int64) × (Nat → Int64)) ⊕ (Int32 × (Nat → Int32) × (Nat → Int32) × (Nat → Int64) × (Nat → Int64))) :=
  if J_bolts ≤ l2 then
    some (.inr (G_total, G_kind, G_who, G_over, G_under))
  else
    (ldA G_way 5 l2).bind fun v_59 =>
    if v_59 = (1 : Int32) then
      bd5 (f_G_note (0 : Int32) l2 G_total G_kind G_who G_over G_under G_endOver G_endUnder) fun G_total_67 G_kind_67 G_who_67 G_over_67 G_under_67 =>
      fj_G_run_70 l2 G_total_67 G_kind_67 G_who_67 G_over_67 G_under_67
    else
      fj_G_run_70 l2 G_total G_kind G_who G_over G_under
noncomputable def fb_G_run_78 (F : Nat) (J_give : Nat → Int32) (J_clear : Nat → Int32) (J_yieldAt : Nat → Int32) (J_soft : Nat → Int32) (J_breakAt : Nat → Int32) (J_out : Nat → Int32) (J_pitches : Nat → Int32) (J_bolts : Int32) (J_upper : Int32) (J_lower : Int32) (l1 : Int32) (l2 : Int32) (G_way : Nat → Int32) (G_wayBefore : Nat → Int32) (G_total : Int32) (G_kind : Nat → Int32) (G_who : Nat → Int32) (G_over : Nat → Int64) (G_under : Nat → Int64) (G_endOver : Int64) (G_endUnder : Int64) (G_dueOver : Nat → Int64) (G_dueUnder : Nat → Int64) (G_soonOver : Int64) (G_soonUnder : Int64) (L_stretch : Nat → Int32) (L_rest : Nat → Int64) (L_forceRise : Nat → Int64) (L_forceStart : Nat → Int64) (L_slipRise : Nat → Int64) (L_slipStart : Nat → Int64) (L_under : Int64) (L_byFirst : Nat → Int64) (L_byLoad : Nat → Int64) (L_bare : Nat → Int64) (L_scale : Nat → Int64) (L_firstRise : Int64) (L_firstStart : Int64) : Option ((Int32 × Int32 × (Nat → Int32) × (Nat → Int32) × Int32 × (Nat → Int32) × (Nat → Int32) × (Nat → Int64) × (Nat → Int64) × Int64 × Int64 × (Nat → Int64) × (Nat → Int64) × Int64 × Int64 × (Nat → Int32) × (Nat → Int64) × (Nat → Int64) × (Nat → Int64) × (Nat → Int64) × (Nat → Int64) × Int64 × (Nat → Int64) × (Nat → Int64) × (Nat → Int64) × (Nat → Int64) × Int64 × Int64) ⊕ (Nat × (Nat → Int32) × (Nat → Int32) × Int32 × (Nat → Int32) × (Nat → Int32) × (Nat → Int64) × (Nat → Int64) × Int64 × Int64 × (Nat → Int64) × (Nat → Int64) × Int64 × Int64 × (Nat → Int32) × (Nat → Int64) × (Nat → Int64) × (Nat → Int64) × (Nat → Int64) × (Nat → Int64) × Int64 × (Nat → Int64) × (Nat → Int64) × (Nat → Int64) × (Nat → Int64) × Int64 × Int64)) :=
  if (15 : Int32) ≤ l2 then
    some (.inr (1, G_way, G_wayBefore, G_total, G_kind, G_who, G_over, G_under, G_endOver, G_endUnder, G_dueOver, G_dueUnder, G_soonOver, G_soonUnder, L_stretch, L_rest, L_forceRise, L_forceStart, L_slipRise, L_slipStart, L_under, L_byFirst, L_byLoad, L_bare, L_scale, L_firstRise, L_firstStart))
  else
    if l1 = (0 : Int32) then
      some (.inr (1, G_way, G_wayBefore, G_total, G_kind, G_who, G_over, G_under, G_endOver, G_endUnder, G_dueOver, G_dueUnder, G_soonOver, G_soonUnder, L_stretch, L_rest, L_forceRise, L_forceStart, L_slipRise, L_slipStart, L_under, L_byFirst, L_byLoad, L_bare, L_scale, L_firstRise, L_firstStart))
    else
      bd18 (f_G_seek F (1 : Int32) G_way G_dueOver G_dueUnder G_soonOver G_soonUnder L_stretch L_rest L_forceRise L_forceStart L_slipRise L_slipStart L_under L_byFirst L_byLoad L_bare L_scale L_firstRise L_firstStart J_give J_clear J_yieldAt J_soft J_breakAt J_pitches J_bolts J_upper J_lower) fun r_90 G_dueOver_90 G_dueUnder_90 G_soonOver_90 G_soonUnder_90 L_stretch_90 L_rest_90 L_forceRise_90 L_forceStart_90 L_slipRise_90 L_slipStart_90 L_under_90 L_byFirst_90 L_byLoad_90 L_bare_90 L_scale_90 L_firstRise_90 L_firstStart_90 =>
      if r_90 = (0 : Int32) then
        some (.inr (0, G_way, G_wayBefore, G_total, G_kind, G_who, G_over, G_under, G_endOver, G_endUnder, G_dueOver_90, G_dueUnder_90, G_soonOver_90, G_soonUnder_90, L_stretch_90, L_rest_90, L_forceRise_90, L_forceStart_90, L_slipRise_90, L_slipStart_90, L_under_90, L_byFirst_90, L_byLoad_90, L_bare_90, L_scale_90, L_firstRise_90, L_firstStart_90))
      else
        bd2 (f_G_reach F G_soonOver_90 G_soonUnder_90 G_endOver G_endUnder) fun G_endOver_106 G_endUnder_106 =>
        bd5 (f_G_noteDue F (0 : Int32) (0 : Int32) G_way G_total G_kind G_who G_over G_under G_endOver_106 G_endUnder_106 G_dueOver_90 G_dueUnder_90 G_soonOver_90 G_soonUnder_90 J_bolts) fun G_total_112 G_kind_112 G_who_112 G_over_112 G_under_112 =>
        bd5 (f_G_noteDue F (1 : Int32) (1 : Int32) G_way G_total_112 G_kind_112 G_who_112 G_over_112 G_under_112 G_endOver_106 G_endUnder_106 G_dueOver_90 G_dueUnder_90 G_soonOver_90 G_soonUnder_90 J_bolts) fun G_total_118 G_kind_118 G_who_118 G_over_118 G_under_118 =>
        (f_G_firstDue F (2 : Int32) G_way G_dueOver_90 G_dueUnder_90 G_soonOver_90 G_soonUnder_90 J_bolts).bind fun r_123 =>
        (f_G_raiseDue F G_way G_dueOver_90 G_dueUnder_90 G_soonOver_90 G_soonUnder_90 J_bolts).bind fun G_way_128 =>
        bd25 (f_G_breakOn F r_123 l1 G_way_128 G_wayBefore G_total_118 G_kind_118 G_who_118 G_over_118 G_under_118 G_endOver_106 G_endUnder_106 G_dueOver_90 G_dueUnder_90 G_soonOver_90 G_soonUnder_90 L_stretch_90 L_rest_90 L_forceRise_90 L_forceStart_90 L_slipRise_90 L_slipStart_90 L_under_90 L_byFirst_90 L_byLoad_90 L_bare_90 L_scale_90 L_firstRise_90 L_firstStart_90 J_give J_clear J_yieldAt J_soft J_breakAt J_out J_pitches J_bolts J_upper J_lower) fun r_134 G_way_134 G_wayBefore_134 G_total_134 G_kind_134 G_who_134 G_over_134 G_under_134 G_dueOver_134 G_dueUnder_134 G_soonOver_134 G_soonUnder_134 L_stretch_134 L_rest_134 L_forceRise_134 L_forceStart_134 L_slipRise_134 L_slipStart_134 L_under_134 L_byFirst_134 L_byLoad_134 L_bare_134 L_scale_134 L_firstRise_134 L_firstStart_134 =>
        nm (l2 + (1 : Int32)) fun l2_138 =>
        some (.inl (r_134, l2_138, G_way_134, G_wayBefore_134, G_total_134, G_kind_134, G_who_134, G_over_134, G_under_134, G_endOver_106, G_endUnder_106, G_dueOver_134, G_dueUnder_134, G_soonOver_134, G_soonUnder_134, L_stretch_134, L_rest_134, L_forceRise_134, L_forceStart_134, L_slipRise_134, L_slipStart_134, L_under_134, L_byFirst_134, L_byLoad_134, L_bare_134, L_scale_134, L_firstRise_134, L_firstStart_134))
noncomputable def f_G_run (F : Nat) (G_way : Nat → Int32) (G_wayBefore : Nat → Int32) (G_known : Int32) (G_total : Int32) (G_kind : Nat → Int32) (G_who : Nat → Int32) (G_over : Nat → Int64) (G_under : Nat → Int64) (G_endOver : Int64) (G_endUnder : Int64) (G_dueOver : Nat → Int64) (G_dueUnder : Nat → Int64) (G_soonOver : Int64) (G_soonUnder : Int64) (L_stretch : Nat → Int32) (L_rest : Nat → Int64) (L_forceRise : Nat → Int64) (L_forceStart : Nat → Int64) (L_slipRise : Nat → Int64) (L_slipStart : Nat → Int64) (L_under : Int64) (L_byFirst : Nat → Int64) (L_byLoad : Nat → Int64) (L_bare : Nat → Int64) (L_scale : Nat → Int64) (L_firstRise : Int64) (L_firstStart : Int64) (J_give : Nat → Int32) (J_clear : Nat → Int32) (J_yieldAt : Nat → Int32) (J_soft : Nat → Int32) (J_breakAt : Nat → Int32) (J_out : Nat → Int32) (J_pitches : Nat → Int32) (J_bolts : Int32) (J_upper : Int32) (J_lower : Int32) : Option ((Nat → Int32) × (Nat → Int32) × Int32 × Int32 × (Nat → Int32) × (Nat → Int32) × (Nat → Int64) × (Nat → Int64) × Int64 × Int64 × (Nat → Int64) × (Nat → Int64) × Int64 × Int64 × (Nat → Int32) × (Nat → Int64) × (Nat → Int64) × (Nat → Int64) × (Nat → Int64) × (Nat → Int64) × Int64 × (Nat → Int64) × (Nat → Int64) × (Nat → Int64) × (Nat → Int64) × Int64 × Int64) :=
  if G_known = (0 : Int32) then
    (f_J_soundBits F J_out J_bolts).bind fun r_32 =>
    (f_G_start F r_32 G_way J_clear J_out J_bolts).bind fun G_way_38 =>
    bd5 (iter (un6 (fb_G_run_43 G_way_38 (0 : Int64) (1 : Int64) J_bolts)) F ((0 : Int32), (0 : Int32), G_kind, G_who, G_over, G_under)) fun G_total_43 G_kind_43 G_who_43 G_over_43 G_under_43 =>
    bd27 (iter (un28 (fb_G_run_78 F J_give J_clear J_yieldAt J_soft J_breakAt J_out J_pitches J_bolts J_upper J_lower)) F (r_32, (0 : Int32), G_way_38, G_wayBefore, G_total_43, G_kind_43, G_who_43, G_over_43, G_under_43, (0 : Int64), (1 : Int64), G_dueOver, G_dueUnder, G_soonOver, G_soonUnder, L_stretch, L_rest, L_forceRise, L_forceStart, L_slipRise, L_slipStart, L_under, L_byFirst, L_byLoad, L_bare, L_scale, L_firstRise, L_firstStart)) fun c_78 G_way_78 G_wayBefore_78 G_total_78 G_kind_78 G_who_78 G_over_78 G_under_78 G_endOver_78 G_endUnder_78 G_dueOver_78 G_dueUnder_78 G_soonOver_78 G_soonUnder_78 L_stretch_78 L_rest_78 L_forceRise_78 L_forceStart_78 L_slipRise_78 L_slipStart_78 L_under_78 L_byFirst_78 L_byLoad_78 L_bare_78 L_scale_78 L_firstRise_78 L_firstStart_78 =>
    if c_78 = 0 then
      some (G_way_78, G_wayBefore_78, (1 : Int32), G_total_78, G_kind_78, G_who_78, G_over_78, G_under_78, G_endOver_78, G_endUnder_78, G_dueOver_78, G_dueUnder_78, G_soonOver_78, G_soonUnder_78, L_stretch_78, L_rest_78, L_forceRise_78, L_forceStart_78, L_slipRise_78, L_slipStart_78, L_under_78, L_byFirst_78, L_byLoad_78, L_bare_78, L_scale_78, L_firstRise_78, L_firstStart_78)
    else
      some (G_way_78, G_wayBefore_78, (1 : Int32), G_total_78, G_kind_78, G_who_78, G_over_78, G_under_78, G_endOver_78, G_endUnder_78, G_dueOver_78, G_dueUnder_78, G_soonOver_78, G_soonUnder_78, L_stretch_78, L_rest_78, L_forceRise_78, L_forceStart_78, L_slipRise_78, L_slipStart_78, L_under_78, L_byFirst_78, L_byLoad_78, L_bare_78, L_scale_78, L_firstRise_78, L_firstStart_78)
  else
    some (G_way, G_wayBefore, G_known, G_total, G_kind, G_who, G_over, G_under, G_endOver, G_endUnder, G_dueOver, G_dueUnder, G_soonOver, G_soonUnder, L_stretch, L_rest, L_forceRise, L_forceStart, L_slipRise, L_slipStart, L_under, L_byFirst, L_byLoad, L_bare, L_scale, L_firstRise, L_firstStart)
noncomputable def fb_G_compareForces_20 (l3 : Int64) (l5 : Int64) (L_forceRise : Nat → Int64) (L_forceStart : Nat → Int64) (J_bolts : Int32) (l9 : Int32) (G_gains : Nat → Int64) : Option ((Int32 × (Nat → Int64)) ⊕ ((Nat → Int64))) :=
  if J_bolts ≤ l9 then
    some (.inr G_gains)
  else
    (f_L_forceAt l9 l3 l5 L_forceRise L_forceStart).bind fun r_47 =>
    (stL G_gains 5 l9 r_47).bind fun G_gains_50 =>
    nm (l9 + (1 : Int32)) fun l9_51 =>
    some (.inl (l9_51, G_gains_50))
noncomputable def fj_G_compareForces_143 (l9 : Int32) (s1 : Int32) (s2 : Int64) (G_gains : Nat → Int64) : Option ((Int32 × (Nat → Int64)) ⊕ ((Nat → Int64))) :=
  (stL G_gains 5 s1 s2).bind fun G_gains_143 =>
  nm (l9 + (1 : Int32)) fun l9_144 =>
  some (.inl (l9_144, G_gains_143))
noncomputable def fj_G_compareForces_95 (l3 : Int64) (l5 : Int64) (l7 : Int64) (l9 : Int32) (s0 : Int32) (G_gains : Nat → Int64) (L_forceRise : Nat → Int64) (L_forceStart : Nat → Int64) (L_under : Int64) : Option ((Int32 × (Nat → Int64)) ⊕ ((Nat → Int64))) :=
  if s0 = (0 : Int32) then
    fj_G_compareForces_143 l9 l9 (0 : Int64) G_gains
  else
    (f_L_forceAt l9 l3 l5 L_forceRise L_forceStart).bind fun r_117 =>
    (ldA G_gains 5 l9).bind fun v_129 =>
    fj_G_compareForces_143 l9 l9 ((r_117 * l7) - (v_129 * L_under)) G_gains
noncomputable def fb_G_compareForces_68 (l2 : Int32) (l3 : Int64) (l5 : Int64) (l7 : Int64) (L_forceRise : Nat → Int64) (L_forceStart : Nat → Int64) (L_under : Int64) (J_bolts : Int32) (l9 : Int32) (G_gains : Nat → Int64) : Option ((Int32 × (Nat → Int64)) ⊕ ((Nat → Int64))) :=
  if J_bolts ≤ l9 then
    some (.inr G_gains)
  else
    if ((l2 >>> (l9 &&& 31)) &&& (1 : Int32)) = (1 : Int32) then
      fj_G_compareForces_95 l3 l5 l7 l9 (1 : Int32) G_gains L_forceRise L_forceStart L_under
    else
      fj_G_compareForces_95 l3 l5 l7 l9 (0 : Int32) G_gains L_forceRise L_forceStart L_under
noncomputable def f_G_compareForces (F : Nat) (l1 : Int32) (l2 : Int32) (l3 : Int64) (l5 : Int64) (G_way : Nat → Int32) (G_dueOver : Nat → Int64) (G_dueUnder : Nat → Int64) (G_soonOver : Int64) (G_soonUnder : Int64) (G_gains : Nat → Int64) (G_gainUnder : Int64) (L_stretch : Nat → Int32) (L_rest : Nat → Int64) (L_forceRise : Nat → Int64) (L_forceStart : Nat → Int64) (L_slipRise : Nat → Int64) (L_slipStart : Nat → Int64) (L_under : Int64) (L_byFirst : Nat → Int64) (L_byLoad : Nat → Int64) (L_bare : Nat → Int64) (L_scale : Nat → Int64) (L_firstRise : Int64) (L_firstStart : Int64) (J_give : Nat → Int32) (J_clear : Nat → Int32) (J_yieldAt : Nat → Int32) (J_soft : Nat → Int32) (J_breakAt : Nat → Int32) (J_out : Nat → Int32) (J_pitches : Nat → Int32) (J_bolts : Int32) (J_upper : Int32) (J_lower : Int32) : Option ((Nat → Int32) × (Nat → Int64) × (Nat → Int64) × Int64 × Int64 × (Nat → Int64) × Int64 × (Nat → Int32) × (Nat → Int64) × (Nat → Int64) × (Nat → Int64) × (Nat → Int64) × (Nat → Int64) × Int64 × (Nat → Int64) × (Nat → Int64) × (Nat → Int64) × (Nat → Int64) × Int64 × Int64) :=
  bd18 (f_G_settle F l1 l3 l5 G_way G_dueOver G_dueUnder G_soonOver G_soonUnder L_stretch L_rest L_forceRise L_forceStart L_slipRise L_slipStart L_under L_byFirst L_byLoad L_bare L_scale L_firstRise L_firstStart J_give J_clear J_yieldAt J_soft J_breakAt J_out J_pitches J_bolts J_upper J_lower) fun G_way_5 G_dueOver_5 G_dueUnder_5 G_soonOver_5 G_soonUnder_5 L_stretch_5 L_rest_5 L_forceRise_5 L_forceStart_5 L_slipRise_5 L_slipStart_5 L_under_5 L_byFirst_5 L_byLoad_5 L_bare_5 L_scale_5 L_firstRise_5 L_firstStart_5 =>
  (iter (un2 (fb_G_compareForces_20 l3 l5 L_forceRise_5 L_forceStart_5 J_bolts)) F ((0 : Int32), G_gains)).bind fun G_gains_20 =>
  bd18 (f_G_settle F l2 l3 l5 G_way_5 G_dueOver_5 G_dueUnder_5 G_soonOver_5 G_soonUnder_5 L_stretch_5 L_rest_5 L_forceRise_5 L_forceStart_5 L_slipRise_5 L_slipStart_5 L_under_5 L_byFirst_5 L_byLoad_5 L_bare_5 L_scale_5 L_firstRise_5 L_firstStart_5 J_give J_clear J_yieldAt J_soft J_breakAt J_out J_pitches J_bolts J_upper J_lower) fun G_way_62 G_dueOver_62 G_dueUnder_62 G_soonOver_62 G_soonUnder_62 L_stretch_62 L_rest_62 L_forceRise_62 L_forceStart_62 L_slipRise_62 L_slipStart_62 L_under_62 L_byFirst_62 L_byLoad_62 L_bare_62 L_scale_62 L_firstRise_62 L_firstStart_62 =>
  (iter (un2 (fb_G_compareForces_68 l2 l3 l5 L_under_5 L_forceRise_62 L_forceStart_62 L_under_62 J_bolts)) F ((0 : Int32), G_gains_20)).bind fun G_gains_68 =>
  nm ((L_under_5 * L_under_62) * l5) fun G_gainUnder_164 =>
  some (G_way_62, G_dueOver_62, G_dueUnder_62, G_soonOver_62, G_soonUnder_62, G_gains_68, G_gainUnder_164, L_stretch_62, L_rest_62, L_forceRise_62, L_forceStart_62, L_slipRise_62, L_slipStart_62, L_under_62, L_byFirst_62, L_byLoad_62, L_bare_62, L_scale_62, L_firstRise_62, L_firstStart_62)
noncomputable def f_G_comparePeak (l1 : Int64) (l3 : Int64) (G_endOver : Int64) (G_endUnder : Int64) : Option (Int32) :=
  (f_JL_compare (G_endOver * l3) (l1 * G_endUnder)).bind fun r_12 =>
  some r_12
noncomputable def fj_G_countOf_28 (l3 : Int32) (s0 : Int32) (s1 : Int32) : Option ((Int32 × Int32) ⊕ (Int32)) :=
  nm (s0 + s1) fun l2_29 =>
  nm (l3 + (1 : Int32)) fun l3_30 =>
  some (.inl (l2_29, l3_30))
noncomputable def fb_G_countOf_4 (l1 : Int32) (G_total : Int32) (G_kind : Nat → Int32) (l2 : Int32) (l3 : Int32) : Option ((Int32 × Int32) ⊕ (Int32)) :=
  if G_total ≤ l3 then
    some (.inr l2)
  else
    (ldA G_kind 15 l3).bind fun v_18 =>
    if v_18 = l1 then
      fj_G_countOf_28 l3 l2 (1 : Int32)
    else
      fj_G_countOf_28 l3 l2 (0 : Int32)
noncomputable def f_G_countOf (F : Nat) (l1 : Int32) (G_total : Int32) (G_kind : Nat → Int32) : Option (Int32) :=
  (iter (un2 (fb_G_countOf_4 l1 G_total G_kind)) F ((0 : Int32), (0 : Int32))).bind fun l2_4 =>
  some l2_4
noncomputable def fj_G_find_32 (l3 : Int32) : Option ((Int32) ⊕ (Nat × Int32)) :=
  nm (l3 + (1 : Int32)) fun l3_32 =>
  some (.inl l3_32)
noncomputable def fb_G_find_2 (l1 : Int32) (l2 : Int32) (G_total : Int32) (G_kind : Nat → Int32) (G_who : Nat → Int32) (l3 : Int32) : Option ((Int32) ⊕ (Nat × Int32)) :=
  if G_total ≤ l3 then
    some (.inr (1, l3))
  else
    (ldA G_kind 15 l3).bind fun v_15 =>
    if v_15 = l1 then
      (ldA G_who 15 l3).bind fun v_25 =>
      if v_25 = l2 then
        some (.inr (0, l3))
      else
        fj_G_find_32 l3
    else
      fj_G_find_32 l3
noncomputable def f_G_find (F : Nat) (l1 : Int32) (l2 : Int32) (G_total : Int32) (G_kind : Nat → Int32) (G_who : Nat → Int32) : Option (Int32) :=
  bd2 (iter (fb_G_find_2 l1 l2 G_total G_kind G_who) F (0 : Int32)) fun c_2 l3_2 =>
  if c_2 = 0 then
    some l3_2
  else
    some (-1 : Int32)
noncomputable def fj_G_brokenAs_37 (l2 : Int32) (l3 : Int32) : Option ((Int32 × Int32) ⊕ (Nat × Int32)) :=
  nm (l3 + (1 : Int32)) fun l3_37 =>
  some (.inl (l2, l3_37))
noncomputable def fb_G_brokenAs_4 (l1 : Int32) (G_total : Int32) (G_kind : Nat → Int32) (l2 : Int32) (l3 : Int32) : Option ((Int32 × Int32) ⊕ (Nat × Int32)) :=
  if G_total ≤ l3 then
    some (.inr (1, l3))
  else
    (ldA G_kind 15 l3).bind fun v_17 =>
    if v_17 = (2 : Int32) then
      if l2 = l1 then
        some (.inr (0, l3))
      else
        nm (l2 + (1 : Int32)) fun l2_34 =>
        fj_G_brokenAs_37 l2_34 l3
    else
      fj_G_brokenAs_37 l2 l3
noncomputable def f_G_brokenAs (F : Nat) (l1 : Int32) (G_total : Int32) (G_kind : Nat → Int32) (G_who : Nat → Int32) : Option (Int32) :=
  bd2 (iter (un2 (fb_G_brokenAs_4 l1 G_total G_kind)) F ((0 : Int32), (0 : Int32))) fun c_4 l3_4 =>
  if c_4 = 0 then
    (ldA G_who 15 l3_4).bind fun v_32 =>
    some v_32
  else
    some (-1 : Int32)
noncomputable def fj_G_leftAhead_46 (l2 : Int32) (l3 : Int32) : Option ((Int32 × Int32) ⊕ (Int32)) :=
  nm (l3 + (1 : Int32)) fun l3_46 =>
  some (.inl (l2, l3_46))
noncomputable def fb_G_leftAhead_10 (l1 : Int32) (G_total : Int32) (G_kind : Nat → Int32) (G_who : Nat → Int32) (l2 : Int32) (l3 : Int32) : Option ((Int32 × Int32) ⊕ (Int32)) :=
  if l1 ≤ l3 then
    some (.inr l2)
  else
    if G_total ≤ l3 then
      some (.inr l2)
    else
      (ldA G_kind 15 l3).bind fun v_28 =>
      if v_28 = (2 : Int32) then
        (ldA G_who 15 l3).bind fun v_40 =>
        nm (l2 &&& (((1 : Int32) <<< (v_40 &&& 31)) ^^^ (-1 : Int32))) fun l2_45 =>
        fj_G_leftAhead_46 l2_45 l3
      else
        fj_G_leftAhead_46 l2 l3
noncomputable def f_G_leftAhead (F : Nat) (l1 : Int32) (G_total : Int32) (G_kind : Nat → Int32) (G_who : Nat → Int32) (J_out : Nat → Int32) (J_bolts : Int32) : Option (Int32) :=
  (f_J_soundBits F J_out J_bolts).bind fun r_4 =>
  (iter (un2 (fb_G_leftAhead_10 l1 G_total G_kind G_who)) F (r_4, (0 : Int32))).bind fun l2_10 =>
  some l2_10
noncomputable def fj_G_leftAfter_60 (l2 : Int32) (l3 : Int32) : Option ((Int32 × Int32) ⊕ (Int32)) :=
  nm (l3 + (1 : Int32)) fun l3_60 =>
  some (.inl (l2, l3_60))
noncomputable def fb_G_leftAfter_10 (l1 : Int32) (G_total : Int32) (G_kind : Nat → Int32) (G_who : Nat → Int32) (G_over : Nat → Int64) (G_under : Nat → Int64) (l2 : Int32) (l3 : Int32) : Option ((Int32 × Int32) ⊕ (Int32)) :=
  if G_total ≤ l3 then
    some (.inr l2)
  else
    (ldA G_kind 15 l3).bind fun v_23 =>
    if v_23 = (2 : Int32) then
      (ldA G_over 15 l3).bind fun v_33 =>
      (ldA G_under 15 l3).bind fun v_41 =>
      if ((Int32.toInt64 l1) * v_41) < v_33 then
        fj_G_leftAfter_60 l2 l3
      else
        (ldA G_who 15 l3).bind fun v_54 =>
        nm (l2 &&& (((1 : Int32) <<< (v_54 &&& 31)) ^^^ (-1 : Int32))) fun l2_59 =>
        fj_G_leftAfter_60 l2_59 l3
    else
      fj_G_leftAfter_60 l2 l3
noncomputable def f_G_leftAfter (F : Nat) (l1 : Int32) (G_total : Int32) (G_kind : Nat → Int32) (G_who : Nat → Int32) (G_over : Nat → Int64) (G_under : Nat → Int64) (J_out : Nat → Int32) (J_bolts : Int32) : Option (Int32) :=
  (f_J_soundBits F J_out J_bolts).bind fun r_4 =>
  (iter (un2 (fb_G_leftAfter_10 l1 G_total G_kind G_who G_over G_under)) F (r_4, (0 : Int32))).bind fun l2_10 =>
  some l2_10
noncomputable def fj_F_startFrom_136 (l3 : Int32) (F_sets : Nat → Int64) (F_forces : Nat → Int64) : Option ((Int32 × (Nat → Int64) × (Nat → Int64)) ⊕ ((Nat → Int64) × (Nat → Int64))) :=
  nm (l3 + (1 : Int32)) fun l3_136 =>
  some (.inl (l3_136, F_sets, F_forces))
noncomputable def fb_F_startFrom_21 (l2 : Int32) (F_unit : Int64) (L_forceRise : Nat → Int64) (L_forceStart : Nat → Int64) (J_give : Nat → Int32) (J_clear : Nat → Int32) (J_yieldAt : Nat → Int32) (J_soft : Nat → Int32) (J_bolts : Int32) (l3 : Int32) (F_sets : Nat → Int64) (F_forces : Nat → Int64) : Option ((Int32 × (Nat → Int64) × (Nat → Int64)) ⊕ ((Nat → Int64) × (Nat → Int64))) :=
  if J_bolts ≤ l3 then
    some (.inr (F_sets, F_forces))
  else
    (f_L_forceAt l3 (Int32.toInt64 l2) (1 : Int64) L_forceRise L_forceStart).bind fun r_48 =>
    (stL F_forces 5 l3 r_48).bind fun F_forces_51 =>
    (ldA F_forces_51 5 l3).bind fun v_57 =>
    (ldA J_yieldAt 5 l3).bind fun v_66 =>
    nm (v_57 - ((Int32.toInt64 v_66) * F_unit)) fun l4_74 =>
    (ldA J_clear 5 l3).bind fun v_89 =>
    (stL F_sets 5 l3 ((Int32.toInt64 v_89) * F_unit)).bind fun F_sets_96 =>
    if l4_74 ≤ (0 : Int64) then
      fj_F_startFrom_136 l3 F_sets_96 F_forces_51
    else
      (ldA F_sets_96 5 l3).bind fun v_110 =>
      (ldA J_soft 5 l3).bind fun v_119 =>
      (ldA J_give 5 l3).bind fun v_128 =>
      (stL F_sets_96 5 l3 (v_110 + ((Int32.toInt64 (v_119 - v_128)) * l4_74))).bind fun F_sets_135 =>
      fj_F_startFrom_136 l3 F_sets_135 F_forces_51
noncomputable def f_F_startFrom (F : Nat) (l1 : Int32) (l2 : Int32) (F_sets : Nat → Int64) (F_unit : Int64) (F_forces : Nat → Int64) (F_left : Int32) (L_forceRise : Nat → Int64) (L_forceStart : Nat → Int64) (L_under : Int64) (J_give : Nat → Int32) (J_clear : Nat → Int32) (J_yieldAt : Nat → Int32) (J_soft : Nat → Int32) (J_bolts : Int32) : Option ((Nat → Int64) × Int64 × (Nat → Int64) × Int32) :=
  bd2 (iter (un3 (fb_F_startFrom_21 l2 L_under L_forceRise L_forceStart J_give J_clear J_yieldAt J_soft J_bolts)) F ((0 : Int32), F_sets, F_forces)) fun F_sets_21 F_forces_21 =>
  some (F_sets_21, L_under, F_forces_21, l1)
noncomputable def fj_F_layLines_46 (l2 : Int32) (s1 : Int32) (s2 : Int32) (F_sets : Nat → Int64) (L_stretch : Nat → Int32) (L_rest : Nat → Int64) : Option ((Int32 × (Nat → Int32) × (Nat → Int64)) ⊕ ((Nat → Int32) × (Nat → Int64))) :=
  (stI L_stretch 5 s1 s2).bind fun L_stretch_46 =>
  (ldA F_sets 5 l2).bind fun v_63 =>
  (stL L_rest 5 l2 v_63).bind fun L_rest_64 =>
  nm (l2 + (1 : Int32)) fun l2_65 =>
  some (.inl (l2_65, L_stretch_46, L_rest_64))
noncomputable def fb_F_layLines_2 (l1 : Int32) (F_sets : Nat → Int64) (J_give : Nat → Int32) (J_bolts : Int32) (l2 : Int32) (L_stretch : Nat → Int32) (L_rest : Nat → Int64) : Option ((Int32 × (Nat → Int32) × (Nat → Int64)) ⊕ ((Nat → Int32) × (Nat → Int64))) :=
  if J_bolts ≤ l2 then
    some (.inr (L_stretch, L_rest))
  else
    if ((l1 >>> (l2 &&& 31)) &&& (1 : Int32)) = (1 : Int32) then
      (ldA J_give 5 l2).bind fun v_41 =>
      fj_F_layLines_46 l2 l2 v_41 F_sets L_stretch L_rest
    else
      fj_F_layLines_46 l2 l2 (0 : Int32) F_sets L_stretch L_rest
noncomputable def f_F_layLines (F : Nat) (l1 : Int32) (F_sets : Nat → Int64) (L_stretch : Nat → Int32) (L_rest : Nat → Int64) (L_forceRise : Nat → Int64) (L_forceStart : Nat → Int64) (L_slipRise : Nat → Int64) (L_slipStart : Nat → Int64) (L_under : Int64) (L_byFirst : Nat → Int64) (L_byLoad : Nat → Int64) (L_bare : Nat → Int64) (L_scale : Nat → Int64) (L_firstRise : Int64) (L_firstStart : Int64) (J_give : Nat → Int32) (J_pitches : Nat → Int32) (J_bolts : Int32) (J_upper : Int32) (J_lower : Int32) : Option ((Nat → Int32) × (Nat → Int64) × (Nat → Int64) × (Nat → Int64) × (Nat → Int64) × (Nat → Int64) × Int64 × (Nat → Int64) × (Nat → Int64) × (Nat → Int64) × (Nat → Int64) × Int64 × Int64) :=
  bd2 (iter (un3 (fb_F_layLines_2 l1 F_sets J_give J_bolts)) F ((0 : Int32), L_stretch, L_rest)) fun L_stretch_2 L_rest_2 =>
  bd7 (f_L_walk F L_stretch_2 L_rest_2 L_under L_byFirst L_byLoad L_bare L_scale L_firstRise L_firstStart J_pitches J_bolts J_upper J_lower) fun L_under_78 L_byFirst_78 L_byLoad_78 L_bare_78 L_scale_78 L_firstRise_78 L_firstStart_78 =>
  bd4 (f_L_fill F L_stretch_2 L_rest_2 L_forceRise L_forceStart L_slipRise L_slipStart L_under_78 L_byFirst_78 L_byLoad_78 L_bare_78 L_scale_78 L_firstRise_78 L_firstStart_78 J_bolts) fun L_forceRise_88 L_forceStart_88 L_slipRise_88 L_slipStart_88 =>
  some (L_stretch_2, L_rest_2, L_forceRise_88, L_forceStart_88, L_slipRise_88, L_slipStart_88, L_under_78, L_byFirst_78, L_byLoad_78, L_bare_78, L_scale_78, L_firstRise_78, L_firstStart_78)
noncomputable def fj_F_comeTo_69 (l4 : Int32) (l5 : Int32) : Option ((Int32 × Int32) ⊕ (Int32)) :=
  nm (l5 + (1 : Int32)) fun l5_69 =>
  some (.inl (l4, l5_69))
noncomputable def fb_F_comeTo_23 (l1 : Int32) (F_unit : Int64) (L_forceRise : Nat → Int64) (L_forceStart : Nat → Int64) (J_bolts : Int32) (l4 : Int32) (l5 : Int32) : Option ((Int32 × Int32) ⊕ (Int32)) :=
  if J_bolts ≤ l5 then
    some (.inr l4)
  else
    (f_L_forceAt l5 ((Int32.toInt64 l1) * F_unit) (1 : Int64) L_forceRise L_forceStart).bind fun r_52 =>
    if (0 : Int64) ≤ r_52 then
      fj_F_comeTo_69 l4 l5
    else
      nm (l4 ||| ((1 : Int32) <<< (l5 &&& 31))) fun l4_67 =>
      fj_F_comeTo_69 l4_67 l5
noncomputable def fb_F_comeTo_7 (F : Nat) (l1 : Int32) (F_sets : Nat → Int64) (F_unit : Int64) (J_give : Nat → Int32) (J_pitches : Nat → Int32) (J_bolts : Int32) (J_upper : Int32) (J_lower : Int32) (l2 : Int32) (l3 : Int32) (L_stretch : Nat → Int32) (L_rest : Nat → Int64) (L_forceRise : Nat → Int64) (L_forceStart : Nat → Int64) (L_slipRise : Nat → Int64) (L_slipStart : Nat → Int64) (L_under : Int64) (L_byFirst : Nat → Int64) (L_byLoad : Nat → Int64) (L_bare : Nat → Int64) (L_scale : Nat → Int64) (L_firstRise : Int64) (L_firstStart : Int64) : Option ((Int32 × Int32 × (Nat → Int32) × (Nat → Int64) × (Nat → Int64) × (Nat → Int64) × (Nat → Int64) × (Nat → Int64) × Int64 × (Nat → Int64) × (Nat → Int64) × (Nat → Int64) × (Nat → Int64) × Int64 × Int64) ⊕ (Nat × (Nat → Int32) × (Nat → Int64) × (Nat → Int64) × (Nat → Int64) × (Nat → Int64) × (Nat → Int64) × Int64 × (Nat → Int64) × (Nat → Int64) × (Nat → Int64) × (Nat → Int64) × Int64 × Int64)) :=
  if (5 : Int32) < l3 then
    some (.inr (1, L_stretch, L_rest, L_forceRise, L_forceStart, L_slipRise, L_slipStart, L_under, L_byFirst, L_byLoad, L_bare, L_scale, L_firstRise, L_firstStart))
  else
    bd13 (f_F_layLines F l2 F_sets L_stretch L_rest L_forceRise L_forceStart L_slipRise L_slipStart L_under L_byFirst L_byLoad L_bare L_scale L_firstRise L_firstStart J_give J_pitches J_bolts J_upper J_lower) fun L_stretch_14 L_rest_14 L_forceRise_14 L_forceStart_14 L_slipRise_14 L_slipStart_14 L_under_14 L_byFirst_14 L_byLoad_14 L_bare_14 L_scale_14 L_firstRise_14 L_firstStart_14 =>
    (iter (un2 (fb_F_comeTo_23 l1 F_unit L_forceRise_14 L_forceStart_14 J_bolts)) F ((0 : Int32), (0 : Int32))).bind fun l4_23 =>
    if l4_23 = (0 : Int32) then
      some (.inr (0, L_stretch_14, L_rest_14, L_forceRise_14, L_forceStart_14, L_slipRise_14, L_slipStart_14, L_under_14, L_byFirst_14, L_byLoad_14, L_bare_14, L_scale_14, L_firstRise_14, L_firstStart_14))
    else
      nm (l2 &&& (l4_23 ^^^ (-1 : Int32))) fun l2_87 =>
      nm (l3 + (1 : Int32)) fun l3_88 =>
      some (.inl (l2_87, l3_88, L_stretch_14, L_rest_14, L_forceRise_14, L_forceStart_14, L_slipRise_14, L_slipStart_14, L_under_14, L_byFirst_14, L_byLoad_14, L_bare_14, L_scale_14, L_firstRise_14, L_firstStart_14))
noncomputable def f_F_comeTo (F : Nat) (l1 : Int32) (F_sets : Nat → Int64) (F_unit : Int64) (F_left : Int32) (L_stretch : Nat → Int32) (L_rest : Nat → Int64) (L_forceRise : Nat → Int64) (L_forceStart : Nat → Int64) (L_slipRise : Nat → Int64) (L_slipStart : Nat → Int64) (L_under : Int64) (L_byFirst : Nat → Int64) (L_byLoad : Nat → Int64) (L_bare : Nat → Int64) (L_scale : Nat → Int64) (L_firstRise : Int64) (L_firstStart : Int64) (J_give : Nat → Int32) (J_pitches : Nat → Int32) (J_bolts : Int32) (J_upper : Int32) (J_lower : Int32) : Option ((Nat → Int32) × (Nat → Int64) × (Nat → Int64) × (Nat → Int64) × (Nat → Int64) × (Nat → Int64) × Int64 × (Nat → Int64) × (Nat → Int64) × (Nat → Int64) × (Nat → Int64) × Int64 × Int64) :=
  bd14 (iter (un15 (fb_F_comeTo_7 F l1 F_sets F_unit J_give J_pitches J_bolts J_upper J_lower)) F (F_left, (0 : Int32), L_stretch, L_rest, L_forceRise, L_forceStart, L_slipRise, L_slipStart, L_under, L_byFirst, L_byLoad, L_bare, L_scale, L_firstRise, L_firstStart)) fun c_7 L_stretch_7 L_rest_7 L_forceRise_7 L_forceStart_7 L_slipRise_7 L_slipStart_7 L_under_7 L_byFirst_7 L_byLoad_7 L_bare_7 L_scale_7 L_firstRise_7 L_firstStart_7 =>
  if c_7 = 0 then
    some (L_stretch_7, L_rest_7, L_forceRise_7, L_forceStart_7, L_slipRise_7, L_slipStart_7, L_under_7, L_byFirst_7, L_byLoad_7, L_bare_7, L_scale_7, L_firstRise_7, L_firstStart_7)
  else
    some (L_stretch_7, L_rest_7, L_forceRise_7, L_forceStart_7, L_slipRise_7, L_slipStart_7, L_under_7, L_byFirst_7, L_byLoad_7, L_bare_7, L_scale_7, L_firstRise_7, L_firstStart_7)
noncomputable def fj_F_seekOpening_81 (l3 : Int32) (l4 : Int64) (l6 : Int32) : Option ((Int32 × Int64 × Int32) ⊕ (Int32 × Int64)) :=
  nm (l6 + (1 : Int32)) fun l6_81 =>
  some (.inl (l3, l4, l6_81))
noncomputable def fj_F_seekOpening_74 (l6 : Int32) (l7 : Int64) : Option ((Int32 × Int64 × Int32) ⊕ (Int32 × Int64)) :=
  fj_F_seekOpening_81 l6 l7 l6
noncomputable def fb_F_seekOpening_13 (F_forces : Nat → Int64) (L_forceRise : Nat → Int64) (J_bolts : Int32) (l3 : Int32) (l4 : Int64) (l6 : Int32) : Option ((Int32 × Int64 × Int32) ⊕ (Int32 × Int64)) :=
  if J_bolts ≤ l6 then
    some (.inr (l3, l4))
  else
    (ldA L_forceRise 5 l6).bind fun v_37 =>
    if v_37 ≤ (0 : Int64) then
      fj_F_seekOpening_81 l3 l4 l6
    else
      if l3 < (0 : Int32) then
        fj_F_seekOpening_74 l6 v_37
      else
        (ldA F_forces 5 l6).bind fun v_57 =>
        (ldA F_forces 5 l3).bind fun v_66 =>
        if (v_66 * v_37) ≤ (v_57 * l4) then
          fj_F_seekOpening_81 l3 l4 l6
        else
          fj_F_seekOpening_74 l6 v_37
noncomputable def f_F_seekOpening (F : Nat) (l1 : Int32) (l2 : Int32) (F_sets : Nat → Int64) (F_unit : Int64) (F_openOver : Int64) (F_openUnder : Int64) (F_forces : Nat → Int64) (L_stretch : Nat → Int32) (L_rest : Nat → Int64) (L_forceRise : Nat → Int64) (L_forceStart : Nat → Int64) (L_slipRise : Nat → Int64) (L_slipStart : Nat → Int64) (L_under : Int64) (L_byFirst : Nat → Int64) (L_byLoad : Nat → Int64) (L_bare : Nat → Int64) (L_scale : Nat → Int64) (L_firstRise : Int64) (L_firstStart : Int64) (J_give : Nat → Int32) (J_pitches : Nat → Int32) (J_bolts : Int32) (J_upper : Int32) (J_lower : Int32) : Option (Int32 × Int64 × Int64 × (Nat → Int32) × (Nat → Int64) × (Nat → Int64) × (Nat → Int64) × (Nat → Int64) × (Nat → Int64) × Int64 × (Nat → Int64) × (Nat → Int64) × (Nat → Int64) × (Nat → Int64) × Int64 × Int64) :=
  bd13 (f_F_layLines F l1 F_sets L_stretch L_rest L_forceRise L_forceStart L_slipRise L_slipStart L_under L_byFirst L_byLoad L_bare L_scale L_firstRise L_firstStart J_give J_pitches J_bolts J_upper J_lower) fun L_stretch_2 L_rest_2 L_forceRise_2 L_forceStart_2 L_slipRise_2 L_slipStart_2 L_under_2 L_byFirst_2 L_byLoad_2 L_bare_2 L_scale_2 L_firstRise_2 L_firstStart_2 =>
  bd2 (iter (un3 (fb_F_seekOpening_13 F_forces L_forceRise_2 J_bolts)) F ((-1 : Int32), (1 : Int64), (0 : Int32))) fun l3_13 l4_13 =>
  if l3_13 < (0 : Int32) then
    some (l3_13, F_openOver, F_openUnder, L_stretch_2, L_rest_2, L_forceRise_2, L_forceStart_2, L_slipRise_2, L_slipStart_2, L_under_2, L_byFirst_2, L_byLoad_2, L_bare_2, L_scale_2, L_firstRise_2, L_firstStart_2)
  else
    nm (F_unit * l4_13) fun F_openUnder_99 =>
    (ldA F_forces 5 l3_13).bind fun v_115 =>
    nm (((Int32.toInt64 l2) * F_openUnder_99) - (v_115 * L_under_2)) fun F_openOver_128 =>
    some (l3_13, F_openOver_128, F_openUnder_99, L_stretch_2, L_rest_2, L_forceRise_2, L_forceStart_2, L_slipRise_2, L_slipStart_2, L_under_2, L_byFirst_2, L_byLoad_2, L_bare_2, L_scale_2, L_firstRise_2, L_firstStart_2)
noncomputable def f_R_whole (l1 : Int64) (R_numbers : Nat → Int64) (R_size : Int32) : Option ((Nat → Int64) × Int32) :=
  if (8 : Int32) ≤ R_size then
    some (R_numbers, R_size)
  else
    nm (R_size + (1 : Int32)) fun R_size_24 =>
    (stL R_numbers 8 R_size l1).bind fun R_numbers_28 =>
    some (R_numbers_28, R_size_24)
noncomputable def fj_R_fraction_17 (l1 : Int64) (l3 : Int64) (l5 : Int64) (R_numbers : Nat → Int64) (R_size : Int32) : Option ((Nat → Int64) × Int32) :=
  (dvL l1 l5).bind fun v_21 =>
  bd2 (f_R_whole v_21 R_numbers R_size) fun R_numbers_22 R_size_22 =>
  (dvL l3 l5).bind fun v_29 =>
  bd2 (f_R_whole v_29 R_numbers_22 R_size_22) fun R_numbers_30 R_size_30 =>
  some (R_numbers_30, R_size_30)
noncomputable def f_R_fraction (F : Nat) (l1 : Int64) (l3 : Int64) (R_numbers : Nat → Int64) (R_size : Int32) : Option ((Nat → Int64) × Int32) :=
  (f_X_divisor F l1 l3).bind fun r_2 =>
  if r_2 = (0 : Int64) then
    fj_R_fraction_17 l1 l3 (1 : Int64) R_numbers R_size
  else
    fj_R_fraction_17 l1 l3 r_2 R_numbers R_size
noncomputable def fb_T_addFour_16 (l1 : Int32) (l2 : Int32) (T_signs : Nat → Int32) (T_size : Int32) : Option ((Int32 × (Nat → Int32) × Int32) ⊕ ((Nat → Int32) × Int32)) :=
  if l2 < (0 : Int32) then
    some (.inr (T_signs, T_size))
  else
    nm (T_size + (1 : Int32)) fun T_size_32 =>
    (stI T_signs 80 T_size ((ushrI l1 l2) &&& (255 : Int32))).bind fun T_signs_42 =>
    nm (l2 + (-8 : Int32)) fun l2_43 =>
    some (.inl (l2_43, T_signs_42, T_size_32))
noncomputable def f_T_addFour (F : Nat) (l1 : Int32) (T_signs : Nat → Int32) (T_size : Int32) : Option (Int32 × (Nat → Int32) × Int32) :=
  if (T_size + (4 : Int32)) ≤ (80 : Int32) then
    bd2 (iter (un3 (fb_T_addFour_16 l1)) F ((24 : Int32), T_signs, T_size)) fun T_signs_16 T_size_16 =>
    some ((1 : Int32), T_signs_16, T_size_16)
  else
    some ((0 : Int32), T_signs, T_size)
noncomputable def f_T_cut (l1 : Int32) (T_size : Int32) : Option (Int32 × Int32) :=
  if l1 < (0 : Int32) then
    some ((0 : Int32), T_size)
  else
    if l1 ≤ T_size then
      some ((1 : Int32), l1)
    else
      some ((0 : Int32), T_size)
noncomputable def f_T_digitAt (l1 : Int32) (T_signs : Nat → Int32) (T_size : Int32) : Option (Int32) :=
  if l1 < (0 : Int32) then
    some (-1 : Int32)
  else
    if T_size ≤ l1 then
      some (-1 : Int32)
    else
      if l1 < (80 : Int32) then
        (ldA T_signs 80 l1).bind fun v_25 =>
        if v_25 < (48 : Int32) then
          some (-1 : Int32)
        else
          (ldA T_signs 80 l1).bind fun v_36 =>
          if (57 : Int32) < v_36 then
            some (-1 : Int32)
          else
            (ldA T_signs 80 l1).bind fun v_47 =>
            some (v_47 - (48 : Int32))
      else
        some (-1 : Int32)
noncomputable def fb_T_findOrderFault_4 (l1 : Int32) (T_signs : Nat → Int32) (T_size : Int32) (l2 : Int32) (l3 : Int32) : Option ((Int32 × Int32) ⊕ (Nat × Int32)) :=
  if T_size ≤ l3 then
    some (.inr (1, l3))
  else
    (f_T_digitAt l3 T_signs T_size).bind fun r_14 =>
    if r_14 < (0 : Int32) then
      some (.inr (0, l3))
    else
      if l1 ≤ r_14 then
        some (.inr (0, l3))
      else
        if ((l2 >>> (r_14 &&& 31)) &&& (1 : Int32)) = (1 : Int32) then
          some (.inr (0, l3))
        else
          nm (l2 ||| ((1 : Int32) <<< (r_14 &&& 31))) fun l2_48 =>
          nm (l3 + (1 : Int32)) fun l3_49 =>
          some (.inl (l2_48, l3_49))
noncomputable def f_T_findOrderFault (F : Nat) (l1 : Int32) (T_signs : Nat → Int32) (T_size : Int32) : Option (Int32) :=
  bd2 (iter (un2 (fb_T_findOrderFault_4 l1 T_signs T_size)) F ((0 : Int32), (0 : Int32))) fun c_4 l3_4 =>
  if c_4 = 0 then
    some l3_4
  else
    some (-1 : Int32)
noncomputable def f_X_within (l0 : Int32) (l1 : Int32) (l2 : Int32) : Option (Int32) :=
  if l0 < l1 then
    some (0 : Int32)
  else
    if l2 < l0 then
      some (0 : Int32)
    else
      some (1 : Int32)
noncomputable def fj_T_readNumber_65 (l4 : Int32) (l5 : Int32) (T_next : Int32) (T_fault : Int32) : Option ((Int32 × Int32 × Int32 × Int32) ⊕ (Int32 × Int32 × Int32)) :=
  nm (l5 + (1 : Int32)) fun l5_65 =>
  some (.inl (l4, l5_65, T_next, T_fault))
noncomputable def fb_T_readNumber_6 (l1 : Int32) (T_signs : Nat → Int32) (T_size : Int32) (l4 : Int32) (l5 : Int32) (T_next : Int32) (T_fault : Int32) : Option ((Int32 × Int32 × Int32 × Int32) ⊕ (Int32 × Int32 × Int32)) :=
  if l1 ≤ l5 then
    some (.inr (l4, T_next, T_fault))
  else
    if (0 : Int32) ≤ T_fault then
      some (.inr (l4, T_next, T_fault))
    else
      (f_T_digitAt T_next T_signs T_size).bind fun r_24 =>
      if (0 : Int32) ≤ r_24 then
        nm (((10 : Int32) * l4) + r_24) fun l4_53 =>
        nm (T_next + (1 : Int32)) fun T_next_62 =>
        fj_T_readNumber_65 l4_53 l5 T_next_62 T_fault
      else
        fj_T_readNumber_65 l4 l5 T_next T_next
noncomputable def fj_T_readNumber_71 (l2 : Int32) (l3 : Int32) (l4 : Int32) (T_next : Int32) (T_fault : Int32) : Option (Int32 × Int32 × Int32) :=
  if (0 : Int32) ≤ T_fault then
    if (0 : Int32) ≤ T_fault then
      some (l2, T_next, T_fault)
    else
      some (l4, T_next, T_fault)
  else
    (f_X_within l4 l2 l3).bind fun r_82 =>
    if r_82 = (0 : Int32) then
      nm (T_next - (1 : Int32)) fun T_fault_95 =>
      if (0 : Int32) ≤ T_fault_95 then
        some (l2, T_next, T_fault_95)
      else
        some (l4, T_next, T_fault_95)
    else
      if (0 : Int32) ≤ T_fault then
        some (l2, T_next, T_fault)
      else
        some (l4, T_next, T_fault)
noncomputable def f_T_readNumber (F : Nat) (l1 : Int32) (l2 : Int32) (l3 : Int32) (T_signs : Nat → Int32) (T_size : Int32) (T_next : Int32) (T_fault : Int32) : Option (Int32 × Int32 × Int32) :=
  bd3 (iter (un4 (fb_T_readNumber_6 l1 T_signs T_size)) F ((0 : Int32), (0 : Int32), T_next, T_fault)) fun l4_6 T_next_6 T_fault_6 =>
  fj_T_readNumber_71 l2 l3 l4_6 T_next_6 T_fault_6
noncomputable def f_T_readBolt (F : Nat) (T_signs : Nat → Int32) (T_size : Int32) (T_next : Int32) (T_fault : Int32) (J_give : Nat → Int32) (J_clear : Nat → Int32) (J_yieldAt : Nat → Int32) (J_soft : Nat → Int32) (J_breakAt : Nat → Int32) (J_out : Nat → Int32) (J_pitches : Nat → Int32) (J_bolts : Int32) : Option (Int32 × Int32 × (Nat → Int32) × (Nat → Int32) × (Nat → Int32) × (Nat → Int32) × (Nat → Int32) × (Nat → Int32) × (Nat → Int32) × Int32) :=
  bd3 (f_T_readNumber F (1 : Int32) (1 : Int32) (5 : Int32) T_signs T_size T_next T_fault) fun r_4 T_next_4 T_fault_4 =>
  bd3 (f_T_readNumber F (1 : Int32) (0 : Int32) (9 : Int32) T_signs T_size T_next_4 T_fault_4) fun r_13 T_next_13 T_fault_13 =>
  bd3 (f_T_readNumber F (2 : Int32) (1 : Int32) (30 : Int32) T_signs T_size T_next_13 T_fault_13) fun r_22 T_next_22 T_fault_22 =>
  bd3 (f_T_readNumber F (2 : Int32) r_4 (9 : Int32) T_signs T_size T_next_22 T_fault_22) fun r_32 T_next_32 T_fault_32 =>
  bd3 (f_T_readNumber F (2 : Int32) (r_22 + (1 : Int32)) (60 : Int32) T_signs T_size T_next_32 T_fault_32) fun r_45 T_next_45 T_fault_45 =>
  bd8 (f_J_add r_4 r_13 r_22 r_32 r_45 J_give J_clear J_yieldAt J_soft J_breakAt J_out J_pitches J_bolts) fun J_give_59 J_clear_59 J_yieldAt_59 J_soft_59 J_breakAt_59 J_out_59 J_pitches_59 J_bolts_59 =>
  some (T_next_45, T_fault_45, J_give_59, J_clear_59, J_yieldAt_59, J_soft_59, J_breakAt_59, J_out_59, J_pitches_59, J_bolts_59)
noncomputable def fj_T_readJoint_138 (l2 : Int32) (T_next : Int32) (T_fault : Int32) (J_give : Nat → Int32) (J_clear : Nat → Int32) (J_yieldAt : Nat → Int32) (J_soft : Nat → Int32) (J_breakAt : Nat → Int32) (J_out : Nat → Int32) (J_pitches : Nat → Int32) (J_bolts : Int32) : Option ((Int32 × Int32 × Int32 × (Nat → Int32) × (Nat → Int32) × (Nat → Int32) × (Nat → Int32) × (Nat → Int32) × (Nat → Int32) × (Nat → Int32) × Int32) ⊕ (Int32 × Int32 × (Nat → Int32) × (Nat → Int32) × (Nat → Int32) × (Nat → Int32) × (Nat → Int32) × (Nat → Int32) × (Nat → Int32) × Int32)) :=
  nm (l2 + (1 : Int32)) fun l2_138 =>
  some (.inl (l2_138, T_next, T_fault, J_give, J_clear, J_yieldAt, J_soft, J_breakAt, J_out, J_pitches, J_bolts))
noncomputable def fj_T_readJoint_97 (l2 : Int32) (T_next : Int32) (J_give : Nat → Int32) (J_clear : Nat → Int32) (J_yieldAt : Nat → Int32) (J_soft : Nat → Int32) (J_breakAt : Nat → Int32) (J_out : Nat → Int32) (J_pitches : Nat → Int32) (J_bolts : Int32) : Option ((Int32 × Int32 × Int32 × (Nat → Int32) × (Nat → Int32) × (Nat → Int32) × (Nat → Int32) × (Nat → Int32) × (Nat → Int32) × (Nat → Int32) × Int32) ⊕ (Int32 × Int32 × (Nat → Int32) × (Nat → Int32) × (Nat → Int32) × (Nat → Int32) × (Nat → Int32) × (Nat → Int32) × (Nat → Int32) × Int32)) :=
  fj_T_readJoint_138 l2 T_next T_next J_give J_clear J_yieldAt J_soft J_breakAt J_out J_pitches J_bolts
noncomputable def fb_T_readJoint_44 (F : Nat) (T_signs : Nat → Int32) (T_size : Int32) (l2 : Int32) (T_next : Int32) (T_fault : Int32) (J_give : Nat → Int32) (J_clear : Nat → Int32) (J_yieldAt : Nat → Int32) (J_soft : Nat → Int32) (J_breakAt : Nat → Int32) (J_out : Nat → Int32) (J_pitches : Nat → Int32) (J_bolts : Int32) : Option ((Int32 × Int32 × Int32 × (Nat → Int32) × (Nat → Int32) × (Nat → Int32) × (Nat → Int32) × (Nat → Int32) × (Nat → Int32) × (Nat → Int32) × Int32) ⊕ (Int32 × Int32 × (Nat → Int32) × (Nat → Int32) × (Nat → Int32) × (Nat → Int32) × (Nat → Int32) × (Nat → Int32) × (Nat → Int32) × Int32)) :=
  if (5 : Int32) ≤ l2 then
    some (.inr (T_next, T_fault, J_give, J_clear, J_yieldAt, J_soft, J_breakAt, J_out, J_pitches, J_bolts))
  else
    if (0 : Int32) ≤ T_fault then
      some (.inr (T_next, T_fault, J_give, J_clear, J_yieldAt, J_soft, J_breakAt, J_out, J_pitches, J_bolts))
    else
      if T_size ≤ T_next then
        some (.inr (T_next, T_fault, J_give, J_clear, J_yieldAt, J_soft, J_breakAt, J_out, J_pitches, J_bolts))
      else
        (ldA T_signs 80 T_next).bind fun v_75 =>
        if v_75 = (47 : Int32) then
          (f_J_has l2 J_bolts).bind fun r_83 =>
          if r_83 = (0 : Int32) then
            fj_T_readJoint_97 l2 T_next J_give J_clear J_yieldAt J_soft J_breakAt J_out J_pitches J_bolts
          else
            if J_bolts < (5 : Int32) then
              nm (T_next + (1 : Int32)) fun T_next_115 =>
              bd3 (f_T_readNumber F (1 : Int32) (0 : Int32) (2 : Int32) T_signs T_size T_next_115 T_fault) fun r_122 T_next_122 T_fault_122 =>
              bd10 (f_T_readBolt F T_signs T_size T_next_122 T_fault_122 J_give J_clear J_yieldAt J_soft J_breakAt J_out J_pitches J_bolts) fun T_next_128 T_fault_128 J_give_128 J_clear_128 J_yieldAt_128 J_soft_128 J_breakAt_128 J_out_128 J_pitches_128 J_bolts_128 =>
              (stI J_pitches_128 5 l2 r_122).bind fun J_pitches_137 =>
              fj_T_readJoint_138 l2 T_next_128 T_fault_128 J_give_128 J_clear_128 J_yieldAt_128 J_soft_128 J_breakAt_128 J_out_128 J_pitches_137 J_bolts_128
            else
              fj_T_readJoint_97 l2 T_next J_give J_clear J_yieldAt J_soft J_breakAt J_out J_pitches J_bolts
        else
          fj_T_readJoint_97 l2 T_next J_give J_clear J_yieldAt J_soft J_breakAt J_out J_pitches J_bolts
noncomputable def f_T_readJoint (F : Nat) (T_signs : Nat → Int32) (T_size : Int32) (T_next : Int32) (T_fault : Int32) (J_give : Nat → Int32) (J_clear : Nat → Int32) (J_yieldAt : Nat → Int32) (J_soft : Nat → Int32) (J_breakAt : Nat → Int32) (J_out : Nat → Int32) (J_pitches : Nat → Int32) (J_bolts : Int32) (J_upper : Int32) (J_lower : Int32) : Option (Int32 × Int32 × Int32 × (Nat → Int32) × (Nat → Int32) × (Nat → Int32) × (Nat → Int32) × (Nat → Int32) × (Nat → Int32) × (Nat → Int32) × Int32 × Int32 × Int32) :=
  bd3 (f_T_readNumber F (1 : Int32) (0 : Int32) (2 : Int32) T_signs T_size (0 : Int32) (-1 : Int32)) fun r_20 T_next_20 T_fault_20 =>
  bd3 (f_T_readNumber F (1 : Int32) (0 : Int32) (2 : Int32) T_signs T_size T_next_20 T_fault_20) fun r_31 T_next_31 T_fault_31 =>
  bd10 (f_T_readBolt F T_signs T_size T_next_31 T_fault_31 J_give J_clear J_yieldAt J_soft J_breakAt J_out J_pitches (0 : Int32)) fun T_next_39 T_fault_39 J_give_39 J_clear_39 J_yieldAt_39 J_soft_39 J_breakAt_39 J_out_39 J_pitches_39 J_bolts_39 =>
  bd10 (iter (un11 (fb_T_readJoint_44 F T_signs T_size)) F ((0 : Int32), T_next_39, T_fault_39, J_give_39, J_clear_39, J_yieldAt_39, J_soft_39, J_breakAt_39, J_out_39, J_pitches_39, J_bolts_39)) fun T_next_44 T_fault_44 J_give_44 J_clear_44 J_yieldAt_44 J_soft_44 J_breakAt_44 J_out_44 J_pitches_44 J_bolts_44 =>
  some (T_fault_44, T_next_44, T_fault_44, J_give_44, J_clear_44, J_yieldAt_44, J_soft_44, J_breakAt_44, J_out_44, J_pitches_44, J_bolts_44, r_20, r_31)
noncomputable def f_X_fair (l0 : Int32) (l1 : Int32) (l2 : Int32) (l3 : Int32) (l4 : Int32) : Option (Int32) :=
  (f_X_within l0 (1 : Int32) (5 : Int32)).bind fun r_3 =>
  if r_3 = (0 : Int32) then
    some (0 : Int32)
  else
    (f_X_within l1 (0 : Int32) (9 : Int32)).bind fun r_13 =>
    if r_13 = (0 : Int32) then
      some (0 : Int32)
    else
      (f_X_within l2 (1 : Int32) (30 : Int32)).bind fun r_23 =>
      if r_23 = (0 : Int32) then
        some (0 : Int32)
      else
        (f_X_within l3 l0 (9 : Int32)).bind fun r_33 =>
        if r_33 = (0 : Int32) then
          some (0 : Int32)
        else
          (f_X_within l4 (l2 + (1 : Int32)) (60 : Int32)).bind fun r_46 =>
          if r_46 = (0 : Int32) then
            some (0 : Int32)
          else
            some (1 : Int32)
noncomputable def f_X_bolt (l1 : Int32) (l2 : Int32) (l3 : Int32) (l4 : Int32) (l5 : Int32) (G1_known : Int32) (J1_give : Nat → Int32) (J1_clear : Nat → Int32) (J1_yieldAt : Nat → Int32) (J1_soft : Nat → Int32) (J1_breakAt : Nat → Int32) (J1_out : Nat → Int32) (J1_pitches : Nat → Int32) (J1_bolts : Int32) : Option (Int32 × Int32 × (Nat → Int32) × (Nat → Int32) × (Nat → Int32) × (Nat → Int32) × (Nat → Int32) × (Nat → Int32) × (Nat → Int32) × Int32) :=
  (f_X_fair l1 l2 l3 l4 l5).bind fun r_7 =>
  if r_7 = (0 : Int32) then
    some ((-1 : Int32), G1_known, J1_give, J1_clear, J1_yieldAt, J1_soft, J1_breakAt, J1_out, J1_pitches, J1_bolts)
  else
    if J1_bolts < (5 : Int32) then
      bd8 (f_J_add l1 l2 l3 l4 l5 J1_give J1_clear J1_yieldAt J1_soft J1_breakAt J1_out J1_pitches J1_bolts) fun J1_give_40 J1_clear_40 J1_yieldAt_40 J1_soft_40 J1_breakAt_40 J1_out_40 J1_pitches_40 J1_bolts_40 =>
      some (J1_bolts_40, (0 : Int32), J1_give_40, J1_clear_40, J1_yieldAt_40, J1_soft_40, J1_breakAt_40, J1_out_40, J1_pitches_40, J1_bolts_40)
    else
      some ((-2 : Int32), G1_known, J1_give, J1_clear, J1_yieldAt, J1_soft, J1_breakAt, J1_out, J1_pitches, J1_bolts)
noncomputable def fj_X_plates_45 (l1 : Int32) (l2 : Int32) (J1_upper : Int32) (J1_lower : Int32) : Option (Int32 × Int32 × Int32 × Int32) :=
  nm (((10 : Int32) * J1_upper) + J1_lower) fun l3_63 =>
  some (l3_63, (0 : Int32), l1, l2)
noncomputable def f_X_plates (l1 : Int32) (l2 : Int32) (G1_known : Int32) (J1_upper : Int32) (J1_lower : Int32) : Option (Int32 × Int32 × Int32 × Int32) :=
  (f_X_within l1 (0 : Int32) (2 : Int32)).bind fun r_3 =>
  if r_3 = (0 : Int32) then
    some ((-1 : Int32), G1_known, J1_upper, J1_lower)
  else
    (f_X_within l2 (0 : Int32) (2 : Int32)).bind fun r_12 =>
    if r_12 = (0 : Int32) then
      some ((-1 : Int32), G1_known, J1_upper, J1_lower)
    else
      if l1 = J1_upper then
        if l2 = J1_lower then
          some ((-2 : Int32), G1_known, J1_upper, J1_lower)
        else
          fj_X_plates_45 l1 l2 J1_upper J1_lower
      else
        fj_X_plates_45 l1 l2 J1_upper J1_lower
noncomputable def f_X_pitch (l1 : Int32) (l2 : Int32) (G1_known : Int32) (J1_pitches : Nat → Int32) (J1_bolts : Int32) : Option (Int32 × Int32 × (Nat → Int32)) :=
  (f_J_hasGap l1 J1_bolts).bind fun r_5 =>
  if r_5 = (0 : Int32) then
    some ((-1 : Int32), G1_known, J1_pitches)
  else
    (f_X_within l2 (0 : Int32) (2 : Int32)).bind fun r_14 =>
    if r_14 = (0 : Int32) then
      some ((-1 : Int32), G1_known, J1_pitches)
    else
      (ldA J1_pitches 5 l1).bind fun v_30 =>
      if l2 = v_30 then
        some ((-2 : Int32), G1_known, J1_pitches)
      else
        (stI J1_pitches 5 l1 l2).bind fun J1_pitches_49 =>
        some (v_30, (0 : Int32), J1_pitches_49)
noncomputable def fj_X_alters_123 (l1 : Int32) (l2 : Int32) (l3 : Int32) (l4 : Int32) (l5 : Int32) (l6 : Int32) (s0 : Int32) (s1 : Int32) (G1_known : Int32) (J1_give : Nat → Int32) (J1_clear : Nat → Int32) (J1_yieldAt : Nat → Int32) (J1_soft : Nat → Int32) (J1_breakAt : Nat → Int32) : Option (Int32 × Int32 × (Nat → Int32) × (Nat → Int32) × (Nat → Int32) × (Nat → Int32) × (Nat → Int32)) :=
  nm (s0 + s1) fun l7_124 =>
  if l7_124 = (0 : Int32) then
    some ((-2 : Int32), G1_known, J1_give, J1_clear, J1_yieldAt, J1_soft, J1_breakAt)
  else
    bd5 (f_J_write l1 l2 l3 l4 l5 l6 J1_give J1_clear J1_yieldAt J1_soft J1_breakAt) fun J1_give_147 J1_clear_147 J1_yieldAt_147 J1_soft_147 J1_breakAt_147 =>
    some (l7_124, (0 : Int32), J1_give_147, J1_clear_147, J1_yieldAt_147, J1_soft_147, J1_breakAt_147)
noncomputable def fj_X_alters_103 (l1 : Int32) (l2 : Int32) (l3 : Int32) (l4 : Int32) (l5 : Int32) (l6 : Int32) (s0 : Int32) (s1 : Int32) (G1_known : Int32) (J1_give : Nat → Int32) (J1_clear : Nat → Int32) (J1_yieldAt : Nat → Int32) (J1_soft : Nat → Int32) (J1_breakAt : Nat → Int32) : Option (Int32 × Int32 × (Nat → Int32) × (Nat → Int32) × (Nat → Int32) × (Nat → Int32) × (Nat → Int32)) :=
  (ldA J1_breakAt 5 l1).bind fun v_112 =>
  if v_112 = l6 then
    fj_X_alters_123 l1 l2 l3 l4 l5 l6 (s0 + s1) (0 : Int32) G1_known J1_give J1_clear J1_yieldAt J1_soft J1_breakAt
  else
    fj_X_alters_123 l1 l2 l3 l4 l5 l6 (s0 + s1) (1 : Int32) G1_known J1_give J1_clear J1_yieldAt J1_soft J1_breakAt
noncomputable def fj_X_alters_83 (l1 : Int32) (l2 : Int32) (l3 : Int32) (l4 : Int32) (l5 : Int32) (l6 : Int32) (s0 : Int32) (s1 : Int32) (G1_known : Int32) (J1_give : Nat → Int32) (J1_clear : Nat → Int32) (J1_yieldAt : Nat → Int32) (J1_soft : Nat → Int32) (J1_breakAt : Nat → Int32) : Option (Int32 × Int32 × (Nat → Int32) × (Nat → Int32) × (Nat → Int32) × (Nat → Int32) × (Nat → Int32)) :=
  (ldA J1_soft 5 l1).bind fun v_92 =>
  if v_92 = l5 then
    fj_X_alters_103 l1 l2 l3 l4 l5 l6 (s0 + s1) (0 : Int32) G1_known J1_give J1_clear J1_yieldAt J1_soft J1_breakAt
  else
    fj_X_alters_103 l1 l2 l3 l4 l5 l6 (s0 + s1) (1 : Int32) G1_known J1_give J1_clear J1_yieldAt J1_soft J1_breakAt
noncomputable def fj_X_alters_63 (l1 : Int32) (l2 : Int32) (l3 : Int32) (l4 : Int32) (l5 : Int32) (l6 : Int32) (s0 : Int32) (s1 : Int32) (G1_known : Int32) (J1_give : Nat → Int32) (J1_clear : Nat → Int32) (J1_yieldAt : Nat → Int32) (J1_soft : Nat → Int32) (J1_breakAt : Nat → Int32) : Option (Int32 × Int32 × (Nat → Int32) × (Nat → Int32) × (Nat → Int32) × (Nat → Int32) × (Nat → Int32)) :=
  (ldA J1_yieldAt 5 l1).bind fun v_72 =>
  if v_72 = l4 then
    fj_X_alters_83 l1 l2 l3 l4 l5 l6 (s0 + s1) (0 : Int32) G1_known J1_give J1_clear J1_yieldAt J1_soft J1_breakAt
  else
    fj_X_alters_83 l1 l2 l3 l4 l5 l6 (s0 + s1) (1 : Int32) G1_known J1_give J1_clear J1_yieldAt J1_soft J1_breakAt
noncomputable def fj_X_alters_45 (l1 : Int32) (l2 : Int32) (l3 : Int32) (l4 : Int32) (l5 : Int32) (l6 : Int32) (s0 : Int32) (G1_known : Int32) (J1_give : Nat → Int32) (J1_clear : Nat → Int32) (J1_yieldAt : Nat → Int32) (J1_soft : Nat → Int32) (J1_breakAt : Nat → Int32) : Option (Int32 × Int32 × (Nat → Int32) × (Nat → Int32) × (Nat → Int32) × (Nat → Int32) × (Nat → Int32)) :=
  (ldA J1_clear 5 l1).bind fun v_53 =>
  if v_53 = l3 then
    fj_X_alters_63 l1 l2 l3 l4 l5 l6 s0 (0 : Int32) G1_known J1_give J1_clear J1_yieldAt J1_soft J1_breakAt
  else
    fj_X_alters_63 l1 l2 l3 l4 l5 l6 s0 (1 : Int32) G1_known J1_give J1_clear J1_yieldAt J1_soft J1_breakAt
noncomputable def f_X_alters (l1 : Int32) (l2 : Int32) (l3 : Int32) (l4 : Int32) (l5 : Int32) (l6 : Int32) (G1_known : Int32) (J1_give : Nat → Int32) (J1_clear : Nat → Int32) (J1_yieldAt : Nat → Int32) (J1_soft : Nat → Int32) (J1_breakAt : Nat → Int32) (J1_bolts : Int32) : Option (Int32 × Int32 × (Nat → Int32) × (Nat → Int32) × (Nat → Int32) × (Nat → Int32) × (Nat → Int32)) :=
  (f_J_has l1 J1_bolts).bind fun r_5 =>
  if r_5 = (0 : Int32) then
    some ((-1 : Int32), G1_known, J1_give, J1_clear, J1_yieldAt, J1_soft, J1_breakAt)
  else
    (f_X_fair l2 l3 l4 l5 l6).bind fun r_19 =>
    if r_19 = (0 : Int32) then
      some ((-1 : Int32), G1_known, J1_give, J1_clear, J1_yieldAt, J1_soft, J1_breakAt)
    else
      (ldA J1_give 5 l1).bind fun v_35 =>
      if v_35 = l2 then
        fj_X_alters_45 l1 l2 l3 l4 l5 l6 (0 : Int32) G1_known J1_give J1_clear J1_yieldAt J1_soft J1_breakAt
      else
        fj_X_alters_45 l1 l2 l3 l4 l5 l6 (1 : Int32) G1_known J1_give J1_clear J1_yieldAt J1_soft J1_breakAt
noncomputable def f_X_takes (F : Nat) (l1 : Int32) (l2 : Int32) (G1_known : Int32) (J1_out : Nat → Int32) (J1_bolts : Int32) : Option (Int32 × Int32 × (Nat → Int32)) :=
  (f_J_has l1 J1_bolts).bind fun r_5 =>
  if r_5 = (0 : Int32) then
    some ((-1 : Int32), G1_known, J1_out)
  else
    (ldA J1_out 5 l1).bind fun v_21 =>
    if v_21 = l2 then
      some ((-2 : Int32), G1_known, J1_out)
    else
      (stZ J1_out 5 l1 l2).bind fun J1_out_38 =>
      (f_J_soundBits F J1_out_38 J1_bolts).bind fun r_51 =>
      (f_JI_bitCount r_51).bind fun r_54 =>
      some (r_54, (0 : Int32), J1_out_38)
noncomputable def f_X_swaps (F : Nat) (l1 : Int32) (l2 : Int32) (G1_known : Int32) (J1_give : Nat → Int32) (J1_clear : Nat → Int32) (J1_yieldAt : Nat → Int32) (J1_soft : Nat → Int32) (J1_breakAt : Nat → Int32) (J1_out : Nat → Int32) (J1_pitches : Nat → Int32) (J1_bolts : Int32) (J1_upper : Int32) (J1_lower : Int32) (J2_give : Nat → Int32) (J2_clear : Nat → Int32) (J2_yieldAt : Nat → Int32) (J2_soft : Nat → Int32) (J2_breakAt : Nat → Int32) (J2_out : Nat → Int32) (J2_pitches : Nat → Int32) (J2_bolts : Int32) (J2_upper : Int32) (J2_lower : Int32) : Option (Int32 × Int32 × (Nat → Int32) × (Nat → Int32) × (Nat → Int32) × (Nat → Int32) × (Nat → Int32) × (Nat → Int32) × (Nat → Int32) × (Nat → Int32) × (Nat → Int32) × (Nat → Int32) × (Nat → Int32) × (Nat → Int32) × (Nat → Int32) × Int32 × Int32 × Int32) :=
  (f_J_has l1 J1_bolts).bind fun r_5 =>
  if r_5 = (0 : Int32) then
    some ((0 : Int32), G1_known, J1_give, J1_clear, J1_yieldAt, J1_soft, J1_breakAt, J1_out, J2_give, J2_clear, J2_yieldAt, J2_soft, J2_breakAt, J2_out, J2_pitches, J2_bolts, J2_upper, J2_lower)
  else
    (f_J_has l2 J1_bolts).bind fun r_16 =>
    if r_16 = (0 : Int32) then
      some ((0 : Int32), G1_known, J1_give, J1_clear, J1_yieldAt, J1_soft, J1_breakAt, J1_out, J2_give, J2_clear, J2_yieldAt, J2_soft, J2_breakAt, J2_out, J2_pitches, J2_bolts, J2_upper, J2_lower)
    else
      if l1 = l2 then
        some ((0 : Int32), G1_known, J1_give, J1_clear, J1_yieldAt, J1_soft, J1_breakAt, J1_out, J2_give, J2_clear, J2_yieldAt, J2_soft, J2_breakAt, J2_out, J2_pitches, J2_bolts, J2_upper, J2_lower)
      else
        bd10 (f_J_copyAll F J2_give J2_clear J2_yieldAt J2_soft J2_breakAt J2_out J2_pitches J2_bolts J2_upper J2_lower J1_give J1_clear J1_yieldAt J1_soft J1_breakAt J1_out J1_pitches J1_bolts J1_upper J1_lower) fun J2_give_37 J2_clear_37 J2_yieldAt_37 J2_soft_37 J2_breakAt_37 J2_out_37 J2_pitches_37 J2_bolts_37 J2_upper_37 J2_lower_37 =>
        bd6 (f_J_copyBolt l2 l1 J1_give J1_clear J1_yieldAt J1_soft J1_breakAt J1_out J2_give_37 J2_clear_37 J2_yieldAt_37 J2_soft_37 J2_breakAt_37 J2_out_37) fun J1_give_50 J1_clear_50 J1_yieldAt_50 J1_soft_50 J1_breakAt_50 J1_out_50 =>
        bd6 (f_J_copyBolt l1 l2 J1_give_50 J1_clear_50 J1_yieldAt_50 J1_soft_50 J1_breakAt_50 J1_out_50 J2_give_37 J2_clear_37 J2_yieldAt_37 J2_soft_37 J2_breakAt_37 J2_out_37) fun J1_give_63 J1_clear_63 J1_yieldAt_63 J1_soft_63 J1_breakAt_63 J1_out_63 =>
        some ((1 : Int32), (0 : Int32), J1_give_63, J1_clear_63, J1_yieldAt_63, J1_soft_63, J1_breakAt_63, J1_out_63, J2_give_37, J2_clear_37, J2_yieldAt_37, J2_soft_37, J2_breakAt_37, J2_out_37, J2_pitches_37, J2_bolts_37, J2_upper_37, J2_lower_37)
noncomputable def f_X_clears (G1_known : Int32) (J1_bolts : Int32) : Option (Int32 × Int32 × Int32) :=
  some (J1_bolts, (0 : Int32), (0 : Int32))
noncomputable def f_X_sign (F : Nat) (l1 : Int32) (T_signs : Nat → Int32) (T_size : Int32) : Option (Int32 × (Nat → Int32) × Int32) :=
  bd3 (f_T_addFour F l1 T_signs T_size) fun r_5 T_signs_5 T_size_5 =>
  if r_5 = (0 : Int32) then
    some ((-1 : Int32), T_signs_5, T_size_5)
  else
    some (T_size_5, T_signs_5, T_size_5)
noncomputable def f_X_end (l1 : Int32) (T_size : Int32) : Option (Int32 × Int32) :=
  bd2 (f_T_cut l1 T_size) fun r_5 T_size_5 =>
  (bzO r_5).bind fun b_8 =>
  some (b_8, T_size_5)
noncomputable def f_X_joint (F : Nat) (G1_known : Int32) (J1_give : Nat → Int32) (J1_clear : Nat → Int32) (J1_yieldAt : Nat → Int32) (J1_soft : Nat → Int32) (J1_breakAt : Nat → Int32) (J1_out : Nat → Int32) (J1_pitches : Nat → Int32) (J1_bolts : Int32) (J1_upper : Int32) (J1_lower : Int32) (J2_give : Nat → Int32) (J2_clear : Nat → Int32) (J2_yieldAt : Nat → Int32) (J2_soft : Nat → Int32) (J2_breakAt : Nat → Int32) (J2_out : Nat → Int32) (J2_pitches : Nat → Int32) (J2_bolts : Int32) (J2_upper : Int32) (J2_lower : Int32) (T_signs : Nat → Int32) (T_size : Int32) (T_next : Int32) (T_fault : Int32) : Option (Int32 × Int32 × (Nat → Int32) × (Nat → Int32) × (Nat → Int32) × (Nat → Int32) × (Nat → Int32) × (Nat → Int32) × (Nat → Int32) × Int32 × Int32 × Int32 × (Nat → Int32) × (Nat → Int32) × (Nat → Int32) × (Nat → Int32) × (Nat → Int32) × (Nat → Int32) × (Nat → Int32) × Int32 × Int32 × Int32 × Int32 × Int32 × Int32) :=
  bd13 (f_T_readJoint F T_signs T_size T_next T_fault J2_give J2_clear J2_yieldAt J2_soft J2_breakAt J2_out J2_pitches J2_bolts J2_upper J2_lower) fun r_8 T_next_8 T_fault_8 J2_give_8 J2_clear_8 J2_yieldAt_8 J2_soft_8 J2_breakAt_8 J2_out_8 J2_pitches_8 J2_bolts_8 J2_upper_8 J2_lower_8 =>
  if r_8 < (0 : Int32) then
    bd10 (f_J_copyAll F J1_give J1_clear J1_yieldAt J1_soft J1_breakAt J1_out J1_pitches J1_bolts J1_upper J1_lower J2_give_8 J2_clear_8 J2_yieldAt_8 J2_soft_8 J2_breakAt_8 J2_out_8 J2_pitches_8 J2_bolts_8 J2_upper_8 J2_lower_8) fun J1_give_36 J1_clear_36 J1_yieldAt_36 J1_soft_36 J1_breakAt_36 J1_out_36 J1_pitches_36 J1_bolts_36 J1_upper_36 J1_lower_36 =>
    some (J1_bolts_36, (0 : Int32), J1_give_36, J1_clear_36, J1_yieldAt_36, J1_soft_36, J1_breakAt_36, J1_out_36, J1_pitches_36, J1_bolts_36, J1_upper_36, J1_lower_36, J2_give_8, J2_clear_8, J2_yieldAt_8, J2_soft_8, J2_breakAt_8, J2_out_8, J2_pitches_8, J2_bolts_8, J2_upper_8, J2_lower_8, (0 : Int32), T_next_8, T_fault_8)
  else
    some (((-1 : Int32) - r_8), G1_known, J1_give, J1_clear, J1_yieldAt, J1_soft, J1_breakAt, J1_out, J1_pitches, J1_bolts, J1_upper, J1_lower, J2_give_8, J2_clear_8, J2_yieldAt_8, J2_soft_8, J2_breakAt_8, J2_out_8, J2_pitches_8, J2_bolts_8, J2_upper_8, J2_lower_8, (0 : Int32), T_next_8, T_fault_8)
noncomputable def f_X_isLoad (l0 : Int32) : Option (Int32) :=
  (f_X_within l0 (0 : Int32) (300 : Int32)).bind fun r_5 =>
  (bzO r_5).bind fun b_8 =>
  some b_8
noncomputable def f_X_come (F : Nat) (l1 : Int32) (l2 : Int32) (G1_way : Nat → Int32) (G1_wayBefore : Nat → Int32) (G1_known : Int32) (G1_total : Int32) (G1_kind : Nat → Int32) (G1_who : Nat → Int32) (G1_over : Nat → Int64) (G1_under : Nat → Int64) (G1_endOver : Int64) (G1_endUnder : Int64) (G1_dueOver : Nat → Int64) (G1_dueUnder : Nat → Int64) (G1_soonOver : Int64) (G1_soonUnder : Int64) (L1_stretch : Nat → Int32) (L1_rest : Nat → Int64) (L1_forceRise : Nat → Int64) (L1_forceStart : Nat → Int64) (L1_slipRise : Nat → Int64) (L1_slipStart : Nat → Int64) (L1_under : Int64) (L1_byFirst : Nat → Int64) (L1_byLoad : Nat → Int64) (L1_bare : Nat → Int64) (L1_scale : Nat → Int64) (L1_firstRise : Int64) (L1_firstStart : Int64) (J1_give : Nat → Int32) (J1_clear : Nat → Int32) (J1_yieldAt : Nat → Int32) (J1_soft : Nat → Int32) (J1_breakAt : Nat → Int32) (J1_out : Nat → Int32) (J1_pitches : Nat → Int32) (J1_bolts : Int32) (J1_upper : Int32) (J1_lower : Int32) : Option (Int32 × (Nat → Int32) × (Nat → Int32) × Int32 × Int32 × (Nat → Int32) × (Nat → Int32) × (Nat → Int64) × (Nat → Int64) × Int64 × Int64 × (Nat → Int64) × (Nat → Int64) × Int64 × Int64 × (Nat → Int32) × (Nat → Int64) × (Nat → Int64) × (Nat → Int64) × (Nat → Int64) × (Nat → Int64) × Int64 × (Nat → Int64) × (Nat → Int64) × (Nat → Int64) × (Nat → Int64) × Int64 × Int64) :=
  (f_X_isLoad l1).bind fun r_1 =>
  if r_1 = (0 : Int32) then
    some ((-1 : Int32), G1_way, G1_wayBefore, G1_known, G1_total, G1_kind, G1_who, G1_over, G1_under, G1_endOver, G1_endUnder, G1_dueOver, G1_dueUnder, G1_soonOver, G1_soonUnder, L1_stretch, L1_rest, L1_forceRise, L1_forceStart, L1_slipRise, L1_slipStart, L1_under, L1_byFirst, L1_byLoad, L1_bare, L1_scale, L1_firstRise, L1_firstStart)
  else
    if l2 = (0 : Int32) then
      some ((-1 : Int32), G1_way, G1_wayBefore, G1_known, G1_total, G1_kind, G1_who, G1_over, G1_under, G1_endOver, G1_endUnder, G1_dueOver, G1_dueUnder, G1_soonOver, G1_soonUnder, L1_stretch, L1_rest, L1_forceRise, L1_forceStart, L1_slipRise, L1_slipStart, L1_under, L1_byFirst, L1_byLoad, L1_bare, L1_scale, L1_firstRise, L1_firstStart)
    else
      bd27 (f_G_run F G1_way G1_wayBefore G1_known G1_total G1_kind G1_who G1_over G1_under G1_endOver G1_endUnder G1_dueOver G1_dueUnder G1_soonOver G1_soonUnder L1_stretch L1_rest L1_forceRise L1_forceStart L1_slipRise L1_slipStart L1_under L1_byFirst L1_byLoad L1_bare L1_scale L1_firstRise L1_firstStart J1_give J1_clear J1_yieldAt J1_soft J1_breakAt J1_out J1_pitches J1_bolts J1_upper J1_lower) fun G1_way_17 G1_wayBefore_17 G1_known_17 G1_total_17 G1_kind_17 G1_who_17 G1_over_17 G1_under_17 G1_endOver_17 G1_endUnder_17 G1_dueOver_17 G1_dueUnder_17 G1_soonOver_17 G1_soonUnder_17 L1_stretch_17 L1_rest_17 L1_forceRise_17 L1_forceStart_17 L1_slipRise_17 L1_slipStart_17 L1_under_17 L1_byFirst_17 L1_byLoad_17 L1_bare_17 L1_scale_17 L1_firstRise_17 L1_firstStart_17 =>
      (f_G_comparePeak (Int32.toInt64 l1) (1 : Int64) G1_endOver_17 G1_endUnder_17).bind fun r_27 =>
      if (0 : Int32) < r_27 then
        (f_G_leftAfter F l1 G1_total_17 G1_kind_17 G1_who_17 G1_over_17 G1_under_17 J1_out J1_bolts).bind fun r_45 =>
        bd18 (f_G_settle F r_45 (Int32.toInt64 l1) (1 : Int64) G1_way_17 G1_dueOver_17 G1_dueUnder_17 G1_soonOver_17 G1_soonUnder_17 L1_stretch_17 L1_rest_17 L1_forceRise_17 L1_forceStart_17 L1_slipRise_17 L1_slipStart_17 L1_under_17 L1_byFirst_17 L1_byLoad_17 L1_bare_17 L1_scale_17 L1_firstRise_17 L1_firstStart_17 J1_give J1_clear J1_yieldAt J1_soft J1_breakAt J1_out J1_pitches J1_bolts J1_upper J1_lower) fun G1_way_51 G1_dueOver_51 G1_dueUnder_51 G1_soonOver_51 G1_soonUnder_51 L1_stretch_51 L1_rest_51 L1_forceRise_51 L1_forceStart_51 L1_slipRise_51 L1_slipStart_51 L1_under_51 L1_byFirst_51 L1_byLoad_51 L1_bare_51 L1_scale_51 L1_firstRise_51 L1_firstStart_51 =>
        some ((0 : Int32), G1_way_51, G1_wayBefore_17, G1_known_17, G1_total_17, G1_kind_17, G1_who_17, G1_over_17, G1_under_17, G1_endOver_17, G1_endUnder_17, G1_dueOver_51, G1_dueUnder_51, G1_soonOver_51, G1_soonUnder_51, L1_stretch_51, L1_rest_51, L1_forceRise_51, L1_forceStart_51, L1_slipRise_51, L1_slipStart_51, L1_under_51, L1_byFirst_51, L1_byLoad_51, L1_bare_51, L1_scale_51, L1_firstRise_51, L1_firstStart_51)
      else
        some ((-2 : Int32), G1_way_17, G1_wayBefore_17, G1_known_17, G1_total_17, G1_kind_17, G1_who_17, G1_over_17, G1_under_17, G1_endOver_17, G1_endUnder_17, G1_dueOver_17, G1_dueUnder_17, G1_soonOver_17, G1_soonUnder_17, L1_stretch_17, L1_rest_17, L1_forceRise_17, L1_forceStart_17, L1_slipRise_17, L1_slipStart_17, L1_under_17, L1_byFirst_17, L1_byLoad_17, L1_bare_17, L1_scale_17, L1_firstRise_17, L1_firstStart_17)
noncomputable def f_X_force (F : Nat) (l1 : Int32) (l2 : Int32) (G1_way : Nat → Int32) (G1_wayBefore : Nat → Int32) (G1_known : Int32) (G1_total : Int32) (G1_kind : Nat → Int32) (G1_who : Nat → Int32) (G1_over : Nat → Int64) (G1_under : Nat → Int64) (G1_endOver : Int64) (G1_endUnder : Int64) (G1_dueOver : Nat → Int64) (G1_dueUnder : Nat → Int64) (G1_soonOver : Int64) (G1_soonUnder : Int64) (L1_stretch : Nat → Int32) (L1_rest : Nat → Int64) (L1_forceRise : Nat → Int64) (L1_forceStart : Nat → Int64) (L1_slipRise : Nat → Int64) (L1_slipStart : Nat → Int64) (L1_under : Int64) (L1_byFirst : Nat → Int64) (L1_byLoad : Nat → Int64) (L1_bare : Nat → Int64) (L1_scale : Nat → Int64) (L1_firstRise : Int64) (L1_firstStart : Int64) (J1_give : Nat → Int32) (J1_clear : Nat → Int32) (J1_yieldAt : Nat → Int32) (J1_soft : Nat → Int32) (J1_breakAt : Nat → Int32) (J1_out : Nat → Int32) (J1_pitches : Nat → Int32) (J1_bolts : Int32) (J1_upper : Int32) (J1_lower : Int32) (R_numbers : Nat → Int64) (R_size : Int32) : Option (Int32 × (Nat → Int32) × (Nat → Int32) × Int32 × Int32 × (Nat → Int32) × (Nat → Int32) × (Nat → Int64) × (Nat → Int64) × Int64 × Int64 × (Nat → Int64) × (Nat → Int64) × Int64 × Int64 × (Nat → Int32) × (Nat → Int64) × (Nat → Int64) × (Nat → Int64) × (Nat → Int64) × (Nat → Int64) × Int64 × (Nat → Int64) × (Nat → Int64) × (Nat → Int64) × (Nat → Int64) × Int64 × Int64 × (Nat → Int64) × Int32) :=
  (f_J_has l2 J1_bolts).bind fun r_7 =>
  bd28 (f_X_come F l1 r_7 G1_way G1_wayBefore G1_known G1_total G1_kind G1_who G1_over G1_under G1_endOver G1_endUnder G1_dueOver G1_dueUnder G1_soonOver G1_soonUnder L1_stretch L1_rest L1_forceRise L1_forceStart L1_slipRise L1_slipStart L1_under L1_byFirst L1_byLoad L1_bare L1_scale L1_firstRise L1_firstStart J1_give J1_clear J1_yieldAt J1_soft J1_breakAt J1_out J1_pitches J1_bolts J1_upper J1_lower) fun r_10 G1_way_10 G1_wayBefore_10 G1_known_10 G1_total_10 G1_kind_10 G1_who_10 G1_over_10 G1_under_10 G1_endOver_10 G1_endUnder_10 G1_dueOver_10 G1_dueUnder_10 G1_soonOver_10 G1_soonUnder_10 L1_stretch_10 L1_rest_10 L1_forceRise_10 L1_forceStart_10 L1_slipRise_10 L1_slipStart_10 L1_under_10 L1_byFirst_10 L1_byLoad_10 L1_bare_10 L1_scale_10 L1_firstRise_10 L1_firstStart_10 =>
  if r_10 = (0 : Int32) then
    (f_L_forceAt l2 (Int32.toInt64 l1) (1 : Int64) L1_forceRise_10 L1_forceStart_10).bind fun r_41 =>
    bd2 (f_R_fraction F r_41 L1_under_10 R_numbers (0 : Int32)) fun R_numbers_54 R_size_54 =>
    some (r_10, G1_way_10, G1_wayBefore_10, G1_known_10, G1_total_10, G1_kind_10, G1_who_10, G1_over_10, G1_under_10, G1_endOver_10, G1_endUnder_10, G1_dueOver_10, G1_dueUnder_10, G1_soonOver_10, G1_soonUnder_10, L1_stretch_10, L1_rest_10, L1_forceRise_10, L1_forceStart_10, L1_slipRise_10, L1_slipStart_10, L1_under_10, L1_byFirst_10, L1_byLoad_10, L1_bare_10, L1_scale_10, L1_firstRise_10, L1_firstStart_10, R_numbers_54, R_size_54)
  else
    some (r_10, G1_way_10, G1_wayBefore_10, G1_known_10, G1_total_10, G1_kind_10, G1_who_10, G1_over_10, G1_under_10, G1_endOver_10, G1_endUnder_10, G1_dueOver_10, G1_dueUnder_10, G1_soonOver_10, G1_soonUnder_10, L1_stretch_10, L1_rest_10, L1_forceRise_10, L1_forceStart_10, L1_slipRise_10, L1_slipStart_10, L1_under_10, L1_byFirst_10, L1_byLoad_10, L1_bare_10, L1_scale_10, L1_firstRise_10, L1_firstStart_10, R_numbers, R_size)
noncomputable def f_X_slip (F : Nat) (l1 : Int32) (l2 : Int32) (G1_way : Nat → Int32) (G1_wayBefore : Nat → Int32) (G1_known : Int32) (G1_total : Int32) (G1_kind : Nat → Int32) (G1_who : Nat → Int32) (G1_over : Nat → Int64) (G1_under : Nat → Int64) (G1_endOver : Int64) (G1_endUnder : Int64) (G1_dueOver : Nat → Int64) (G1_dueUnder : Nat → Int64) (G1_soonOver : Int64) (G1_soonUnder : Int64) (L1_stretch : Nat → Int32) (L1_rest : Nat → Int64) (L1_forceRise : Nat → Int64) (L1_forceStart : Nat → Int64) (L1_slipRise : Nat → Int64) (L1_slipStart : Nat → Int64) (L1_under : Int64) (L1_byFirst : Nat → Int64) (L1_byLoad : Nat → Int64) (L1_bare : Nat → Int64) (L1_scale : Nat → Int64) (L1_firstRise : Int64) (L1_firstStart : Int64) (J1_give : Nat → Int32) (J1_clear : Nat → Int32) (J1_yieldAt : Nat → Int32) (J1_soft : Nat → Int32) (J1_breakAt : Nat → Int32) (J1_out : Nat → Int32) (J1_pitches : Nat → Int32) (J1_bolts : Int32) (J1_upper : Int32) (J1_lower : Int32) (R_numbers : Nat → Int64) (R_size : Int32) : Option (Int32 × (Nat → Int32) × (Nat → Int32) × Int32 × Int32 × (Nat → Int32) × (Nat → Int32) × (Nat → Int64) × (Nat → Int64) × Int64 × Int64 × (Nat → Int64) × (Nat → Int64) × Int64 × Int64 × (Nat → Int32) × (Nat → Int64) × (Nat → Int64) × (Nat → Int64) × (Nat → Int64) × (Nat → Int64) × Int64 × (Nat → Int64) × (Nat → Int64) × (Nat → Int64) × (Nat → Int64) × Int64 × Int64 × (Nat → Int64) × Int32) :=
  (f_J_has l2 J1_bolts).bind fun r_7 =>
  bd28 (f_X_come F l1 r_7 G1_way G1_wayBefore G1_known G1_total G1_kind G1_who G1_over G1_under G1_endOver G1_endUnder G1_dueOver G1_dueUnder G1_soonOver G1_soonUnder L1_stretch L1_rest L1_forceRise L1_forceStart L1_slipRise L1_slipStart L1_under L1_byFirst L1_byLoad L1_bare L1_scale L1_firstRise L1_firstStart J1_give J1_clear J1_yieldAt J1_soft J1_breakAt J1_out J1_pitches J1_bolts J1_upper J1_lower) fun r_10 G1_way_10 G1_wayBefore_10 G1_known_10 G1_total_10 G1_kind_10 G1_who_10 G1_over_10 G1_under_10 G1_endOver_10 G1_endUnder_10 G1_dueOver_10 G1_dueUnder_10 G1_soonOver_10 G1_soonUnder_10 L1_stretch_10 L1_rest_10 L1_forceRise_10 L1_forceStart_10 L1_slipRise_10 L1_slipStart_10 L1_under_10 L1_byFirst_10 L1_byLoad_10 L1_bare_10 L1_scale_10 L1_firstRise_10 L1_firstStart_10 =>
  if r_10 = (0 : Int32) then
    (f_L_slipAt l2 (Int32.toInt64 l1) (1 : Int64) L1_slipRise_10 L1_slipStart_10).bind fun r_41 =>
    bd2 (f_R_fraction F r_41 L1_under_10 R_numbers (0 : Int32)) fun R_numbers_54 R_size_54 =>
    some (r_10, G1_way_10, G1_wayBefore_10, G1_known_10, G1_total_10, G1_kind_10, G1_who_10, G1_over_10, G1_under_10, G1_endOver_10, G1_endUnder_10, G1_dueOver_10, G1_dueUnder_10, G1_soonOver_10, G1_soonUnder_10, L1_stretch_10, L1_rest_10, L1_forceRise_10, L1_forceStart_10, L1_slipRise_10, L1_slipStart_10, L1_under_10, L1_byFirst_10, L1_byLoad_10, L1_bare_10, L1_scale_10, L1_firstRise_10, L1_firstStart_10, R_numbers_54, R_size_54)
  else
    some (r_10, G1_way_10, G1_wayBefore_10, G1_known_10, G1_total_10, G1_kind_10, G1_who_10, G1_over_10, G1_under_10, G1_endOver_10, G1_endUnder_10, G1_dueOver_10, G1_dueUnder_10, G1_soonOver_10, G1_soonUnder_10, L1_stretch_10, L1_rest_10, L1_forceRise_10, L1_forceStart_10, L1_slipRise_10, L1_slipStart_10, L1_under_10, L1_byFirst_10, L1_byLoad_10, L1_bare_10, L1_scale_10, L1_firstRise_10, L1_firstStart_10, R_numbers, R_size)
noncomputable def f_X_bears (F : Nat) (l1 : Int32) (l2 : Int32) (G1_way : Nat → Int32) (G1_wayBefore : Nat → Int32) (G1_known : Int32) (G1_total : Int32) (G1_kind : Nat → Int32) (G1_who : Nat → Int32) (G1_over : Nat → Int64) (G1_under : Nat → Int64) (G1_endOver : Int64) (G1_endUnder : Int64) (G1_dueOver : Nat → Int64) (G1_dueUnder : Nat → Int64) (G1_soonOver : Int64) (G1_soonUnder : Int64) (L1_stretch : Nat → Int32) (L1_rest : Nat → Int64) (L1_forceRise : Nat → Int64) (L1_forceStart : Nat → Int64) (L1_slipRise : Nat → Int64) (L1_slipStart : Nat → Int64) (L1_under : Int64) (L1_byFirst : Nat → Int64) (L1_byLoad : Nat → Int64) (L1_bare : Nat → Int64) (L1_scale : Nat → Int64) (L1_firstRise : Int64) (L1_firstStart : Int64) (J1_give : Nat → Int32) (J1_clear : Nat → Int32) (J1_yieldAt : Nat → Int32) (J1_soft : Nat → Int32) (J1_breakAt : Nat → Int32) (J1_out : Nat → Int32) (J1_pitches : Nat → Int32) (J1_bolts : Int32) (J1_upper : Int32) (J1_lower : Int32) (R_numbers : Nat → Int64) (R_size : Int32) : Option (Int32 × (Nat → Int32) × (Nat → Int32) × Int32 × Int32 × (Nat → Int32) × (Nat → Int32) × (Nat → Int64) × (Nat → Int64) × Int64 × Int64 × (Nat → Int64) × (Nat → Int64) × Int64 × Int64 × (Nat → Int32) × (Nat → Int64) × (Nat → Int64) × (Nat → Int64) × (Nat → Int64) × (Nat → Int64) × Int64 × (Nat → Int64) × (Nat → Int64) × (Nat → Int64) × (Nat → Int64) × Int64 × Int64 × (Nat → Int64) × Int32) :=
  (f_J_hasGap l2 J1_bolts).bind fun r_7 =>
  bd28 (f_X_come F l1 r_7 G1_way G1_wayBefore G1_known G1_total G1_kind G1_who G1_over G1_under G1_endOver G1_endUnder G1_dueOver G1_dueUnder G1_soonOver G1_soonUnder L1_stretch L1_rest L1_forceRise L1_forceStart L1_slipRise L1_slipStart L1_under L1_byFirst L1_byLoad L1_bare L1_scale L1_firstRise L1_firstStart J1_give J1_clear J1_yieldAt J1_soft J1_breakAt J1_out J1_pitches J1_bolts J1_upper J1_lower) fun r_10 G1_way_10 G1_wayBefore_10 G1_known_10 G1_total_10 G1_kind_10 G1_who_10 G1_over_10 G1_under_10 G1_endOver_10 G1_endUnder_10 G1_dueOver_10 G1_dueUnder_10 G1_soonOver_10 G1_soonUnder_10 L1_stretch_10 L1_rest_10 L1_forceRise_10 L1_forceStart_10 L1_slipRise_10 L1_slipStart_10 L1_under_10 L1_byFirst_10 L1_byLoad_10 L1_bare_10 L1_scale_10 L1_firstRise_10 L1_firstStart_10 =>
  if r_10 = (0 : Int32) then
    (f_L_borneAt F l2 (Int32.toInt64 l1) L1_forceRise_10 L1_forceStart_10 J1_bolts).bind fun r_28 =>
    bd2 (f_R_fraction F (((Int32.toInt64 l1) * L1_under_10) - r_28) L1_under_10 R_numbers (0 : Int32)) fun R_numbers_67 R_size_67 =>
    bd2 (f_R_fraction F r_28 L1_under_10 R_numbers_67 R_size_67) fun R_numbers_78 R_size_78 =>
    some (r_10, G1_way_10, G1_wayBefore_10, G1_known_10, G1_total_10, G1_kind_10, G1_who_10, G1_over_10, G1_under_10, G1_endOver_10, G1_endUnder_10, G1_dueOver_10, G1_dueUnder_10, G1_soonOver_10, G1_soonUnder_10, L1_stretch_10, L1_rest_10, L1_forceRise_10, L1_forceStart_10, L1_slipRise_10, L1_slipStart_10, L1_under_10, L1_byFirst_10, L1_byLoad_10, L1_bare_10, L1_scale_10, L1_firstRise_10, L1_firstStart_10, R_numbers_78, R_size_78)
  else
    some (r_10, G1_way_10, G1_wayBefore_10, G1_known_10, G1_total_10, G1_kind_10, G1_who_10, G1_over_10, G1_under_10, G1_endOver_10, G1_endUnder_10, G1_dueOver_10, G1_dueUnder_10, G1_soonOver_10, G1_soonUnder_10, L1_stretch_10, L1_rest_10, L1_forceRise_10, L1_forceStart_10, L1_slipRise_10, L1_slipStart_10, L1_under_10, L1_byFirst_10, L1_byLoad_10, L1_bare_10, L1_scale_10, L1_firstRise_10, L1_firstStart_10, R_numbers, R_size)
noncomputable def fb_X_stretch_43 (F : Nat) (l1 : Int32) (L1_forceRise : Nat → Int64) (L1_forceStart : Nat → Int64) (J1_pitches : Nat → Int32) (J1_bolts : Int32) (J1_lower : Int32) (l3 : Int64) (l5 : Int32) : Option ((Int64 × Int32) ⊕ (Int64)) :=
  if J1_bolts ≤ (l5 + (1 : Int32)) then
    some (.inr l3)
  else
    (ldA J1_pitches 5 l5).bind fun v_74 =>
    (f_L_borneAt F l5 (Int32.toInt64 l1) L1_forceRise L1_forceStart J1_bolts).bind fun r_88 =>
    nm (l3 + ((Int32.toInt64 (J1_lower * v_74)) * r_88)) fun l3_93 =>
    nm (l5 + (1 : Int32)) fun l5_94 =>
    some (.inl (l3_93, l5_94))
noncomputable def fj_X_stretch_17 (F : Nat) (l1 : Int32) (s1 : Int32) (s2 : Int32) (G1_way : Nat → Int32) (G1_wayBefore : Nat → Int32) (G1_known : Int32) (G1_total : Int32) (G1_kind : Nat → Int32) (G1_who : Nat → Int32) (G1_over : Nat → Int64) (G1_under : Nat → Int64) (G1_endOver : Int64) (G1_endUnder : Int64) (G1_dueOver : Nat → Int64) (G1_dueUnder : Nat → Int64) (G1_soonOver : Int64) (G1_soonUnder : Int64) (L1_stretch : Nat → Int32) (L1_rest : Nat → Int64) (L1_forceRise : Nat → Int64) (L1_forceStart : Nat → Int64) (L1_slipRise : Nat → Int64) (L1_slipStart : Nat → Int64) (L1_under : Int64) (L1_byFirst : Nat → Int64) (L1_byLoad : Nat → Int64) (L1_bare : Nat → Int64) (L1_scale : Nat → Int64) (L1_firstRise : Int64) (L1_firstStart : Int64) (J1_give : Nat → Int32) (J1_clear : Nat → Int32) (J1_yieldAt : Nat → Int32) (J1_soft : Nat → Int32) (J1_breakAt : Nat → Int32) (J1_out : Nat → Int32) (J1_pitches : Nat → Int32) (J1_bolts : Int32) (J1_upper : Int32) (J1_lower : Int32) (R_numbers : Nat → Int64) (R_size : Int32) : Option (Int32 × (Nat → Int32) × (Nat → Int32) × Int32 × Int32 × (Nat → Int32) × (Nat → Int32) × (Nat → Int64) × (Nat → Int64) × Int64 × Int64 × (Nat → Int64) × (Nat → Int64) × Int64 × Int64 × (Nat → Int32) × (Nat → Int64) × (Nat → Int64) × (Nat → Int64) × (Nat → Int64) × (Nat → Int64) × Int64 × (Nat → Int64) × (Nat → Int64) × (Nat → Int64) × (Nat → Int64) × Int64 × Int64 × (Nat → Int64) × Int32) :=
  bd28 (f_X_come F s1 s2 G1_way G1_wayBefore G1_known G1_total G1_kind G1_who G1_over G1_under G1_endOver G1_endUnder G1_dueOver G1_dueUnder G1_soonOver G1_soonUnder L1_stretch L1_rest L1_forceRise L1_forceStart L1_slipRise L1_slipStart L1_under L1_byFirst L1_byLoad L1_bare L1_scale L1_firstRise L1_firstStart J1_give J1_clear J1_yieldAt J1_soft J1_breakAt J1_out J1_pitches J1_bolts J1_upper J1_lower) fun r_17 G1_way_17 G1_wayBefore_17 G1_known_17 G1_total_17 G1_kind_17 G1_who_17 G1_over_17 G1_under_17 G1_endOver_17 G1_endUnder_17 G1_dueOver_17 G1_dueUnder_17 G1_soonOver_17 G1_soonUnder_17 L1_stretch_17 L1_rest_17 L1_forceRise_17 L1_forceStart_17 L1_slipRise_17 L1_slipStart_17 L1_under_17 L1_byFirst_17 L1_byLoad_17 L1_bare_17 L1_scale_17 L1_firstRise_17 L1_firstStart_17 =>
  if r_17 = (0 : Int32) then
    (f_L_slipAt (0 : Int32) (Int32.toInt64 l1) (1 : Int64) L1_slipRise_17 L1_slipStart_17).bind fun r_36 =>
    (iter (un2 (fb_X_stretch_43 F l1 L1_forceRise_17 L1_forceStart_17 J1_pitches J1_bolts J1_lower)) F (r_36, (0 : Int32))).bind fun l3_43 =>
    bd2 (f_R_fraction F l3_43 L1_under_17 R_numbers (0 : Int32)) fun R_numbers_123 R_size_123 =>
    some (r_17, G1_way_17, G1_wayBefore_17, G1_known_17, G1_total_17, G1_kind_17, G1_who_17, G1_over_17, G1_under_17, G1_endOver_17, G1_endUnder_17, G1_dueOver_17, G1_dueUnder_17, G1_soonOver_17, G1_soonUnder_17, L1_stretch_17, L1_rest_17, L1_forceRise_17, L1_forceStart_17, L1_slipRise_17, L1_slipStart_17, L1_under_17, L1_byFirst_17, L1_byLoad_17, L1_bare_17, L1_scale_17, L1_firstRise_17, L1_firstStart_17, R_numbers_123, R_size_123)
  else
    some (r_17, G1_way_17, G1_wayBefore_17, G1_known_17, G1_total_17, G1_kind_17, G1_who_17, G1_over_17, G1_under_17, G1_endOver_17, G1_endUnder_17, G1_dueOver_17, G1_dueUnder_17, G1_soonOver_17, G1_soonUnder_17, L1_stretch_17, L1_rest_17, L1_forceRise_17, L1_forceStart_17, L1_slipRise_17, L1_slipStart_17, L1_under_17, L1_byFirst_17, L1_byLoad_17, L1_bare_17, L1_scale_17, L1_firstRise_17, L1_firstStart_17, R_numbers, R_size)
noncomputable def f_X_stretch (F : Nat) (l1 : Int32) (G1_way : Nat → Int32) (G1_wayBefore : Nat → Int32) (G1_known : Int32) (G1_total : Int32) (G1_kind : Nat → Int32) (G1_who : Nat → Int32) (G1_over : Nat → Int64) (G1_under : Nat → Int64) (G1_endOver : Int64) (G1_endUnder : Int64) (G1_dueOver : Nat → Int64) (G1_dueUnder : Nat → Int64) (G1_soonOver : Int64) (G1_soonUnder : Int64) (L1_stretch : Nat → Int32) (L1_rest : Nat → Int64) (L1_forceRise : Nat → Int64) (L1_forceStart : Nat → Int64) (L1_slipRise : Nat → Int64) (L1_slipStart : Nat → Int64) (L1_under : Int64) (L1_byFirst : Nat → Int64) (L1_byLoad : Nat → Int64) (L1_bare : Nat → Int64) (L1_scale : Nat → Int64) (L1_firstRise : Int64) (L1_firstStart : Int64) (J1_give : Nat → Int32) (J1_clear : Nat → Int32) (J1_yieldAt : Nat → Int32) (J1_soft : Nat → Int32) (J1_breakAt : Nat → Int32) (J1_out : Nat → Int32) (J1_pitches : Nat → Int32) (J1_bolts : Int32) (J1_upper : Int32) (J1_lower : Int32) (R_numbers : Nat → Int64) (R_size : Int32) : Option (Int32 × (Nat → Int32) × (Nat → Int32) × Int32 × Int32 × (Nat → Int32) × (Nat → Int32) × (Nat → Int64) × (Nat → Int64) × Int64 × Int64 × (Nat → Int64) × (Nat → Int64) × Int64 × Int64 × (Nat → Int32) × (Nat → Int64) × (Nat → Int64) × (Nat → Int64) × (Nat → Int64) × (Nat → Int64) × Int64 × (Nat → Int64) × (Nat → Int64) × (Nat → Int64) × (Nat → Int64) × Int64 × Int64 × (Nat → Int64) × Int32) :=
  if J1_bolts ≤ (0 : Int32) then
    fj_X_stretch_17 F l1 l1 (0 : Int32) G1_way G1_wayBefore G1_known G1_total G1_kind G1_who G1_over G1_under G1_endOver G1_endUnder G1_dueOver G1_dueUnder G1_soonOver G1_soonUnder L1_stretch L1_rest L1_forceRise L1_forceStart L1_slipRise L1_slipStart L1_under L1_byFirst L1_byLoad L1_bare L1_scale L1_firstRise L1_firstStart J1_give J1_clear J1_yieldAt J1_soft J1_breakAt J1_out J1_pitches J1_bolts J1_upper J1_lower R_numbers R_size
  else
    fj_X_stretch_17 F l1 l1 (1 : Int32) G1_way G1_wayBefore G1_known G1_total G1_kind G1_who G1_over G1_under G1_endOver G1_endUnder G1_dueOver G1_dueUnder G1_soonOver G1_soonUnder L1_stretch L1_rest L1_forceRise L1_forceStart L1_slipRise L1_slipStart L1_under L1_byFirst L1_byLoad L1_bare L1_scale L1_firstRise L1_firstStart J1_give J1_clear J1_yieldAt J1_soft J1_breakAt J1_out J1_pitches J1_bolts J1_upper J1_lower R_numbers R_size
noncomputable def f_X_state (F : Nat) (l1 : Int32) (l2 : Int32) (G1_way : Nat → Int32) (G1_wayBefore : Nat → Int32) (G1_known : Int32) (G1_total : Int32) (G1_kind : Nat → Int32) (G1_who : Nat → Int32) (G1_over : Nat → Int64) (G1_under : Nat → Int64) (G1_endOver : Int64) (G1_endUnder : Int64) (G1_dueOver : Nat → Int64) (G1_dueUnder : Nat → Int64) (G1_soonOver : Int64) (G1_soonUnder : Int64) (L1_stretch : Nat → Int32) (L1_rest : Nat → Int64) (L1_forceRise : Nat → Int64) (L1_forceStart : Nat → Int64) (L1_slipRise : Nat → Int64) (L1_slipStart : Nat → Int64) (L1_under : Int64) (L1_byFirst : Nat → Int64) (L1_byLoad : Nat → Int64) (L1_bare : Nat → Int64) (L1_scale : Nat → Int64) (L1_firstRise : Int64) (L1_firstStart : Int64) (J1_give : Nat → Int32) (J1_clear : Nat → Int32) (J1_yieldAt : Nat → Int32) (J1_soft : Nat → Int32) (J1_breakAt : Nat → Int32) (J1_out : Nat → Int32) (J1_pitches : Nat → Int32) (J1_bolts : Int32) (J1_upper : Int32) (J1_lower : Int32) : Option (Int32 × (Nat → Int32) × (Nat → Int32) × Int32 × Int32 × (Nat → Int32) × (Nat → Int32) × (Nat → Int64) × (Nat → Int64) × Int64 × Int64 × (Nat → Int64) × (Nat → Int64) × Int64 × Int64 × (Nat → Int32) × (Nat → Int64) × (Nat → Int64) × (Nat → Int64) × (Nat → Int64) × (Nat → Int64) × Int64 × (Nat → Int64) × (Nat → Int64) × (Nat → Int64) × (Nat → Int64) × Int64 × Int64) :=
  (f_J_has l2 J1_bolts).bind fun r_7 =>
  bd28 (f_X_come F l1 r_7 G1_way G1_wayBefore G1_known G1_total G1_kind G1_who G1_over G1_under G1_endOver G1_endUnder G1_dueOver G1_dueUnder G1_soonOver G1_soonUnder L1_stretch L1_rest L1_forceRise L1_forceStart L1_slipRise L1_slipStart L1_under L1_byFirst L1_byLoad L1_bare L1_scale L1_firstRise L1_firstStart J1_give J1_clear J1_yieldAt J1_soft J1_breakAt J1_out J1_pitches J1_bolts J1_upper J1_lower) fun r_10 G1_way_10 G1_wayBefore_10 G1_known_10 G1_total_10 G1_kind_10 G1_who_10 G1_over_10 G1_under_10 G1_endOver_10 G1_endUnder_10 G1_dueOver_10 G1_dueUnder_10 G1_soonOver_10 G1_soonUnder_10 L1_stretch_10 L1_rest_10 L1_forceRise_10 L1_forceStart_10 L1_slipRise_10 L1_slipStart_10 L1_under_10 L1_byFirst_10 L1_byLoad_10 L1_bare_10 L1_scale_10 L1_firstRise_10 L1_firstStart_10 =>
  if r_10 = (-1 : Int32) then
    some ((-1 : Int32), G1_way_10, G1_wayBefore_10, G1_known_10, G1_total_10, G1_kind_10, G1_who_10, G1_over_10, G1_under_10, G1_endOver_10, G1_endUnder_10, G1_dueOver_10, G1_dueUnder_10, G1_soonOver_10, G1_soonUnder_10, L1_stretch_10, L1_rest_10, L1_forceRise_10, L1_forceStart_10, L1_slipRise_10, L1_slipStart_10, L1_under_10, L1_byFirst_10, L1_byLoad_10, L1_bare_10, L1_scale_10, L1_firstRise_10, L1_firstStart_10)
  else
    (ldA J1_out 5 l2).bind fun v_27 =>
    if v_27 = (0 : Int32) then
      (f_G_leftAfter F l1 G1_total_10 G1_kind_10 G1_who_10 G1_over_10 G1_under_10 J1_out J1_bolts).bind fun r_38 =>
      if ((r_38 >>> (l2 &&& 31)) &&& (1 : Int32)) = (0 : Int32) then
        some ((3 : Int32), G1_way_10, G1_wayBefore_10, G1_known_10, G1_total_10, G1_kind_10, G1_who_10, G1_over_10, G1_under_10, G1_endOver_10, G1_endUnder_10, G1_dueOver_10, G1_dueUnder_10, G1_soonOver_10, G1_soonUnder_10, L1_stretch_10, L1_rest_10, L1_forceRise_10, L1_forceStart_10, L1_slipRise_10, L1_slipStart_10, L1_under_10, L1_byFirst_10, L1_byLoad_10, L1_bare_10, L1_scale_10, L1_firstRise_10, L1_firstStart_10)
      else
        (f_L_forceAt l2 (Int32.toInt64 l1) (1 : Int64) L1_forceRise_10 L1_forceStart_10).bind fun r_61 =>
        if (0 : Int64) < r_61 then
          (ldA J1_yieldAt 5 l2).bind fun v_82 =>
          if ((Int32.toInt64 v_82) * L1_under_10) < r_61 then
            some ((2 : Int32), G1_way_10, G1_wayBefore_10, G1_known_10, G1_total_10, G1_kind_10, G1_who_10, G1_over_10, G1_under_10, G1_endOver_10, G1_endUnder_10, G1_dueOver_10, G1_dueUnder_10, G1_soonOver_10, G1_soonUnder_10, L1_stretch_10, L1_rest_10, L1_forceRise_10, L1_forceStart_10, L1_slipRise_10, L1_slipStart_10, L1_under_10, L1_byFirst_10, L1_byLoad_10, L1_bare_10, L1_scale_10, L1_firstRise_10, L1_firstStart_10)
          else
            some ((1 : Int32), G1_way_10, G1_wayBefore_10, G1_known_10, G1_total_10, G1_kind_10, G1_who_10, G1_over_10, G1_under_10, G1_endOver_10, G1_endUnder_10, G1_dueOver_10, G1_dueUnder_10, G1_soonOver_10, G1_soonUnder_10, L1_stretch_10, L1_rest_10, L1_forceRise_10, L1_forceStart_10, L1_slipRise_10, L1_slipStart_10, L1_under_10, L1_byFirst_10, L1_byLoad_10, L1_bare_10, L1_scale_10, L1_firstRise_10, L1_firstStart_10)
        else
          some ((0 : Int32), G1_way_10, G1_wayBefore_10, G1_known_10, G1_total_10, G1_kind_10, G1_who_10, G1_over_10, G1_under_10, G1_endOver_10, G1_endUnder_10, G1_dueOver_10, G1_dueUnder_10, G1_soonOver_10, G1_soonUnder_10, L1_stretch_10, L1_rest_10, L1_forceRise_10, L1_forceStart_10, L1_slipRise_10, L1_slipStart_10, L1_under_10, L1_byFirst_10, L1_byLoad_10, L1_bare_10, L1_scale_10, L1_firstRise_10, L1_firstStart_10)
    else
      some ((4 : Int32), G1_way_10, G1_wayBefore_10, G1_known_10, G1_total_10, G1_kind_10, G1_who_10, G1_over_10, G1_under_10, G1_endOver_10, G1_endUnder_10, G1_dueOver_10, G1_dueUnder_10, G1_soonOver_10, G1_soonUnder_10, L1_stretch_10, L1_rest_10, L1_forceRise_10, L1_forceStart_10, L1_slipRise_10, L1_slipStart_10, L1_under_10, L1_byFirst_10, L1_byLoad_10, L1_bare_10, L1_scale_10, L1_firstRise_10, L1_firstStart_10)
noncomputable def fj_X_bearingAt_40 (l2 : Int32) (l3 : Int32) : Option ((Int32 × Int32) ⊕ (Int32)) :=
  nm (l3 + (1 : Int32)) fun l3_40 =>
  some (.inl (l2, l3_40))
noncomputable def fb_X_bearingAt_4 (l1 : Int32) (L1_forceRise : Nat → Int64) (L1_forceStart : Nat → Int64) (J1_bolts : Int32) (l2 : Int32) (l3 : Int32) : Option ((Int32 × Int32) ⊕ (Int32)) :=
  if J1_bolts ≤ l3 then
    some (.inr l2)
  else
    (f_L_forceAt l3 (Int32.toInt64 l1) (1 : Int64) L1_forceRise L1_forceStart).bind fun r_26 =>
    if r_26 ≤ (0 : Int64) then
      fj_X_bearingAt_40 l2 l3
    else
      nm (l2 ||| ((1 : Int32) <<< (l3 &&& 31))) fun l2_39 =>
      fj_X_bearingAt_40 l2_39 l3
noncomputable def f_X_bearingAt (F : Nat) (l1 : Int32) (L1_forceRise : Nat → Int64) (L1_forceStart : Nat → Int64) (J1_bolts : Int32) : Option (Int32) :=
  (iter (un2 (fb_X_bearingAt_4 l1 L1_forceRise L1_forceStart J1_bolts)) F ((0 : Int32), (0 : Int32))).bind fun l2_4 =>
  some l2_4
noncomputable def f_X_idle (F : Nat) (l1 : Int32) (G1_way : Nat → Int32) (G1_wayBefore : Nat → Int32) (G1_known : Int32) (G1_total : Int32) (G1_kind : Nat → Int32) (G1_who : Nat → Int32) (G1_over : Nat → Int64) (G1_under : Nat → Int64) (G1_endOver : Int64) (G1_endUnder : Int64) (G1_dueOver : Nat → Int64) (G1_dueUnder : Nat → Int64) (G1_soonOver : Int64) (G1_soonUnder : Int64) (L1_stretch : Nat → Int32) (L1_rest : Nat → Int64) (L1_forceRise : Nat → Int64) (L1_forceStart : Nat → Int64) (L1_slipRise : Nat → Int64) (L1_slipStart : Nat → Int64) (L1_under : Int64) (L1_byFirst : Nat → Int64) (L1_byLoad : Nat → Int64) (L1_bare : Nat → Int64) (L1_scale : Nat → Int64) (L1_firstRise : Int64) (L1_firstStart : Int64) (J1_give : Nat → Int32) (J1_clear : Nat → Int32) (J1_yieldAt : Nat → Int32) (J1_soft : Nat → Int32) (J1_breakAt : Nat → Int32) (J1_out : Nat → Int32) (J1_pitches : Nat → Int32) (J1_bolts : Int32) (J1_upper : Int32) (J1_lower : Int32) (R_numbers : Nat → Int64) (R_size : Int32) : Option (Int32 × (Nat → Int32) × (Nat → Int32) × Int32 × Int32 × (Nat → Int32) × (Nat → Int32) × (Nat → Int64) × (Nat → Int64) × Int64 × Int64 × (Nat → Int64) × (Nat → Int64) × Int64 × Int64 × (Nat → Int32) × (Nat → Int64) × (Nat → Int64) × (Nat → Int64) × (Nat → Int64) × (Nat → Int64) × Int64 × (Nat → Int64) × (Nat → Int64) × (Nat → Int64) × (Nat → Int64) × Int64 × Int64 × (Nat → Int64) × Int32) :=
  bd28 (f_X_come F l1 (1 : Int32) G1_way G1_wayBefore G1_known G1_total G1_kind G1_who G1_over G1_under G1_endOver G1_endUnder G1_dueOver G1_dueUnder G1_soonOver G1_soonUnder L1_stretch L1_rest L1_forceRise L1_forceStart L1_slipRise L1_slipStart L1_under L1_byFirst L1_byLoad L1_bare L1_scale L1_firstRise L1_firstStart J1_give J1_clear J1_yieldAt J1_soft J1_breakAt J1_out J1_pitches J1_bolts J1_upper J1_lower) fun r_3 G1_way_3 G1_wayBefore_3 G1_known_3 G1_total_3 G1_kind_3 G1_who_3 G1_over_3 G1_under_3 G1_endOver_3 G1_endUnder_3 G1_dueOver_3 G1_dueUnder_3 G1_soonOver_3 G1_soonUnder_3 L1_stretch_3 L1_rest_3 L1_forceRise_3 L1_forceStart_3 L1_slipRise_3 L1_slipStart_3 L1_under_3 L1_byFirst_3 L1_byLoad_3 L1_bare_3 L1_scale_3 L1_firstRise_3 L1_firstStart_3 =>
  if r_3 = (-1 : Int32) then
    some ((-1 : Int32), G1_way_3, G1_wayBefore_3, G1_known_3, G1_total_3, G1_kind_3, G1_who_3, G1_over_3, G1_under_3, G1_endOver_3, G1_endUnder_3, G1_dueOver_3, G1_dueUnder_3, G1_soonOver_3, G1_soonUnder_3, L1_stretch_3, L1_rest_3, L1_forceRise_3, L1_forceStart_3, L1_slipRise_3, L1_slipStart_3, L1_under_3, L1_byFirst_3, L1_byLoad_3, L1_bare_3, L1_scale_3, L1_firstRise_3, L1_firstStart_3, R_numbers, R_size)
  else
    (f_G_leftAfter F l1 G1_total_3 G1_kind_3 G1_who_3 G1_over_3 G1_under_3 J1_out J1_bolts).bind fun r_17 =>
    (f_J_soundBits F J1_out J1_bolts).bind fun r_37 =>
    bd2 (f_R_whole (Int32.toInt64 (r_37 &&& (r_17 ^^^ (-1 : Int32)))) R_numbers (0 : Int32)) fun R_numbers_45 R_size_45 =>
    (f_X_bearingAt F l1 L1_forceRise_3 L1_forceStart_3 J1_bolts).bind fun r_51 =>
    some ((r_17 &&& (r_51 ^^^ (-1 : Int32))), G1_way_3, G1_wayBefore_3, G1_known_3, G1_total_3, G1_kind_3, G1_who_3, G1_over_3, G1_under_3, G1_endOver_3, G1_endUnder_3, G1_dueOver_3, G1_dueUnder_3, G1_soonOver_3, G1_soonUnder_3, L1_stretch_3, L1_rest_3, L1_forceRise_3, L1_forceStart_3, L1_slipRise_3, L1_slipStart_3, L1_under_3, L1_byFirst_3, L1_byLoad_3, L1_bare_3, L1_scale_3, L1_firstRise_3, L1_firstStart_3, R_numbers_45, R_size_45)
noncomputable def fj_X_hardest_80 (l3 : Int32) (l4 : Int32) : Option ((Int32 × Int32) ⊕ (Int32)) :=
  nm (l4 + (1 : Int32)) fun l4_80 =>
  some (.inl (l3, l4_80))
noncomputable def fb_X_hardest_32 (l1 : Int32) (L1_forceRise : Nat → Int64) (L1_forceStart : Nat → Int64) (J1_bolts : Int32) (l3 : Int32) (l4 : Int32) : Option ((Int32 × Int32) ⊕ (Int32)) :=
  if J1_bolts ≤ l4 then
    some (.inr l3)
  else
    (f_L_forceAt l4 (Int32.toInt64 l1) (1 : Int64) L1_forceRise L1_forceStart).bind fun r_56 =>
    (f_L_forceAt l3 (Int32.toInt64 l1) (1 : Int64) L1_forceRise L1_forceStart).bind fun r_70 =>
    if r_56 ≤ r_70 then
      fj_X_hardest_80 l3 l4
    else
      fj_X_hardest_80 l4 l4
noncomputable def fj_X_hardest_145 (F : Nat) (l1 : Int32) (l3 : Int32) (s1 : Int64) (G1_way : Nat → Int32) (G1_wayBefore : Nat → Int32) (G1_known : Int32) (G1_total : Int32) (G1_kind : Nat → Int32) (G1_who : Nat → Int32) (G1_over : Nat → Int64) (G1_under : Nat → Int64) (G1_endOver : Int64) (G1_endUnder : Int64) (G1_dueOver : Nat → Int64) (G1_dueUnder : Nat → Int64) (G1_soonOver : Int64) (G1_soonUnder : Int64) (L1_stretch : Nat → Int32) (L1_rest : Nat → Int64) (L1_forceRise : Nat → Int64) (L1_forceStart : Nat → Int64) (L1_slipRise : Nat → Int64) (L1_slipStart : Nat → Int64) (L1_under : Int64) (L1_byFirst : Nat → Int64) (L1_byLoad : Nat → Int64) (L1_bare : Nat → Int64) (L1_scale : Nat → Int64) (L1_firstRise : Int64) (L1_firstStart : Int64) (J1_bolts : Int32) (R_numbers : Nat → Int64) (R_size : Int32) : Option (Int32 × (Nat → Int32) × (Nat → Int32) × Int32 × Int32 × (Nat → Int32) × (Nat → Int32) × (Nat → Int64) × (Nat → Int64) × Int64 × Int64 × (Nat → Int64) × (Nat → Int64) × Int64 × Int64 × (Nat → Int32) × (Nat → Int64) × (Nat → Int64) × (Nat → Int64) × (Nat → Int64) × (Nat → Int64) × Int64 × (Nat → Int64) × (Nat → Int64) × (Nat → Int64) × (Nat → Int64) × Int64 × Int64 × (Nat → Int64) × Int32) :=
  bd2 (f_R_whole s1 R_numbers R_size) fun R_numbers_145 R_size_145 =>
  (f_X_bearingAt F l1 L1_forceRise L1_forceStart J1_bolts).bind fun r_154 =>
  (f_JI_bitCount r_154).bind fun r_157 =>
  bd2 (f_R_whole (Int32.toInt64 r_157) R_numbers_145 R_size_145) fun R_numbers_161 R_size_161 =>
  some (l3, G1_way, G1_wayBefore, G1_known, G1_total, G1_kind, G1_who, G1_over, G1_under, G1_endOver, G1_endUnder, G1_dueOver, G1_dueUnder, G1_soonOver, G1_soonUnder, L1_stretch, L1_rest, L1_forceRise, L1_forceStart, L1_slipRise, L1_slipStart, L1_under, L1_byFirst, L1_byLoad, L1_bare, L1_scale, L1_firstRise, L1_firstStart, R_numbers_161, R_size_161)
noncomputable def fj_X_hardest_17 (F : Nat) (l1 : Int32) (s1 : Int32) (s2 : Int32) (G1_way : Nat → Int32) (G1_wayBefore : Nat → Int32) (G1_known : Int32) (G1_total : Int32) (G1_kind : Nat → Int32) (G1_who : Nat → Int32) (G1_over : Nat → Int64) (G1_under : Nat → Int64) (G1_endOver : Int64) (G1_endUnder : Int64) (G1_dueOver : Nat → Int64) (G1_dueUnder : Nat → Int64) (G1_soonOver : Int64) (G1_soonUnder : Int64) (L1_stretch : Nat → Int32) (L1_rest : Nat → Int64) (L1_forceRise : Nat → Int64) (L1_forceStart : Nat → Int64) (L1_slipRise : Nat → Int64) (L1_slipStart : Nat → Int64) (L1_under : Int64) (L1_byFirst : Nat → Int64) (L1_byLoad : Nat → Int64) (L1_bare : Nat → Int64) (L1_scale : Nat → Int64) (L1_firstRise : Int64) (L1_firstStart : Int64) (J1_give : Nat → Int32) (J1_clear : Nat → Int32) (J1_yieldAt : Nat → Int32) (J1_soft : Nat → Int32) (J1_breakAt : Nat → Int32) (J1_out : Nat → Int32) (J1_pitches : Nat → Int32) (J1_bolts : Int32) (J1_upper : Int32) (J1_lower : Int32) (R_numbers : Nat → Int64) (R_size : Int32) : Option (Int32 × (Nat → Int32) × (Nat → Int32) × Int32 × Int32 × (Nat → Int32) × (Nat → Int32) × (Nat → Int64) × (Nat → Int64) × Int64 × Int64 × (Nat → Int64) × (Nat → Int64) × Int64 × Int64 × (Nat → Int32) × (Nat → Int64) × (Nat → Int64) × (Nat → Int64) × (Nat → Int64) × (Nat → Int64) × Int64 × (Nat → Int64) × (Nat → Int64) × (Nat → Int64) × (Nat → Int64) × Int64 × Int64 × (Nat → Int64) × Int32) :=
  bd28 (f_X_come F s1 s2 G1_way G1_wayBefore G1_known G1_total G1_kind G1_who G1_over G1_under G1_endOver G1_endUnder G1_dueOver G1_dueUnder G1_soonOver G1_soonUnder L1_stretch L1_rest L1_forceRise L1_forceStart L1_slipRise L1_slipStart L1_under L1_byFirst L1_byLoad L1_bare L1_scale L1_firstRise L1_firstStart J1_give J1_clear J1_yieldAt J1_soft J1_breakAt J1_out J1_pitches J1_bolts J1_upper J1_lower) fun r_17 G1_way_17 G1_wayBefore_17 G1_known_17 G1_total_17 G1_kind_17 G1_who_17 G1_over_17 G1_under_17 G1_endOver_17 G1_endUnder_17 G1_dueOver_17 G1_dueUnder_17 G1_soonOver_17 G1_soonUnder_17 L1_stretch_17 L1_rest_17 L1_forceRise_17 L1_forceStart_17 L1_slipRise_17 L1_slipStart_17 L1_under_17 L1_byFirst_17 L1_byLoad_17 L1_bare_17 L1_scale_17 L1_firstRise_17 L1_firstStart_17 =>
  if (0 : Int32) ≤ r_17 then
    (iter (un2 (fb_X_hardest_32 l1 L1_forceRise_17 L1_forceStart_17 J1_bolts)) F ((0 : Int32), (1 : Int32))).bind fun l3_32 =>
    nm ((Int32.toInt64 l1) * L1_under_17) fun l4_99 =>
    if l4_99 = (0 : Int64) then
      fj_X_hardest_145 F l1 l3_32 (0 : Int64) G1_way_17 G1_wayBefore_17 G1_known_17 G1_total_17 G1_kind_17 G1_who_17 G1_over_17 G1_under_17 G1_endOver_17 G1_endUnder_17 G1_dueOver_17 G1_dueUnder_17 G1_soonOver_17 G1_soonUnder_17 L1_stretch_17 L1_rest_17 L1_forceRise_17 L1_forceStart_17 L1_slipRise_17 L1_slipStart_17 L1_under_17 L1_byFirst_17 L1_byLoad_17 L1_bare_17 L1_scale_17 L1_firstRise_17 L1_firstStart_17 J1_bolts R_numbers (0 : Int32)
    else
      (f_L_forceAt l3_32 (Int32.toInt64 l1) (1 : Int64) L1_forceRise_17 L1_forceStart_17).bind fun r_138 =>
      (dvL ((1000 : Int64) * r_138) l4_99).bind fun v_144 =>
      fj_X_hardest_145 F l1 l3_32 v_144 G1_way_17 G1_wayBefore_17 G1_known_17 G1_total_17 G1_kind_17 G1_who_17 G1_over_17 G1_under_17 G1_endOver_17 G1_endUnder_17 G1_dueOver_17 G1_dueUnder_17 G1_soonOver_17 G1_soonUnder_17 L1_stretch_17 L1_rest_17 L1_forceRise_17 L1_forceStart_17 L1_slipRise_17 L1_slipStart_17 L1_under_17 L1_byFirst_17 L1_byLoad_17 L1_bare_17 L1_scale_17 L1_firstRise_17 L1_firstStart_17 J1_bolts R_numbers (0 : Int32)
  else
    some (r_17, G1_way_17, G1_wayBefore_17, G1_known_17, G1_total_17, G1_kind_17, G1_who_17, G1_over_17, G1_under_17, G1_endOver_17, G1_endUnder_17, G1_dueOver_17, G1_dueUnder_17, G1_soonOver_17, G1_soonUnder_17, L1_stretch_17, L1_rest_17, L1_forceRise_17, L1_forceStart_17, L1_slipRise_17, L1_slipStart_17, L1_under_17, L1_byFirst_17, L1_byLoad_17, L1_bare_17, L1_scale_17, L1_firstRise_17, L1_firstStart_17, R_numbers, R_size)
noncomputable def f_X_hardest (F : Nat) (l1 : Int32) (G1_way : Nat → Int32) (G1_wayBefore : Nat → Int32) (G1_known : Int32) (G1_total : Int32) (G1_kind : Nat → Int32) (G1_who : Nat → Int32) (G1_over : Nat → Int64) (G1_under : Nat → Int64) (G1_endOver : Int64) (G1_endUnder : Int64) (G1_dueOver : Nat → Int64) (G1_dueUnder : Nat → Int64) (G1_soonOver : Int64) (G1_soonUnder : Int64) (L1_stretch : Nat → Int32) (L1_rest : Nat → Int64) (L1_forceRise : Nat → Int64) (L1_forceStart : Nat → Int64) (L1_slipRise : Nat → Int64) (L1_slipStart : Nat → Int64) (L1_under : Int64) (L1_byFirst : Nat → Int64) (L1_byLoad : Nat → Int64) (L1_bare : Nat → Int64) (L1_scale : Nat → Int64) (L1_firstRise : Int64) (L1_firstStart : Int64) (J1_give : Nat → Int32) (J1_clear : Nat → Int32) (J1_yieldAt : Nat → Int32) (J1_soft : Nat → Int32) (J1_breakAt : Nat → Int32) (J1_out : Nat → Int32) (J1_pitches : Nat → Int32) (J1_bolts : Int32) (J1_upper : Int32) (J1_lower : Int32) (R_numbers : Nat → Int64) (R_size : Int32) : Option (Int32 × (Nat → Int32) × (Nat → Int32) × Int32 × Int32 × (Nat → Int32) × (Nat → Int32) × (Nat → Int64) × (Nat → Int64) × Int64 × Int64 × (Nat → Int64) × (Nat → Int64) × Int64 × Int64 × (Nat → Int32) × (Nat → Int64) × (Nat → Int64) × (Nat → Int64) × (Nat → Int64) × (Nat → Int64) × Int64 × (Nat → Int64) × (Nat → Int64) × (Nat → Int64) × (Nat → Int64) × Int64 × Int64 × (Nat → Int64) × Int32) :=
  if J1_bolts ≤ (0 : Int32) then
    fj_X_hardest_17 F l1 l1 (0 : Int32) G1_way G1_wayBefore G1_known G1_total G1_kind G1_who G1_over G1_under G1_endOver G1_endUnder G1_dueOver G1_dueUnder G1_soonOver G1_soonUnder L1_stretch L1_rest L1_forceRise L1_forceStart L1_slipRise L1_slipStart L1_under L1_byFirst L1_byLoad L1_bare L1_scale L1_firstRise L1_firstStart J1_give J1_clear J1_yieldAt J1_soft J1_breakAt J1_out J1_pitches J1_bolts J1_upper J1_lower R_numbers R_size
  else
    fj_X_hardest_17 F l1 l1 (1 : Int32) G1_way G1_wayBefore G1_known G1_total G1_kind G1_who G1_over G1_under G1_endOver G1_endUnder G1_dueOver G1_dueUnder G1_soonOver G1_soonUnder L1_stretch L1_rest L1_forceRise L1_forceStart L1_slipRise L1_slipStart L1_under L1_byFirst L1_byLoad L1_bare L1_scale L1_firstRise L1_firstStart J1_give J1_clear J1_yieldAt J1_soft J1_breakAt J1_out J1_pitches J1_bolts J1_upper J1_lower R_numbers R_size
noncomputable def fb_X_margin_27 (l1 : Int32) (G1_total : Int32) (G1_over : Nat → Int64) (G1_under : Nat → Int64) (l3 : Int32) : Option ((Int32) ⊕ (Int32)) :=
  if (G1_total - (1 : Int32)) ≤ l3 then
    some (.inr l3)
  else
    (ldA G1_over 15 l3).bind fun v_48 =>
    (ldA G1_under 15 l3).bind fun v_59 =>
    if ((Int32.toInt64 l1) * v_59) < v_48 then
      some (.inr l3)
    else
      nm (l3 + (1 : Int32)) fun l3_65 =>
      some (.inl l3_65)
noncomputable def fj_X_margin_71 (F : Nat) (l1 : Int32) (l2 : Int32) (l3 : Int32) (G1_way : Nat → Int32) (G1_wayBefore : Nat → Int32) (G1_known : Int32) (G1_total : Int32) (G1_kind : Nat → Int32) (G1_who : Nat → Int32) (G1_over : Nat → Int64) (G1_under : Nat → Int64) (G1_endOver : Int64) (G1_endUnder : Int64) (G1_dueOver : Nat → Int64) (G1_dueUnder : Nat → Int64) (G1_soonOver : Int64) (G1_soonUnder : Int64) (L1_stretch : Nat → Int32) (L1_rest : Nat → Int64) (L1_forceRise : Nat → Int64) (L1_forceStart : Nat → Int64) (L1_slipRise : Nat → Int64) (L1_slipStart : Nat → Int64) (L1_under : Int64) (L1_byFirst : Nat → Int64) (L1_byLoad : Nat → Int64) (L1_bare : Nat → Int64) (L1_scale : Nat → Int64) (L1_firstRise : Int64) (L1_firstStart : Int64) (R_numbers : Nat → Int64) : Option (Int32 × (Nat → Int32) × (Nat → Int32) × Int32 × Int32 × (Nat → Int32) × (Nat → Int32) × (Nat → Int64) × (Nat → Int64) × Int64 × Int64 × (Nat → Int64) × (Nat → Int64) × Int64 × Int64 × (Nat → Int32) × (Nat → Int64) × (Nat → Int64) × (Nat → Int64) × (Nat → Int64) × (Nat → Int64) × Int64 × (Nat → Int64) × (Nat → Int64) × (Nat → Int64) × (Nat → Int64) × Int64 × Int64 × (Nat → Int64) × Int32) :=
  (ldA G1_over 15 l3).bind fun v_91 =>
  (ldA G1_under 15 l3).bind fun v_102 =>
  (ldA G1_under 15 l3).bind fun v_113 =>
  bd2 (f_R_fraction F (v_91 - ((Int32.toInt64 l1) * v_102)) v_113 R_numbers (0 : Int32)) fun R_numbers_114 R_size_114 =>
  (ldA G1_kind 15 l3).bind fun v_129 =>
  bd2 (f_R_whole (Int32.toInt64 v_129) R_numbers_114 R_size_114) fun R_numbers_131 R_size_131 =>
  (ldA G1_who 15 l3).bind fun v_146 =>
  bd2 (f_R_whole (Int32.toInt64 v_146) R_numbers_131 R_size_131) fun R_numbers_148 R_size_148 =>
  some (l2, G1_way, G1_wayBefore, G1_known, G1_total, G1_kind, G1_who, G1_over, G1_under, G1_endOver, G1_endUnder, G1_dueOver, G1_dueUnder, G1_soonOver, G1_soonUnder, L1_stretch, L1_rest, L1_forceRise, L1_forceStart, L1_slipRise, L1_slipStart, L1_under, L1_byFirst, L1_byLoad, L1_bare, L1_scale, L1_firstRise, L1_firstStart, R_numbers_148, R_size_148)
noncomputable def fj_X_margin_17 (F : Nat) (l1 : Int32) (s1 : Int32) (s2 : Int32) (G1_way : Nat → Int32) (G1_wayBefore : Nat → Int32) (G1_known : Int32) (G1_total : Int32) (G1_kind : Nat → Int32) (G1_who : Nat → Int32) (G1_over : Nat → Int64) (G1_under : Nat → Int64) (G1_endOver : Int64) (G1_endUnder : Int64) (G1_dueOver : Nat → Int64) (G1_dueUnder : Nat → Int64) (G1_soonOver : Int64) (G1_soonUnder : Int64) (L1_stretch : Nat → Int32) (L1_rest : Nat → Int64) (L1_forceRise : Nat → Int64) (L1_forceStart : Nat → Int64) (L1_slipRise : Nat → Int64) (L1_slipStart : Nat → Int64) (L1_under : Int64) (L1_byFirst : Nat → Int64) (L1_byLoad : Nat → Int64) (L1_bare : Nat → Int64) (L1_scale : Nat → Int64) (L1_firstRise : Int64) (L1_firstStart : Int64) (J1_give : Nat → Int32) (J1_clear : Nat → Int32) (J1_yieldAt : Nat → Int32) (J1_soft : Nat → Int32) (J1_breakAt : Nat → Int32) (J1_out : Nat → Int32) (J1_pitches : Nat → Int32) (J1_bolts : Int32) (J1_upper : Int32) (J1_lower : Int32) (R_numbers : Nat → Int64) (R_size : Int32) : Option (Int32 × (Nat → Int32) × (Nat → Int32) × Int32 × Int32 × (Nat → Int32) × (Nat → Int32) × (Nat → Int64) × (Nat → Int64) × Int64 × Int64 × (Nat → Int64) × (Nat → Int64) × Int64 × Int64 × (Nat → Int32) × (Nat → Int64) × (Nat → Int64) × (Nat → Int64) × (Nat → Int64) × (Nat → Int64) × Int64 × (Nat → Int64) × (Nat → Int64) × (Nat → Int64) × (Nat → Int64) × Int64 × Int64 × (Nat → Int64) × Int32) :=
  bd28 (f_X_come F s1 s2 G1_way G1_wayBefore G1_known G1_total G1_kind G1_who G1_over G1_under G1_endOver G1_endUnder G1_dueOver G1_dueUnder G1_soonOver G1_soonUnder L1_stretch L1_rest L1_forceRise L1_forceStart L1_slipRise L1_slipStart L1_under L1_byFirst L1_byLoad L1_bare L1_scale L1_firstRise L1_firstStart J1_give J1_clear J1_yieldAt J1_soft J1_breakAt J1_out J1_pitches J1_bolts J1_upper J1_lower) fun r_17 G1_way_17 G1_wayBefore_17 G1_known_17 G1_total_17 G1_kind_17 G1_who_17 G1_over_17 G1_under_17 G1_endOver_17 G1_endUnder_17 G1_dueOver_17 G1_dueUnder_17 G1_soonOver_17 G1_soonUnder_17 L1_stretch_17 L1_rest_17 L1_forceRise_17 L1_forceStart_17 L1_slipRise_17 L1_slipStart_17 L1_under_17 L1_byFirst_17 L1_byLoad_17 L1_bare_17 L1_scale_17 L1_firstRise_17 L1_firstStart_17 =>
  if r_17 = (0 : Int32) then
    (iter (fb_X_margin_27 l1 G1_total_17 G1_over_17 G1_under_17) F (0 : Int32)).bind fun l3_27 =>
    fj_X_margin_71 F l1 r_17 l3_27 G1_way_17 G1_wayBefore_17 G1_known_17 G1_total_17 G1_kind_17 G1_who_17 G1_over_17 G1_under_17 G1_endOver_17 G1_endUnder_17 G1_dueOver_17 G1_dueUnder_17 G1_soonOver_17 G1_soonUnder_17 L1_stretch_17 L1_rest_17 L1_forceRise_17 L1_forceStart_17 L1_slipRise_17 L1_slipStart_17 L1_under_17 L1_byFirst_17 L1_byLoad_17 L1_bare_17 L1_scale_17 L1_firstRise_17 L1_firstStart_17 R_numbers
  else
    some (r_17, G1_way_17, G1_wayBefore_17, G1_known_17, G1_total_17, G1_kind_17, G1_who_17, G1_over_17, G1_under_17, G1_endOver_17, G1_endUnder_17, G1_dueOver_17, G1_dueUnder_17, G1_soonOver_17, G1_soonUnder_17, L1_stretch_17, L1_rest_17, L1_forceRise_17, L1_forceStart_17, L1_slipRise_17, L1_slipStart_17, L1_under_17, L1_byFirst_17, L1_byLoad_17, L1_bare_17, L1_scale_17, L1_firstRise_17, L1_firstStart_17, R_numbers, R_size)
noncomputable def f_X_margin (F : Nat) (l1 : Int32) (G1_way : Nat → Int32) (G1_wayBefore : Nat → Int32) (G1_known : Int32) (G1_total : Int32) (G1_kind : Nat → Int32) (G1_who : Nat → Int32) (G1_over : Nat → Int64) (G1_under : Nat → Int64) (G1_endOver : Int64) (G1_endUnder : Int64) (G1_dueOver : Nat → Int64) (G1_dueUnder : Nat → Int64) (G1_soonOver : Int64) (G1_soonUnder : Int64) (L1_stretch : Nat → Int32) (L1_rest : Nat → Int64) (L1_forceRise : Nat → Int64) (L1_forceStart : Nat → Int64) (L1_slipRise : Nat → Int64) (L1_slipStart : Nat → Int64) (L1_under : Int64) (L1_byFirst : Nat → Int64) (L1_byLoad : Nat → Int64) (L1_bare : Nat → Int64) (L1_scale : Nat → Int64) (L1_firstRise : Int64) (L1_firstStart : Int64) (J1_give : Nat → Int32) (J1_clear : Nat → Int32) (J1_yieldAt : Nat → Int32) (J1_soft : Nat → Int32) (J1_breakAt : Nat → Int32) (J1_out : Nat → Int32) (J1_pitches : Nat → Int32) (J1_bolts : Int32) (J1_upper : Int32) (J1_lower : Int32) (R_numbers : Nat → Int64) (R_size : Int32) : Option (Int32 × (Nat → Int32) × (Nat → Int32) × Int32 × Int32 × (Nat → Int32) × (Nat → Int32) × (Nat → Int64) × (Nat → Int64) × Int64 × Int64 × (Nat → Int64) × (Nat → Int64) × Int64 × Int64 × (Nat → Int32) × (Nat → Int64) × (Nat → Int64) × (Nat → Int64) × (Nat → Int64) × (Nat → Int64) × Int64 × (Nat → Int64) × (Nat → Int64) × (Nat → Int64) × (Nat → Int64) × Int64 × Int64 × (Nat → Int64) × Int32) :=
  if J1_bolts ≤ (0 : Int32) then
    fj_X_margin_17 F l1 l1 (0 : Int32) G1_way G1_wayBefore G1_known G1_total G1_kind G1_who G1_over G1_under G1_endOver G1_endUnder G1_dueOver G1_dueUnder G1_soonOver G1_soonUnder L1_stretch L1_rest L1_forceRise L1_forceStart L1_slipRise L1_slipStart L1_under L1_byFirst L1_byLoad L1_bare L1_scale L1_firstRise L1_firstStart J1_give J1_clear J1_yieldAt J1_soft J1_breakAt J1_out J1_pitches J1_bolts J1_upper J1_lower R_numbers R_size
  else
    fj_X_margin_17 F l1 l1 (1 : Int32) G1_way G1_wayBefore G1_known G1_total G1_kind G1_who G1_over G1_under G1_endOver G1_endUnder G1_dueOver G1_dueUnder G1_soonOver G1_soonUnder L1_stretch L1_rest L1_forceRise L1_forceStart L1_slipRise L1_slipStart L1_under L1_byFirst L1_byLoad L1_bare L1_scale L1_firstRise L1_firstStart J1_give J1_clear J1_yieldAt J1_soft J1_breakAt J1_out J1_pitches J1_bolts J1_upper J1_lower R_numbers R_size
noncomputable def f_X_boltWork (l1 : Int32) (l2 : Int32) (L1_forceRise : Nat → Int64) (L1_forceStart : Nat → Int64) (L1_under : Int64) (J1_give : Nat → Int32) (J1_yieldAt : Nat → Int32) (J1_soft : Nat → Int32) : Option (Int64) :=
  (f_L_forceAt l1 (Int32.toInt64 l2) (1 : Int64) L1_forceRise L1_forceStart).bind fun r_11 =>
  (ldA J1_yieldAt 5 l1).bind fun v_23 =>
  nm ((Int32.toInt64 v_23) * L1_under) fun l5_36 =>
  if l5_36 < r_11 then
    (ldA J1_give 5 l1).bind fun v_68 =>
    (ldA J1_soft 5 l1).bind fun v_84 =>
    some ((((Int32.toInt64 v_68) * l5_36) * l5_36) + ((Int32.toInt64 v_84) * ((r_11 * r_11) - (l5_36 * l5_36))))
  else
    (ldA J1_give 5 l1).bind fun v_53 =>
    some (((Int32.toInt64 v_53) * r_11) * r_11)
noncomputable def f_X_plateWork (F : Nat) (l1 : Int32) (l2 : Int32) (L1_forceRise : Nat → Int64) (L1_forceStart : Nat → Int64) (L1_under : Int64) (J1_pitches : Nat → Int32) (J1_bolts : Int32) (J1_upper : Int32) (J1_lower : Int32) : Option (Int64) :=
  (f_J_hasGap l1 J1_bolts).bind fun r_5 =>
  if r_5 = (0 : Int32) then
    some (0 : Int64)
  else
    (f_L_borneAt F l1 (Int32.toInt64 l2) L1_forceRise L1_forceStart J1_bolts).bind fun r_23 =>
    nm (((Int32.toInt64 l2) * L1_under) - r_23) fun l5_42 =>
    (ldA J1_pitches 5 l1).bind fun v_52 =>
    some ((Int32.toInt64 v_52) * ((((Int32.toInt64 J1_upper) * l5_42) * l5_42) + (((Int32.toInt64 J1_lower) * r_23) * r_23)))
noncomputable def fb_X_work_33 (F : Nat) (l1 : Int32) (L1_forceRise : Nat → Int64) (L1_forceStart : Nat → Int64) (L1_under : Int64) (J1_give : Nat → Int32) (J1_yieldAt : Nat → Int32) (J1_soft : Nat → Int32) (J1_pitches : Nat → Int32) (J1_bolts : Int32) (J1_upper : Int32) (J1_lower : Int32) (l3 : Int64) (l5 : Int64) (l7 : Int32) : Option ((Int64 × Int64 × Int32) ⊕ (Int64 × Int64)) :=
  if J1_bolts ≤ l7 then
    some (.inr (l3, l5))
  else
    (f_X_boltWork l7 l1 L1_forceRise L1_forceStart L1_under J1_give J1_yieldAt J1_soft).bind fun r_50 =>
    nm (l3 + r_50) fun l3_54 =>
    (f_X_plateWork F l7 l1 L1_forceRise L1_forceStart L1_under J1_pitches J1_bolts J1_upper J1_lower).bind fun r_61 =>
    nm (l5 + r_61) fun l5_65 =>
    nm (l7 + (1 : Int32)) fun l7_67 =>
    some (.inl (l3_54, l5_65, l7_67))
noncomputable def fj_X_work_17 (F : Nat) (l1 : Int32) (s1 : Int32) (s2 : Int32) (G1_way : Nat → Int32) (G1_wayBefore : Nat → Int32) (G1_known : Int32) (G1_total : Int32) (G1_kind : Nat → Int32) (G1_who : Nat → Int32) (G1_over : Nat → Int64) (G1_under : Nat → Int64) (G1_endOver : Int64) (G1_endUnder : Int64) (G1_dueOver : Nat → Int64) (G1_dueUnder : Nat → Int64) (G1_soonOver : Int64) (G1_soonUnder : Int64) (L1_stretch : Nat → Int32) (L1_rest : Nat → Int64) (L1_forceRise : Nat → Int64) (L1_forceStart : Nat → Int64) (L1_slipRise : Nat → Int64) (L1_slipStart : Nat → Int64) (L1_under : Int64) (L1_byFirst : Nat → Int64) (L1_byLoad : Nat → Int64) (L1_bare : Nat → Int64) (L1_scale : Nat → Int64) (L1_firstRise : Int64) (L1_firstStart : Int64) (J1_give : Nat → Int32) (J1_clear : Nat → Int32) (J1_yieldAt : Nat → Int32) (J1_soft : Nat → Int32) (J1_breakAt : Nat → Int32) (J1_out : Nat → Int32) (J1_pitches : Nat → Int32) (J1_bolts : Int32) (J1_upper : Int32) (J1_lower : Int32) (R_numbers : Nat → Int64) (R_size : Int32) : Option (Int32 × (Nat → Int32) × (Nat → Int32) × Int32 × Int32 × (Nat → Int32) × (Nat → Int32) × (Nat → Int64) × (Nat → Int64) × Int64 × Int64 × (Nat → Int64) × (Nat → Int64) × Int64 × Int64 × (Nat → Int32) × (Nat → Int64) × (Nat → Int64) × (Nat → Int64) × (Nat → Int64) × (Nat → Int64) × Int64 × (Nat → Int64) × (Nat → Int64) × (Nat → Int64) × (Nat → Int64) × Int64 × Int64 × (Nat → Int64) × Int32) :=
  bd28 (f_X_come F s1 s2 G1_way G1_wayBefore G1_known G1_total G1_kind G1_who G1_over G1_under G1_endOver G1_endUnder G1_dueOver G1_dueUnder G1_soonOver G1_soonUnder L1_stretch L1_rest L1_forceRise L1_forceStart L1_slipRise L1_slipStart L1_under L1_byFirst L1_byLoad L1_bare L1_scale L1_firstRise L1_firstStart J1_give J1_clear J1_yieldAt J1_soft J1_breakAt J1_out J1_pitches J1_bolts J1_upper J1_lower) fun r_17 G1_way_17 G1_wayBefore_17 G1_known_17 G1_total_17 G1_kind_17 G1_who_17 G1_over_17 G1_under_17 G1_endOver_17 G1_endUnder_17 G1_dueOver_17 G1_dueUnder_17 G1_soonOver_17 G1_soonUnder_17 L1_stretch_17 L1_rest_17 L1_forceRise_17 L1_forceStart_17 L1_slipRise_17 L1_slipStart_17 L1_under_17 L1_byFirst_17 L1_byLoad_17 L1_bare_17 L1_scale_17 L1_firstRise_17 L1_firstStart_17 =>
  if r_17 = (0 : Int32) then
    bd2 (iter (un3 (fb_X_work_33 F l1 L1_forceRise_17 L1_forceStart_17 L1_under_17 J1_give J1_yieldAt J1_soft J1_pitches J1_bolts J1_upper J1_lower)) F ((0 : Int64), (0 : Int64), (0 : Int32))) fun l3_33 l5_33 =>
    nm (L1_under_17 * L1_under_17) fun l7_94 =>
    bd2 (f_R_fraction F l3_33 l7_94 R_numbers (0 : Int32)) fun R_numbers_111 R_size_111 =>
    bd2 (f_R_fraction F l5_33 l7_94 R_numbers_111 R_size_111) fun R_numbers_122 R_size_122 =>
    some (r_17, G1_way_17, G1_wayBefore_17, G1_known_17, G1_total_17, G1_kind_17, G1_who_17, G1_over_17, G1_under_17, G1_endOver_17, G1_endUnder_17, G1_dueOver_17, G1_dueUnder_17, G1_soonOver_17, G1_soonUnder_17, L1_stretch_17, L1_rest_17, L1_forceRise_17, L1_forceStart_17, L1_slipRise_17, L1_slipStart_17, L1_under_17, L1_byFirst_17, L1_byLoad_17, L1_bare_17, L1_scale_17, L1_firstRise_17, L1_firstStart_17, R_numbers_122, R_size_122)
  else
    some (r_17, G1_way_17, G1_wayBefore_17, G1_known_17, G1_total_17, G1_kind_17, G1_who_17, G1_over_17, G1_under_17, G1_endOver_17, G1_endUnder_17, G1_dueOver_17, G1_dueUnder_17, G1_soonOver_17, G1_soonUnder_17, L1_stretch_17, L1_rest_17, L1_forceRise_17, L1_forceStart_17, L1_slipRise_17, L1_slipStart_17, L1_under_17, L1_byFirst_17, L1_byLoad_17, L1_bare_17, L1_scale_17, L1_firstRise_17, L1_firstStart_17, R_numbers, R_size)
noncomputable def f_X_work (F : Nat) (l1 : Int32) (G1_way : Nat → Int32) (G1_wayBefore : Nat → Int32) (G1_known : Int32) (G1_total : Int32) (G1_kind : Nat → Int32) (G1_who : Nat → Int32) (G1_over : Nat → Int64) (G1_under : Nat → Int64) (G1_endOver : Int64) (G1_endUnder : Int64) (G1_dueOver : Nat → Int64) (G1_dueUnder : Nat → Int64) (G1_soonOver : Int64) (G1_soonUnder : Int64) (L1_stretch : Nat → Int32) (L1_rest : Nat → Int64) (L1_forceRise : Nat → Int64) (L1_forceStart : Nat → Int64) (L1_slipRise : Nat → Int64) (L1_slipStart : Nat → Int64) (L1_under : Int64) (L1_byFirst : Nat → Int64) (L1_byLoad : Nat → Int64) (L1_bare : Nat → Int64) (L1_scale : Nat → Int64) (L1_firstRise : Int64) (L1_firstStart : Int64) (J1_give : Nat → Int32) (J1_clear : Nat → Int32) (J1_yieldAt : Nat → Int32) (J1_soft : Nat → Int32) (J1_breakAt : Nat → Int32) (J1_out : Nat → Int32) (J1_pitches : Nat → Int32) (J1_bolts : Int32) (J1_upper : Int32) (J1_lower : Int32) (R_numbers : Nat → Int64) (R_size : Int32) : Option (Int32 × (Nat → Int32) × (Nat → Int32) × Int32 × Int32 × (Nat → Int32) × (Nat → Int32) × (Nat → Int64) × (Nat → Int64) × Int64 × Int64 × (Nat → Int64) × (Nat → Int64) × Int64 × Int64 × (Nat → Int32) × (Nat → Int64) × (Nat → Int64) × (Nat → Int64) × (Nat → Int64) × (Nat → Int64) × Int64 × (Nat → Int64) × (Nat → Int64) × (Nat → Int64) × (Nat → Int64) × Int64 × Int64 × (Nat → Int64) × Int32) :=
  if J1_bolts ≤ (0 : Int32) then
    fj_X_work_17 F l1 l1 (0 : Int32) G1_way G1_wayBefore G1_known G1_total G1_kind G1_who G1_over G1_under G1_endOver G1_endUnder G1_dueOver G1_dueUnder G1_soonOver G1_soonUnder L1_stretch L1_rest L1_forceRise L1_forceStart L1_slipRise L1_slipStart L1_under L1_byFirst L1_byLoad L1_bare L1_scale L1_firstRise L1_firstStart J1_give J1_clear J1_yieldAt J1_soft J1_breakAt J1_out J1_pitches J1_bolts J1_upper J1_lower R_numbers R_size
  else
    fj_X_work_17 F l1 l1 (1 : Int32) G1_way G1_wayBefore G1_known G1_total G1_kind G1_who G1_over G1_under G1_endOver G1_endUnder G1_dueOver G1_dueUnder G1_soonOver G1_soonUnder L1_stretch L1_rest L1_forceRise L1_forceStart L1_slipRise L1_slipStart L1_under L1_byFirst L1_byLoad L1_bare L1_scale L1_firstRise L1_firstStart J1_give J1_clear J1_yieldAt J1_soft J1_breakAt J1_out J1_pitches J1_bolts J1_upper J1_lower R_numbers R_size
noncomputable def f_X_set (F : Nat) (l1 : Int32) (l2 : Int32) (F_sets : Nat → Int64) (F_unit : Int64) (F_forces : Nat → Int64) (F_left : Int32) (G1_way : Nat → Int32) (G1_wayBefore : Nat → Int32) (G1_known : Int32) (G1_total : Int32) (G1_kind : Nat → Int32) (G1_who : Nat → Int32) (G1_over : Nat → Int64) (G1_under : Nat → Int64) (G1_endOver : Int64) (G1_endUnder : Int64) (G1_dueOver : Nat → Int64) (G1_dueUnder : Nat → Int64) (G1_soonOver : Int64) (G1_soonUnder : Int64) (L1_stretch : Nat → Int32) (L1_rest : Nat → Int64) (L1_forceRise : Nat → Int64) (L1_forceStart : Nat → Int64) (L1_slipRise : Nat → Int64) (L1_slipStart : Nat → Int64) (L1_under : Int64) (L1_byFirst : Nat → Int64) (L1_byLoad : Nat → Int64) (L1_bare : Nat → Int64) (L1_scale : Nat → Int64) (L1_firstRise : Int64) (L1_firstStart : Int64) (J1_give : Nat → Int32) (J1_clear : Nat → Int32) (J1_yieldAt : Nat → Int32) (J1_soft : Nat → Int32) (J1_breakAt : Nat → Int32) (J1_out : Nat → Int32) (J1_pitches : Nat → Int32) (J1_bolts : Int32) (J1_upper : Int32) (J1_lower : Int32) (R_numbers : Nat → Int64) (R_size : Int32) : Option (Int32 × (Nat → Int64) × Int64 × (Nat → Int64) × Int32 × (Nat → Int32) × (Nat → Int32) × Int32 × Int32 × (Nat → Int32) × (Nat → Int32) × (Nat → Int64) × (Nat → Int64) × Int64 × Int64 × (Nat → Int64) × (Nat → Int64) × Int64 × Int64 × (Nat → Int32) × (Nat → Int64) × (Nat → Int64) × (Nat → Int64) × (Nat → Int64) × (Nat → Int64) × Int64 × (Nat → Int64) × (Nat → Int64) × (Nat → Int64) × (Nat → Int64) × Int64 × Int64 × (Nat → Int64) × Int32) :=
  (f_J_has l2 J1_bolts).bind fun r_7 =>
  bd28 (f_X_come F l1 r_7 G1_way G1_wayBefore G1_known G1_total G1_kind G1_who G1_over G1_under G1_endOver G1_endUnder G1_dueOver G1_dueUnder G1_soonOver G1_soonUnder L1_stretch L1_rest L1_forceRise L1_forceStart L1_slipRise L1_slipStart L1_under L1_byFirst L1_byLoad L1_bare L1_scale L1_firstRise L1_firstStart J1_give J1_clear J1_yieldAt J1_soft J1_breakAt J1_out J1_pitches J1_bolts J1_upper J1_lower) fun r_10 G1_way_10 G1_wayBefore_10 G1_known_10 G1_total_10 G1_kind_10 G1_who_10 G1_over_10 G1_under_10 G1_endOver_10 G1_endUnder_10 G1_dueOver_10 G1_dueUnder_10 G1_soonOver_10 G1_soonUnder_10 L1_stretch_10 L1_rest_10 L1_forceRise_10 L1_forceStart_10 L1_slipRise_10 L1_slipStart_10 L1_under_10 L1_byFirst_10 L1_byLoad_10 L1_bare_10 L1_scale_10 L1_firstRise_10 L1_firstStart_10 =>
  if (0 : Int32) ≤ r_10 then
    (f_G_leftAfter F l1 G1_total_10 G1_kind_10 G1_who_10 G1_over_10 G1_under_10 J1_out J1_bolts).bind fun r_25 =>
    if ((r_25 >>> (l2 &&& 31)) &&& (1 : Int32)) = (0 : Int32) then
      some ((-3 : Int32), F_sets, F_unit, F_forces, F_left, G1_way_10, G1_wayBefore_10, G1_known_10, G1_total_10, G1_kind_10, G1_who_10, G1_over_10, G1_under_10, G1_endOver_10, G1_endUnder_10, G1_dueOver_10, G1_dueUnder_10, G1_soonOver_10, G1_soonUnder_10, L1_stretch_10, L1_rest_10, L1_forceRise_10, L1_forceStart_10, L1_slipRise_10, L1_slipStart_10, L1_under_10, L1_byFirst_10, L1_byLoad_10, L1_bare_10, L1_scale_10, L1_firstRise_10, L1_firstStart_10, R_numbers, R_size)
    else
      bd4 (f_F_startFrom F r_25 l1 F_sets F_unit F_forces F_left L1_forceRise_10 L1_forceStart_10 L1_under_10 J1_give J1_clear J1_yieldAt J1_soft J1_bolts) fun F_sets_49 F_unit_49 F_forces_49 F_left_49 =>
      (ldA F_sets_49 5 l2).bind fun v_72 =>
      bd2 (f_R_fraction F v_72 F_unit_49 R_numbers (0 : Int32)) fun R_numbers_80 R_size_80 =>
      some ((0 : Int32), F_sets_49, F_unit_49, F_forces_49, F_left_49, G1_way_10, G1_wayBefore_10, G1_known_10, G1_total_10, G1_kind_10, G1_who_10, G1_over_10, G1_under_10, G1_endOver_10, G1_endUnder_10, G1_dueOver_10, G1_dueUnder_10, G1_soonOver_10, G1_soonUnder_10, L1_stretch_10, L1_rest_10, L1_forceRise_10, L1_forceStart_10, L1_slipRise_10, L1_slipStart_10, L1_under_10, L1_byFirst_10, L1_byLoad_10, L1_bare_10, L1_scale_10, L1_firstRise_10, L1_firstStart_10, R_numbers_80, R_size_80)
  else
    some (r_10, F_sets, F_unit, F_forces, F_left, G1_way_10, G1_wayBefore_10, G1_known_10, G1_total_10, G1_kind_10, G1_who_10, G1_over_10, G1_under_10, G1_endOver_10, G1_endUnder_10, G1_dueOver_10, G1_dueUnder_10, G1_soonOver_10, G1_soonUnder_10, L1_stretch_10, L1_rest_10, L1_forceRise_10, L1_forceStart_10, L1_slipRise_10, L1_slipStart_10, L1_under_10, L1_byFirst_10, L1_byLoad_10, L1_bare_10, L1_scale_10, L1_firstRise_10, L1_firstStart_10, R_numbers, R_size)
noncomputable def fj_X_falls_27 (F : Nat) (l1 : Int32) (l2 : Int32) (l3 : Int32) (s1 : Int32) (s2 : Int32) (F_sets : Nat → Int64) (F_unit : Int64) (F_forces : Nat → Int64) (F_left : Int32) (G1_way : Nat → Int32) (G1_wayBefore : Nat → Int32) (G1_known : Int32) (G1_total : Int32) (G1_kind : Nat → Int32) (G1_who : Nat → Int32) (G1_over : Nat → Int64) (G1_under : Nat → Int64) (G1_endOver : Int64) (G1_endUnder : Int64) (G1_dueOver : Nat → Int64) (G1_dueUnder : Nat → Int64) (G1_soonOver : Int64) (G1_soonUnder : Int64) (L1_stretch : Nat → Int32) (L1_rest : Nat → Int64) (L1_forceRise : Nat → Int64) (L1_forceStart : Nat → Int64) (L1_slipRise : Nat → Int64) (L1_slipStart : Nat → Int64) (L1_under : Int64) (L1_byFirst : Nat → Int64) (L1_byLoad : Nat → Int64) (L1_bare : Nat → Int64) (L1_scale : Nat → Int64) (L1_firstRise : Int64) (L1_firstStart : Int64) (J1_give : Nat → Int32) (J1_clear : Nat → Int32) (J1_yieldAt : Nat → Int32) (J1_soft : Nat → Int32) (J1_breakAt : Nat → Int32) (J1_out : Nat → Int32) (J1_pitches : Nat → Int32) (J1_bolts : Int32) (J1_upper : Int32) (J1_lower : Int32) (R_numbers : Nat → Int64) (R_size : Int32) : Option (Int32 × (Nat → Int64) × Int64 × (Nat → Int64) × Int32 × (Nat → Int32) × (Nat → Int32) × Int32 × Int32 × (Nat → Int32) × (Nat → Int32) × (Nat → Int64) × (Nat → Int64) × Int64 × Int64 × (Nat → Int64) × (Nat → Int64) × Int64 × Int64 × (Nat → Int32) × (Nat → Int64) × (Nat → Int64) × (Nat → Int64) × (Nat → Int64) × (Nat → Int64) × Int64 × (Nat → Int64) × (Nat → Int64) × (Nat → Int64) × (Nat → Int64) × Int64 × Int64 × (Nat → Int64) × Int32) :=
  bd28 (f_X_come F s1 s2 G1_way G1_wayBefore G1_known G1_total G1_kind G1_who G1_over G1_under G1_endOver G1_endUnder G1_dueOver G1_dueUnder G1_soonOver G1_soonUnder L1_stretch L1_rest L1_forceRise L1_forceStart L1_slipRise L1_slipStart L1_under L1_byFirst L1_byLoad L1_bare L1_scale L1_firstRise L1_firstStart J1_give J1_clear J1_yieldAt J1_soft J1_breakAt J1_out J1_pitches J1_bolts J1_upper J1_lower) fun r_27 G1_way_27 G1_wayBefore_27 G1_known_27 G1_total_27 G1_kind_27 G1_who_27 G1_over_27 G1_under_27 G1_endOver_27 G1_endUnder_27 G1_dueOver_27 G1_dueUnder_27 G1_soonOver_27 G1_soonUnder_27 L1_stretch_27 L1_rest_27 L1_forceRise_27 L1_forceStart_27 L1_slipRise_27 L1_slipStart_27 L1_under_27 L1_byFirst_27 L1_byLoad_27 L1_bare_27 L1_scale_27 L1_firstRise_27 L1_firstStart_27 =>
  if r_27 = (0 : Int32) then
    (f_G_leftAfter F l1 G1_total_27 G1_kind_27 G1_who_27 G1_over_27 G1_under_27 J1_out J1_bolts).bind fun r_46 =>
    bd4 (f_F_startFrom F r_46 l1 F_sets F_unit F_forces F_left L1_forceRise_27 L1_forceStart_27 L1_under_27 J1_give J1_clear J1_yieldAt J1_soft J1_bolts) fun F_sets_50 F_unit_50 F_forces_50 F_left_50 =>
    bd13 (f_F_comeTo F l2 F_sets_50 F_unit_50 F_left_50 L1_stretch_27 L1_rest_27 L1_forceRise_27 L1_forceStart_27 L1_slipRise_27 L1_slipStart_27 L1_under_27 L1_byFirst_27 L1_byLoad_27 L1_bare_27 L1_scale_27 L1_firstRise_27 L1_firstStart_27 J1_give J1_pitches J1_bolts J1_upper J1_lower) fun L1_stretch_58 L1_rest_58 L1_forceRise_58 L1_forceStart_58 L1_slipRise_58 L1_slipStart_58 L1_under_58 L1_byFirst_58 L1_byLoad_58 L1_bare_58 L1_scale_58 L1_firstRise_58 L1_firstStart_58 =>
    nm (L1_under_58 * F_unit_50) fun l5_79 =>
    (f_L_forceAt l3 ((Int32.toInt64 l2) * F_unit_50) (1 : Int64) L1_forceRise_58 L1_forceStart_58).bind fun r_112 =>
    bd2 (f_R_fraction F r_112 l5_79 R_numbers (0 : Int32)) fun R_numbers_117 R_size_117 =>
    (f_L_slipAt l3 ((Int32.toInt64 l2) * F_unit_50) (1 : Int64) L1_slipRise_58 L1_slipStart_58).bind fun r_143 =>
    bd2 (f_R_fraction F r_143 l5_79 R_numbers_117 R_size_117) fun R_numbers_148 R_size_148 =>
    some (r_27, F_sets_50, F_unit_50, F_forces_50, F_left_50, G1_way_27, G1_wayBefore_27, G1_known_27, G1_total_27, G1_kind_27, G1_who_27, G1_over_27, G1_under_27, G1_endOver_27, G1_endUnder_27, G1_dueOver_27, G1_dueUnder_27, G1_soonOver_27, G1_soonUnder_27, L1_stretch_58, L1_rest_58, L1_forceRise_58, L1_forceStart_58, L1_slipRise_58, L1_slipStart_58, L1_under_58, L1_byFirst_58, L1_byLoad_58, L1_bare_58, L1_scale_58, L1_firstRise_58, L1_firstStart_58, R_numbers_148, R_size_148)
  else
    some (r_27, F_sets, F_unit, F_forces, F_left, G1_way_27, G1_wayBefore_27, G1_known_27, G1_total_27, G1_kind_27, G1_who_27, G1_over_27, G1_under_27, G1_endOver_27, G1_endUnder_27, G1_dueOver_27, G1_dueUnder_27, G1_soonOver_27, G1_soonUnder_27, L1_stretch_27, L1_rest_27, L1_forceRise_27, L1_forceStart_27, L1_slipRise_27, L1_slipStart_27, L1_under_27, L1_byFirst_27, L1_byLoad_27, L1_bare_27, L1_scale_27, L1_firstRise_27, L1_firstStart_27, R_numbers, R_size)
noncomputable def fj_X_falls_26 (F : Nat) (l1 : Int32) (l2 : Int32) (l3 : Int32) (s1 : Int32) (F_sets : Nat → Int64) (F_unit : Int64) (F_forces : Nat → Int64) (F_left : Int32) (G1_way : Nat → Int32) (G1_wayBefore : Nat → Int32) (G1_known : Int32) (G1_total : Int32) (G1_kind : Nat → Int32) (G1_who : Nat → Int32) (G1_over : Nat → Int64) (G1_under : Nat → Int64) (G1_endOver : Int64) (G1_endUnder : Int64) (G1_dueOver : Nat → Int64) (G1_dueUnder : Nat → Int64) (G1_soonOver : Int64) (G1_soonUnder : Int64) (L1_stretch : Nat → Int32) (L1_rest : Nat → Int64) (L1_forceRise : Nat → Int64) (L1_forceStart : Nat → Int64) (L1_slipRise : Nat → Int64) (L1_slipStart : Nat → Int64) (L1_under : Int64) (L1_byFirst : Nat → Int64) (L1_byLoad : Nat → Int64) (L1_bare : Nat → Int64) (L1_scale : Nat → Int64) (L1_firstRise : Int64) (L1_firstStart : Int64) (J1_give : Nat → Int32) (J1_clear : Nat → Int32) (J1_yieldAt : Nat → Int32) (J1_soft : Nat → Int32) (J1_breakAt : Nat → Int32) (J1_out : Nat → Int32) (J1_pitches : Nat → Int32) (J1_bolts : Int32) (J1_upper : Int32) (J1_lower : Int32) (R_numbers : Nat → Int64) (R_size : Int32) : Option (Int32 × (Nat → Int64) × Int64 × (Nat → Int64) × Int32 × (Nat → Int32) × (Nat → Int32) × Int32 × Int32 × (Nat → Int32) × (Nat → Int32) × (Nat → Int64) × (Nat → Int64) × Int64 × Int64 × (Nat → Int64) × (Nat → Int64) × Int64 × Int64 × (Nat → Int32) × (Nat → Int64) × (Nat → Int64) × (Nat → Int64) × (Nat → Int64) × (Nat → Int64) × Int64 × (Nat → Int64) × (Nat → Int64) × (Nat → Int64) × (Nat → Int64) × Int64 × Int64 × (Nat → Int64) × Int32) :=
  fj_X_falls_27 F l1 l2 l3 s1 (0 : Int32) F_sets F_unit F_forces F_left G1_way G1_wayBefore G1_known G1_total G1_kind G1_who G1_over G1_under G1_endOver G1_endUnder G1_dueOver G1_dueUnder G1_soonOver G1_soonUnder L1_stretch L1_rest L1_forceRise L1_forceStart L1_slipRise L1_slipStart L1_under L1_byFirst L1_byLoad L1_bare L1_scale L1_firstRise L1_firstStart J1_give J1_clear J1_yieldAt J1_soft J1_breakAt J1_out J1_pitches J1_bolts J1_upper J1_lower R_numbers R_size
noncomputable def f_X_falls (F : Nat) (l1 : Int32) (l2 : Int32) (l3 : Int32) (F_sets : Nat → Int64) (F_unit : Int64) (F_forces : Nat → Int64) (F_left : Int32) (G1_way : Nat → Int32) (G1_wayBefore : Nat → Int32) (G1_known : Int32) (G1_total : Int32) (G1_kind : Nat → Int32) (G1_who : Nat → Int32) (G1_over : Nat → Int64) (G1_under : Nat → Int64) (G1_endOver : Int64) (G1_endUnder : Int64) (G1_dueOver : Nat → Int64) (G1_dueUnder : Nat → Int64) (G1_soonOver : Int64) (G1_soonUnder : Int64) (L1_stretch : Nat → Int32) (L1_rest : Nat → Int64) (L1_forceRise : Nat → Int64) (L1_forceStart : Nat → Int64) (L1_slipRise : Nat → Int64) (L1_slipStart : Nat → Int64) (L1_under : Int64) (L1_byFirst : Nat → Int64) (L1_byLoad : Nat → Int64) (L1_bare : Nat → Int64) (L1_scale : Nat → Int64) (L1_firstRise : Int64) (L1_firstStart : Int64) (J1_give : Nat → Int32) (J1_clear : Nat → Int32) (J1_yieldAt : Nat → Int32) (J1_soft : Nat → Int32) (J1_breakAt : Nat → Int32) (J1_out : Nat → Int32) (J1_pitches : Nat → Int32) (J1_bolts : Int32) (J1_upper : Int32) (J1_lower : Int32) (R_numbers : Nat → Int64) (R_size : Int32) : Option (Int32 × (Nat → Int64) × Int64 × (Nat → Int64) × Int32 × (Nat → Int32) × (Nat → Int32) × Int32 × Int32 × (Nat → Int32) × (Nat → Int32) × (Nat → Int64) × (Nat → Int64) × Int64 × Int64 × (Nat → Int64) × (Nat → Int64) × Int64 × Int64 × (Nat → Int32) × (Nat → Int64) × (Nat → Int64) × (Nat → Int64) × (Nat → Int64) × (Nat → Int64) × Int64 × (Nat → Int64) × (Nat → Int64) × (Nat → Int64) × (Nat → Int64) × Int64 × Int64 × (Nat → Int64) × Int32) :=
  (f_X_within l2 (0 : Int32) l1).bind fun r_5 =>
  if r_5 = (0 : Int32) then
    fj_X_falls_26 F l1 l2 l3 l1 F_sets F_unit F_forces F_left G1_way G1_wayBefore G1_known G1_total G1_kind G1_who G1_over G1_under G1_endOver G1_endUnder G1_dueOver G1_dueUnder G1_soonOver G1_soonUnder L1_stretch L1_rest L1_forceRise L1_forceStart L1_slipRise L1_slipStart L1_under L1_byFirst L1_byLoad L1_bare L1_scale L1_firstRise L1_firstStart J1_give J1_clear J1_yieldAt J1_soft J1_breakAt J1_out J1_pitches J1_bolts J1_upper J1_lower R_numbers R_size
  else
    (f_J_has l3 J1_bolts).bind fun r_16 =>
    if r_16 = (0 : Int32) then
      fj_X_falls_26 F l1 l2 l3 l1 F_sets F_unit F_forces F_left G1_way G1_wayBefore G1_known G1_total G1_kind G1_who G1_over G1_under G1_endOver G1_endUnder G1_dueOver G1_dueUnder G1_soonOver G1_soonUnder L1_stretch L1_rest L1_forceRise L1_forceStart L1_slipRise L1_slipStart L1_under L1_byFirst L1_byLoad L1_bare L1_scale L1_firstRise L1_firstStart J1_give J1_clear J1_yieldAt J1_soft J1_breakAt J1_out J1_pitches J1_bolts J1_upper J1_lower R_numbers R_size
    else
      fj_X_falls_27 F l1 l2 l3 l1 (1 : Int32) F_sets F_unit F_forces F_left G1_way G1_wayBefore G1_known G1_total G1_kind G1_who G1_over G1_under G1_endOver G1_endUnder G1_dueOver G1_dueUnder G1_soonOver G1_soonUnder L1_stretch L1_rest L1_forceRise L1_forceStart L1_slipRise L1_slipStart L1_under L1_byFirst L1_byLoad L1_bare L1_scale L1_firstRise L1_firstStart J1_give J1_clear J1_yieldAt J1_soft J1_breakAt J1_out J1_pitches J1_bolts J1_upper J1_lower R_numbers R_size
noncomputable def fj_X_opens_17 (F : Nat) (l1 : Int32) (s1 : Int32) (s2 : Int32) (F_sets : Nat → Int64) (F_unit : Int64) (F_openOver : Int64) (F_openUnder : Int64) (F_forces : Nat → Int64) (F_left : Int32) (G1_way : Nat → Int32) (G1_wayBefore : Nat → Int32) (G1_known : Int32) (G1_total : Int32) (G1_kind : Nat → Int32) (G1_who : Nat → Int32) (G1_over : Nat → Int64) (G1_under : Nat → Int64) (G1_endOver : Int64) (G1_endUnder : Int64) (G1_dueOver : Nat → Int64) (G1_dueUnder : Nat → Int64) (G1_soonOver : Int64) (G1_soonUnder : Int64) (L1_stretch : Nat → Int32) (L1_rest : Nat → Int64) (L1_forceRise : Nat → Int64) (L1_forceStart : Nat → Int64) (L1_slipRise : Nat → Int64) (L1_slipStart : Nat → Int64) (L1_under : Int64) (L1_byFirst : Nat → Int64) (L1_byLoad : Nat → Int64) (L1_bare : Nat → Int64) (L1_scale : Nat → Int64) (L1_firstRise : Int64) (L1_firstStart : Int64) (J1_give : Nat → Int32) (J1_clear : Nat → Int32) (J1_yieldAt : Nat → Int32) (J1_soft : Nat → Int32) (J1_breakAt : Nat → Int32) (J1_out : Nat → Int32) (J1_pitches : Nat → Int32) (J1_bolts : Int32) (J1_upper : Int32) (J1_lower : Int32) (R_numbers : Nat → Int64) (R_size : Int32) : Option (Int32 × (Nat → Int64) × Int64 × Int64 × Int64 × (Nat → Int64) × Int32 × (Nat → Int32) × (Nat → Int32) × Int32 × Int32 × (Nat → Int32) × (Nat → Int32) × (Nat → Int64) × (Nat → Int64) × Int64 × Int64 × (Nat → Int64) × (Nat → Int64) × Int64 × Int64 × (Nat → Int32) × (Nat → Int64) × (Nat → Int64) × (Nat → Int64) × (Nat → Int64) × (Nat → Int64) × Int64 × (Nat → Int64) × (Nat → Int64) × (Nat → Int64) × (Nat → Int64) × Int64 × Int64 × (Nat → Int64) × Int32) :=
  bd28 (f_X_come F s1 s2 G1_way G1_wayBefore G1_known G1_total G1_kind G1_who G1_over G1_under G1_endOver G1_endUnder G1_dueOver G1_dueUnder G1_soonOver G1_soonUnder L1_stretch L1_rest L1_forceRise L1_forceStart L1_slipRise L1_slipStart L1_under L1_byFirst L1_byLoad L1_bare L1_scale L1_firstRise L1_firstStart J1_give J1_clear J1_yieldAt J1_soft J1_breakAt J1_out J1_pitches J1_bolts J1_upper J1_lower) fun r_17 G1_way_17 G1_wayBefore_17 G1_known_17 G1_total_17 G1_kind_17 G1_who_17 G1_over_17 G1_under_17 G1_endOver_17 G1_endUnder_17 G1_dueOver_17 G1_dueUnder_17 G1_soonOver_17 G1_soonUnder_17 L1_stretch_17 L1_rest_17 L1_forceRise_17 L1_forceStart_17 L1_slipRise_17 L1_slipStart_17 L1_under_17 L1_byFirst_17 L1_byLoad_17 L1_bare_17 L1_scale_17 L1_firstRise_17 L1_firstStart_17 =>
  if (0 : Int32) ≤ r_17 then
    (f_G_leftAfter F l1 G1_total_17 G1_kind_17 G1_who_17 G1_over_17 G1_under_17 J1_out J1_bolts).bind fun r_36 =>
    bd4 (f_F_startFrom F r_36 l1 F_sets F_unit F_forces F_left L1_forceRise_17 L1_forceStart_17 L1_under_17 J1_give J1_clear J1_yieldAt J1_soft J1_bolts) fun F_sets_40 F_unit_40 F_forces_40 F_left_40 =>
    (f_X_bearingAt F l1 L1_forceRise_17 L1_forceStart_17 J1_bolts).bind fun r_49 =>
    bd16 (f_F_seekOpening F r_49 l1 F_sets_40 F_unit_40 F_openOver F_openUnder F_forces_40 L1_stretch_17 L1_rest_17 L1_forceRise_17 L1_forceStart_17 L1_slipRise_17 L1_slipStart_17 L1_under_17 L1_byFirst_17 L1_byLoad_17 L1_bare_17 L1_scale_17 L1_firstRise_17 L1_firstStart_17 J1_give J1_pitches J1_bolts J1_upper J1_lower) fun r_53 F_openOver_53 F_openUnder_53 L1_stretch_53 L1_rest_53 L1_forceRise_53 L1_forceStart_53 L1_slipRise_53 L1_slipStart_53 L1_under_53 L1_byFirst_53 L1_byLoad_53 L1_bare_53 L1_scale_53 L1_firstRise_53 L1_firstStart_53 =>
    if (0 : Int32) ≤ r_53 then
      bd2 (f_R_fraction F F_openOver_53 F_openUnder_53 R_numbers (0 : Int32)) fun R_numbers_90 R_size_90 =>
      some (r_53, F_sets_40, F_unit_40, F_openOver_53, F_openUnder_53, F_forces_40, F_left_40, G1_way_17, G1_wayBefore_17, G1_known_17, G1_total_17, G1_kind_17, G1_who_17, G1_over_17, G1_under_17, G1_endOver_17, G1_endUnder_17, G1_dueOver_17, G1_dueUnder_17, G1_soonOver_17, G1_soonUnder_17, L1_stretch_53, L1_rest_53, L1_forceRise_53, L1_forceStart_53, L1_slipRise_53, L1_slipStart_53, L1_under_53, L1_byFirst_53, L1_byLoad_53, L1_bare_53, L1_scale_53, L1_firstRise_53, L1_firstStart_53, R_numbers_90, R_size_90)
    else
      some ((-3 : Int32), F_sets_40, F_unit_40, F_openOver_53, F_openUnder_53, F_forces_40, F_left_40, G1_way_17, G1_wayBefore_17, G1_known_17, G1_total_17, G1_kind_17, G1_who_17, G1_over_17, G1_under_17, G1_endOver_17, G1_endUnder_17, G1_dueOver_17, G1_dueUnder_17, G1_soonOver_17, G1_soonUnder_17, L1_stretch_53, L1_rest_53, L1_forceRise_53, L1_forceStart_53, L1_slipRise_53, L1_slipStart_53, L1_under_53, L1_byFirst_53, L1_byLoad_53, L1_bare_53, L1_scale_53, L1_firstRise_53, L1_firstStart_53, R_numbers, R_size)
  else
    some (r_17, F_sets, F_unit, F_openOver, F_openUnder, F_forces, F_left, G1_way_17, G1_wayBefore_17, G1_known_17, G1_total_17, G1_kind_17, G1_who_17, G1_over_17, G1_under_17, G1_endOver_17, G1_endUnder_17, G1_dueOver_17, G1_dueUnder_17, G1_soonOver_17, G1_soonUnder_17, L1_stretch_17, L1_rest_17, L1_forceRise_17, L1_forceStart_17, L1_slipRise_17, L1_slipStart_17, L1_under_17, L1_byFirst_17, L1_byLoad_17, L1_bare_17, L1_scale_17, L1_firstRise_17, L1_firstStart_17, R_numbers, R_size)
noncomputable def f_X_opens (F : Nat) (l1 : Int32) (F_sets : Nat → Int64) (F_unit : Int64) (F_openOver : Int64) (F_openUnder : Int64) (F_forces : Nat → Int64) (F_left : Int32) (G1_way : Nat → Int32) (G1_wayBefore : Nat → Int32) (G1_known : Int32) (G1_total : Int32) (G1_kind : Nat → Int32) (G1_who : Nat → Int32) (G1_over : Nat → Int64) (G1_under : Nat → Int64) (G1_endOver : Int64) (G1_endUnder : Int64) (G1_dueOver : Nat → Int64) (G1_dueUnder : Nat → Int64) (G1_soonOver : Int64) (G1_soonUnder : Int64) (L1_stretch : Nat → Int32) (L1_rest : Nat → Int64) (L1_forceRise : Nat → Int64) (L1_forceStart : Nat → Int64) (L1_slipRise : Nat → Int64) (L1_slipStart : Nat → Int64) (L1_under : Int64) (L1_byFirst : Nat → Int64) (L1_byLoad : Nat → Int64) (L1_bare : Nat → Int64) (L1_scale : Nat → Int64) (L1_firstRise : Int64) (L1_firstStart : Int64) (J1_give : Nat → Int32) (J1_clear : Nat → Int32) (J1_yieldAt : Nat → Int32) (J1_soft : Nat → Int32) (J1_breakAt : Nat → Int32) (J1_out : Nat → Int32) (J1_pitches : Nat → Int32) (J1_bolts : Int32) (J1_upper : Int32) (J1_lower : Int32) (R_numbers : Nat → Int64) (R_size : Int32) : Option (Int32 × (Nat → Int64) × Int64 × Int64 × Int64 × (Nat → Int64) × Int32 × (Nat → Int32) × (Nat → Int32) × Int32 × Int32 × (Nat → Int32) × (Nat → Int32) × (Nat → Int64) × (Nat → Int64) × Int64 × Int64 × (Nat → Int64) × (Nat → Int64) × Int64 × Int64 × (Nat → Int32) × (Nat → Int64) × (Nat → Int64) × (Nat → Int64) × (Nat → Int64) × (Nat → Int64) × Int64 × (Nat → Int64) × (Nat → Int64) × (Nat → Int64) × (Nat → Int64) × Int64 × Int64 × (Nat → Int64) × Int32) :=
  if J1_bolts ≤ (0 : Int32) then
    fj_X_opens_17 F l1 l1 (0 : Int32) F_sets F_unit F_openOver F_openUnder F_forces F_left G1_way G1_wayBefore G1_known G1_total G1_kind G1_who G1_over G1_under G1_endOver G1_endUnder G1_dueOver G1_dueUnder G1_soonOver G1_soonUnder L1_stretch L1_rest L1_forceRise L1_forceStart L1_slipRise L1_slipStart L1_under L1_byFirst L1_byLoad L1_bare L1_scale L1_firstRise L1_firstStart J1_give J1_clear J1_yieldAt J1_soft J1_breakAt J1_out J1_pitches J1_bolts J1_upper J1_lower R_numbers R_size
  else
    fj_X_opens_17 F l1 l1 (1 : Int32) F_sets F_unit F_openOver F_openUnder F_forces F_left G1_way G1_wayBefore G1_known G1_total G1_kind G1_who G1_over G1_under G1_endOver G1_endUnder G1_dueOver G1_dueUnder G1_soonOver G1_soonUnder L1_stretch L1_rest L1_forceRise L1_forceStart L1_slipRise L1_slipStart L1_under L1_byFirst L1_byLoad L1_bare L1_scale L1_firstRise L1_firstStart J1_give J1_clear J1_yieldAt J1_soft J1_breakAt J1_out J1_pitches J1_bolts J1_upper J1_lower R_numbers R_size
noncomputable def fb_X_events_17 (F : Nat) (G1_total : Int32) (G1_kind : Nat → Int32) (l1 : Int32) (R_numbers : Nat → Int64) (R_size : Int32) : Option ((Int32 × (Nat → Int64) × Int32) ⊕ ((Nat → Int64) × Int32)) :=
  if (3 : Int32) ≤ l1 then
    some (.inr (R_numbers, R_size))
  else
    (f_G_countOf F l1 G1_total G1_kind).bind fun r_31 =>
    bd2 (f_R_whole (Int32.toInt64 r_31) R_numbers R_size) fun R_numbers_35 R_size_35 =>
    nm (l1 + (1 : Int32)) fun l1_38 =>
    some (.inl (l1_38, R_numbers_35, R_size_35))
noncomputable def f_X_events (F : Nat) (G1_way : Nat → Int32) (G1_wayBefore : Nat → Int32) (G1_known : Int32) (G1_total : Int32) (G1_kind : Nat → Int32) (G1_who : Nat → Int32) (G1_over : Nat → Int64) (G1_under : Nat → Int64) (G1_endOver : Int64) (G1_endUnder : Int64) (G1_dueOver : Nat → Int64) (G1_dueUnder : Nat → Int64) (G1_soonOver : Int64) (G1_soonUnder : Int64) (L1_stretch : Nat → Int32) (L1_rest : Nat → Int64) (L1_forceRise : Nat → Int64) (L1_forceStart : Nat → Int64) (L1_slipRise : Nat → Int64) (L1_slipStart : Nat → Int64) (L1_under : Int64) (L1_byFirst : Nat → Int64) (L1_byLoad : Nat → Int64) (L1_bare : Nat → Int64) (L1_scale : Nat → Int64) (L1_firstRise : Int64) (L1_firstStart : Int64) (J1_give : Nat → Int32) (J1_clear : Nat → Int32) (J1_yieldAt : Nat → Int32) (J1_soft : Nat → Int32) (J1_breakAt : Nat → Int32) (J1_out : Nat → Int32) (J1_pitches : Nat → Int32) (J1_bolts : Int32) (J1_upper : Int32) (J1_lower : Int32) (R_numbers : Nat → Int64) (R_size : Int32) : Option (Int32 × (Nat → Int32) × (Nat → Int32) × Int32 × Int32 × (Nat → Int32) × (Nat → Int32) × (Nat → Int64) × (Nat → Int64) × Int64 × Int64 × (Nat → Int64) × (Nat → Int64) × Int64 × Int64 × (Nat → Int32) × (Nat → Int64) × (Nat → Int64) × (Nat → Int64) × (Nat → Int64) × (Nat → Int64) × Int64 × (Nat → Int64) × (Nat → Int64) × (Nat → Int64) × (Nat → Int64) × Int64 × Int64 × (Nat → Int64) × Int32) :=
  bd27 (f_G_run F G1_way G1_wayBefore G1_known G1_total G1_kind G1_who G1_over G1_under G1_endOver G1_endUnder G1_dueOver G1_dueUnder G1_soonOver G1_soonUnder L1_stretch L1_rest L1_forceRise L1_forceStart L1_slipRise L1_slipStart L1_under L1_byFirst L1_byLoad L1_bare L1_scale L1_firstRise L1_firstStart J1_give J1_clear J1_yieldAt J1_soft J1_breakAt J1_out J1_pitches J1_bolts J1_upper J1_lower) fun G1_way_4 G1_wayBefore_4 G1_known_4 G1_total_4 G1_kind_4 G1_who_4 G1_over_4 G1_under_4 G1_endOver_4 G1_endUnder_4 G1_dueOver_4 G1_dueUnder_4 G1_soonOver_4 G1_soonUnder_4 L1_stretch_4 L1_rest_4 L1_forceRise_4 L1_forceStart_4 L1_slipRise_4 L1_slipStart_4 L1_under_4 L1_byFirst_4 L1_byLoad_4 L1_bare_4 L1_scale_4 L1_firstRise_4 L1_firstStart_4 =>
  bd2 (iter (un3 (fb_X_events_17 F G1_total_4 G1_kind_4)) F ((0 : Int32), R_numbers, (0 : Int32))) fun R_numbers_17 R_size_17 =>
  some (G1_total_4, G1_way_4, G1_wayBefore_4, G1_known_4, G1_total_4, G1_kind_4, G1_who_4, G1_over_4, G1_under_4, G1_endOver_4, G1_endUnder_4, G1_dueOver_4, G1_dueUnder_4, G1_soonOver_4, G1_soonUnder_4, L1_stretch_4, L1_rest_4, L1_forceRise_4, L1_forceStart_4, L1_slipRise_4, L1_slipStart_4, L1_under_4, L1_byFirst_4, L1_byLoad_4, L1_bare_4, L1_scale_4, L1_firstRise_4, L1_firstStart_4, R_numbers_17, R_size_17)
noncomputable def f_X_event (F : Nat) (l1 : Int32) (G1_way : Nat → Int32) (G1_wayBefore : Nat → Int32) (G1_known : Int32) (G1_total : Int32) (G1_kind : Nat → Int32) (G1_who : Nat → Int32) (G1_over : Nat → Int64) (G1_under : Nat → Int64) (G1_endOver : Int64) (G1_endUnder : Int64) (G1_dueOver : Nat → Int64) (G1_dueUnder : Nat → Int64) (G1_soonOver : Int64) (G1_soonUnder : Int64) (L1_stretch : Nat → Int32) (L1_rest : Nat → Int64) (L1_forceRise : Nat → Int64) (L1_forceStart : Nat → Int64) (L1_slipRise : Nat → Int64) (L1_slipStart : Nat → Int64) (L1_under : Int64) (L1_byFirst : Nat → Int64) (L1_byLoad : Nat → Int64) (L1_bare : Nat → Int64) (L1_scale : Nat → Int64) (L1_firstRise : Int64) (L1_firstStart : Int64) (J1_give : Nat → Int32) (J1_clear : Nat → Int32) (J1_yieldAt : Nat → Int32) (J1_soft : Nat → Int32) (J1_breakAt : Nat → Int32) (J1_out : Nat → Int32) (J1_pitches : Nat → Int32) (J1_bolts : Int32) (J1_upper : Int32) (J1_lower : Int32) (R_numbers : Nat → Int64) (R_size : Int32) : Option (Int32 × (Nat → Int32) × (Nat → Int32) × Int32 × Int32 × (Nat → Int32) × (Nat → Int32) × (Nat → Int64) × (Nat → Int64) × Int64 × Int64 × (Nat → Int64) × (Nat → Int64) × Int64 × Int64 × (Nat → Int32) × (Nat → Int64) × (Nat → Int64) × (Nat → Int64) × (Nat → Int64) × (Nat → Int64) × Int64 × (Nat → Int64) × (Nat → Int64) × (Nat → Int64) × (Nat → Int64) × Int64 × Int64 × (Nat → Int64) × Int32) :=
  bd27 (f_G_run F G1_way G1_wayBefore G1_known G1_total G1_kind G1_who G1_over G1_under G1_endOver G1_endUnder G1_dueOver G1_dueUnder G1_soonOver G1_soonUnder L1_stretch L1_rest L1_forceRise L1_forceStart L1_slipRise L1_slipStart L1_under L1_byFirst L1_byLoad L1_bare L1_scale L1_firstRise L1_firstStart J1_give J1_clear J1_yieldAt J1_soft J1_breakAt J1_out J1_pitches J1_bolts J1_upper J1_lower) fun G1_way_4 G1_wayBefore_4 G1_known_4 G1_total_4 G1_kind_4 G1_who_4 G1_over_4 G1_under_4 G1_endOver_4 G1_endUnder_4 G1_dueOver_4 G1_dueUnder_4 G1_soonOver_4 G1_soonUnder_4 L1_stretch_4 L1_rest_4 L1_forceRise_4 L1_forceStart_4 L1_slipRise_4 L1_slipStart_4 L1_under_4 L1_byFirst_4 L1_byLoad_4 L1_bare_4 L1_scale_4 L1_firstRise_4 L1_firstStart_4 =>
  if l1 < (0 : Int32) then
    some ((-1 : Int32), G1_way_4, G1_wayBefore_4, G1_known_4, G1_total_4, G1_kind_4, G1_who_4, G1_over_4, G1_under_4, G1_endOver_4, G1_endUnder_4, G1_dueOver_4, G1_dueUnder_4, G1_soonOver_4, G1_soonUnder_4, L1_stretch_4, L1_rest_4, L1_forceRise_4, L1_forceStart_4, L1_slipRise_4, L1_slipStart_4, L1_under_4, L1_byFirst_4, L1_byLoad_4, L1_bare_4, L1_scale_4, L1_firstRise_4, L1_firstStart_4, R_numbers, R_size)
  else
    if l1 < G1_total_4 then
      (ldA G1_who_4 15 l1).bind fun v_44 =>
      bd2 (f_R_whole (Int32.toInt64 v_44) R_numbers (0 : Int32)) fun R_numbers_46 R_size_46 =>
      (ldA G1_over_4 15 l1).bind fun v_61 =>
      (ldA G1_under_4 15 l1).bind fun v_70 =>
      bd2 (f_R_fraction F v_61 v_70 R_numbers_46 R_size_46) fun R_numbers_71 R_size_71 =>
      (ldA G1_kind_4 15 l1).bind fun v_82 =>
      some (v_82, G1_way_4, G1_wayBefore_4, G1_known_4, G1_total_4, G1_kind_4, G1_who_4, G1_over_4, G1_under_4, G1_endOver_4, G1_endUnder_4, G1_dueOver_4, G1_dueUnder_4, G1_soonOver_4, G1_soonUnder_4, L1_stretch_4, L1_rest_4, L1_forceRise_4, L1_forceStart_4, L1_slipRise_4, L1_slipStart_4, L1_under_4, L1_byFirst_4, L1_byLoad_4, L1_bare_4, L1_scale_4, L1_firstRise_4, L1_firstStart_4, R_numbers_71, R_size_71)
    else
      some ((-1 : Int32), G1_way_4, G1_wayBefore_4, G1_known_4, G1_total_4, G1_kind_4, G1_who_4, G1_over_4, G1_under_4, G1_endOver_4, G1_endUnder_4, G1_dueOver_4, G1_dueUnder_4, G1_soonOver_4, G1_soonUnder_4, L1_stretch_4, L1_rest_4, L1_forceRise_4, L1_forceStart_4, L1_slipRise_4, L1_slipStart_4, L1_under_4, L1_byFirst_4, L1_byLoad_4, L1_bare_4, L1_scale_4, L1_firstRise_4, L1_firstStart_4, R_numbers, R_size)
noncomputable def fj_X_peak_76 (l1 : Int32) (l2 : Int32) : Option ((Int32 × Int32) ⊕ (Int32)) :=
  nm (l2 + (1 : Int32)) fun l2_76 =>
  some (.inl (l1, l2_76))
noncomputable def fb_X_peak_11 (G1_total : Int32) (G1_kind : Nat → Int32) (G1_over : Nat → Int64) (G1_under : Nat → Int64) (G1_endOver : Int64) (G1_endUnder : Int64) (l1 : Int32) (l2 : Int32) : Option ((Int32 × Int32) ⊕ (Int32)) :=
  if G1_total ≤ l2 then
    some (.inr l1)
  else
    (ldA G1_kind 15 l2).bind fun v_30 =>
    if v_30 = (2 : Int32) then
      (ldA G1_over 15 l2).bind fun v_43 =>
      (ldA G1_under 15 l2).bind fun v_67 =>
      if (v_43 * G1_endUnder) = (G1_endOver * v_67) then
        nm (l1 + (1 : Int32)) fun l1_73 =>
        fj_X_peak_76 l1_73 l2
      else
        fj_X_peak_76 l1 l2
    else
      fj_X_peak_76 l1 l2
noncomputable def f_X_peak (F : Nat) (G1_way : Nat → Int32) (G1_wayBefore : Nat → Int32) (G1_known : Int32) (G1_total : Int32) (G1_kind : Nat → Int32) (G1_who : Nat → Int32) (G1_over : Nat → Int64) (G1_under : Nat → Int64) (G1_endOver : Int64) (G1_endUnder : Int64) (G1_dueOver : Nat → Int64) (G1_dueUnder : Nat → Int64) (G1_soonOver : Int64) (G1_soonUnder : Int64) (L1_stretch : Nat → Int32) (L1_rest : Nat → Int64) (L1_forceRise : Nat → Int64) (L1_forceStart : Nat → Int64) (L1_slipRise : Nat → Int64) (L1_slipStart : Nat → Int64) (L1_under : Int64) (L1_byFirst : Nat → Int64) (L1_byLoad : Nat → Int64) (L1_bare : Nat → Int64) (L1_scale : Nat → Int64) (L1_firstRise : Int64) (L1_firstStart : Int64) (J1_give : Nat → Int32) (J1_clear : Nat → Int32) (J1_yieldAt : Nat → Int32) (J1_soft : Nat → Int32) (J1_breakAt : Nat → Int32) (J1_out : Nat → Int32) (J1_pitches : Nat → Int32) (J1_bolts : Int32) (J1_upper : Int32) (J1_lower : Int32) (R_numbers : Nat → Int64) (R_size : Int32) : Option (Int32 × (Nat → Int32) × (Nat → Int32) × Int32 × Int32 × (Nat → Int32) × (Nat → Int32) × (Nat → Int64) × (Nat → Int64) × Int64 × Int64 × (Nat → Int64) × (Nat → Int64) × Int64 × Int64 × (Nat → Int32) × (Nat → Int64) × (Nat → Int64) × (Nat → Int64) × (Nat → Int64) × (Nat → Int64) × Int64 × (Nat → Int64) × (Nat → Int64) × (Nat → Int64) × (Nat → Int64) × Int64 × Int64 × (Nat → Int64) × Int32) :=
  bd27 (f_G_run F G1_way G1_wayBefore G1_known G1_total G1_kind G1_who G1_over G1_under G1_endOver G1_endUnder G1_dueOver G1_dueUnder G1_soonOver G1_soonUnder L1_stretch L1_rest L1_forceRise L1_forceStart L1_slipRise L1_slipStart L1_under L1_byFirst L1_byLoad L1_bare L1_scale L1_firstRise L1_firstStart J1_give J1_clear J1_yieldAt J1_soft J1_breakAt J1_out J1_pitches J1_bolts J1_upper J1_lower) fun G1_way_4 G1_wayBefore_4 G1_known_4 G1_total_4 G1_kind_4 G1_who_4 G1_over_4 G1_under_4 G1_endOver_4 G1_endUnder_4 G1_dueOver_4 G1_dueUnder_4 G1_soonOver_4 G1_soonUnder_4 L1_stretch_4 L1_rest_4 L1_forceRise_4 L1_forceStart_4 L1_slipRise_4 L1_slipStart_4 L1_under_4 L1_byFirst_4 L1_byLoad_4 L1_bare_4 L1_scale_4 L1_firstRise_4 L1_firstStart_4 =>
  (iter (un2 (fb_X_peak_11 G1_total_4 G1_kind_4 G1_over_4 G1_under_4 G1_endOver_4 G1_endUnder_4)) F ((0 : Int32), (0 : Int32))).bind fun l1_11 =>
  bd2 (f_R_fraction F G1_endOver_4 G1_endUnder_4 R_numbers (0 : Int32)) fun R_numbers_108 R_size_108 =>
  some (l1_11, G1_way_4, G1_wayBefore_4, G1_known_4, G1_total_4, G1_kind_4, G1_who_4, G1_over_4, G1_under_4, G1_endOver_4, G1_endUnder_4, G1_dueOver_4, G1_dueUnder_4, G1_soonOver_4, G1_soonUnder_4, L1_stretch_4, L1_rest_4, L1_forceRise_4, L1_forceStart_4, L1_slipRise_4, L1_slipStart_4, L1_under_4, L1_byFirst_4, L1_byLoad_4, L1_bare_4, L1_scale_4, L1_firstRise_4, L1_firstStart_4, R_numbers_108, R_size_108)
noncomputable def fj_X_order_58 (l1 : Int32) (R_numbers : Nat → Int64) (R_size : Int32) : Option ((Int32 × (Nat → Int64) × Int32) ⊕ ((Nat → Int64) × Int32)) :=
  nm (l1 + (1 : Int32)) fun l1_58 =>
  some (.inl (l1_58, R_numbers, R_size))
noncomputable def fb_X_order_17 (G1_total : Int32) (G1_kind : Nat → Int32) (G1_who : Nat → Int32) (l1 : Int32) (R_numbers : Nat → Int64) (R_size : Int32) : Option ((Int32 × (Nat → Int64) × Int32) ⊕ ((Nat → Int64) × Int32)) :=
  if G1_total ≤ l1 then
    some (.inr (R_numbers, R_size))
  else
    (ldA G1_kind 15 l1).bind fun v_36 =>
    if v_36 = (2 : Int32) then
      (ldA G1_who 15 l1).bind fun v_53 =>
      bd2 (f_R_whole (Int32.toInt64 v_53) R_numbers R_size) fun R_numbers_55 R_size_55 =>
      fj_X_order_58 l1 R_numbers_55 R_size_55
    else
      fj_X_order_58 l1 R_numbers R_size
noncomputable def f_X_order (F : Nat) (G1_way : Nat → Int32) (G1_wayBefore : Nat → Int32) (G1_known : Int32) (G1_total : Int32) (G1_kind : Nat → Int32) (G1_who : Nat → Int32) (G1_over : Nat → Int64) (G1_under : Nat → Int64) (G1_endOver : Int64) (G1_endUnder : Int64) (G1_dueOver : Nat → Int64) (G1_dueUnder : Nat → Int64) (G1_soonOver : Int64) (G1_soonUnder : Int64) (L1_stretch : Nat → Int32) (L1_rest : Nat → Int64) (L1_forceRise : Nat → Int64) (L1_forceStart : Nat → Int64) (L1_slipRise : Nat → Int64) (L1_slipStart : Nat → Int64) (L1_under : Int64) (L1_byFirst : Nat → Int64) (L1_byLoad : Nat → Int64) (L1_bare : Nat → Int64) (L1_scale : Nat → Int64) (L1_firstRise : Int64) (L1_firstStart : Int64) (J1_give : Nat → Int32) (J1_clear : Nat → Int32) (J1_yieldAt : Nat → Int32) (J1_soft : Nat → Int32) (J1_breakAt : Nat → Int32) (J1_out : Nat → Int32) (J1_pitches : Nat → Int32) (J1_bolts : Int32) (J1_upper : Int32) (J1_lower : Int32) (R_numbers : Nat → Int64) (R_size : Int32) : Option (Int32 × (Nat → Int32) × (Nat → Int32) × Int32 × Int32 × (Nat → Int32) × (Nat → Int32) × (Nat → Int64) × (Nat → Int64) × Int64 × Int64 × (Nat → Int64) × (Nat → Int64) × Int64 × Int64 × (Nat → Int32) × (Nat → Int64) × (Nat → Int64) × (Nat → Int64) × (Nat → Int64) × (Nat → Int64) × Int64 × (Nat → Int64) × (Nat → Int64) × (Nat → Int64) × (Nat → Int64) × Int64 × Int64 × (Nat → Int64) × Int32) :=
  bd27 (f_G_run F G1_way G1_wayBefore G1_known G1_total G1_kind G1_who G1_over G1_under G1_endOver G1_endUnder G1_dueOver G1_dueUnder G1_soonOver G1_soonUnder L1_stretch L1_rest L1_forceRise L1_forceStart L1_slipRise L1_slipStart L1_under L1_byFirst L1_byLoad L1_bare L1_scale L1_firstRise L1_firstStart J1_give J1_clear J1_yieldAt J1_soft J1_breakAt J1_out J1_pitches J1_bolts J1_upper J1_lower) fun G1_way_4 G1_wayBefore_4 G1_known_4 G1_total_4 G1_kind_4 G1_who_4 G1_over_4 G1_under_4 G1_endOver_4 G1_endUnder_4 G1_dueOver_4 G1_dueUnder_4 G1_soonOver_4 G1_soonUnder_4 L1_stretch_4 L1_rest_4 L1_forceRise_4 L1_forceStart_4 L1_slipRise_4 L1_slipStart_4 L1_under_4 L1_byFirst_4 L1_byLoad_4 L1_bare_4 L1_scale_4 L1_firstRise_4 L1_firstStart_4 =>
  bd2 (iter (un3 (fb_X_order_17 G1_total_4 G1_kind_4 G1_who_4)) F ((0 : Int32), R_numbers, (0 : Int32))) fun R_numbers_17 R_size_17 =>
  some (R_size_17, G1_way_4, G1_wayBefore_4, G1_known_4, G1_total_4, G1_kind_4, G1_who_4, G1_over_4, G1_under_4, G1_endOver_4, G1_endUnder_4, G1_dueOver_4, G1_dueUnder_4, G1_soonOver_4, G1_soonUnder_4, L1_stretch_4, L1_rest_4, L1_forceRise_4, L1_forceStart_4, L1_slipRise_4, L1_slipStart_4, L1_under_4, L1_byFirst_4, L1_byLoad_4, L1_bare_4, L1_scale_4, L1_firstRise_4, L1_firstStart_4, R_numbers_17, R_size_17)
noncomputable def f_X_when (F : Nat) (l1 : Int32) (l2 : Int32) (G1_way : Nat → Int32) (G1_wayBefore : Nat → Int32) (G1_known : Int32) (G1_total : Int32) (G1_kind : Nat → Int32) (G1_who : Nat → Int32) (G1_over : Nat → Int64) (G1_under : Nat → Int64) (G1_endOver : Int64) (G1_endUnder : Int64) (G1_dueOver : Nat → Int64) (G1_dueUnder : Nat → Int64) (G1_soonOver : Int64) (G1_soonUnder : Int64) (L1_stretch : Nat → Int32) (L1_rest : Nat → Int64) (L1_forceRise : Nat → Int64) (L1_forceStart : Nat → Int64) (L1_slipRise : Nat → Int64) (L1_slipStart : Nat → Int64) (L1_under : Int64) (L1_byFirst : Nat → Int64) (L1_byLoad : Nat → Int64) (L1_bare : Nat → Int64) (L1_scale : Nat → Int64) (L1_firstRise : Int64) (L1_firstStart : Int64) (J1_give : Nat → Int32) (J1_clear : Nat → Int32) (J1_yieldAt : Nat → Int32) (J1_soft : Nat → Int32) (J1_breakAt : Nat → Int32) (J1_out : Nat → Int32) (J1_pitches : Nat → Int32) (J1_bolts : Int32) (J1_upper : Int32) (J1_lower : Int32) (R_numbers : Nat → Int64) (R_size : Int32) : Option (Int32 × (Nat → Int32) × (Nat → Int32) × Int32 × Int32 × (Nat → Int32) × (Nat → Int32) × (Nat → Int64) × (Nat → Int64) × Int64 × Int64 × (Nat → Int64) × (Nat → Int64) × Int64 × Int64 × (Nat → Int32) × (Nat → Int64) × (Nat → Int64) × (Nat → Int64) × (Nat → Int64) × (Nat → Int64) × Int64 × (Nat → Int64) × (Nat → Int64) × (Nat → Int64) × (Nat → Int64) × Int64 × Int64 × (Nat → Int64) × Int32) :=
  (f_X_within l1 (0 : Int32) (2 : Int32)).bind fun r_3 =>
  if r_3 = (0 : Int32) then
    some ((-1 : Int32), G1_way, G1_wayBefore, G1_known, G1_total, G1_kind, G1_who, G1_over, G1_under, G1_endOver, G1_endUnder, G1_dueOver, G1_dueUnder, G1_soonOver, G1_soonUnder, L1_stretch, L1_rest, L1_forceRise, L1_forceStart, L1_slipRise, L1_slipStart, L1_under, L1_byFirst, L1_byLoad, L1_bare, L1_scale, L1_firstRise, L1_firstStart, R_numbers, R_size)
  else
    (f_J_has l2 J1_bolts).bind fun r_14 =>
    if r_14 = (0 : Int32) then
      some ((-1 : Int32), G1_way, G1_wayBefore, G1_known, G1_total, G1_kind, G1_who, G1_over, G1_under, G1_endOver, G1_endUnder, G1_dueOver, G1_dueUnder, G1_soonOver, G1_soonUnder, L1_stretch, L1_rest, L1_forceRise, L1_forceStart, L1_slipRise, L1_slipStart, L1_under, L1_byFirst, L1_byLoad, L1_bare, L1_scale, L1_firstRise, L1_firstStart, R_numbers, R_size)
    else
      bd27 (f_G_run F G1_way G1_wayBefore G1_known G1_total G1_kind G1_who G1_over G1_under G1_endOver G1_endUnder G1_dueOver G1_dueUnder G1_soonOver G1_soonUnder L1_stretch L1_rest L1_forceRise L1_forceStart L1_slipRise L1_slipStart L1_under L1_byFirst L1_byLoad L1_bare L1_scale L1_firstRise L1_firstStart J1_give J1_clear J1_yieldAt J1_soft J1_breakAt J1_out J1_pitches J1_bolts J1_upper J1_lower) fun G1_way_26 G1_wayBefore_26 G1_known_26 G1_total_26 G1_kind_26 G1_who_26 G1_over_26 G1_under_26 G1_endOver_26 G1_endUnder_26 G1_dueOver_26 G1_dueUnder_26 G1_soonOver_26 G1_soonUnder_26 L1_stretch_26 L1_rest_26 L1_forceRise_26 L1_forceStart_26 L1_slipRise_26 L1_slipStart_26 L1_under_26 L1_byFirst_26 L1_byLoad_26 L1_bare_26 L1_scale_26 L1_firstRise_26 L1_firstStart_26 =>
      (f_G_find F l1 l2 G1_total_26 G1_kind_26 G1_who_26).bind fun r_35 =>
      if (0 : Int32) ≤ r_35 then
        (ldA G1_over_26 15 r_35).bind fun v_66 =>
        (ldA G1_under_26 15 r_35).bind fun v_75 =>
        bd2 (f_R_fraction F v_66 v_75 R_numbers (0 : Int32)) fun R_numbers_76 R_size_76 =>
        some ((0 : Int32), G1_way_26, G1_wayBefore_26, G1_known_26, G1_total_26, G1_kind_26, G1_who_26, G1_over_26, G1_under_26, G1_endOver_26, G1_endUnder_26, G1_dueOver_26, G1_dueUnder_26, G1_soonOver_26, G1_soonUnder_26, L1_stretch_26, L1_rest_26, L1_forceRise_26, L1_forceStart_26, L1_slipRise_26, L1_slipStart_26, L1_under_26, L1_byFirst_26, L1_byLoad_26, L1_bare_26, L1_scale_26, L1_firstRise_26, L1_firstStart_26, R_numbers_76, R_size_76)
      else
        some ((-2 : Int32), G1_way_26, G1_wayBefore_26, G1_known_26, G1_total_26, G1_kind_26, G1_who_26, G1_over_26, G1_under_26, G1_endOver_26, G1_endUnder_26, G1_dueOver_26, G1_dueUnder_26, G1_soonOver_26, G1_soonUnder_26, L1_stretch_26, L1_rest_26, L1_forceRise_26, L1_forceStart_26, L1_slipRise_26, L1_slipStart_26, L1_under_26, L1_byFirst_26, L1_byLoad_26, L1_bare_26, L1_scale_26, L1_firstRise_26, L1_firstStart_26, R_numbers, R_size)
noncomputable def fb_X_tellGains_11 (F : Nat) (G1_gains : Nat → Int64) (J1_bolts : Int32) (l2 : Int64) (l4 : Int32) : Option ((Int64 × Int32) ⊕ (Int64)) :=
  if J1_bolts ≤ l4 then
    some (.inr l2)
  else
    (ldA G1_gains 5 l4).bind fun v_33 =>
    (f_X_divisor F l2 v_33).bind fun r_34 =>
    nm (l4 + (1 : Int32)) fun l4_38 =>
    some (.inl (r_34, l4_38))
noncomputable def fj_X_tellGains_177 (l4 : Int32) (l5 : Int32) (R_numbers : Nat → Int64) (R_size : Int32) : Option ((Int32 × Int32 × (Nat → Int64) × Int32) ⊕ (Int32 × (Nat → Int64) × Int32)) :=
  nm (l5 + (1 : Int32)) fun l5_177 =>
  some (.inl (l4, l5_177, R_numbers, R_size))
noncomputable def fj_X_tellGains_173 (l5 : Int32) (R_numbers : Nat → Int64) (R_size : Int32) : Option ((Int32 × Int32 × (Nat → Int64) × Int32) ⊕ (Int32 × (Nat → Int64) × Int32)) :=
  fj_X_tellGains_177 l5 l5 R_numbers R_size
noncomputable def fj_X_tellGains_136 (l4 : Int32) (l5 : Int32) (l6 : Int32) (s1 : Int64) (G1_gains : Nat → Int64) (R_numbers : Nat → Int64) (R_size : Int32) : Option ((Int32 × Int32 × (Nat → Int64) × Int32) ⊕ (Int32 × (Nat → Int64) × Int32)) :=
  bd2 (f_R_whole s1 R_numbers R_size) fun R_numbers_136 R_size_136 =>
  if l6 = (0 : Int32) then
    fj_X_tellGains_177 l4 l5 R_numbers_136 R_size_136
  else
    if l4 < (0 : Int32) then
      fj_X_tellGains_173 l5 R_numbers_136 R_size_136
    else
      (ldA G1_gains 5 l5).bind fun v_158 =>
      (ldA G1_gains 5 l4).bind fun v_168 =>
      if v_158 ≤ v_168 then
        fj_X_tellGains_177 l4 l5 R_numbers_136 R_size_136
      else
        fj_X_tellGains_173 l5 R_numbers_136 R_size_136
noncomputable def fj_X_tellGains_109 (l2 : Int64) (l4 : Int32) (l5 : Int32) (s0 : Int32) (G1_gains : Nat → Int64) (R_numbers : Nat → Int64) (R_size : Int32) : Option ((Int32 × Int32 × (Nat → Int64) × Int32) ⊕ (Int32 × (Nat → Int64) × Int32)) :=
  if s0 = (0 : Int32) then
    fj_X_tellGains_136 l4 l5 s0 (0 : Int64) G1_gains R_numbers R_size
  else
    (ldA G1_gains 5 l5).bind fun v_129 =>
    (dvL v_129 l2).bind fun v_131 =>
    fj_X_tellGains_136 l4 l5 s0 v_131 G1_gains R_numbers R_size
noncomputable def fb_X_tellGains_82 (l1 : Int32) (l2 : Int64) (G1_gains : Nat → Int64) (J1_bolts : Int32) (l4 : Int32) (l5 : Int32) (R_numbers : Nat → Int64) (R_size : Int32) : Option ((Int32 × Int32 × (Nat → Int64) × Int32) ⊕ (Int32 × (Nat → Int64) × Int32)) :=
  if J1_bolts ≤ l5 then
    some (.inr (l4, R_numbers, R_size))
  else
    if ((l1 >>> (l5 &&& 31)) &&& (1 : Int32)) = (1 : Int32) then
      fj_X_tellGains_109 l2 l4 l5 (1 : Int32) G1_gains R_numbers R_size
    else
      fj_X_tellGains_109 l2 l4 l5 (0 : Int32) G1_gains R_numbers R_size
noncomputable def fj_X_tellGains_52 (F : Nat) (l1 : Int32) (l2 : Int64) (G1_gains : Nat → Int64) (G1_gainUnder : Int64) (J1_bolts : Int32) (R_numbers : Nat → Int64) : Option (Int32 × (Nat → Int64) × Int32) :=
  (dvL G1_gainUnder l2).bind fun v_75 =>
  bd2 (f_R_whole v_75 R_numbers (0 : Int32)) fun R_numbers_76 R_size_76 =>
  bd3 (iter (un4 (fb_X_tellGains_82 l1 l2 G1_gains J1_bolts)) F ((-1 : Int32), (0 : Int32), R_numbers_76, R_size_76)) fun l4_82 R_numbers_82 R_size_82 =>
  some (l4_82, R_numbers_82, R_size_82)
noncomputable def f_X_tellGains (F : Nat) (l1 : Int32) (G1_gains : Nat → Int64) (G1_gainUnder : Int64) (J1_bolts : Int32) (R_numbers : Nat → Int64) (R_size : Int32) : Option (Int32 × (Nat → Int64) × Int32) :=
  (iter (un2 (fb_X_tellGains_11 F G1_gains J1_bolts)) F (G1_gainUnder, (0 : Int32))).bind fun l2_11 =>
  if l2_11 = (0 : Int64) then
    fj_X_tellGains_52 F l1 (1 : Int64) G1_gains G1_gainUnder J1_bolts R_numbers
  else
    fj_X_tellGains_52 F l1 l2_11 G1_gains G1_gainUnder J1_bolts R_numbers
noncomputable def f_X_sheds (F : Nat) (l1 : Int32) (G1_way : Nat → Int32) (G1_wayBefore : Nat → Int32) (G1_known : Int32) (G1_total : Int32) (G1_kind : Nat → Int32) (G1_who : Nat → Int32) (G1_over : Nat → Int64) (G1_under : Nat → Int64) (G1_endOver : Int64) (G1_endUnder : Int64) (G1_dueOver : Nat → Int64) (G1_dueUnder : Nat → Int64) (G1_soonOver : Int64) (G1_soonUnder : Int64) (G1_gains : Nat → Int64) (G1_gainUnder : Int64) (L1_stretch : Nat → Int32) (L1_rest : Nat → Int64) (L1_forceRise : Nat → Int64) (L1_forceStart : Nat → Int64) (L1_slipRise : Nat → Int64) (L1_slipStart : Nat → Int64) (L1_under : Int64) (L1_byFirst : Nat → Int64) (L1_byLoad : Nat → Int64) (L1_bare : Nat → Int64) (L1_scale : Nat → Int64) (L1_firstRise : Int64) (L1_firstStart : Int64) (J1_give : Nat → Int32) (J1_clear : Nat → Int32) (J1_yieldAt : Nat → Int32) (J1_soft : Nat → Int32) (J1_breakAt : Nat → Int32) (J1_out : Nat → Int32) (J1_pitches : Nat → Int32) (J1_bolts : Int32) (J1_upper : Int32) (J1_lower : Int32) (R_numbers : Nat → Int64) (R_size : Int32) : Option (Int32 × (Nat → Int32) × (Nat → Int32) × Int32 × Int32 × (Nat → Int32) × (Nat → Int32) × (Nat → Int64) × (Nat → Int64) × Int64 × Int64 × (Nat → Int64) × (Nat → Int64) × Int64 × Int64 × (Nat → Int64) × Int64 × (Nat → Int32) × (Nat → Int64) × (Nat → Int64) × (Nat → Int64) × (Nat → Int64) × (Nat → Int64) × Int64 × (Nat → Int64) × (Nat → Int64) × (Nat → Int64) × (Nat → Int64) × Int64 × Int64 × (Nat → Int64) × Int32) :=
  (f_J_has l1 J1_bolts).bind fun r_5 =>
  if r_5 = (0 : Int32) then
    some ((-1 : Int32), G1_way, G1_wayBefore, G1_known, G1_total, G1_kind, G1_who, G1_over, G1_under, G1_endOver, G1_endUnder, G1_dueOver, G1_dueUnder, G1_soonOver, G1_soonUnder, G1_gains, G1_gainUnder, L1_stretch, L1_rest, L1_forceRise, L1_forceStart, L1_slipRise, L1_slipStart, L1_under, L1_byFirst, L1_byLoad, L1_bare, L1_scale, L1_firstRise, L1_firstStart, R_numbers, R_size)
  else
    bd27 (f_G_run F G1_way G1_wayBefore G1_known G1_total G1_kind G1_who G1_over G1_under G1_endOver G1_endUnder G1_dueOver G1_dueUnder G1_soonOver G1_soonUnder L1_stretch L1_rest L1_forceRise L1_forceStart L1_slipRise L1_slipStart L1_under L1_byFirst L1_byLoad L1_bare L1_scale L1_firstRise L1_firstStart J1_give J1_clear J1_yieldAt J1_soft J1_breakAt J1_out J1_pitches J1_bolts J1_upper J1_lower) fun G1_way_17 G1_wayBefore_17 G1_known_17 G1_total_17 G1_kind_17 G1_who_17 G1_over_17 G1_under_17 G1_endOver_17 G1_endUnder_17 G1_dueOver_17 G1_dueUnder_17 G1_soonOver_17 G1_soonUnder_17 L1_stretch_17 L1_rest_17 L1_forceRise_17 L1_forceStart_17 L1_slipRise_17 L1_slipStart_17 L1_under_17 L1_byFirst_17 L1_byLoad_17 L1_bare_17 L1_scale_17 L1_firstRise_17 L1_firstStart_17 =>
    (f_G_find F (2 : Int32) l1 G1_total_17 G1_kind_17 G1_who_17).bind fun r_26 =>
    if (0 : Int32) ≤ r_26 then
      (f_G_leftAhead F r_26 G1_total_17 G1_kind_17 G1_who_17 J1_out J1_bolts).bind fun r_42 =>
      nm (r_42 &&& (((1 : Int32) <<< (l1 &&& 31)) ^^^ (-1 : Int32))) fun l4_53 =>
      if l4_53 = (0 : Int32) then
        some ((-2 : Int32), G1_way_17, G1_wayBefore_17, G1_known_17, G1_total_17, G1_kind_17, G1_who_17, G1_over_17, G1_under_17, G1_endOver_17, G1_endUnder_17, G1_dueOver_17, G1_dueUnder_17, G1_soonOver_17, G1_soonUnder_17, G1_gains, G1_gainUnder, L1_stretch_17, L1_rest_17, L1_forceRise_17, L1_forceStart_17, L1_slipRise_17, L1_slipStart_17, L1_under_17, L1_byFirst_17, L1_byLoad_17, L1_bare_17, L1_scale_17, L1_firstRise_17, L1_firstStart_17, R_numbers, R_size)
      else
        (ldA G1_over_17 15 r_26).bind fun v_78 =>
        (ldA G1_under_17 15 r_26).bind fun v_87 =>
        bd20 (f_G_compareForces F r_42 l4_53 v_78 v_87 G1_way_17 G1_dueOver_17 G1_dueUnder_17 G1_soonOver_17 G1_soonUnder_17 G1_gains G1_gainUnder L1_stretch_17 L1_rest_17 L1_forceRise_17 L1_forceStart_17 L1_slipRise_17 L1_slipStart_17 L1_under_17 L1_byFirst_17 L1_byLoad_17 L1_bare_17 L1_scale_17 L1_firstRise_17 L1_firstStart_17 J1_give J1_clear J1_yieldAt J1_soft J1_breakAt J1_out J1_pitches J1_bolts J1_upper J1_lower) fun G1_way_88 G1_dueOver_88 G1_dueUnder_88 G1_soonOver_88 G1_soonUnder_88 G1_gains_88 G1_gainUnder_88 L1_stretch_88 L1_rest_88 L1_forceRise_88 L1_forceStart_88 L1_slipRise_88 L1_slipStart_88 L1_under_88 L1_byFirst_88 L1_byLoad_88 L1_bare_88 L1_scale_88 L1_firstRise_88 L1_firstStart_88 =>
        bd3 (f_X_tellGains F l4_53 G1_gains_88 G1_gainUnder_88 J1_bolts R_numbers R_size) fun r_94 R_numbers_94 R_size_94 =>
        some (r_94, G1_way_88, G1_wayBefore_17, G1_known_17, G1_total_17, G1_kind_17, G1_who_17, G1_over_17, G1_under_17, G1_endOver_17, G1_endUnder_17, G1_dueOver_88, G1_dueUnder_88, G1_soonOver_88, G1_soonUnder_88, G1_gains_88, G1_gainUnder_88, L1_stretch_88, L1_rest_88, L1_forceRise_88, L1_forceStart_88, L1_slipRise_88, L1_slipStart_88, L1_under_88, L1_byFirst_88, L1_byLoad_88, L1_bare_88, L1_scale_88, L1_firstRise_88, L1_firstStart_88, R_numbers_94, R_size_94)
    else
      some ((-2 : Int32), G1_way_17, G1_wayBefore_17, G1_known_17, G1_total_17, G1_kind_17, G1_who_17, G1_over_17, G1_under_17, G1_endOver_17, G1_endUnder_17, G1_dueOver_17, G1_dueUnder_17, G1_soonOver_17, G1_soonUnder_17, G1_gains, G1_gainUnder, L1_stretch_17, L1_rest_17, L1_forceRise_17, L1_forceStart_17, L1_slipRise_17, L1_slipStart_17, L1_under_17, L1_byFirst_17, L1_byLoad_17, L1_bare_17, L1_scale_17, L1_firstRise_17, L1_firstStart_17, R_numbers, R_size)
noncomputable def fb_X_replays_42 (F : Nat) (l2 : Int32) (l3 : Int32) (G1_total : Int32) (G1_kind : Nat → Int32) (G1_who : Nat → Int32) (T_signs : Nat → Int32) (T_size : Int32) (l4 : Int32) : Option ((Int32) ⊕ (Int32)) :=
  if l2 ≤ l4 then
    some (.inr l4)
  else
    if l3 ≤ l4 then
      some (.inr l4)
    else
      (f_T_digitAt l4 T_signs T_size).bind fun r_60 =>
      (f_G_brokenAs F l4 G1_total G1_kind G1_who).bind fun r_69 =>
      if r_60 = r_69 then
        nm (l4 + (1 : Int32)) fun l4_75 =>
        some (.inl l4_75)
      else
        some (.inr l4)
noncomputable def fj_X_replays_81 (l1 : Int32) (l2 : Int32) (l3 : Int32) (l4 : Int32) (G1_way : Nat → Int32) (G1_wayBefore : Nat → Int32) (G1_known : Int32) (G1_total : Int32) (G1_kind : Nat → Int32) (G1_who : Nat → Int32) (G1_over : Nat → Int64) (G1_under : Nat → Int64) (G1_endOver : Int64) (G1_endUnder : Int64) (G1_dueOver : Nat → Int64) (G1_dueUnder : Nat → Int64) (G1_soonOver : Int64) (G1_soonUnder : Int64) (L1_stretch : Nat → Int32) (L1_rest : Nat → Int64) (L1_forceRise : Nat → Int64) (L1_forceStart : Nat → Int64) (L1_slipRise : Nat → Int64) (L1_slipStart : Nat → Int64) (L1_under : Int64) (L1_byFirst : Nat → Int64) (L1_byLoad : Nat → Int64) (L1_bare : Nat → Int64) (L1_scale : Nat → Int64) (L1_firstRise : Int64) (L1_firstStart : Int64) (R_numbers : Nat → Int64) (R_size : Int32) : Option (Int32 × (Nat → Int32) × (Nat → Int32) × Int32 × Int32 × (Nat → Int32) × (Nat → Int32) × (Nat → Int64) × (Nat → Int64) × Int64 × Int64 × (Nat → Int64) × (Nat → Int64) × Int64 × Int64 × (Nat → Int32) × (Nat → Int64) × (Nat → Int64) × (Nat → Int64) × (Nat → Int64) × (Nat → Int64) × Int64 × (Nat → Int64) × (Nat → Int64) × (Nat → Int64) × (Nat → Int64) × Int64 × Int64 × Int32 × (Nat → Int64) × Int32) :=
  if l1 < (0 : Int32) then
    if l4 = l2 then
      if l4 = l3 then
        bd2 (f_R_whole (1 : Int64) R_numbers (0 : Int32)) fun R_numbers_126 R_size_126 =>
        some (l4, G1_way, G1_wayBefore, G1_known, G1_total, G1_kind, G1_who, G1_over, G1_under, G1_endOver, G1_endUnder, G1_dueOver, G1_dueUnder, G1_soonOver, G1_soonUnder, L1_stretch, L1_rest, L1_forceRise, L1_forceStart, L1_slipRise, L1_slipStart, L1_under, L1_byFirst, L1_byLoad, L1_bare, L1_scale, L1_firstRise, L1_firstStart, (0 : Int32), R_numbers_126, R_size_126)
      else
        bd2 (f_R_whole (0 : Int64) R_numbers (0 : Int32)) fun R_numbers_126 R_size_126 =>
        some (l4, G1_way, G1_wayBefore, G1_known, G1_total, G1_kind, G1_who, G1_over, G1_under, G1_endOver, G1_endUnder, G1_dueOver, G1_dueUnder, G1_soonOver, G1_soonUnder, L1_stretch, L1_rest, L1_forceRise, L1_forceStart, L1_slipRise, L1_slipStart, L1_under, L1_byFirst, L1_byLoad, L1_bare, L1_scale, L1_firstRise, L1_firstStart, (0 : Int32), R_numbers_126, R_size_126)
    else
      bd2 (f_R_whole (0 : Int64) R_numbers (0 : Int32)) fun R_numbers_126 R_size_126 =>
      some (l4, G1_way, G1_wayBefore, G1_known, G1_total, G1_kind, G1_who, G1_over, G1_under, G1_endOver, G1_endUnder, G1_dueOver, G1_dueUnder, G1_soonOver, G1_soonUnder, L1_stretch, L1_rest, L1_forceRise, L1_forceStart, L1_slipRise, L1_slipStart, L1_under, L1_byFirst, L1_byLoad, L1_bare, L1_scale, L1_firstRise, L1_firstStart, (0 : Int32), R_numbers_126, R_size_126)
  else
    some (((-1 : Int32) - l1), G1_way, G1_wayBefore, G1_known, G1_total, G1_kind, G1_who, G1_over, G1_under, G1_endOver, G1_endUnder, G1_dueOver, G1_dueUnder, G1_soonOver, G1_soonUnder, L1_stretch, L1_rest, L1_forceRise, L1_forceStart, L1_slipRise, L1_slipStart, L1_under, L1_byFirst, L1_byLoad, L1_bare, L1_scale, L1_firstRise, L1_firstStart, (0 : Int32), R_numbers, R_size)
noncomputable def f_X_replays (F : Nat) (G1_way : Nat → Int32) (G1_wayBefore : Nat → Int32) (G1_known : Int32) (G1_total : Int32) (G1_kind : Nat → Int32) (G1_who : Nat → Int32) (G1_over : Nat → Int64) (G1_under : Nat → Int64) (G1_endOver : Int64) (G1_endUnder : Int64) (G1_dueOver : Nat → Int64) (G1_dueUnder : Nat → Int64) (G1_soonOver : Int64) (G1_soonUnder : Int64) (L1_stretch : Nat → Int32) (L1_rest : Nat → Int64) (L1_forceRise : Nat → Int64) (L1_forceStart : Nat → Int64) (L1_slipRise : Nat → Int64) (L1_slipStart : Nat → Int64) (L1_under : Int64) (L1_byFirst : Nat → Int64) (L1_byLoad : Nat → Int64) (L1_bare : Nat → Int64) (L1_scale : Nat → Int64) (L1_firstRise : Int64) (L1_firstStart : Int64) (J1_give : Nat → Int32) (J1_clear : Nat → Int32) (J1_yieldAt : Nat → Int32) (J1_soft : Nat → Int32) (J1_breakAt : Nat → Int32) (J1_out : Nat → Int32) (J1_pitches : Nat → Int32) (J1_bolts : Int32) (J1_upper : Int32) (J1_lower : Int32) (T_signs : Nat → Int32) (T_size : Int32) (R_numbers : Nat → Int64) (R_size : Int32) : Option (Int32 × (Nat → Int32) × (Nat → Int32) × Int32 × Int32 × (Nat → Int32) × (Nat → Int32) × (Nat → Int64) × (Nat → Int64) × Int64 × Int64 × (Nat → Int64) × (Nat → Int64) × Int64 × Int64 × (Nat → Int32) × (Nat → Int64) × (Nat → Int64) × (Nat → Int64) × (Nat → Int64) × (Nat → Int64) × Int64 × (Nat → Int64) × (Nat → Int64) × (Nat → Int64) × (Nat → Int64) × Int64 × Int64 × Int32 × (Nat → Int64) × Int32) :=
  bd27 (f_G_run F G1_way G1_wayBefore G1_known G1_total G1_kind G1_who G1_over G1_under G1_endOver G1_endUnder G1_dueOver G1_dueUnder G1_soonOver G1_soonUnder L1_stretch L1_rest L1_forceRise L1_forceStart L1_slipRise L1_slipStart L1_under L1_byFirst L1_byLoad L1_bare L1_scale L1_firstRise L1_firstStart J1_give J1_clear J1_yieldAt J1_soft J1_breakAt J1_out J1_pitches J1_bolts J1_upper J1_lower) fun G1_way_4 G1_wayBefore_4 G1_known_4 G1_total_4 G1_kind_4 G1_who_4 G1_over_4 G1_under_4 G1_endOver_4 G1_endUnder_4 G1_dueOver_4 G1_dueUnder_4 G1_soonOver_4 G1_soonUnder_4 L1_stretch_4 L1_rest_4 L1_forceRise_4 L1_forceStart_4 L1_slipRise_4 L1_slipStart_4 L1_under_4 L1_byFirst_4 L1_byLoad_4 L1_bare_4 L1_scale_4 L1_firstRise_4 L1_firstStart_4 =>
  (f_T_findOrderFault F J1_bolts T_signs T_size).bind fun r_18 =>
  (f_G_countOf F (2 : Int32) G1_total_4 G1_kind_4).bind fun r_35 =>
  (iter (fb_X_replays_42 F T_size r_35 G1_total_4 G1_kind_4 G1_who_4 T_signs T_size) F (0 : Int32)).bind fun l4_42 =>
  fj_X_replays_81 r_18 T_size r_35 l4_42 G1_way_4 G1_wayBefore_4 G1_known_4 G1_total_4 G1_kind_4 G1_who_4 G1_over_4 G1_under_4 G1_endOver_4 G1_endUnder_4 G1_dueOver_4 G1_dueUnder_4 G1_soonOver_4 G1_soonUnder_4 L1_stretch_4 L1_rest_4 L1_forceRise_4 L1_forceStart_4 L1_slipRise_4 L1_slipStart_4 L1_under_4 L1_byFirst_4 L1_byLoad_4 L1_bare_4 L1_scale_4 L1_firstRise_4 L1_firstStart_4 R_numbers R_size
noncomputable def f_X_guessPeak (F : Nat) (J2_give : Nat → Int32) (J2_clear : Nat → Int32) (J2_yieldAt : Nat → Int32) (J2_soft : Nat → Int32) (J2_breakAt : Nat → Int32) (J2_out : Nat → Int32) (J2_pitches : Nat → Int32) (J2_bolts : Int32) (J2_upper : Int32) (J2_lower : Int32) (G2_way : Nat → Int32) (G2_wayBefore : Nat → Int32) (G2_known : Int32) (G2_total : Int32) (G2_kind : Nat → Int32) (G2_who : Nat → Int32) (G2_over : Nat → Int64) (G2_under : Nat → Int64) (G2_endOver : Int64) (G2_endUnder : Int64) (G2_dueOver : Nat → Int64) (G2_dueUnder : Nat → Int64) (G2_soonOver : Int64) (G2_soonUnder : Int64) (L2_stretch : Nat → Int32) (L2_rest : Nat → Int64) (L2_forceRise : Nat → Int64) (L2_forceStart : Nat → Int64) (L2_slipRise : Nat → Int64) (L2_slipStart : Nat → Int64) (L2_under : Int64) (L2_byFirst : Nat → Int64) (L2_byLoad : Nat → Int64) (L2_bare : Nat → Int64) (L2_scale : Nat → Int64) (L2_firstRise : Int64) (L2_firstStart : Int64) : Option ((Nat → Int32) × (Nat → Int32) × Int32 × Int32 × (Nat → Int32) × (Nat → Int32) × (Nat → Int64) × (Nat → Int64) × Int64 × Int64 × (Nat → Int64) × (Nat → Int64) × Int64 × Int64 × (Nat → Int32) × (Nat → Int64) × (Nat → Int64) × (Nat → Int64) × (Nat → Int64) × (Nat → Int64) × Int64 × (Nat → Int64) × (Nat → Int64) × (Nat → Int64) × (Nat → Int64) × Int64 × Int64) :=
  bd27 (f_G_run F G2_way G2_wayBefore (0 : Int32) G2_total G2_kind G2_who G2_over G2_under G2_endOver G2_endUnder G2_dueOver G2_dueUnder G2_soonOver G2_soonUnder L2_stretch L2_rest L2_forceRise L2_forceStart L2_slipRise L2_slipStart L2_under L2_byFirst L2_byLoad L2_bare L2_scale L2_firstRise L2_firstStart J2_give J2_clear J2_yieldAt J2_soft J2_breakAt J2_out J2_pitches J2_bolts J2_upper J2_lower) fun G2_way_12 G2_wayBefore_12 G2_known_12 G2_total_12 G2_kind_12 G2_who_12 G2_over_12 G2_under_12 G2_endOver_12 G2_endUnder_12 G2_dueOver_12 G2_dueUnder_12 G2_soonOver_12 G2_soonUnder_12 L2_stretch_12 L2_rest_12 L2_forceRise_12 L2_forceStart_12 L2_slipRise_12 L2_slipStart_12 L2_under_12 L2_byFirst_12 L2_byLoad_12 L2_bare_12 L2_scale_12 L2_firstRise_12 L2_firstStart_12 =>
  some (G2_way_12, G2_wayBefore_12, G2_known_12, G2_total_12, G2_kind_12, G2_who_12, G2_over_12, G2_under_12, G2_endOver_12, G2_endUnder_12, G2_dueOver_12, G2_dueUnder_12, G2_soonOver_12, G2_soonUnder_12, L2_stretch_12, L2_rest_12, L2_forceRise_12, L2_forceStart_12, L2_slipRise_12, L2_slipStart_12, L2_under_12, L2_byFirst_12, L2_byLoad_12, L2_bare_12, L2_scale_12, L2_firstRise_12, L2_firstStart_12)
noncomputable def f_X_without (F : Nat) (l1 : Int32) (G1_way : Nat → Int32) (G1_wayBefore : Nat → Int32) (G1_known : Int32) (G1_total : Int32) (G1_kind : Nat → Int32) (G1_who : Nat → Int32) (G1_over : Nat → Int64) (G1_under : Nat → Int64) (G1_endOver : Int64) (G1_endUnder : Int64) (G1_dueOver : Nat → Int64) (G1_dueUnder : Nat → Int64) (G1_soonOver : Int64) (G1_soonUnder : Int64) (L1_stretch : Nat → Int32) (L1_rest : Nat → Int64) (L1_forceRise : Nat → Int64) (L1_forceStart : Nat → Int64) (L1_slipRise : Nat → Int64) (L1_slipStart : Nat → Int64) (L1_under : Int64) (L1_byFirst : Nat → Int64) (L1_byLoad : Nat → Int64) (L1_bare : Nat → Int64) (L1_scale : Nat → Int64) (L1_firstRise : Int64) (L1_firstStart : Int64) (J1_give : Nat → Int32) (J1_clear : Nat → Int32) (J1_yieldAt : Nat → Int32) (J1_soft : Nat → Int32) (J1_breakAt : Nat → Int32) (J1_out : Nat → Int32) (J1_pitches : Nat → Int32) (J1_bolts : Int32) (J1_upper : Int32) (J1_lower : Int32) (J2_give : Nat → Int32) (J2_clear : Nat → Int32) (J2_yieldAt : Nat → Int32) (J2_soft : Nat → Int32) (J2_breakAt : Nat → Int32) (J2_out : Nat → Int32) (J2_pitches : Nat → Int32) (J2_bolts : Int32) (J2_upper : Int32) (J2_lower : Int32) (G2_way : Nat → Int32) (G2_wayBefore : Nat → Int32) (G2_known : Int32) (G2_total : Int32) (G2_kind : Nat → Int32) (G2_who : Nat → Int32) (G2_over : Nat → Int64) (G2_under : Nat → Int64) (G2_endOver : Int64) (G2_endUnder : Int64) (G2_dueOver : Nat → Int64) (G2_dueUnder : Nat → Int64) (G2_soonOver : Int64) (G2_soonUnder : Int64) (L2_stretch : Nat → Int32) (L2_rest : Nat → Int64) (L2_forceRise : Nat → Int64) (L2_forceStart : Nat → Int64) (L2_slipRise : Nat → Int64) (L2_slipStart : Nat → Int64) (L2_under : Int64) (L2_byFirst : Nat → Int64) (L2_byLoad : Nat → Int64) (L2_bare : Nat → Int64) (L2_scale : Nat → Int64) (L2_firstRise : Int64) (L2_firstStart : Int64) (R_numbers : Nat → Int64) (R_size : Int32) : Option (Int32 × (Nat → Int32) × (Nat → Int32) × Int32 × Int32 × (Nat → Int32) × (Nat → Int32) × (Nat → Int64) × (Nat → Int64) × Int64 × Int64 × (Nat → Int64) × (Nat → Int64) × Int64 × Int64 × (Nat → Int32) × (Nat → Int64) × (Nat → Int64) × (Nat → Int64) × (Nat → Int64) × (Nat → Int64) × Int64 × (Nat → Int64) × (Nat → Int64) × (Nat → Int64) × (Nat → Int64) × Int64 × Int64 × (Nat → Int32) × (Nat → Int32) × (Nat → Int32) × (Nat → Int32) × (Nat → Int32) × (Nat → Int32) × (Nat → Int32) × Int32 × Int32 × Int32 × (Nat → Int32) × (Nat → Int32) × Int32 × Int32 × (Nat → Int32) × (Nat → Int32) × (Nat → Int64) × (Nat → Int64) × Int64 × Int64 × (Nat → Int64) × (Nat → Int64) × Int64 × Int64 × (Nat → Int32) × (Nat → Int64) × (Nat → Int64) × (Nat → Int64) × (Nat → Int64) × (Nat → Int64) × Int64 × (Nat → Int64) × (Nat → Int64) × (Nat → Int64) × (Nat → Int64) × Int64 × Int64 × (Nat → Int64) × Int32) :=
  (f_J_has l1 J1_bolts).bind fun r_5 =>
  if r_5 = (0 : Int32) then
    some ((-1 : Int32), G1_way, G1_wayBefore, G1_known, G1_total, G1_kind, G1_who, G1_over, G1_under, G1_endOver, G1_endUnder, G1_dueOver, G1_dueUnder, G1_soonOver, G1_soonUnder, L1_stretch, L1_rest, L1_forceRise, L1_forceStart, L1_slipRise, L1_slipStart, L1_under, L1_byFirst, L1_byLoad, L1_bare, L1_scale, L1_firstRise, L1_firstStart, J2_give, J2_clear, J2_yieldAt, J2_soft, J2_breakAt, J2_out, J2_pitches, J2_bolts, J2_upper, J2_lower, G2_way, G2_wayBefore, G2_known, G2_total, G2_kind, G2_who, G2_over, G2_under, G2_endOver, G2_endUnder, G2_dueOver, G2_dueUnder, G2_soonOver, G2_soonUnder, L2_stretch, L2_rest, L2_forceRise, L2_forceStart, L2_slipRise, L2_slipStart, L2_under, L2_byFirst, L2_byLoad, L2_bare, L2_scale, L2_firstRise, L2_firstStart, R_numbers, R_size)
  else
    (ldA J1_out 5 l1).bind fun v_21 =>
    if v_21 = (0 : Int32) then
      bd27 (f_G_run F G1_way G1_wayBefore G1_known G1_total G1_kind G1_who G1_over G1_under G1_endOver G1_endUnder G1_dueOver G1_dueUnder G1_soonOver G1_soonUnder L1_stretch L1_rest L1_forceRise L1_forceStart L1_slipRise L1_slipStart L1_under L1_byFirst L1_byLoad L1_bare L1_scale L1_firstRise L1_firstStart J1_give J1_clear J1_yieldAt J1_soft J1_breakAt J1_out J1_pitches J1_bolts J1_upper J1_lower) fun G1_way_32 G1_wayBefore_32 G1_known_32 G1_total_32 G1_kind_32 G1_who_32 G1_over_32 G1_under_32 G1_endOver_32 G1_endUnder_32 G1_dueOver_32 G1_dueUnder_32 G1_soonOver_32 G1_soonUnder_32 L1_stretch_32 L1_rest_32 L1_forceRise_32 L1_forceStart_32 L1_slipRise_32 L1_slipStart_32 L1_under_32 L1_byFirst_32 L1_byLoad_32 L1_bare_32 L1_scale_32 L1_firstRise_32 L1_firstStart_32 =>
      bd10 (f_J_copyAll F J2_give J2_clear J2_yieldAt J2_soft J2_breakAt J2_out J2_pitches J2_bolts J2_upper J2_lower J1_give J1_clear J1_yieldAt J1_soft J1_breakAt J1_out J1_pitches J1_bolts J1_upper J1_lower) fun J2_give_43 J2_clear_43 J2_yieldAt_43 J2_soft_43 J2_breakAt_43 J2_out_43 J2_pitches_43 J2_bolts_43 J2_upper_43 J2_lower_43 =>
      (stZ J2_out_43 5 l1 (1 : Int32)).bind fun J2_out_55 =>
      bd27 (f_X_guessPeak F J2_give_43 J2_clear_43 J2_yieldAt_43 J2_soft_43 J2_breakAt_43 J2_out_55 J2_pitches_43 J2_bolts_43 J2_upper_43 J2_lower_43 G2_way G2_wayBefore G2_known G2_total G2_kind G2_who G2_over G2_under G2_endOver G2_endUnder G2_dueOver G2_dueUnder G2_soonOver G2_soonUnder L2_stretch L2_rest L2_forceRise L2_forceStart L2_slipRise L2_slipStart L2_under L2_byFirst L2_byLoad L2_bare L2_scale L2_firstRise L2_firstStart) fun G2_way_57 G2_wayBefore_57 G2_known_57 G2_total_57 G2_kind_57 G2_who_57 G2_over_57 G2_under_57 G2_endOver_57 G2_endUnder_57 G2_dueOver_57 G2_dueUnder_57 G2_soonOver_57 G2_soonUnder_57 L2_stretch_57 L2_rest_57 L2_forceRise_57 L2_forceStart_57 L2_slipRise_57 L2_slipStart_57 L2_under_57 L2_byFirst_57 L2_byLoad_57 L2_bare_57 L2_scale_57 L2_firstRise_57 L2_firstStart_57 =>
      bd2 (f_R_fraction F G2_endOver_57 G2_endUnder_57 R_numbers (0 : Int32)) fun R_numbers_86 R_size_86 =>
      (f_G_comparePeak G1_endOver_32 G1_endUnder_32 G2_endOver_57 G2_endUnder_57).bind fun r_108 =>
      some (((1 : Int32) + r_108), G1_way_32, G1_wayBefore_32, G1_known_32, G1_total_32, G1_kind_32, G1_who_32, G1_over_32, G1_under_32, G1_endOver_32, G1_endUnder_32, G1_dueOver_32, G1_dueUnder_32, G1_soonOver_32, G1_soonUnder_32, L1_stretch_32, L1_rest_32, L1_forceRise_32, L1_forceStart_32, L1_slipRise_32, L1_slipStart_32, L1_under_32, L1_byFirst_32, L1_byLoad_32, L1_bare_32, L1_scale_32, L1_firstRise_32, L1_firstStart_32, J2_give_43, J2_clear_43, J2_yieldAt_43, J2_soft_43, J2_breakAt_43, J2_out_55, J2_pitches_43, J2_bolts_43, J2_upper_43, J2_lower_43, G2_way_57, G2_wayBefore_57, G2_known_57, G2_total_57, G2_kind_57, G2_who_57, G2_over_57, G2_under_57, G2_endOver_57, G2_endUnder_57, G2_dueOver_57, G2_dueUnder_57, G2_soonOver_57, G2_soonUnder_57, L2_stretch_57, L2_rest_57, L2_forceRise_57, L2_forceStart_57, L2_slipRise_57, L2_slipStart_57, L2_under_57, L2_byFirst_57, L2_byLoad_57, L2_bare_57, L2_scale_57, L2_firstRise_57, L2_firstStart_57, R_numbers_86, R_size_86)
    else
      some ((-2 : Int32), G1_way, G1_wayBefore, G1_known, G1_total, G1_kind, G1_who, G1_over, G1_under, G1_endOver, G1_endUnder, G1_dueOver, G1_dueUnder, G1_soonOver, G1_soonUnder, L1_stretch, L1_rest, L1_forceRise, L1_forceStart, L1_slipRise, L1_slipStart, L1_under, L1_byFirst, L1_byLoad, L1_bare, L1_scale, L1_firstRise, L1_firstStart, J2_give, J2_clear, J2_yieldAt, J2_soft, J2_breakAt, J2_out, J2_pitches, J2_bolts, J2_upper, J2_lower, G2_way, G2_wayBefore, G2_known, G2_total, G2_kind, G2_who, G2_over, G2_under, G2_endOver, G2_endUnder, G2_dueOver, G2_dueUnder, G2_soonOver, G2_soonUnder, L2_stretch, L2_rest, L2_forceRise, L2_forceStart, L2_slipRise, L2_slipStart, L2_under, L2_byFirst, L2_byLoad, L2_bare, L2_scale, L2_firstRise, L2_firstStart, R_numbers, R_size)
noncomputable def fj_X_tunes_91 (l2 : Int32) (l3 : Int64) (l5 : Int64) (l7 : Int32) (J2_clear : Nat → Int32) (G2_way : Nat → Int32) (G2_wayBefore : Nat → Int32) (G2_known : Int32) (G2_total : Int32) (G2_kind : Nat → Int32) (G2_who : Nat → Int32) (G2_over : Nat → Int64) (G2_under : Nat → Int64) (G2_endOver : Int64) (G2_endUnder : Int64) (G2_dueOver : Nat → Int64) (G2_dueUnder : Nat → Int64) (G2_soonOver : Int64) (G2_soonUnder : Int64) (L2_stretch : Nat → Int32) (L2_rest : Nat → Int64) (L2_forceRise : Nat → Int64) (L2_forceStart : Nat → Int64) (L2_slipRise : Nat → Int64) (L2_slipStart : Nat → Int64) (L2_under : Int64) (L2_byFirst : Nat → Int64) (L2_byLoad : Nat → Int64) (L2_bare : Nat → Int64) (L2_scale : Nat → Int64) (L2_firstRise : Int64) (L2_firstStart : Int64) : Option ((Int32 × Int64 × Int64 × Int32 × (Nat → Int32) × (Nat → Int32) × (Nat → Int32) × Int32 × Int32 × (Nat → Int32) × (Nat → Int32) × (Nat → Int64) × (Nat → Int64) × Int64 × Int64 × (Nat → Int64) × (Nat → Int64) × Int64 × Int64 × (Nat → Int32) × (Nat → Int64) × (Nat → Int64) × (Nat → Int64) × (Nat → Int64) × (Nat → Int64) × Int64 × (Nat → Int64) × (Nat → Int64) × (Nat → Int64) × (Nat → Int64) × Int64 × Int64) ⊕ (Int32 × Int64 × Int64 × (Nat → Int32) × (Nat → Int32) × (Nat → Int32) × Int32 × Int32 × (Nat → Int32) × (Nat → Int32) × (Nat → Int64) × (Nat → Int64) × Int64 × Int64 × (Nat → Int64) × (Nat → Int64) × Int64 × Int64 × (Nat → Int32) × (Nat → Int64) × (Nat → Int64) × (Nat → Int64) × (Nat → Int64) × (Nat → Int64) × Int64 × (Nat → Int64) × (Nat → Int64) × (Nat → Int64) × (Nat → Int64) × Int64 × Int64)) :=
  nm (l7 + (1 : Int32)) fun l7_91 =>
  some (.inl (l2, l3, l5, l7_91, J2_clear, G2_way, G2_wayBefore, G2_known, G2_total, G2_kind, G2_who, G2_over, G2_under, G2_endOver, G2_endUnder, G2_dueOver, G2_dueUnder, G2_soonOver, G2_soonUnder, L2_stretch, L2_rest, L2_forceRise, L2_forceStart, L2_slipRise, L2_slipStart, L2_under, L2_byFirst, L2_byLoad, L2_bare, L2_scale, L2_firstRise, L2_firstStart))
noncomputable def fb_X_tunes_36 (F : Nat) (l1 : Int32) (J2_give : Nat → Int32) (J2_yieldAt : Nat → Int32) (J2_soft : Nat → Int32) (J2_breakAt : Nat → Int32) (J2_out : Nat → Int32) (J2_pitches : Nat → Int32) (J2_bolts : Int32) (J2_upper : Int32) (J2_lower : Int32) (l2 : Int32) (l3 : Int64) (l5 : Int64) (l7 : Int32) (J2_clear : Nat → Int32) (G2_way : Nat → Int32) (G2_wayBefore : Nat → Int32) (G2_known : Int32) (G2_total : Int32) (G2_kind : Nat → Int32) (G2_who : Nat → Int32) (G2_over : Nat → Int64) (G2_under : Nat → Int64) (G2_endOver : Int64) (G2_endUnder : Int64) (G2_dueOver : Nat → Int64) (G2_dueUnder : Nat → Int64) (G2_soonOver : Int64) (G2_soonUnder : Int64) (L2_stretch : Nat → Int32) (L2_rest : Nat → Int64) (L2_forceRise : Nat → Int64) (L2_forceStart : Nat → Int64) (L2_slipRise : Nat → Int64) (L2_slipStart : Nat → Int64) (L2_under : Int64) (L2_byFirst : Nat → Int64) (L2_byLoad : Nat → Int64) (L2_bare : Nat → Int64) (L2_scale : Nat → Int64) (L2_firstRise : Int64) (L2_firstStart : Int64) : Option ((Int32 × Int64 × Int64 × Int32 × (Nat → Int32) × (Nat → Int32) × (Nat → Int32) × Int32 × Int32 × (Nat → Int32) × (Nat → Int32) × (Nat → Int64) × (Nat → Int64) × Int64 × Int64 × (Nat → Int64) × (Nat → Int64) × Int64 × Int64 × (Nat → Int32) × (Nat → Int64) × (Nat → Int64) × (Nat → Int64) × (Nat → Int64) × (Nat → Int64) × Int64 × (Nat → Int64) × (Nat → Int64) × (Nat → Int64) × (Nat → Int64) × Int64 × Int64) ⊕ (Int32 × Int64 × Int64 × (Nat → Int32) × (Nat → Int32) × (Nat → Int32) × Int32 × Int32 × (Nat → Int32) × (Nat → Int32) × (Nat → Int64) × (Nat → Int64) × Int64 × Int64 × (Nat → Int64) × (Nat → Int64) × Int64 × Int64 × (Nat → Int32) × (Nat → Int64) × (Nat → Int64) × (Nat → Int64) × (Nat → Int64) × (Nat → Int64) × Int64 × (Nat → Int64) × (Nat → Int64) × (Nat → Int64) × (Nat → Int64) × Int64 × Int64)) :=
  if (9 : Int32) < l7 then
    some (.inr (l2, l3, l5, J2_clear, G2_way, G2_wayBefore, G2_known, G2_total, G2_kind, G2_who, G2_over, G2_under, G2_endOver, G2_endUnder, G2_dueOver, G2_dueUnder, G2_soonOver, G2_soonUnder, L2_stretch, L2_rest, L2_forceRise, L2_forceStart, L2_slipRise, L2_slipStart, L2_under, L2_byFirst, L2_byLoad, L2_bare, L2_scale, L2_firstRise, L2_firstStart))
  else
    (stI J2_clear 5 l1 l7).bind fun J2_clear_53 =>
    bd27 (f_X_guessPeak F J2_give J2_clear_53 J2_yieldAt J2_soft J2_breakAt J2_out J2_pitches J2_bolts J2_upper J2_lower G2_way G2_wayBefore G2_known G2_total G2_kind G2_who G2_over G2_under G2_endOver G2_endUnder G2_dueOver G2_dueUnder G2_soonOver G2_soonUnder L2_stretch L2_rest L2_forceRise L2_forceStart L2_slipRise L2_slipStart L2_under L2_byFirst L2_byLoad L2_bare L2_scale L2_firstRise L2_firstStart) fun G2_way_55 G2_wayBefore_55 G2_known_55 G2_total_55 G2_kind_55 G2_who_55 G2_over_55 G2_under_55 G2_endOver_55 G2_endUnder_55 G2_dueOver_55 G2_dueUnder_55 G2_soonOver_55 G2_soonUnder_55 L2_stretch_55 L2_rest_55 L2_forceRise_55 L2_forceStart_55 L2_slipRise_55 L2_slipStart_55 L2_under_55 L2_byFirst_55 L2_byLoad_55 L2_bare_55 L2_scale_55 L2_firstRise_55 L2_firstStart_55 =>
    (f_G_comparePeak l3 l5 G2_endOver_55 G2_endUnder_55).bind fun r_65 =>
    if r_65 ≤ (0 : Int32) then
      fj_X_tunes_91 l2 l3 l5 l7 J2_clear_53 G2_way_55 G2_wayBefore_55 G2_known_55 G2_total_55 G2_kind_55 G2_who_55 G2_over_55 G2_under_55 G2_endOver_55 G2_endUnder_55 G2_dueOver_55 G2_dueUnder_55 G2_soonOver_55 G2_soonUnder_55 L2_stretch_55 L2_rest_55 L2_forceRise_55 L2_forceStart_55 L2_slipRise_55 L2_slipStart_55 L2_under_55 L2_byFirst_55 L2_byLoad_55 L2_bare_55 L2_scale_55 L2_firstRise_55 L2_firstStart_55
    else
      fj_X_tunes_91 l7 G2_endOver_55 G2_endUnder_55 l7 J2_clear_53 G2_way_55 G2_wayBefore_55 G2_known_55 G2_total_55 G2_kind_55 G2_who_55 G2_over_55 G2_under_55 G2_endOver_55 G2_endUnder_55 G2_dueOver_55 G2_dueUnder_55 G2_soonOver_55 G2_soonUnder_55 L2_stretch_55 L2_rest_55 L2_forceRise_55 L2_forceStart_55 L2_slipRise_55 L2_slipStart_55 L2_under_55 L2_byFirst_55 L2_byLoad_55 L2_bare_55 L2_scale_55 L2_firstRise_55 L2_firstStart_55
noncomputable def f_X_tunes (F : Nat) (l1 : Int32) (J1_give : Nat → Int32) (J1_clear : Nat → Int32) (J1_yieldAt : Nat → Int32) (J1_soft : Nat → Int32) (J1_breakAt : Nat → Int32) (J1_out : Nat → Int32) (J1_pitches : Nat → Int32) (J1_bolts : Int32) (J1_upper : Int32) (J1_lower : Int32) (J2_give : Nat → Int32) (J2_clear : Nat → Int32) (J2_yieldAt : Nat → Int32) (J2_soft : Nat → Int32) (J2_breakAt : Nat → Int32) (J2_out : Nat → Int32) (J2_pitches : Nat → Int32) (J2_bolts : Int32) (J2_upper : Int32) (J2_lower : Int32) (G2_way : Nat → Int32) (G2_wayBefore : Nat → Int32) (G2_known : Int32) (G2_total : Int32) (G2_kind : Nat → Int32) (G2_who : Nat → Int32) (G2_over : Nat → Int64) (G2_under : Nat → Int64) (G2_endOver : Int64) (G2_endUnder : Int64) (G2_dueOver : Nat → Int64) (G2_dueUnder : Nat → Int64) (G2_soonOver : Int64) (G2_soonUnder : Int64) (L2_stretch : Nat → Int32) (L2_rest : Nat → Int64) (L2_forceRise : Nat → Int64) (L2_forceStart : Nat → Int64) (L2_slipRise : Nat → Int64) (L2_slipStart : Nat → Int64) (L2_under : Int64) (L2_byFirst : Nat → Int64) (L2_byLoad : Nat → Int64) (L2_bare : Nat → Int64) (L2_scale : Nat → Int64) (L2_firstRise : Int64) (L2_firstStart : Int64) (R_numbers : Nat → Int64) (R_size : Int32) : Option (Int32 × (Nat → Int32) × (Nat → Int32) × (Nat → Int32) × (Nat → Int32) × (Nat → Int32) × (Nat → Int32) × (Nat → Int32) × Int32 × Int32 × Int32 × (Nat → Int32) × (Nat → Int32) × Int32 × Int32 × (Nat → Int32) × (Nat → Int32) × (Nat → Int64) × (Nat → Int64) × Int64 × Int64 × (Nat → Int64) × (Nat → Int64) × Int64 × Int64 × (Nat → Int32) × (Nat → Int64) × (Nat → Int64) × (Nat → Int64) × (Nat → Int64) × (Nat → Int64) × Int64 × (Nat → Int64) × (Nat → Int64) × (Nat → Int64) × (Nat → Int64) × Int64 × Int64 × (Nat → Int64) × Int32) :=
  (f_J_has l1 J1_bolts).bind fun r_5 =>
  if r_5 = (0 : Int32) then
    some ((-1 : Int32), J2_give, J2_clear, J2_yieldAt, J2_soft, J2_breakAt, J2_out, J2_pitches, J2_bolts, J2_upper, J2_lower, G2_way, G2_wayBefore, G2_known, G2_total, G2_kind, G2_who, G2_over, G2_under, G2_endOver, G2_endUnder, G2_dueOver, G2_dueUnder, G2_soonOver, G2_soonUnder, L2_stretch, L2_rest, L2_forceRise, L2_forceStart, L2_slipRise, L2_slipStart, L2_under, L2_byFirst, L2_byLoad, L2_bare, L2_scale, L2_firstRise, L2_firstStart, R_numbers, R_size)
  else
    bd10 (f_J_copyAll F J2_give J2_clear J2_yieldAt J2_soft J2_breakAt J2_out J2_pitches J2_bolts J2_upper J2_lower J1_give J1_clear J1_yieldAt J1_soft J1_breakAt J1_out J1_pitches J1_bolts J1_upper J1_lower) fun J2_give_21 J2_clear_21 J2_yieldAt_21 J2_soft_21 J2_breakAt_21 J2_out_21 J2_pitches_21 J2_bolts_21 J2_upper_21 J2_lower_21 =>
    bd31 (iter (un32 (fb_X_tunes_36 F l1 J2_give_21 J2_yieldAt_21 J2_soft_21 J2_breakAt_21 J2_out_21 J2_pitches_21 J2_bolts_21 J2_upper_21 J2_lower_21)) F ((0 : Int32), (-1 : Int64), (1 : Int64), (0 : Int32), J2_clear_21, G2_way, G2_wayBefore, G2_known, G2_total, G2_kind, G2_who, G2_over, G2_under, G2_endOver, G2_endUnder, G2_dueOver, G2_dueUnder, G2_soonOver, G2_soonUnder, L2_stretch, L2_rest, L2_forceRise, L2_forceStart, L2_slipRise, L2_slipStart, L2_under, L2_byFirst, L2_byLoad, L2_bare, L2_scale, L2_firstRise, L2_firstStart)) fun l2_36 l3_36 l5_36 J2_clear_36 G2_way_36 G2_wayBefore_36 G2_known_36 G2_total_36 G2_kind_36 G2_who_36 G2_over_36 G2_under_36 G2_endOver_36 G2_endUnder_36 G2_dueOver_36 G2_dueUnder_36 G2_soonOver_36 G2_soonUnder_36 L2_stretch_36 L2_rest_36 L2_forceRise_36 L2_forceStart_36 L2_slipRise_36 L2_slipStart_36 L2_under_36 L2_byFirst_36 L2_byLoad_36 L2_bare_36 L2_scale_36 L2_firstRise_36 L2_firstStart_36 =>
    bd2 (f_R_fraction F l3_36 l5_36 R_numbers (0 : Int32)) fun R_numbers_112 R_size_112 =>
    some (l2_36, J2_give_21, J2_clear_36, J2_yieldAt_21, J2_soft_21, J2_breakAt_21, J2_out_21, J2_pitches_21, J2_bolts_21, J2_upper_21, J2_lower_21, G2_way_36, G2_wayBefore_36, G2_known_36, G2_total_36, G2_kind_36, G2_who_36, G2_over_36, G2_under_36, G2_endOver_36, G2_endUnder_36, G2_dueOver_36, G2_dueUnder_36, G2_soonOver_36, G2_soonUnder_36, L2_stretch_36, L2_rest_36, L2_forceRise_36, L2_forceStart_36, L2_slipRise_36, L2_slipStart_36, L2_under_36, L2_byFirst_36, L2_byLoad_36, L2_bare_36, L2_scale_36, L2_firstRise_36, L2_firstStart_36, R_numbers_112, R_size_112)
noncomputable def f_X_changeSeats (l1 : Int32) (l2 : Int32) (X_seats : Nat → Int32) : Option ((Nat → Int32)) :=
  (ldA X_seats 5 l1).bind fun v_5 =>
  (ldA X_seats 5 l2).bind fun v_17 =>
  (stI X_seats 5 l1 v_17).bind fun X_seats_18 =>
  (stI X_seats_18 5 l2 v_5).bind fun X_seats_25 =>
  some X_seats_25
noncomputable def fb_X_nextSeats_10 (X_seats : Nat → Int32) (l1 : Int32) : Option ((Int32) ⊕ (Int32)) :=
  if l1 < (0 : Int32) then
    some (.inr l1)
  else
    (ldA X_seats 5 l1).bind fun v_19 =>
    (ldA X_seats 5 (l1 + (1 : Int32))).bind fun v_27 =>
    if v_19 ≤ v_27 then
      some (.inr l1)
    else
      nm (l1 + (-1 : Int32)) fun l1_31 =>
      some (.inl l1_31)
noncomputable def fb_X_nextSeats_53 (l1 : Int32) (X_seats : Nat → Int32) (l2 : Int32) : Option ((Int32) ⊕ (Int32)) :=
  if l2 ≤ l1 then
    some (.inr l2)
  else
    (ldA X_seats 5 l2).bind fun v_63 =>
    (ldA X_seats 5 l1).bind fun v_69 =>
    if v_69 ≤ v_63 then
      some (.inr l2)
    else
      nm (l2 + (-1 : Int32)) fun l2_73 =>
      some (.inl l2_73)
noncomputable def fb_X_nextSeats_100 (l3 : Int32) (l4 : Int32) (X_seats : Nat → Int32) : Option ((Int32 × Int32 × (Nat → Int32)) ⊕ ((Nat → Int32))) :=
  if l4 ≤ l3 then
    some (.inr X_seats)
  else
    (f_X_changeSeats l3 l4 X_seats).bind fun X_seats_110 =>
    nm (l3 + (1 : Int32)) fun l3_113 =>
    nm (l4 + (-1 : Int32)) fun l4_116 =>
    some (.inl (l3_113, l4_116, X_seats_110))
noncomputable def fj_X_nextSeats_79 (F : Nat) (l1 : Int32) (l2 : Int32) (X_seats : Nat → Int32) (J1_bolts : Int32) : Option (Int32 × (Nat → Int32)) :=
  (f_X_changeSeats l1 l2 X_seats).bind fun X_seats_82 =>
  nm (l1 + (1 : Int32)) fun l3_88 =>
  nm (J1_bolts - (1 : Int32)) fun l4_98 =>
  (iter (un3 (fb_X_nextSeats_100)) F (l3_88, l4_98, X_seats_82)).bind fun X_seats_100 =>
  some ((1 : Int32), X_seats_100)
noncomputable def fj_X_nextSeats_37 (F : Nat) (l1 : Int32) (X_seats : Nat → Int32) (J1_bolts : Int32) : Option (Int32 × (Nat → Int32)) :=
  if (0 : Int32) ≤ l1 then
    nm (J1_bolts - (1 : Int32)) fun l2_52 =>
    (iter (fb_X_nextSeats_53 l1 X_seats) F l2_52).bind fun l2_53 =>
    fj_X_nextSeats_79 F l1 l2_53 X_seats J1_bolts
  else
    some ((0 : Int32), X_seats)
noncomputable def f_X_nextSeats (F : Nat) (X_seats : Nat → Int32) (J1_bolts : Int32) : Option (Int32 × (Nat → Int32)) :=
  nm (J1_bolts - (2 : Int32)) fun l1_9 =>
  (iter (fb_X_nextSeats_10 X_seats) F l1_9).bind fun l1_10 =>
  fj_X_nextSeats_37 F l1_10 X_seats J1_bolts
noncomputable def fb_X_seat_2 (X_seats : Nat → Int32) (J1_give : Nat → Int32) (J1_clear : Nat → Int32) (J1_yieldAt : Nat → Int32) (J1_soft : Nat → Int32) (J1_breakAt : Nat → Int32) (J1_out : Nat → Int32) (J1_bolts : Int32) (l1 : Int32) (J2_give : Nat → Int32) (J2_clear : Nat → Int32) (J2_yieldAt : Nat → Int32) (J2_soft : Nat → Int32) (J2_breakAt : Nat → Int32) (J2_out : Nat → Int32) : Option ((Int32 × (Nat → Int32) × (Nat → Int32) × (Nat → Int32) × (Nat → Int32) × (Nat → Int32) × (Nat → Int32)) ⊕ ((Nat → Int32) × (Nat → Int32) × (Nat → Int32) × (Nat → Int32) × (Nat → Int32) × (Nat → Int32))) :=
  if J1_bolts ≤ l1 then
    some (.inr (J2_give, J2_clear, J2_yieldAt, J2_soft, J2_breakAt, J2_out))
  else
    (ldA X_seats 5 l1).bind fun v_26 =>
    bd6 (f_J_copyBolt v_26 l1 J2_give J2_clear J2_yieldAt J2_soft J2_breakAt J2_out J1_give J1_clear J1_yieldAt J1_soft J1_breakAt J1_out) fun J2_give_28 J2_clear_28 J2_yieldAt_28 J2_soft_28 J2_breakAt_28 J2_out_28 =>
    nm (l1 + (1 : Int32)) fun l1_31 =>
    some (.inl (l1_31, J2_give_28, J2_clear_28, J2_yieldAt_28, J2_soft_28, J2_breakAt_28, J2_out_28))
noncomputable def f_X_seat (F : Nat) (X_seats : Nat → Int32) (J1_give : Nat → Int32) (J1_clear : Nat → Int32) (J1_yieldAt : Nat → Int32) (J1_soft : Nat → Int32) (J1_breakAt : Nat → Int32) (J1_out : Nat → Int32) (J1_bolts : Int32) (J2_give : Nat → Int32) (J2_clear : Nat → Int32) (J2_yieldAt : Nat → Int32) (J2_soft : Nat → Int32) (J2_breakAt : Nat → Int32) (J2_out : Nat → Int32) : Option ((Nat → Int32) × (Nat → Int32) × (Nat → Int32) × (Nat → Int32) × (Nat → Int32) × (Nat → Int32)) :=
  bd6 (iter (un7 (fb_X_seat_2 X_seats J1_give J1_clear J1_yieldAt J1_soft J1_breakAt J1_out J1_bolts)) F ((0 : Int32), J2_give, J2_clear, J2_yieldAt, J2_soft, J2_breakAt, J2_out)) fun J2_give_2 J2_clear_2 J2_yieldAt_2 J2_soft_2 J2_breakAt_2 J2_out_2 =>
  some (J2_give_2, J2_clear_2, J2_yieldAt_2, J2_soft_2, J2_breakAt_2, J2_out_2)
noncomputable def fj_X_tellSeats_60 (l6 : Int32) (s0 : Int32) (s1 : Int32) (R_numbers : Nat → Int64) (R_size : Int32) : Option ((Int32 × Int32 × (Nat → Int64) × Int32) ⊕ (Int32 × (Nat → Int64) × Int32)) :=
  nm (s0 ||| s1) fun l5_61 =>
  nm (l6 + (1 : Int32)) fun l6_63 =>
  some (.inl (l5_61, l6_63, R_numbers, R_size))
noncomputable def fb_X_tellSeats_14 (X_bestSeats : Nat → Int32) (J1_bolts : Int32) (l5 : Int32) (l6 : Int32) (R_numbers : Nat → Int64) (R_size : Int32) : Option ((Int32 × Int32 × (Nat → Int64) × Int32) ⊕ (Int32 × (Nat → Int64) × Int32)) :=
  if J1_bolts ≤ l6 then
    some (.inr (l5, R_numbers, R_size))
  else
    (ldA X_bestSeats 5 l6).bind fun v_36 =>
    bd2 (f_R_whole (Int32.toInt64 v_36) R_numbers R_size) fun R_numbers_38 R_size_38 =>
    (ldA X_bestSeats 5 l6).bind fun v_49 =>
    if v_49 = l6 then
      fj_X_tellSeats_60 l6 l5 (0 : Int32) R_numbers_38 R_size_38
    else
      fj_X_tellSeats_60 l6 l5 (1 : Int32) R_numbers_38 R_size_38
noncomputable def f_X_tellSeats (F : Nat) (l1 : Int64) (l3 : Int64) (X_bestSeats : Nat → Int32) (J1_bolts : Int32) (R_numbers : Nat → Int64) (R_size : Int32) : Option (Int32 × (Nat → Int64) × Int32) :=
  bd3 (iter (un4 (fb_X_tellSeats_14 X_bestSeats J1_bolts)) F ((0 : Int32), (0 : Int32), R_numbers, (0 : Int32))) fun l5_14 R_numbers_14 R_size_14 =>
  bd2 (f_R_fraction F l1 l3 R_numbers_14 R_size_14) fun R_numbers_75 R_size_75 =>
  if l5_14 = (0 : Int32) then
    some ((0 : Int32), R_numbers_75, R_size_75)
  else
    some ((1 : Int32), R_numbers_75, R_size_75)
noncomputable def fb_X_arranges_25 (J1_bolts : Int32) (l1 : Int32) (X_seats : Nat → Int32) : Option ((Int32 × (Nat → Int32)) ⊕ ((Nat → Int32))) :=
  if J1_bolts ≤ l1 then
    some (.inr X_seats)
  else
    (stI X_seats 5 l1 l1).bind fun X_seats_42 =>
    nm (l1 + (1 : Int32)) fun l1_43 =>
    some (.inl (l1_43, X_seats_42))
noncomputable def fj_X_arranges_129 (F : Nat) (l1 : Int64) (l3 : Int64) (l6 : Int32) (X_seats : Nat → Int32) (X_bestSeats : Nat → Int32) (J1_bolts : Int32) (J2_give : Nat → Int32) (J2_clear : Nat → Int32) (J2_yieldAt : Nat → Int32) (J2_soft : Nat → Int32) (J2_breakAt : Nat → Int32) (J2_out : Nat → Int32) (G2_way : Nat → Int32) (G2_wayBefore : Nat → Int32) (G2_known : Int32) (G2_total : Int32) (G2_kind : Nat → Int32) (G2_who : Nat → Int32) (G2_over : Nat → Int64) (G2_under : Nat → Int64) (G2_endOver : Int64) (G2_endUnder : Int64) (G2_dueOver : Nat → Int64) (G2_dueUnder : Nat → Int64) (G2_soonOver : Int64) (G2_soonUnder : Int64) (L2_stretch : Nat → Int32) (L2_rest : Nat → Int64) (L2_forceRise : Nat → Int64) (L2_forceStart : Nat → Int64) (L2_slipRise : Nat → Int64) (L2_slipStart : Nat → Int64) (L2_under : Int64) (L2_byFirst : Nat → Int64) (L2_byLoad : Nat → Int64) (L2_bare : Nat → Int64) (L2_scale : Nat → Int64) (L2_firstRise : Int64) (L2_firstStart : Int64) : Option ((Int64 × Int64 × Int32 × Int32 × (Nat → Int32) × (Nat → Int32) × (Nat → Int32) × (Nat → Int32) × (Nat → Int32) × (Nat → Int32) × (Nat → Int32) × (Nat → Int32) × (Nat → Int32) × (Nat → Int32) × Int32 × Int32 × (Nat → Int32) × (Nat → Int32) × (Nat → Int64) × (Nat → Int64) × Int64 × Int64 × (Nat → Int64) × (Nat → Int64) × Int64 × Int64 × (Nat → Int32) × (Nat → Int64) × (Nat → Int64) × (Nat → Int64) × (Nat → Int64) × (Nat → Int64) × Int64 × (Nat → Int64) × (Nat → Int64) × (Nat → Int64) × (Nat → Int64) × Int64 × Int64) ⊕ (Int64 × Int64 × (Nat → Int32) × (Nat → Int32) × (Nat → Int32) × (Nat → Int32) × (Nat → Int32) × (Nat → Int32) × (Nat → Int32) × (Nat → Int32) × (Nat → Int32) × (Nat → Int32) × Int32 × Int32 × (Nat → Int32) × (Nat → Int32) × (Nat → Int64) × (Nat → Int64) × Int64 × Int64 × (Nat → Int64) × (Nat → Int64) × Int64 × Int64 × (Nat → Int32) × (Nat → Int64) × (Nat → Int64) × (Nat → Int64) × (Nat → Int64) × (Nat → Int64) × Int64 × (Nat → Int64) × (Nat → Int64) × (Nat → Int64) × (Nat → Int64) × Int64 × Int64)) :=
  bd2 (f_X_nextSeats F X_seats J1_bolts) fun r_130 X_seats_130 =>
  nm (l6 + (1 : Int32)) fun l6_135 =>
  some (.inl (l1, l3, r_130, l6_135, X_seats_130, X_bestSeats, J2_give, J2_clear, J2_yieldAt, J2_soft, J2_breakAt, J2_out, G2_way, G2_wayBefore, G2_known, G2_total, G2_kind, G2_who, G2_over, G2_under, G2_endOver, G2_endUnder, G2_dueOver, G2_dueUnder, G2_soonOver, G2_soonUnder, L2_stretch, L2_rest, L2_forceRise, L2_forceStart, L2_slipRise, L2_slipStart, L2_under, L2_byFirst, L2_byLoad, L2_bare, L2_scale, L2_firstRise, L2_firstStart))
noncomputable def fb_X_arranges_61 (F : Nat) (J1_give : Nat → Int32) (J1_clear : Nat → Int32) (J1_yieldAt : Nat → Int32) (J1_soft : Nat → Int32) (J1_breakAt : Nat → Int32) (J1_out : Nat → Int32) (J1_bolts : Int32) (J2_pitches : Nat → Int32) (J2_bolts : Int32) (J2_upper : Int32) (J2_lower : Int32) (l1 : Int64) (l3 : Int64) (l5 : Int32) (l6 : Int32) (X_seats : Nat → Int32) (X_bestSeats : Nat → Int32) (J2_give : Nat → Int32) (J2_clear : Nat → Int32) (J2_yieldAt : Nat → Int32) (J2_soft : Nat → Int32) (J2_breakAt : Nat → Int32) (J2_out : Nat → Int32) (G2_way : Nat → Int32) (G2_wayBefore : Nat → Int32) (G2_known : Int32) (G2_total : Int32) (G2_kind : Nat → Int32) (G2_who : Nat → Int32) (G2_over : Nat → Int64) (G2_under : Nat → Int64) (G2_endOver : Int64) (G2_endUnder : Int64) (G2_dueOver : Nat → Int64) (G2_dueUnder : Nat → Int64) (G2_soonOver : Int64) (G2_soonUnder : Int64) (L2_stretch : Nat → Int32) (L2_rest : Nat → Int64) (L2_forceRise : Nat → Int64) (L2_forceStart : Nat → Int64) (L2_slipRise : Nat → Int64) (L2_slipStart : Nat → Int64) (L2_under : Int64) (L2_byFirst : Nat → Int64) (L2_byLoad : Nat → Int64) (L2_bare : Nat → Int64) (L2_scale : Nat → Int64) (L2_firstRise : Int64) (L2_firstStart : Int64) : Option ((Int64 × Int64 × Int32 × Int32 × (Nat → Int32) × (Nat → Int32) × (Nat → Int32) × (Nat → Int32) × (Nat → Int32) × (Nat → Int32) × (Nat → Int32) × (Nat → Int32) × (Nat → Int32) × (Nat → Int32) × Int32 × Int32 × (Nat → Int32) × (Nat → Int32) × (Nat → Int64) × (Nat → Int64) × Int64 × Int64 × (Nat → Int64) × (Nat → Int64) × Int64 × Int64 × (Nat → Int32) × (Nat → Int64) × (Nat → Int64) × (Nat → Int64) × (Nat → Int64) × (Nat → Int64) × Int64 × (Nat → Int64) × (Nat → Int64) × (Nat → Int64) × (Nat → Int64) × Int64 × Int64) ⊕ (Int64 × Int64 × (Nat → Int32) × (Nat → Int32) × (Nat → Int32) × (Nat → Int32) × (Nat → Int32) × (Nat → Int32) × (Nat → Int32) × (Nat → Int32) × (Nat → Int32) × (Nat → Int32) × Int32 × Int32 × (Nat → Int32) × (Nat → Int32) × (Nat → Int64) × (Nat → Int64) × Int64 × Int64 × (Nat → Int64) × (Nat → Int64) × Int64 × Int64 × (Nat → Int32) × (Nat → Int64) × (Nat → Int64) × (Nat → Int64) × (Nat → Int64) × (Nat → Int64) × Int64 × (Nat → Int64) × (Nat → Int64) × (Nat → Int64) × (Nat → Int64) × Int64 × Int64)) :=
  if (120 : Int32) ≤ l6 then
    some (.inr (l1, l3, X_seats, X_bestSeats, J2_give, J2_clear, J2_yieldAt, J2_soft, J2_breakAt, J2_out, G2_way, G2_wayBefore, G2_known, G2_total, G2_kind, G2_who, G2_over, G2_under, G2_endOver, G2_endUnder, G2_dueOver, G2_dueUnder, G2_soonOver, G2_soonUnder, L2_stretch, L2_rest, L2_forceRise, L2_forceStart, L2_slipRise, L2_slipStart, L2_under, L2_byFirst, L2_byLoad, L2_bare, L2_scale, L2_firstRise, L2_firstStart))
  else
    if l5 = (0 : Int32) then
      some (.inr (l1, l3, X_seats, X_bestSeats, J2_give, J2_clear, J2_yieldAt, J2_soft, J2_breakAt, J2_out, G2_way, G2_wayBefore, G2_known, G2_total, G2_kind, G2_who, G2_over, G2_under, G2_endOver, G2_endUnder, G2_dueOver, G2_dueUnder, G2_soonOver, G2_soonUnder, L2_stretch, L2_rest, L2_forceRise, L2_forceStart, L2_slipRise, L2_slipStart, L2_under, L2_byFirst, L2_byLoad, L2_bare, L2_scale, L2_firstRise, L2_firstStart))
    else
      bd6 (f_X_seat F X_seats J1_give J1_clear J1_yieldAt J1_soft J1_breakAt J1_out J1_bolts J2_give J2_clear J2_yieldAt J2_soft J2_breakAt J2_out) fun J2_give_74 J2_clear_74 J2_yieldAt_74 J2_soft_74 J2_breakAt_74 J2_out_74 =>
      bd27 (f_X_guessPeak F J2_give_74 J2_clear_74 J2_yieldAt_74 J2_soft_74 J2_breakAt_74 J2_out_74 J2_pitches J2_bolts J2_upper J2_lower G2_way G2_wayBefore G2_known G2_total G2_kind G2_who G2_over G2_under G2_endOver G2_endUnder G2_dueOver G2_dueUnder G2_soonOver G2_soonUnder L2_stretch L2_rest L2_forceRise L2_forceStart L2_slipRise L2_slipStart L2_under L2_byFirst L2_byLoad L2_bare L2_scale L2_firstRise L2_firstStart) fun G2_way_78 G2_wayBefore_78 G2_known_78 G2_total_78 G2_kind_78 G2_who_78 G2_over_78 G2_under_78 G2_endOver_78 G2_endUnder_78 G2_dueOver_78 G2_dueUnder_78 G2_soonOver_78 G2_soonUnder_78 L2_stretch_78 L2_rest_78 L2_forceRise_78 L2_forceStart_78 L2_slipRise_78 L2_slipStart_78 L2_under_78 L2_byFirst_78 L2_byLoad_78 L2_bare_78 L2_scale_78 L2_firstRise_78 L2_firstStart_78 =>
      (f_G_comparePeak l1 l3 G2_endOver_78 G2_endUnder_78).bind fun r_87 =>
      if r_87 ≤ (0 : Int32) then
        fj_X_arranges_129 F l1 l3 l6 X_seats X_bestSeats J1_bolts J2_give_74 J2_clear_74 J2_yieldAt_74 J2_soft_74 J2_breakAt_74 J2_out_74 G2_way_78 G2_wayBefore_78 G2_known_78 G2_total_78 G2_kind_78 G2_who_78 G2_over_78 G2_under_78 G2_endOver_78 G2_endUnder_78 G2_dueOver_78 G2_dueUnder_78 G2_soonOver_78 G2_soonUnder_78 L2_stretch_78 L2_rest_78 L2_forceRise_78 L2_forceStart_78 L2_slipRise_78 L2_slipStart_78 L2_under_78 L2_byFirst_78 L2_byLoad_78 L2_bare_78 L2_scale_78 L2_firstRise_78 L2_firstStart_78
      else
        (cpI X_seats X_bestSeats 5 5 (0 : Int32) (0 : Int32) J1_bolts).bind fun X_bestSeats_110 =>
        fj_X_arranges_129 F G2_endOver_78 G2_endUnder_78 l6 X_seats X_bestSeats_110 J1_bolts J2_give_74 J2_clear_74 J2_yieldAt_74 J2_soft_74 J2_breakAt_74 J2_out_74 G2_way_78 G2_wayBefore_78 G2_known_78 G2_total_78 G2_kind_78 G2_who_78 G2_over_78 G2_under_78 G2_endOver_78 G2_endUnder_78 G2_dueOver_78 G2_dueUnder_78 G2_soonOver_78 G2_soonUnder_78 L2_stretch_78 L2_rest_78 L2_forceRise_78 L2_forceStart_78 L2_slipRise_78 L2_slipStart_78 L2_under_78 L2_byFirst_78 L2_byLoad_78 L2_bare_78 L2_scale_78 L2_firstRise_78 L2_firstStart_78
noncomputable def f_X_arranges (F : Nat) (X_seats : Nat → Int32) (X_bestSeats : Nat → Int32) (J1_give : Nat → Int32) (J1_clear : Nat → Int32) (J1_yieldAt : Nat → Int32) (J1_soft : Nat → Int32) (J1_breakAt : Nat → Int32) (J1_out : Nat → Int32) (J1_pitches : Nat → Int32) (J1_bolts : Int32) (J1_upper : Int32) (J1_lower : Int32) (J2_give : Nat → Int32) (J2_clear : Nat → Int32) (J2_yieldAt : Nat → Int32) (J2_soft : Nat → Int32) (J2_breakAt : Nat → Int32) (J2_out : Nat → Int32) (J2_pitches : Nat → Int32) (J2_bolts : Int32) (J2_upper : Int32) (J2_lower : Int32) (G2_way : Nat → Int32) (G2_wayBefore : Nat → Int32) (G2_known : Int32) (G2_total : Int32) (G2_kind : Nat → Int32) (G2_who : Nat → Int32) (G2_over : Nat → Int64) (G2_under : Nat → Int64) (G2_endOver : Int64) (G2_endUnder : Int64) (G2_dueOver : Nat → Int64) (G2_dueUnder : Nat → Int64) (G2_soonOver : Int64) (G2_soonUnder : Int64) (L2_stretch : Nat → Int32) (L2_rest : Nat → Int64) (L2_forceRise : Nat → Int64) (L2_forceStart : Nat → Int64) (L2_slipRise : Nat → Int64) (L2_slipStart : Nat → Int64) (L2_under : Int64) (L2_byFirst : Nat → Int64) (L2_byLoad : Nat → Int64) (L2_bare : Nat → Int64) (L2_scale : Nat → Int64) (L2_firstRise : Int64) (L2_firstStart : Int64) (R_numbers : Nat → Int64) (R_size : Int32) : Option (Int32 × (Nat → Int32) × (Nat → Int32) × (Nat → Int32) × (Nat → Int32) × (Nat → Int32) × (Nat → Int32) × (Nat → Int32) × (Nat → Int32) × (Nat → Int32) × Int32 × Int32 × Int32 × (Nat → Int32) × (Nat → Int32) × Int32 × Int32 × (Nat → Int32) × (Nat → Int32) × (Nat → Int64) × (Nat → Int64) × Int64 × Int64 × (Nat → Int64) × (Nat → Int64) × Int64 × Int64 × (Nat → Int32) × (Nat → Int64) × (Nat → Int64) × (Nat → Int64) × (Nat → Int64) × (Nat → Int64) × Int64 × (Nat → Int64) × (Nat → Int64) × (Nat → Int64) × (Nat → Int64) × Int64 × Int64 × (Nat → Int64) × Int32) :=
  if J1_bolts = (0 : Int32) then
    some ((-1 : Int32), X_seats, X_bestSeats, J2_give, J2_clear, J2_yieldAt, J2_soft, J2_breakAt, J2_out, J2_pitches, J2_bolts, J2_upper, J2_lower, G2_way, G2_wayBefore, G2_known, G2_total, G2_kind, G2_who, G2_over, G2_under, G2_endOver, G2_endUnder, G2_dueOver, G2_dueUnder, G2_soonOver, G2_soonUnder, L2_stretch, L2_rest, L2_forceRise, L2_forceStart, L2_slipRise, L2_slipStart, L2_under, L2_byFirst, L2_byLoad, L2_bare, L2_scale, L2_firstRise, L2_firstStart, R_numbers, R_size)
  else
    bd10 (f_J_copyAll F J2_give J2_clear J2_yieldAt J2_soft J2_breakAt J2_out J2_pitches J2_bolts J2_upper J2_lower J1_give J1_clear J1_yieldAt J1_soft J1_breakAt J1_out J1_pitches J1_bolts J1_upper J1_lower) fun J2_give_20 J2_clear_20 J2_yieldAt_20 J2_soft_20 J2_breakAt_20 J2_out_20 J2_pitches_20 J2_bolts_20 J2_upper_20 J2_lower_20 =>
    (iter (un2 (fb_X_arranges_25 J1_bolts)) F ((0 : Int32), X_seats)).bind fun X_seats_25 =>
    bd37 (iter (un39 (fb_X_arranges_61 F J1_give J1_clear J1_yieldAt J1_soft J1_breakAt J1_out J1_bolts J2_pitches_20 J2_bolts_20 J2_upper_20 J2_lower_20)) F ((-1 : Int64), (1 : Int64), (1 : Int32), (0 : Int32), X_seats_25, X_bestSeats, J2_give_20, J2_clear_20, J2_yieldAt_20, J2_soft_20, J2_breakAt_20, J2_out_20, G2_way, G2_wayBefore, G2_known, G2_total, G2_kind, G2_who, G2_over, G2_under, G2_endOver, G2_endUnder, G2_dueOver, G2_dueUnder, G2_soonOver, G2_soonUnder, L2_stretch, L2_rest, L2_forceRise, L2_forceStart, L2_slipRise, L2_slipStart, L2_under, L2_byFirst, L2_byLoad, L2_bare, L2_scale, L2_firstRise, L2_firstStart)) fun l1_61 l3_61 X_seats_61 X_bestSeats_61 J2_give_61 J2_clear_61 J2_yieldAt_61 J2_soft_61 J2_breakAt_61 J2_out_61 G2_way_61 G2_wayBefore_61 G2_known_61 G2_total_61 G2_kind_61 G2_who_61 G2_over_61 G2_under_61 G2_endOver_61 G2_endUnder_61 G2_dueOver_61 G2_dueUnder_61 G2_soonOver_61 G2_soonUnder_61 L2_stretch_61 L2_rest_61 L2_forceRise_61 L2_forceStart_61 L2_slipRise_61 L2_slipStart_61 L2_under_61 L2_byFirst_61 L2_byLoad_61 L2_bare_61 L2_scale_61 L2_firstRise_61 L2_firstStart_61 =>
    bd3 (f_X_tellSeats F l1_61 l3_61 X_bestSeats_61 J1_bolts R_numbers R_size) fun r_144 R_numbers_144 R_size_144 =>
    some (r_144, X_seats_61, X_bestSeats_61, J2_give_61, J2_clear_61, J2_yieldAt_61, J2_soft_61, J2_breakAt_61, J2_out_61, J2_pitches_20, J2_bolts_20, J2_upper_20, J2_lower_20, G2_way_61, G2_wayBefore_61, G2_known_61, G2_total_61, G2_kind_61, G2_who_61, G2_over_61, G2_under_61, G2_endOver_61, G2_endUnder_61, G2_dueOver_61, G2_dueUnder_61, G2_soonOver_61, G2_soonUnder_61, L2_stretch_61, L2_rest_61, L2_forceRise_61, L2_forceStart_61, L2_slipRise_61, L2_slipStart_61, L2_under_61, L2_byFirst_61, L2_byLoad_61, L2_bare_61, L2_scale_61, L2_firstRise_61, L2_firstStart_61, R_numbers_144, R_size_144)
noncomputable def fb_X_fits_39 (l2 : Int32) (J1_clear : Nat → Int32) (J1_bolts : Int32) (l3 : Int32) (J2_clear : Nat → Int32) : Option ((Int32 × (Nat → Int32)) ⊕ ((Nat → Int32))) :=
  if J1_bolts ≤ l3 then
    some (.inr J2_clear)
  else
    (ldA J1_clear 5 l3).bind fun v_66 =>
    nm (if l2 < v_66 then l2 else v_66) fun v_68 =>
    (stI J2_clear 5 l3 v_68).bind fun J2_clear_71 =>
    nm (l3 + (1 : Int32)) fun l3_72 =>
    some (.inl (l3_72, J2_clear_71))
noncomputable def fb_X_fits_33 (F : Nat) (l1 : Int32) (J1_clear : Nat → Int32) (J1_bolts : Int32) (J2_give : Nat → Int32) (J2_yieldAt : Nat → Int32) (J2_soft : Nat → Int32) (J2_breakAt : Nat → Int32) (J2_out : Nat → Int32) (J2_pitches : Nat → Int32) (J2_bolts : Int32) (J2_upper : Int32) (J2_lower : Int32) (l2 : Int32) (J2_clear : Nat → Int32) (G2_way : Nat → Int32) (G2_wayBefore : Nat → Int32) (G2_known : Int32) (G2_total : Int32) (G2_kind : Nat → Int32) (G2_who : Nat → Int32) (G2_over : Nat → Int64) (G2_under : Nat → Int64) (G2_endOver : Int64) (G2_endUnder : Int64) (G2_dueOver : Nat → Int64) (G2_dueUnder : Nat → Int64) (G2_soonOver : Int64) (G2_soonUnder : Int64) (L2_stretch : Nat → Int32) (L2_rest : Nat → Int64) (L2_forceRise : Nat → Int64) (L2_forceStart : Nat → Int64) (L2_slipRise : Nat → Int64) (L2_slipStart : Nat → Int64) (L2_under : Int64) (L2_byFirst : Nat → Int64) (L2_byLoad : Nat → Int64) (L2_bare : Nat → Int64) (L2_scale : Nat → Int64) (L2_firstRise : Int64) (L2_firstStart : Int64) : Option ((Int32 × (Nat → Int32) × (Nat → Int32) × (Nat → Int32) × Int32 × Int32 × (Nat → Int32) × (Nat → Int32) × (Nat → Int64) × (Nat → Int64) × Int64 × Int64 × (Nat → Int64) × (Nat → Int64) × Int64 × Int64 × (Nat → Int32) × (Nat → Int64) × (Nat → Int64) × (Nat → Int64) × (Nat → Int64) × (Nat → Int64) × Int64 × (Nat → Int64) × (Nat → Int64) × (Nat → Int64) × (Nat → Int64) × Int64 × Int64) ⊕ (Nat × Int32 × (Nat → Int32) × (Nat → Int32) × (Nat → Int32) × Int32 × Int32 × (Nat → Int32) × (Nat → Int32) × (Nat → Int64) × (Nat → Int64) × Int64 × Int64 × (Nat → Int64) × (Nat → Int64) × Int64 × Int64 × (Nat → Int32) × (Nat → Int64) × (Nat → Int64) × (Nat → Int64) × (Nat → Int64) × (Nat → Int64) × Int64 × (Nat → Int64) × (Nat → Int64) × (Nat → Int64) × (Nat → Int64) × Int64 × Int64)) :=
  if l2 < (0 : Int32) then
    some (.inr (1, l2, J2_clear, G2_way, G2_wayBefore, G2_known, G2_total, G2_kind, G2_who, G2_over, G2_under, G2_endOver, G2_endUnder, G2_dueOver, G2_dueUnder, G2_soonOver, G2_soonUnder, L2_stretch, L2_rest, L2_forceRise, L2_forceStart, L2_slipRise, L2_slipStart, L2_under, L2_byFirst, L2_byLoad, L2_bare, L2_scale, L2_firstRise, L2_firstStart))
  else
    (iter (un2 (fb_X_fits_39 l2 J1_clear J1_bolts)) F ((0 : Int32), J2_clear)).bind fun J2_clear_39 =>
    bd27 (f_X_guessPeak F J2_give J2_clear_39 J2_yieldAt J2_soft J2_breakAt J2_out J2_pitches J2_bolts J2_upper J2_lower G2_way G2_wayBefore G2_known G2_total G2_kind G2_who G2_over G2_under G2_endOver G2_endUnder G2_dueOver G2_dueUnder G2_soonOver G2_soonUnder L2_stretch L2_rest L2_forceRise L2_forceStart L2_slipRise L2_slipStart L2_under L2_byFirst L2_byLoad L2_bare L2_scale L2_firstRise L2_firstStart) fun G2_way_79 G2_wayBefore_79 G2_known_79 G2_total_79 G2_kind_79 G2_who_79 G2_over_79 G2_under_79 G2_endOver_79 G2_endUnder_79 G2_dueOver_79 G2_dueUnder_79 G2_soonOver_79 G2_soonUnder_79 L2_stretch_79 L2_rest_79 L2_forceRise_79 L2_forceStart_79 L2_slipRise_79 L2_slipStart_79 L2_under_79 L2_byFirst_79 L2_byLoad_79 L2_bare_79 L2_scale_79 L2_firstRise_79 L2_firstStart_79 =>
    (f_G_comparePeak (Int32.toInt64 l1) (1 : Int64) G2_endOver_79 G2_endUnder_79).bind fun r_89 =>
    if r_89 < (0 : Int32) then
      nm (l2 + (-1 : Int32)) fun l2_126 =>
      some (.inl (l2_126, J2_clear_39, G2_way_79, G2_wayBefore_79, G2_known_79, G2_total_79, G2_kind_79, G2_who_79, G2_over_79, G2_under_79, G2_endOver_79, G2_endUnder_79, G2_dueOver_79, G2_dueUnder_79, G2_soonOver_79, G2_soonUnder_79, L2_stretch_79, L2_rest_79, L2_forceRise_79, L2_forceStart_79, L2_slipRise_79, L2_slipStart_79, L2_under_79, L2_byFirst_79, L2_byLoad_79, L2_bare_79, L2_scale_79, L2_firstRise_79, L2_firstStart_79))
    else
      some (.inr (0, l2, J2_clear_39, G2_way_79, G2_wayBefore_79, G2_known_79, G2_total_79, G2_kind_79, G2_who_79, G2_over_79, G2_under_79, G2_endOver_79, G2_endUnder_79, G2_dueOver_79, G2_dueUnder_79, G2_soonOver_79, G2_soonUnder_79, L2_stretch_79, L2_rest_79, L2_forceRise_79, L2_forceStart_79, L2_slipRise_79, L2_slipStart_79, L2_under_79, L2_byFirst_79, L2_byLoad_79, L2_bare_79, L2_scale_79, L2_firstRise_79, L2_firstStart_79))
noncomputable def f_X_fits (F : Nat) (l1 : Int32) (J1_give : Nat → Int32) (J1_clear : Nat → Int32) (J1_yieldAt : Nat → Int32) (J1_soft : Nat → Int32) (J1_breakAt : Nat → Int32) (J1_out : Nat → Int32) (J1_pitches : Nat → Int32) (J1_bolts : Int32) (J1_upper : Int32) (J1_lower : Int32) (J2_give : Nat → Int32) (J2_clear : Nat → Int32) (J2_yieldAt : Nat → Int32) (J2_soft : Nat → Int32) (J2_breakAt : Nat → Int32) (J2_out : Nat → Int32) (J2_pitches : Nat → Int32) (J2_bolts : Int32) (J2_upper : Int32) (J2_lower : Int32) (G2_way : Nat → Int32) (G2_wayBefore : Nat → Int32) (G2_known : Int32) (G2_total : Int32) (G2_kind : Nat → Int32) (G2_who : Nat → Int32) (G2_over : Nat → Int64) (G2_under : Nat → Int64) (G2_endOver : Int64) (G2_endUnder : Int64) (G2_dueOver : Nat → Int64) (G2_dueUnder : Nat → Int64) (G2_soonOver : Int64) (G2_soonUnder : Int64) (L2_stretch : Nat → Int32) (L2_rest : Nat → Int64) (L2_forceRise : Nat → Int64) (L2_forceStart : Nat → Int64) (L2_slipRise : Nat → Int64) (L2_slipStart : Nat → Int64) (L2_under : Int64) (L2_byFirst : Nat → Int64) (L2_byLoad : Nat → Int64) (L2_bare : Nat → Int64) (L2_scale : Nat → Int64) (L2_firstRise : Int64) (L2_firstStart : Int64) (R_numbers : Nat → Int64) (R_size : Int32) : Option (Int32 × (Nat → Int32) × (Nat → Int32) × (Nat → Int32) × (Nat → Int32) × (Nat → Int32) × (Nat → Int32) × (Nat → Int32) × Int32 × Int32 × Int32 × (Nat → Int32) × (Nat → Int32) × Int32 × Int32 × (Nat → Int32) × (Nat → Int32) × (Nat → Int64) × (Nat → Int64) × Int64 × Int64 × (Nat → Int64) × (Nat → Int64) × Int64 × Int64 × (Nat → Int32) × (Nat → Int64) × (Nat → Int64) × (Nat → Int64) × (Nat → Int64) × (Nat → Int64) × Int64 × (Nat → Int64) × (Nat → Int64) × (Nat → Int64) × (Nat → Int64) × Int64 × Int64 × (Nat → Int64) × Int32) :=
  (f_X_isLoad l1).bind fun r_1 =>
  if r_1 = (0 : Int32) then
    some ((-1 : Int32), J2_give, J2_clear, J2_yieldAt, J2_soft, J2_breakAt, J2_out, J2_pitches, J2_bolts, J2_upper, J2_lower, G2_way, G2_wayBefore, G2_known, G2_total, G2_kind, G2_who, G2_over, G2_under, G2_endOver, G2_endUnder, G2_dueOver, G2_dueUnder, G2_soonOver, G2_soonUnder, L2_stretch, L2_rest, L2_forceRise, L2_forceStart, L2_slipRise, L2_slipStart, L2_under, L2_byFirst, L2_byLoad, L2_bare, L2_scale, L2_firstRise, L2_firstStart, R_numbers, R_size)
  else
    if J1_bolts = (0 : Int32) then
      some ((-1 : Int32), J2_give, J2_clear, J2_yieldAt, J2_soft, J2_breakAt, J2_out, J2_pitches, J2_bolts, J2_upper, J2_lower, G2_way, G2_wayBefore, G2_known, G2_total, G2_kind, G2_who, G2_over, G2_under, G2_endOver, G2_endUnder, G2_dueOver, G2_dueUnder, G2_soonOver, G2_soonUnder, L2_stretch, L2_rest, L2_forceRise, L2_forceStart, L2_slipRise, L2_slipStart, L2_under, L2_byFirst, L2_byLoad, L2_bare, L2_scale, L2_firstRise, L2_firstStart, R_numbers, R_size)
    else
      bd10 (f_J_copyAll F J2_give J2_clear J2_yieldAt J2_soft J2_breakAt J2_out J2_pitches J2_bolts J2_upper J2_lower J1_give J1_clear J1_yieldAt J1_soft J1_breakAt J1_out J1_pitches J1_bolts J1_upper J1_lower) fun J2_give_27 J2_clear_27 J2_yieldAt_27 J2_soft_27 J2_breakAt_27 J2_out_27 J2_pitches_27 J2_bolts_27 J2_upper_27 J2_lower_27 =>
      bd30 (iter (un29 (fb_X_fits_33 F l1 J1_clear J1_bolts J2_give_27 J2_yieldAt_27 J2_soft_27 J2_breakAt_27 J2_out_27 J2_pitches_27 J2_bolts_27 J2_upper_27 J2_lower_27)) F ((9 : Int32), J2_clear_27, G2_way, G2_wayBefore, G2_known, G2_total, G2_kind, G2_who, G2_over, G2_under, G2_endOver, G2_endUnder, G2_dueOver, G2_dueUnder, G2_soonOver, G2_soonUnder, L2_stretch, L2_rest, L2_forceRise, L2_forceStart, L2_slipRise, L2_slipStart, L2_under, L2_byFirst, L2_byLoad, L2_bare, L2_scale, L2_firstRise, L2_firstStart)) fun c_33 l2_33 J2_clear_33 G2_way_33 G2_wayBefore_33 G2_known_33 G2_total_33 G2_kind_33 G2_who_33 G2_over_33 G2_under_33 G2_endOver_33 G2_endUnder_33 G2_dueOver_33 G2_dueUnder_33 G2_soonOver_33 G2_soonUnder_33 L2_stretch_33 L2_rest_33 L2_forceRise_33 L2_forceStart_33 L2_slipRise_33 L2_slipStart_33 L2_under_33 L2_byFirst_33 L2_byLoad_33 L2_bare_33 L2_scale_33 L2_firstRise_33 L2_firstStart_33 =>
      if c_33 = 0 then
        bd2 (f_R_fraction F G2_endOver_33 G2_endUnder_33 R_numbers (0 : Int32)) fun R_numbers_121 R_size_121 =>
        some (l2_33, J2_give_27, J2_clear_33, J2_yieldAt_27, J2_soft_27, J2_breakAt_27, J2_out_27, J2_pitches_27, J2_bolts_27, J2_upper_27, J2_lower_27, G2_way_33, G2_wayBefore_33, G2_known_33, G2_total_33, G2_kind_33, G2_who_33, G2_over_33, G2_under_33, G2_endOver_33, G2_endUnder_33, G2_dueOver_33, G2_dueUnder_33, G2_soonOver_33, G2_soonUnder_33, L2_stretch_33, L2_rest_33, L2_forceRise_33, L2_forceStart_33, L2_slipRise_33, L2_slipStart_33, L2_under_33, L2_byFirst_33, L2_byLoad_33, L2_bare_33, L2_scale_33, L2_firstRise_33, L2_firstStart_33, R_numbers_121, R_size_121)
      else
        some ((-2 : Int32), J2_give_27, J2_clear_33, J2_yieldAt_27, J2_soft_27, J2_breakAt_27, J2_out_27, J2_pitches_27, J2_bolts_27, J2_upper_27, J2_lower_27, G2_way_33, G2_wayBefore_33, G2_known_33, G2_total_33, G2_kind_33, G2_who_33, G2_over_33, G2_under_33, G2_endOver_33, G2_endUnder_33, G2_dueOver_33, G2_dueUnder_33, G2_soonOver_33, G2_soonUnder_33, L2_stretch_33, L2_rest_33, L2_forceRise_33, L2_forceStart_33, L2_slipRise_33, L2_slipStart_33, L2_under_33, L2_byFirst_33, L2_byLoad_33, L2_bare_33, L2_scale_33, L2_firstRise_33, L2_firstStart_33, R_numbers, R_size)
noncomputable def fb_X_chance_66 (J1_bolts : Int32) (l4 : Int32) (l11 : Int32) (J2_clear : Nat → Int32) : Option ((Int32 × Int32 × (Nat → Int32)) ⊕ (Int32 × (Nat → Int32))) :=
  if J1_bolts ≤ l11 then
    some (.inr (l4, J2_clear))
  else
    nm ((l4 * (1103515245 : Int32)) + (12345 : Int32)) fun l4_88 =>
    (rmI (ushrI l4_88 (16 : Int32)) (10 : Int32)).bind fun v_106 =>
    (stI J2_clear 5 l11 v_106).bind fun J2_clear_107 =>
    nm (l11 + (1 : Int32)) fun l11_108 =>
    some (.inl (l4_88, l11_108, J2_clear_107))
noncomputable def fj_X_chance_166 (l4 : Int32) (l5 : Int32) (l6 : Int64) (l8 : Int64) (l10 : Int32) (J2_clear : Nat → Int32) (G2_way : Nat → Int32) (G2_wayBefore : Nat → Int32) (G2_known : Int32) (G2_total : Int32) (G2_kind : Nat → Int32) (G2_who : Nat → Int32) (G2_over : Nat → Int64) (G2_under : Nat → Int64) (G2_endOver : Int64) (G2_endUnder : Int64) (G2_dueOver : Nat → Int64) (G2_dueUnder : Nat → Int64) (G2_soonOver : Int64) (G2_soonUnder : Int64) (L2_stretch : Nat → Int32) (L2_rest : Nat → Int64) (L2_forceRise : Nat → Int64) (L2_forceStart : Nat → Int64) (L2_slipRise : Nat → Int64) (L2_slipStart : Nat → Int64) (L2_under : Int64) (L2_byFirst : Nat → Int64) (L2_byLoad : Nat → Int64) (L2_bare : Nat → Int64) (L2_scale : Nat → Int64) (L2_firstRise : Int64) (L2_firstStart : Int64) : Option ((Int32 × Int32 × Int64 × Int64 × Int32 × (Nat → Int32) × (Nat → Int32) × (Nat → Int32) × Int32 × Int32 × (Nat → Int32) × (Nat → Int32) × (Nat → Int64) × (Nat → Int64) × Int64 × Int64 × (Nat → Int64) × (Nat → Int64) × Int64 × Int64 × (Nat → Int32) × (Nat → Int64) × (Nat → Int64) × (Nat → Int64) × (Nat → Int64) × (Nat → Int64) × Int64 × (Nat → Int64) × (Nat → Int64) × (Nat → Int64) × (Nat → Int64) × Int64 × Int64) ⊕ (Int32 × Int64 × Int64 × (Nat → Int32) × (Nat → Int32) × (Nat → Int32) × Int32 × Int32 × (Nat → Int32) × (Nat → Int32) × (Nat → Int64) × (Nat → Int64) × Int64 × Int64 × (Nat → Int64) × (Nat → Int64) × Int64 × Int64 × (Nat → Int32) × (Nat → Int64) × (Nat → Int64) × (Nat → Int64) × (Nat → Int64) × (Nat → Int64) × Int64 × (Nat → Int64) × (Nat → Int64) × (Nat → Int64) × (Nat → Int64) × Int64 × Int64)) :=
  nm (l10 + (1 : Int32)) fun l10_166 =>
  some (.inl (l4, l5, l6, l8, l10_166, J2_clear, G2_way, G2_wayBefore, G2_known, G2_total, G2_kind, G2_who, G2_over, G2_under, G2_endOver, G2_endUnder, G2_dueOver, G2_dueUnder, G2_soonOver, G2_soonUnder, L2_stretch, L2_rest, L2_forceRise, L2_forceStart, L2_slipRise, L2_slipStart, L2_under, L2_byFirst, L2_byLoad, L2_bare, L2_scale, L2_firstRise, L2_firstStart))
noncomputable def fj_X_chance_134 (l4 : Int32) (l5 : Int32) (l6 : Int64) (l8 : Int64) (l10 : Int32) (J2_clear : Nat → Int32) (G2_way : Nat → Int32) (G2_wayBefore : Nat → Int32) (G2_known : Int32) (G2_total : Int32) (G2_kind : Nat → Int32) (G2_who : Nat → Int32) (G2_over : Nat → Int64) (G2_under : Nat → Int64) (G2_endOver : Int64) (G2_endUnder : Int64) (G2_dueOver : Nat → Int64) (G2_dueUnder : Nat → Int64) (G2_soonOver : Int64) (G2_soonUnder : Int64) (L2_stretch : Nat → Int32) (L2_rest : Nat → Int64) (L2_forceRise : Nat → Int64) (L2_forceStart : Nat → Int64) (L2_slipRise : Nat → Int64) (L2_slipStart : Nat → Int64) (L2_under : Int64) (L2_byFirst : Nat → Int64) (L2_byLoad : Nat → Int64) (L2_bare : Nat → Int64) (L2_scale : Nat → Int64) (L2_firstRise : Int64) (L2_firstStart : Int64) : Option ((Int32 × Int32 × Int64 × Int64 × Int32 × (Nat → Int32) × (Nat → Int32) × (Nat → Int32) × Int32 × Int32 × (Nat → Int32) × (Nat → Int32) × (Nat → Int64) × (Nat → Int64) × Int64 × Int64 × (Nat → Int64) × (Nat → Int64) × Int64 × Int64 × (Nat → Int32) × (Nat → Int64) × (Nat → Int64) × (Nat → Int64) × (Nat → Int64) × (Nat → Int64) × Int64 × (Nat → Int64) × (Nat → Int64) × (Nat → Int64) × (Nat → Int64) × Int64 × Int64) ⊕ (Int32 × Int64 × Int64 × (Nat → Int32) × (Nat → Int32) × (Nat → Int32) × Int32 × Int32 × (Nat → Int32) × (Nat → Int32) × (Nat → Int64) × (Nat → Int64) × Int64 × Int64 × (Nat → Int64) × (Nat → Int64) × Int64 × Int64 × (Nat → Int32) × (Nat → Int64) × (Nat → Int64) × (Nat → Int64) × (Nat → Int64) × (Nat → Int64) × Int64 × (Nat → Int64) × (Nat → Int64) × (Nat → Int64) × (Nat → Int64) × Int64 × Int64)) :=
  (f_G_comparePeak l6 l8 G2_endOver G2_endUnder).bind fun r_142 =>
  if (0 : Int32) ≤ r_142 then
    fj_X_chance_166 l4 l5 l6 l8 l10 J2_clear G2_way G2_wayBefore G2_known G2_total G2_kind G2_who G2_over G2_under G2_endOver G2_endUnder G2_dueOver G2_dueUnder G2_soonOver G2_soonUnder L2_stretch L2_rest L2_forceRise L2_forceStart L2_slipRise L2_slipStart L2_under L2_byFirst L2_byLoad L2_bare L2_scale L2_firstRise L2_firstStart
  else
    fj_X_chance_166 l4 l5 G2_endOver G2_endUnder l10 J2_clear G2_way G2_wayBefore G2_known G2_total G2_kind G2_who G2_over G2_under G2_endOver G2_endUnder G2_dueOver G2_dueUnder G2_soonOver G2_soonUnder L2_stretch L2_rest L2_forceRise L2_forceStart L2_slipRise L2_slipStart L2_under L2_byFirst L2_byLoad L2_bare L2_scale L2_firstRise L2_firstStart
noncomputable def fb_X_chance_57 (F : Nat) (l2 : Int32) (l3 : Int32) (J1_bolts : Int32) (J2_give : Nat → Int32) (J2_yieldAt : Nat → Int32) (J2_soft : Nat → Int32) (J2_breakAt : Nat → Int32) (J2_out : Nat → Int32) (J2_pitches : Nat → Int32) (J2_bolts : Int32) (J2_upper : Int32) (J2_lower : Int32) (l4 : Int32) (l5 : Int32) (l6 : Int64) (l8 : Int64) (l10 : Int32) (J2_clear : Nat → Int32) (G2_way : Nat → Int32) (G2_wayBefore : Nat → Int32) (G2_known : Int32) (G2_total : Int32) (G2_kind : Nat → Int32) (G2_who : Nat → Int32) (G2_over : Nat → Int64) (G2_under : Nat → Int64) (G2_endOver : Int64) (G2_endUnder : Int64) (G2_dueOver : Nat → Int64) (G2_dueUnder : Nat → Int64) (G2_soonOver : Int64) (G2_soonUnder : Int64) (L2_stretch : Nat → Int32) (L2_rest : Nat → Int64) (L2_forceRise : Nat → Int64) (L2_forceStart : Nat → Int64) (L2_slipRise : Nat → Int64) (L2_slipStart : Nat → Int64) (L2_under : Int64) (L2_byFirst : Nat → Int64) (L2_byLoad : Nat → Int64) (L2_bare : Nat → Int64) (L2_scale : Nat → Int64) (L2_firstRise : Int64) (L2_firstStart : Int64) : Option ((Int32 × Int32 × Int64 × Int64 × Int32 × (Nat → Int32) × (Nat → Int32) × (Nat → Int32) × Int32 × Int32 × (Nat → Int32) × (Nat → Int32) × (Nat → Int64) × (Nat → Int64) × Int64 × Int64 × (Nat → Int64) × (Nat → Int64) × Int64 × Int64 × (Nat → Int32) × (Nat → Int64) × (Nat → Int64) × (Nat → Int64) × (Nat → Int64) × (Nat → Int64) × Int64 × (Nat → Int64) × (Nat → Int64) × (Nat → Int64) × (Nat → Int64) × Int64 × Int64) ⊕ (Int32 × Int64 × Int64 × (Nat → Int32) × (Nat → Int32) × (Nat → Int32) × Int32 × Int32 × (Nat → Int32) × (Nat → Int32) × (Nat → Int64) × (Nat → Int64) × Int64 × Int64 × (Nat → Int64) × (Nat → Int64) × Int64 × Int64 × (Nat → Int32) × (Nat → Int64) × (Nat → Int64) × (Nat → Int64) × (Nat → Int64) × (Nat → Int64) × Int64 × (Nat → Int64) × (Nat → Int64) × (Nat → Int64) × (Nat → Int64) × Int64 × Int64)) :=
  if l2 ≤ l10 then
    some (.inr (l5, l6, l8, J2_clear, G2_way, G2_wayBefore, G2_known, G2_total, G2_kind, G2_who, G2_over, G2_under, G2_endOver, G2_endUnder, G2_dueOver, G2_dueUnder, G2_soonOver, G2_soonUnder, L2_stretch, L2_rest, L2_forceRise, L2_forceStart, L2_slipRise, L2_slipStart, L2_under, L2_byFirst, L2_byLoad, L2_bare, L2_scale, L2_firstRise, L2_firstStart))
  else
    bd2 (iter (un3 (fb_X_chance_66 J1_bolts)) F (l4, (0 : Int32), J2_clear)) fun l4_66 J2_clear_66 =>
    bd27 (f_X_guessPeak F J2_give J2_clear_66 J2_yieldAt J2_soft J2_breakAt J2_out J2_pitches J2_bolts J2_upper J2_lower G2_way G2_wayBefore G2_known G2_total G2_kind G2_who G2_over G2_under G2_endOver G2_endUnder G2_dueOver G2_dueUnder G2_soonOver G2_soonUnder L2_stretch L2_rest L2_forceRise L2_forceStart L2_slipRise L2_slipStart L2_under L2_byFirst L2_byLoad L2_bare L2_scale L2_firstRise L2_firstStart) fun G2_way_115 G2_wayBefore_115 G2_known_115 G2_total_115 G2_kind_115 G2_who_115 G2_over_115 G2_under_115 G2_endOver_115 G2_endUnder_115 G2_dueOver_115 G2_dueUnder_115 G2_soonOver_115 G2_soonUnder_115 L2_stretch_115 L2_rest_115 L2_forceRise_115 L2_forceStart_115 L2_slipRise_115 L2_slipStart_115 L2_under_115 L2_byFirst_115 L2_byLoad_115 L2_bare_115 L2_scale_115 L2_firstRise_115 L2_firstStart_115 =>
    (f_G_comparePeak (Int32.toInt64 l3) (1 : Int64) G2_endOver_115 G2_endUnder_115).bind fun r_125 =>
    if r_125 < (0 : Int32) then
      fj_X_chance_134 l4_66 l5 l6 l8 l10 J2_clear_66 G2_way_115 G2_wayBefore_115 G2_known_115 G2_total_115 G2_kind_115 G2_who_115 G2_over_115 G2_under_115 G2_endOver_115 G2_endUnder_115 G2_dueOver_115 G2_dueUnder_115 G2_soonOver_115 G2_soonUnder_115 L2_stretch_115 L2_rest_115 L2_forceRise_115 L2_forceStart_115 L2_slipRise_115 L2_slipStart_115 L2_under_115 L2_byFirst_115 L2_byLoad_115 L2_bare_115 L2_scale_115 L2_firstRise_115 L2_firstStart_115
    else
      nm (l5 + (1 : Int32)) fun l5_131 =>
      fj_X_chance_134 l4_66 l5_131 l6 l8 l10 J2_clear_66 G2_way_115 G2_wayBefore_115 G2_known_115 G2_total_115 G2_kind_115 G2_who_115 G2_over_115 G2_under_115 G2_endOver_115 G2_endUnder_115 G2_dueOver_115 G2_dueUnder_115 G2_soonOver_115 G2_soonUnder_115 L2_stretch_115 L2_rest_115 L2_forceRise_115 L2_forceStart_115 L2_slipRise_115 L2_slipStart_115 L2_under_115 L2_byFirst_115 L2_byLoad_115 L2_bare_115 L2_scale_115 L2_firstRise_115 L2_firstStart_115
noncomputable def f_X_chance (F : Nat) (l1 : Int32) (l2 : Int32) (l3 : Int32) (J1_give : Nat → Int32) (J1_clear : Nat → Int32) (J1_yieldAt : Nat → Int32) (J1_soft : Nat → Int32) (J1_breakAt : Nat → Int32) (J1_out : Nat → Int32) (J1_pitches : Nat → Int32) (J1_bolts : Int32) (J1_upper : Int32) (J1_lower : Int32) (J2_give : Nat → Int32) (J2_clear : Nat → Int32) (J2_yieldAt : Nat → Int32) (J2_soft : Nat → Int32) (J2_breakAt : Nat → Int32) (J2_out : Nat → Int32) (J2_pitches : Nat → Int32) (J2_bolts : Int32) (J2_upper : Int32) (J2_lower : Int32) (G2_way : Nat → Int32) (G2_wayBefore : Nat → Int32) (G2_known : Int32) (G2_total : Int32) (G2_kind : Nat → Int32) (G2_who : Nat → Int32) (G2_over : Nat → Int64) (G2_under : Nat → Int64) (G2_endOver : Int64) (G2_endUnder : Int64) (G2_dueOver : Nat → Int64) (G2_dueUnder : Nat → Int64) (G2_soonOver : Int64) (G2_soonUnder : Int64) (L2_stretch : Nat → Int32) (L2_rest : Nat → Int64) (L2_forceRise : Nat → Int64) (L2_forceStart : Nat → Int64) (L2_slipRise : Nat → Int64) (L2_slipStart : Nat → Int64) (L2_under : Int64) (L2_byFirst : Nat → Int64) (L2_byLoad : Nat → Int64) (L2_bare : Nat → Int64) (L2_scale : Nat → Int64) (L2_firstRise : Int64) (L2_firstStart : Int64) (R_numbers : Nat → Int64) (R_size : Int32) : Option (Int32 × (Nat → Int32) × (Nat → Int32) × (Nat → Int32) × (Nat → Int32) × (Nat → Int32) × (Nat → Int32) × (Nat → Int32) × Int32 × Int32 × Int32 × (Nat → Int32) × (Nat → Int32) × Int32 × Int32 × (Nat → Int32) × (Nat → Int32) × (Nat → Int64) × (Nat → Int64) × Int64 × Int64 × (Nat → Int64) × (Nat → Int64) × Int64 × Int64 × (Nat → Int32) × (Nat → Int64) × (Nat → Int64) × (Nat → Int64) × (Nat → Int64) × (Nat → Int64) × Int64 × (Nat → Int64) × (Nat → Int64) × (Nat → Int64) × (Nat → Int64) × Int64 × Int64 × (Nat → Int64) × Int32) :=
  (f_X_within l2 (1 : Int32) (40 : Int32)).bind fun r_4 =>
  if r_4 = (0 : Int32) then
    some ((-1 : Int32), J2_give, J2_clear, J2_yieldAt, J2_soft, J2_breakAt, J2_out, J2_pitches, J2_bolts, J2_upper, J2_lower, G2_way, G2_wayBefore, G2_known, G2_total, G2_kind, G2_who, G2_over, G2_under, G2_endOver, G2_endUnder, G2_dueOver, G2_dueUnder, G2_soonOver, G2_soonUnder, L2_stretch, L2_rest, L2_forceRise, L2_forceStart, L2_slipRise, L2_slipStart, L2_under, L2_byFirst, L2_byLoad, L2_bare, L2_scale, L2_firstRise, L2_firstStart, R_numbers, R_size)
  else
    (f_X_isLoad l3).bind fun r_11 =>
    if r_11 = (0 : Int32) then
      some ((-1 : Int32), J2_give, J2_clear, J2_yieldAt, J2_soft, J2_breakAt, J2_out, J2_pitches, J2_bolts, J2_upper, J2_lower, G2_way, G2_wayBefore, G2_known, G2_total, G2_kind, G2_who, G2_over, G2_under, G2_endOver, G2_endUnder, G2_dueOver, G2_dueUnder, G2_soonOver, G2_soonUnder, L2_stretch, L2_rest, L2_forceRise, L2_forceStart, L2_slipRise, L2_slipStart, L2_under, L2_byFirst, L2_byLoad, L2_bare, L2_scale, L2_firstRise, L2_firstStart, R_numbers, R_size)
    else
      if J1_bolts = (0 : Int32) then
        some ((-1 : Int32), J2_give, J2_clear, J2_yieldAt, J2_soft, J2_breakAt, J2_out, J2_pitches, J2_bolts, J2_upper, J2_lower, G2_way, G2_wayBefore, G2_known, G2_total, G2_kind, G2_who, G2_over, G2_under, G2_endOver, G2_endUnder, G2_dueOver, G2_dueUnder, G2_soonOver, G2_soonUnder, L2_stretch, L2_rest, L2_forceRise, L2_forceStart, L2_slipRise, L2_slipStart, L2_under, L2_byFirst, L2_byLoad, L2_bare, L2_scale, L2_firstRise, L2_firstStart, R_numbers, R_size)
      else
        bd10 (f_J_copyAll F J2_give J2_clear J2_yieldAt J2_soft J2_breakAt J2_out J2_pitches J2_bolts J2_upper J2_lower J1_give J1_clear J1_yieldAt J1_soft J1_breakAt J1_out J1_pitches J1_bolts J1_upper J1_lower) fun J2_give_37 J2_clear_37 J2_yieldAt_37 J2_soft_37 J2_breakAt_37 J2_out_37 J2_pitches_37 J2_bolts_37 J2_upper_37 J2_lower_37 =>
        bd31 (iter (un33 (fb_X_chance_57 F l2 l3 J1_bolts J2_give_37 J2_yieldAt_37 J2_soft_37 J2_breakAt_37 J2_out_37 J2_pitches_37 J2_bolts_37 J2_upper_37 J2_lower_37)) F (l1, (0 : Int32), (301 : Int64), (1 : Int64), (0 : Int32), J2_clear_37, G2_way, G2_wayBefore, G2_known, G2_total, G2_kind, G2_who, G2_over, G2_under, G2_endOver, G2_endUnder, G2_dueOver, G2_dueUnder, G2_soonOver, G2_soonUnder, L2_stretch, L2_rest, L2_forceRise, L2_forceStart, L2_slipRise, L2_slipStart, L2_under, L2_byFirst, L2_byLoad, L2_bare, L2_scale, L2_firstRise, L2_firstStart)) fun l5_57 l6_57 l8_57 J2_clear_57 G2_way_57 G2_wayBefore_57 G2_known_57 G2_total_57 G2_kind_57 G2_who_57 G2_over_57 G2_under_57 G2_endOver_57 G2_endUnder_57 G2_dueOver_57 G2_dueUnder_57 G2_soonOver_57 G2_soonUnder_57 L2_stretch_57 L2_rest_57 L2_forceRise_57 L2_forceStart_57 L2_slipRise_57 L2_slipStart_57 L2_under_57 L2_byFirst_57 L2_byLoad_57 L2_bare_57 L2_scale_57 L2_firstRise_57 L2_firstStart_57 =>
        bd2 (f_R_fraction F l6_57 l8_57 R_numbers (0 : Int32)) fun R_numbers_188 R_size_188 =>
        some (l5_57, J2_give_37, J2_clear_57, J2_yieldAt_37, J2_soft_37, J2_breakAt_37, J2_out_37, J2_pitches_37, J2_bolts_37, J2_upper_37, J2_lower_37, G2_way_57, G2_wayBefore_57, G2_known_57, G2_total_57, G2_kind_57, G2_who_57, G2_over_57, G2_under_57, G2_endOver_57, G2_endUnder_57, G2_dueOver_57, G2_dueUnder_57, G2_soonOver_57, G2_soonUnder_57, L2_stretch_57, L2_rest_57, L2_forceRise_57, L2_forceStart_57, L2_slipRise_57, L2_slipStart_57, L2_under_57, L2_byFirst_57, L2_byLoad_57, L2_bare_57, L2_scale_57, L2_firstRise_57, L2_firstStart_57, R_numbers_188, R_size_188)
noncomputable def f_X_count (F : Nat) (l1 : Int32) (G1_way : Nat → Int32) (G1_wayBefore : Nat → Int32) (G1_known : Int32) (G1_total : Int32) (G1_kind : Nat → Int32) (G1_who : Nat → Int32) (G1_over : Nat → Int64) (G1_under : Nat → Int64) (G1_endOver : Int64) (G1_endUnder : Int64) (G1_dueOver : Nat → Int64) (G1_dueUnder : Nat → Int64) (G1_soonOver : Int64) (G1_soonUnder : Int64) (L1_stretch : Nat → Int32) (L1_rest : Nat → Int64) (L1_forceRise : Nat → Int64) (L1_forceStart : Nat → Int64) (L1_slipRise : Nat → Int64) (L1_slipStart : Nat → Int64) (L1_under : Int64) (L1_byFirst : Nat → Int64) (L1_byLoad : Nat → Int64) (L1_bare : Nat → Int64) (L1_scale : Nat → Int64) (L1_firstRise : Int64) (L1_firstStart : Int64) (J1_give : Nat → Int32) (J1_clear : Nat → Int32) (J1_yieldAt : Nat → Int32) (J1_soft : Nat → Int32) (J1_breakAt : Nat → Int32) (J1_out : Nat → Int32) (J1_pitches : Nat → Int32) (J1_bolts : Int32) (J1_upper : Int32) (J1_lower : Int32) (T_size : Int32) (R_size : Int32) : Option (Int32 × (Nat → Int32) × (Nat → Int32) × Int32 × Int32 × (Nat → Int32) × (Nat → Int32) × (Nat → Int64) × (Nat → Int64) × Int64 × Int64 × (Nat → Int64) × (Nat → Int64) × Int64 × Int64 × (Nat → Int32) × (Nat → Int64) × (Nat → Int64) × (Nat → Int64) × (Nat → Int64) × (Nat → Int64) × Int64 × (Nat → Int64) × (Nat → Int64) × (Nat → Int64) × (Nat → Int64) × Int64 × Int64) :=
  if l1 = (0 : Int32) then
    some (J1_bolts, G1_way, G1_wayBefore, G1_known, G1_total, G1_kind, G1_who, G1_over, G1_under, G1_endOver, G1_endUnder, G1_dueOver, G1_dueUnder, G1_soonOver, G1_soonUnder, L1_stretch, L1_rest, L1_forceRise, L1_forceStart, L1_slipRise, L1_slipStart, L1_under, L1_byFirst, L1_byLoad, L1_bare, L1_scale, L1_firstRise, L1_firstStart)
  else
  if l1 = (1 : Int32) then
    (f_J_soundBits F J1_out J1_bolts).bind fun r_64 =>
    (f_JI_bitCount r_64).bind fun r_67 =>
    some (r_67, G1_way, G1_wayBefore, G1_known, G1_total, G1_kind, G1_who, G1_over, G1_under, G1_endOver, G1_endUnder, G1_dueOver, G1_dueUnder, G1_soonOver, G1_soonUnder, L1_stretch, L1_rest, L1_forceRise, L1_forceStart, L1_slipRise, L1_slipStart, L1_under, L1_byFirst, L1_byLoad, L1_bare, L1_scale, L1_firstRise, L1_firstStart)
  else
  if l1 = (2 : Int32) then
    (f_J_breaksTogether F J1_breakAt J1_out J1_bolts).bind fun r_75 =>
    some (r_75, G1_way, G1_wayBefore, G1_known, G1_total, G1_kind, G1_who, G1_over, G1_under, G1_endOver, G1_endUnder, G1_dueOver, G1_dueUnder, G1_soonOver, G1_soonUnder, L1_stretch, L1_rest, L1_forceRise, L1_forceStart, L1_slipRise, L1_slipStart, L1_under, L1_byFirst, L1_byLoad, L1_bare, L1_scale, L1_firstRise, L1_firstStart)
  else
  if l1 = (3 : Int32) then
    (f_J_soundBits F J1_out J1_bolts).bind fun r_87 =>
    (f_J_leastClear F r_87 J1_clear J1_bolts).bind fun r_90 =>
    some (r_90, G1_way, G1_wayBefore, G1_known, G1_total, G1_kind, G1_who, G1_over, G1_under, G1_endOver, G1_endUnder, G1_dueOver, G1_dueUnder, G1_soonOver, G1_soonUnder, L1_stretch, L1_rest, L1_forceRise, L1_forceStart, L1_slipRise, L1_slipStart, L1_under, L1_byFirst, L1_byLoad, L1_bare, L1_scale, L1_firstRise, L1_firstStart)
  else
  if l1 = (4 : Int32) then
    bd27 (f_G_run F G1_way G1_wayBefore G1_known G1_total G1_kind G1_who G1_over G1_under G1_endOver G1_endUnder G1_dueOver G1_dueUnder G1_soonOver G1_soonUnder L1_stretch L1_rest L1_forceRise L1_forceStart L1_slipRise L1_slipStart L1_under L1_byFirst L1_byLoad L1_bare L1_scale L1_firstRise L1_firstStart J1_give J1_clear J1_yieldAt J1_soft J1_breakAt J1_out J1_pitches J1_bolts J1_upper J1_lower) fun G1_way_98 G1_wayBefore_98 G1_known_98 G1_total_98 G1_kind_98 G1_who_98 G1_over_98 G1_under_98 G1_endOver_98 G1_endUnder_98 G1_dueOver_98 G1_dueUnder_98 G1_soonOver_98 G1_soonUnder_98 L1_stretch_98 L1_rest_98 L1_forceRise_98 L1_forceStart_98 L1_slipRise_98 L1_slipStart_98 L1_under_98 L1_byFirst_98 L1_byLoad_98 L1_bare_98 L1_scale_98 L1_firstRise_98 L1_firstStart_98 =>
    some (G1_total_98, G1_way_98, G1_wayBefore_98, G1_known_98, G1_total_98, G1_kind_98, G1_who_98, G1_over_98, G1_under_98, G1_endOver_98, G1_endUnder_98, G1_dueOver_98, G1_dueUnder_98, G1_soonOver_98, G1_soonUnder_98, L1_stretch_98, L1_rest_98, L1_forceRise_98, L1_forceStart_98, L1_slipRise_98, L1_slipStart_98, L1_under_98, L1_byFirst_98, L1_byLoad_98, L1_bare_98, L1_scale_98, L1_firstRise_98, L1_firstStart_98)
  else
  if l1 = (5 : Int32) then
    some (R_size, G1_way, G1_wayBefore, G1_known, G1_total, G1_kind, G1_who, G1_over, G1_under, G1_endOver, G1_endUnder, G1_dueOver, G1_dueUnder, G1_soonOver, G1_soonUnder, L1_stretch, L1_rest, L1_forceRise, L1_forceStart, L1_slipRise, L1_slipStart, L1_under, L1_byFirst, L1_byLoad, L1_bare, L1_scale, L1_firstRise, L1_firstStart)
  else
  if l1 = (6 : Int32) then
    some (T_size, G1_way, G1_wayBefore, G1_known, G1_total, G1_kind, G1_who, G1_over, G1_under, G1_endOver, G1_endUnder, G1_dueOver, G1_dueUnder, G1_soonOver, G1_soonUnder, L1_stretch, L1_rest, L1_forceRise, L1_forceStart, L1_slipRise, L1_slipStart, L1_under, L1_byFirst, L1_byLoad, L1_bare, L1_scale, L1_firstRise, L1_firstStart)
  else
  if l1 = (7 : Int32) then
    some (J1_upper, G1_way, G1_wayBefore, G1_known, G1_total, G1_kind, G1_who, G1_over, G1_under, G1_endOver, G1_endUnder, G1_dueOver, G1_dueUnder, G1_soonOver, G1_soonUnder, L1_stretch, L1_rest, L1_forceRise, L1_forceStart, L1_slipRise, L1_slipStart, L1_under, L1_byFirst, L1_byLoad, L1_bare, L1_scale, L1_firstRise, L1_firstStart)
  else
  if l1 = (8 : Int32) then
    some (J1_lower, G1_way, G1_wayBefore, G1_known, G1_total, G1_kind, G1_who, G1_over, G1_under, G1_endOver, G1_endUnder, G1_dueOver, G1_dueUnder, G1_soonOver, G1_soonUnder, L1_stretch, L1_rest, L1_forceRise, L1_forceStart, L1_slipRise, L1_slipStart, L1_under, L1_byFirst, L1_byLoad, L1_bare, L1_scale, L1_firstRise, L1_firstStart)
  else
  some ((-1 : Int32), G1_way, G1_wayBefore, G1_known, G1_total, G1_kind, G1_who, G1_over, G1_under, G1_endOver, G1_endUnder, G1_dueOver, G1_dueUnder, G1_soonOver, G1_soonUnder, L1_stretch, L1_rest, L1_forceRise, L1_forceStart, L1_slipRise, L1_slipStart, L1_under, L1_byFirst, L1_byLoad, L1_bare, L1_scale, L1_firstRise, L1_firstStart)
noncomputable def f_M_thrown (M_thrown : Int32) : Option (Int32) :=
  some M_thrown
noncomputable def f_M_in (l0 : Int64) (l2 : Int64) (l4 : Int64) : Option (Int32) :=
  if l0 < l2 then
    some (0 : Int32)
  else
    if l4 < l0 then
      some (0 : Int32)
    else
      some (1 : Int32)
noncomputable def f_M_lost (M_thrown : Int32) : Option (Int32 × Int32) :=
  some ((0 : Int32), (1 : Int32))
noncomputable def f_M_tell (l1 : Int64) (M_row : Nat → Int64) (M_rowMany : Int32) : Option ((Nat → Int64) × Int32) :=
  (stL M_row 64 M_rowMany l1).bind fun M_row_9 =>
  nm (M_rowMany + (1 : Int32)) fun M_rowMany_17 =>
  some (M_row_9, M_rowMany_17)
noncomputable def fb_M_common_9 (l4 : Int64) (l6 : Int64) : Option ((Int64 × Int64) ⊕ (Int64)) :=
  if l6 = (0 : Int64) then
    some (.inr l4)
  else
    (rmL l4 l6).bind fun v_20 =>
    some (.inl (l6, v_20))
noncomputable def f_M_common (F : Nat) (l0 : Int64) (l2 : Int64) : Option (Int64) :=
  nm (if (0 : Int64) < l0 then l0 else -l0) fun v_1 =>
  (iter (un2 (fb_M_common_9)) F (v_1, l2)).bind fun l4_9 =>
  some l4_9
noncomputable def fj_M_tellFraction_15 (l1 : Int64) (l3 : Int64) (s0 : Int64) (M_row : Nat → Int64) (M_rowMany : Int32) : Option ((Nat → Int64) × Int32) :=
  (dvL l1 s0).bind fun v_21 =>
  bd2 (f_M_tell v_21 M_row M_rowMany) fun M_row_22 M_rowMany_22 =>
  (dvL l3 s0).bind fun v_29 =>
  bd2 (f_M_tell v_29 M_row_22 M_rowMany_22) fun M_row_30 M_rowMany_30 =>
  some (M_row_30, M_rowMany_30)
noncomputable def f_M_tellFraction (F : Nat) (l1 : Int64) (l3 : Int64) (M_row : Nat → Int64) (M_rowMany : Int32) : Option ((Nat → Int64) × Int32) :=
  if l1 = (0 : Int64) then
    fj_M_tellFraction_15 l1 l3 l3 M_row M_rowMany
  else
    (f_M_common F l1 l3).bind fun r_12 =>
    fj_M_tellFraction_15 l1 l3 r_12 M_row M_rowMany
noncomputable def f_M_of (l1 : Int32) (l2 : Int32) (M_now : Nat → Int32) : Option (Int32) :=
  (ldA M_now 35 (((7 : Int32) * l1) + l2)).bind fun v_10 =>
  some v_10
noncomputable def f_M_isBolt (l1 : Int32) (M_many : Int32) : Option (Int32) :=
  (f_M_in (Int32.toInt64 l1) (0 : Int64) (Int32.toInt64 (M_many - (1 : Int32)))).bind fun r_10 =>
  (bzO r_10).bind fun b_13 =>
  some b_13
noncomputable def f_M_areRight (l0 : Int32) (l1 : Int32) (l2 : Int32) (l3 : Int32) (l4 : Int32) : Option (Int32) :=
  (f_M_in (Int32.toInt64 l0) (1 : Int64) (5 : Int64)).bind fun r_6 =>
  if r_6 = (0 : Int32) then
    some (0 : Int32)
  else
    (f_M_in (Int32.toInt64 l1) (0 : Int64) (9 : Int64)).bind fun r_18 =>
    if r_18 = (0 : Int32) then
      some (0 : Int32)
    else
      (f_M_in (Int32.toInt64 l2) (1 : Int64) (30 : Int64)).bind fun r_30 =>
      if r_30 = (0 : Int32) then
        some (0 : Int32)
      else
        (f_M_in (Int32.toInt64 l3) (Int32.toInt64 l0) (9 : Int64)).bind fun r_43 =>
        if r_43 = (0 : Int32) then
          some (0 : Int32)
        else
          (f_M_in (Int32.toInt64 l4) (Int32.toInt64 (l2 + (1 : Int32))) (60 : Int64)).bind fun r_59 =>
          if r_59 = (0 : Int32) then
            some (0 : Int32)
          else
            some (1 : Int32)
noncomputable def f_M_lays (l1 : Int32) (l2 : Int32) (l3 : Int32) (l4 : Int32) (l5 : Int32) (l6 : Int32) (M_now : Nat → Int32) : Option ((Nat → Int32)) :=
  (stI M_now 35 (((7 : Int32) * l1) + (0 : Int32)) l2).bind fun M_now_11 =>
  (stI M_now_11 35 (((7 : Int32) * l1) + (1 : Int32)) l3).bind fun M_now_23 =>
  (stI M_now_23 35 (((7 : Int32) * l1) + (2 : Int32)) l4).bind fun M_now_36 =>
  (stI M_now_36 35 (((7 : Int32) * l1) + (3 : Int32)) l5).bind fun M_now_49 =>
  (stI M_now_49 35 (((7 : Int32) * l1) + (4 : Int32)) l6).bind fun M_now_62 =>
  some M_now_62
noncomputable def f_M_comes (M_now : Nat → Int32) (M_many : Int32) : Option ((Nat → Int32) × Int32) :=
  (stI M_now 35 (((7 : Int32) * M_many) + (5 : Int32)) (0 : Int32)).bind fun M_now_14 =>
  (stI M_now_14 35 (((7 : Int32) * M_many) + (6 : Int32)) (0 : Int32)).bind fun M_now_30 =>
  if M_many ≤ (0 : Int32) then
    nm (M_many + (1 : Int32)) fun M_many_63 =>
    some (M_now_30, M_many_63)
  else
    (stI M_now_30 35 (((7 : Int32) * (M_many - (1 : Int32))) + (6 : Int32)) (1 : Int32)).bind fun M_now_55 =>
    nm (M_many + (1 : Int32)) fun M_many_63 =>
    some (M_now_55, M_many_63)
noncomputable def f_M_bolt (l1 : Int32) (l2 : Int32) (l3 : Int32) (l4 : Int32) (l5 : Int32) (M_now : Nat → Int32) (M_many : Int32) (M_thrown : Int32) : Option (Int32 × (Nat → Int32) × Int32 × Int32) :=
  (f_M_areRight l1 l2 l3 l4 l5).bind fun r_12 =>
  if r_12 = (0 : Int32) then
    some ((-1 : Int32), M_now, M_many, (0 : Int32))
  else
    if M_many = (5 : Int32) then
      some ((-2 : Int32), M_now, M_many, (0 : Int32))
    else
      (f_M_lays M_many l1 l2 l3 l4 l5 M_now).bind fun M_now_43 =>
      bd2 (f_M_comes M_now_43 M_many) fun M_now_47 M_many_47 =>
      some (M_many_47, M_now_47, M_many_47, (0 : Int32))
noncomputable def fj_M_plates_50 (l1 : Int32) (l2 : Int32) (M_upper : Int32) (M_lower : Int32) (M_thrown : Int32) : Option (Int32 × Int32 × Int32 × Int32) :=
  nm (((10 : Int32) * M_upper) + M_lower) fun l3_62 =>
  some (l3_62, l1, l2, M_thrown)
noncomputable def f_M_plates (l1 : Int32) (l2 : Int32) (M_upper : Int32) (M_lower : Int32) (M_thrown : Int32) : Option (Int32 × Int32 × Int32 × Int32) :=
  (f_M_in (Int32.toInt64 l1) (0 : Int64) (2 : Int64)).bind fun r_11 =>
  if r_11 = (0 : Int32) then
    some ((-1 : Int32), M_upper, M_lower, (0 : Int32))
  else
    (f_M_in (Int32.toInt64 l2) (0 : Int64) (2 : Int64)).bind fun r_23 =>
    if r_23 = (0 : Int32) then
      some ((-1 : Int32), M_upper, M_lower, (0 : Int32))
    else
      if l1 = M_upper then
        if l2 = M_lower then
          some ((-2 : Int32), M_upper, M_lower, (0 : Int32))
        else
          fj_M_plates_50 l1 l2 M_upper M_lower (0 : Int32)
      else
        fj_M_plates_50 l1 l2 M_upper M_lower (0 : Int32)
noncomputable def f_M_pitch (l1 : Int32) (l2 : Int32) (M_now : Nat → Int32) (M_many : Int32) (M_thrown : Int32) : Option (Int32 × (Nat → Int32) × Int32) :=
  (f_M_in (Int32.toInt64 l1) (0 : Int64) (Int32.toInt64 (M_many - (2 : Int32)))).bind fun r_15 =>
  if r_15 = (0 : Int32) then
    some ((-1 : Int32), M_now, (0 : Int32))
  else
    (f_M_in (Int32.toInt64 l2) (0 : Int64) (2 : Int64)).bind fun r_27 =>
    if r_27 = (0 : Int32) then
      some ((-1 : Int32), M_now, (0 : Int32))
    else
      (f_M_of l1 (6 : Int32) M_now).bind fun r_39 =>
      if r_39 = l2 then
        some ((-2 : Int32), M_now, (0 : Int32))
      else
        (stI M_now 35 (((7 : Int32) * l1) + (6 : Int32)) l2).bind fun M_now_63 =>
        some (r_39, M_now_63, (0 : Int32))
noncomputable def fb_M_alters_35 (l1 : Int32) (M_now : Nat → Int32) (l8 : Int32) (M_aside : Nat → Int32) : Option ((Int32 × (Nat → Int32)) ⊕ ((Nat → Int32))) :=
  if (4 : Int32) < l8 then
    some (.inr M_aside)
  else
    (f_M_of l1 l8 M_now).bind fun r_51 =>
    (stI M_aside 35 l8 r_51).bind fun M_aside_54 =>
    nm (l8 + (1 : Int32)) fun l8_55 =>
    some (.inl (l8_55, M_aside_54))
noncomputable def fj_M_alters_107 (l8 : Int32) (s0 : Int32) (s1 : Int32) : Option ((Int32 × Int32) ⊕ (Int32)) :=
  nm (s0 + s1) fun l7_108 =>
  nm (l8 + (1 : Int32)) fun l8_110 =>
  some (.inl (l7_108, l8_110))
noncomputable def fb_M_alters_77 (l1 : Int32) (M_now : Nat → Int32) (M_aside : Nat → Int32) (l7 : Int32) (l8 : Int32) : Option ((Int32 × Int32) ⊕ (Int32)) :=
  if (4 : Int32) < l8 then
    some (.inr l7)
  else
    (ldA M_aside 35 l8).bind fun v_91 =>
    (f_M_of l1 l8 M_now).bind fun r_96 =>
    if v_91 = r_96 then
      fj_M_alters_107 l8 l7 (0 : Int32)
    else
      fj_M_alters_107 l8 l7 (1 : Int32)
noncomputable def f_M_alters (F : Nat) (l1 : Int32) (l2 : Int32) (l3 : Int32) (l4 : Int32) (l5 : Int32) (l6 : Int32) (M_now : Nat → Int32) (M_many : Int32) (M_thrown : Int32) (M_aside : Nat → Int32) : Option (Int32 × (Nat → Int32) × Int32 × (Nat → Int32)) :=
  (f_M_isBolt l1 M_many).bind fun r_7 =>
  if r_7 = (0 : Int32) then
    some ((-1 : Int32), M_now, (0 : Int32), M_aside)
  else
    (f_M_areRight l2 l3 l4 l5 l6).bind fun r_21 =>
    if r_21 = (0 : Int32) then
      some ((-1 : Int32), M_now, (0 : Int32), M_aside)
    else
      (iter (un2 (fb_M_alters_35 l1 M_now)) F ((0 : Int32), M_aside)).bind fun M_aside_35 =>
      (f_M_lays l1 l2 l3 l4 l5 l6 M_now).bind fun M_now_71 =>
      (iter (un2 (fb_M_alters_77 l1 M_now_71 M_aside_35)) F ((0 : Int32), (0 : Int32))).bind fun l7_77 =>
      if l7_77 = (0 : Int32) then
        some ((-2 : Int32), M_now_71, (0 : Int32), M_aside_35)
      else
        some (l7_77, M_now_71, (0 : Int32), M_aside_35)
noncomputable def fb_M_soundMany_4 (M_now : Nat → Int32) (M_many : Int32) (l1 : Int32) (l2 : Int32) : Option ((Int32 × Int32) ⊕ (Int32)) :=
  if M_many ≤ l2 then
    some (.inr l1)
  else
    (f_M_of l2 (5 : Int32) M_now).bind fun r_17 =>
    nm (l1 + ((1 : Int32) - r_17)) fun l1_22 =>
    nm (l2 + (1 : Int32)) fun l2_23 =>
    some (.inl (l1_22, l2_23))
noncomputable def f_M_soundMany (F : Nat) (M_now : Nat → Int32) (M_many : Int32) : Option (Int32) :=
  (iter (un2 (fb_M_soundMany_4 M_now M_many)) F ((0 : Int32), (0 : Int32))).bind fun l1_4 =>
  some l1_4
noncomputable def fj_M_takes_30 (F : Nat) (l1 : Int32) (l2 : Int32) (s0 : Int32) (s1 : Int32) (M_now : Nat → Int32) (M_many : Int32) (M_thrown : Int32) : Option (Int32 × (Nat → Int32) × Int32) :=
  if s0 = s1 then
    some ((-2 : Int32), M_now, M_thrown)
  else
    if l2 = (0 : Int32) then
      (stI M_now 35 (((7 : Int32) * l1) + (5 : Int32)) (0 : Int32)).bind fun M_now_55 =>
      (f_M_soundMany F M_now_55 M_many).bind fun r_57 =>
      some (r_57, M_now_55, M_thrown)
    else
      (stI M_now 35 (((7 : Int32) * l1) + (5 : Int32)) (1 : Int32)).bind fun M_now_55 =>
      (f_M_soundMany F M_now_55 M_many).bind fun r_57 =>
      some (r_57, M_now_55, M_thrown)
noncomputable def f_M_takes (F : Nat) (l1 : Int32) (l2 : Int32) (M_now : Nat → Int32) (M_many : Int32) (M_thrown : Int32) : Option (Int32 × (Nat → Int32) × Int32) :=
  (f_M_isBolt l1 M_many).bind fun r_7 =>
  if r_7 = (0 : Int32) then
    some ((-1 : Int32), M_now, (0 : Int32))
  else
    (f_M_of l1 (5 : Int32) M_now).bind fun r_18 =>
    if l2 = (0 : Int32) then
      fj_M_takes_30 F l1 l2 r_18 (0 : Int32) M_now M_many (0 : Int32)
    else
      fj_M_takes_30 F l1 l2 r_18 (1 : Int32) M_now M_many (0 : Int32)
noncomputable def fb_M_exchange_2 (l1 : Int32) (l2 : Int32) (l3 : Int32) (M_now : Nat → Int32) : Option ((Int32 × (Nat → Int32)) ⊕ ((Nat → Int32))) :=
  if (5 : Int32) < l3 then
    some (.inr M_now)
  else
    (f_M_of l1 l3 M_now).bind fun r_10 =>
    (f_M_of l2 l3 M_now).bind fun r_28 =>
    (stI M_now 35 (((7 : Int32) * l1) + l3) r_28).bind fun M_now_31 =>
    (stI M_now_31 35 (((7 : Int32) * l2) + l3) r_10).bind fun M_now_44 =>
    nm (l3 + (1 : Int32)) fun l3_45 =>
    some (.inl (l3_45, M_now_44))
noncomputable def f_M_exchange (F : Nat) (l1 : Int32) (l2 : Int32) (M_now : Nat → Int32) : Option ((Nat → Int32)) :=
  (iter (un2 (fb_M_exchange_2 l1 l2)) F ((0 : Int32), M_now)).bind fun M_now_2 =>
  some M_now_2
noncomputable def f_M_swaps (F : Nat) (l1 : Int32) (l2 : Int32) (M_now : Nat → Int32) (M_many : Int32) (M_thrown : Int32) : Option (Int32 × (Nat → Int32) × Int32) :=
  (f_M_isBolt l1 M_many).bind fun r_7 =>
  if r_7 = (0 : Int32) then
    some ((0 : Int32), M_now, (0 : Int32))
  else
    (f_M_isBolt l2 M_many).bind fun r_15 =>
    if r_15 = (0 : Int32) then
      some ((0 : Int32), M_now, (0 : Int32))
    else
      if l1 = l2 then
        some ((0 : Int32), M_now, (0 : Int32))
      else
        (f_M_exchange F l1 l2 M_now).bind fun M_now_31 =>
        some ((1 : Int32), M_now_31, (0 : Int32))
noncomputable def f_M_clears (M_many : Int32) (M_thrown : Int32) : Option (Int32 × Int32 × Int32) :=
  some (M_many, (0 : Int32), (0 : Int32))
noncomputable def fb_M_sign_20 (l1 : Int32) (l2 : Int32) (M_text : Nat → Int32) (M_typed : Int32) : Option ((Int32 × (Nat → Int32) × Int32) ⊕ ((Nat → Int32) × Int32)) :=
  if l2 < (0 : Int32) then
    some (.inr (M_text, M_typed))
  else
    nm (M_typed + (1 : Int32)) fun M_typed_36 =>
    (stB M_text 80 M_typed (Int8.toInt32 (Int32.toInt8 (l1 >>> (((8 : Int32) * l2) &&& 31))))).bind fun M_text_46 =>
    nm (l2 + (-1 : Int32)) fun l2_47 =>
    some (.inl (l2_47, M_text_46, M_typed_36))
noncomputable def f_M_sign (F : Nat) (l1 : Int32) (M_text : Nat → Int32) (M_typed : Int32) (M_thrown : Int32) : Option (Int32 × (Nat → Int32) × Int32 × Int32) :=
  if (M_typed + (4 : Int32)) ≤ (80 : Int32) then
    bd2 (iter (un3 (fb_M_sign_20 l1)) F ((3 : Int32), M_text, M_typed)) fun M_text_20 M_typed_20 =>
    some (M_typed_20, M_text_20, M_typed_20, (0 : Int32))
  else
    some ((-1 : Int32), M_text, M_typed, (0 : Int32))
noncomputable def f_M_end (l1 : Int32) (M_typed : Int32) (M_thrown : Int32) : Option (Int32 × Int32 × Int32) :=
  (f_M_in (Int32.toInt64 l1) (0 : Int64) (Int32.toInt64 M_typed)).bind fun r_13 =>
  if r_13 = (0 : Int32) then
    some ((0 : Int32), M_typed, (0 : Int32))
  else
    some ((1 : Int32), l1, (0 : Int32))
noncomputable def f_M_begin (M_typed : Int32) (M_length : Int32) (M_at : Int32) (M_wrong : Int32) : Option (Int32 × Int32 × Int32 × Int32) :=
  some ((0 : Int32), M_typed, (0 : Int32), (-1 : Int32))
noncomputable def f_M_here (M_text : Nat → Int32) (M_length : Int32) (M_at : Int32) : Option (Int32) :=
  if M_length ≤ M_at then
    some (-1 : Int32)
  else
    (ldA M_text 80 M_at).bind fun v_19 =>
    some (v_19 &&& (255 : Int32))
noncomputable def f_M_fault (l1 : Int32) (M_wrong : Int32) : Option (Int32) :=
  if M_wrong = (-1 : Int32) then
    some l1
  else
    some M_wrong
noncomputable def fj_M_digits_63 (l4 : Int32) (l5 : Int32) (M_at : Int32) (M_wrong : Int32) : Option ((Int32 × Int32 × Int32 × Int32) ⊕ (Int32 × Int32 × Int32)) :=
  nm (M_at + (1 : Int32)) fun M_at_70 =>
  nm (l5 + (1 : Int32)) fun l5_73 =>
  some (.inl (l4, l5_73, M_at_70, M_wrong))
noncomputable def fb_M_digits_6 (l1 : Int32) (M_text : Nat → Int32) (M_length : Int32) (l4 : Int32) (l5 : Int32) (M_at : Int32) (M_wrong : Int32) : Option ((Int32 × Int32 × Int32 × Int32) ⊕ (Int32 × Int32 × Int32)) :=
  if l1 ≤ l5 then
    some (.inr (l4, M_at, M_wrong))
  else
    if M_wrong = (-1 : Int32) then
      (f_M_here M_text M_length M_at).bind fun r_21 =>
      (f_M_in (Int32.toInt64 r_21) (48 : Int64) (57 : Int64)).bind fun r_31 =>
      if r_31 = (0 : Int32) then
        (f_M_fault M_at M_wrong).bind fun M_wrong_42 =>
        fj_M_digits_63 l4 l5 M_at M_wrong_42
      else
        (f_M_here M_text M_length M_at).bind fun r_54 =>
        nm ((((10 : Int32) * l4) + r_54) - (48 : Int32)) fun l4_61 =>
        fj_M_digits_63 l4_61 l5 M_at M_wrong
    else
      some (.inr (l4, M_at, M_wrong))
noncomputable def fj_M_digits_79 (l2 : Int32) (l3 : Int32) (l4 : Int32) (M_at : Int32) (M_wrong : Int32) : Option (Int32 × Int32 × Int32) :=
  if M_wrong = (-1 : Int32) then
    (f_M_in (Int32.toInt64 l4) (Int32.toInt64 l2) (Int32.toInt64 l3)).bind fun r_94 =>
    if r_94 = (0 : Int32) then
      (f_M_fault (M_at - (1 : Int32)) M_wrong).bind fun M_wrong_107 =>
      some (l4, M_at, M_wrong_107)
    else
      some (l4, M_at, M_wrong)
  else
    some (l4, M_at, M_wrong)
noncomputable def f_M_digits (F : Nat) (l1 : Int32) (l2 : Int32) (l3 : Int32) (M_text : Nat → Int32) (M_length : Int32) (M_at : Int32) (M_wrong : Int32) : Option (Int32 × Int32 × Int32) :=
  bd3 (iter (un4 (fb_M_digits_6 l1 M_text M_length)) F ((0 : Int32), (0 : Int32), M_at, M_wrong)) fun l4_6 M_at_6 M_wrong_6 =>
  fj_M_digits_79 l2 l3 l4_6 M_at_6 M_wrong_6
noncomputable def fj_M_joint_133 (F : Nat) (l1 : Int32) (l2 : Int32) (M_text : Nat → Int32) (M_length : Int32) (M_at : Int32) (M_wrong : Int32) (M_read : Nat → Int32) : Option ((Int32 × Int32 × Int32 × (Nat → Int32)) ⊕ (Int32 × Int32 × Int32 × (Nat → Int32))) :=
  bd3 (f_M_digits F (1 : Int32) (1 : Int32) (5 : Int32) M_text M_length M_at M_wrong) fun r_142 M_at_142 M_wrong_142 =>
  (stI M_read 32 l2 r_142).bind fun M_read_145 =>
  bd3 (f_M_digits F (1 : Int32) (0 : Int32) (9 : Int32) M_text M_length M_at_142 M_wrong_142) fun r_158 M_at_158 M_wrong_158 =>
  (stI M_read_145 32 (l2 + (1 : Int32)) r_158).bind fun M_read_161 =>
  bd3 (f_M_digits F (2 : Int32) (1 : Int32) (30 : Int32) M_text M_length M_at_158 M_wrong_158) fun r_174 M_at_174 M_wrong_174 =>
  (stI M_read_161 32 (l2 + (2 : Int32)) r_174).bind fun M_read_177 =>
  (ldA M_read_177 32 l2).bind fun v_192 =>
  bd3 (f_M_digits F (2 : Int32) v_192 (9 : Int32) M_text M_length M_at_174 M_wrong_174) fun r_195 M_at_195 M_wrong_195 =>
  (stI M_read_177 32 (l2 + (3 : Int32)) r_195).bind fun M_read_198 =>
  (ldA M_read_198 32 (l2 + (2 : Int32))).bind fun v_215 =>
  bd3 (f_M_digits F (2 : Int32) (v_215 + (1 : Int32)) (60 : Int32) M_text M_length M_at_195 M_wrong_195) fun r_220 M_at_220 M_wrong_220 =>
  (stI M_read_198 32 (l2 + (4 : Int32)) r_220).bind fun M_read_223 =>
  nm (l1 + (1 : Int32)) fun l1_224 =>
  some (.inl (l1_224, M_at_220, M_wrong_220, M_read_223))
noncomputable def fj_M_joint_93 (F : Nat) (l1 : Int32) (l2 : Int32) (M_text : Nat → Int32) (M_length : Int32) (M_at : Int32) (M_wrong : Int32) (M_read : Nat → Int32) : Option ((Int32 × Int32 × Int32 × (Nat → Int32)) ⊕ (Int32 × Int32 × Int32 × (Nat → Int32))) :=
  if M_wrong = (-1 : Int32) then
    if l1 ≤ (0 : Int32) then
      fj_M_joint_133 F l1 l2 M_text M_length M_at M_wrong M_read
    else
      nm (M_at + (1 : Int32)) fun M_at_115 =>
      bd3 (f_M_digits F (1 : Int32) (0 : Int32) (2 : Int32) M_text M_length M_at_115 M_wrong) fun r_129 M_at_129 M_wrong_129 =>
      (stI M_read 32 (l2 + (5 : Int32)) r_129).bind fun M_read_132 =>
      fj_M_joint_133 F l1 l2 M_text M_length M_at_129 M_wrong_129 M_read_132
  else
    some (.inl (l1, M_at, M_wrong, M_read))
noncomputable def fj_M_joint_85 (F : Nat) (l1 : Int32) (l2 : Int32) (M_text : Nat → Int32) (M_length : Int32) (M_at : Int32) (M_wrong : Int32) (M_read : Nat → Int32) : Option ((Int32 × Int32 × Int32 × (Nat → Int32)) ⊕ (Int32 × Int32 × Int32 × (Nat → Int32))) :=
  (f_M_fault M_at M_wrong).bind fun M_wrong_90 =>
  fj_M_joint_93 F l1 l2 M_text M_length M_at M_wrong_90 M_read
noncomputable def fj_M_joint_60 (F : Nat) (l1 : Int32) (M_text : Nat → Int32) (M_length : Int32) (M_at : Int32) (M_wrong : Int32) (M_read : Nat → Int32) : Option ((Int32 × Int32 × Int32 × (Nat → Int32)) ⊕ (Int32 × Int32 × Int32 × (Nat → Int32))) :=
  nm ((2 : Int32) + ((6 : Int32) * l1)) fun l2_66 =>
  if l1 ≤ (0 : Int32) then
    fj_M_joint_93 F l1 l2_66 M_text M_length M_at M_wrong M_read
  else
    (f_M_here M_text M_length M_at).bind fun r_72 =>
    if r_72 = (47 : Int32) then
      if l1 = (5 : Int32) then
        fj_M_joint_85 F l1 l2_66 M_text M_length M_at M_wrong M_read
      else
        fj_M_joint_93 F l1 l2_66 M_text M_length M_at M_wrong M_read
    else
      fj_M_joint_85 F l1 l2_66 M_text M_length M_at M_wrong M_read
noncomputable def fb_M_joint_37 (F : Nat) (M_text : Nat → Int32) (M_length : Int32) (l1 : Int32) (M_at : Int32) (M_wrong : Int32) (M_read : Nat → Int32) : Option ((Int32 × Int32 × Int32 × (Nat → Int32)) ⊕ (Int32 × Int32 × Int32 × (Nat → Int32))) :=
  if M_wrong = (-1 : Int32) then
    if M_at < M_length then
      fj_M_joint_60 F l1 M_text M_length M_at M_wrong M_read
    else
      if l1 = (0 : Int32) then
        fj_M_joint_60 F l1 M_text M_length M_at M_wrong M_read
      else
        some (.inr (l1, M_at, M_wrong, M_read))
  else
    some (.inr (l1, M_at, M_wrong, M_read))
noncomputable def fj_M_joint_360 (l2 : Int32) (M_now : Nat → Int32) (M_many : Int32) : Option ((Int32 × (Nat → Int32) × Int32) ⊕ ((Nat → Int32) × Int32)) :=
  nm (l2 + (1 : Int32)) fun l2_360 =>
  some (.inl (l2_360, M_now, M_many))
noncomputable def fb_M_joint_272 (l1 : Int32) (M_read : Nat → Int32) (l2 : Int32) (M_now : Nat → Int32) (M_many : Int32) : Option ((Int32 × (Nat → Int32) × Int32) ⊕ ((Nat → Int32) × Int32)) :=
  if l1 ≤ l2 then
    some (.inr (M_now, M_many))
  else
    nm ((2 : Int32) + ((6 : Int32) * l2)) fun l3_283 =>
    (ldA M_read 32 l3_283).bind fun v_294 =>
    (ldA M_read 32 (l3_283 + (1 : Int32))).bind fun v_302 =>
    (ldA M_read 32 (l3_283 + (2 : Int32))).bind fun v_310 =>
    (ldA M_read 32 (l3_283 + (3 : Int32))).bind fun v_318 =>
    (ldA M_read 32 (l3_283 + (4 : Int32))).bind fun v_326 =>
    (f_M_lays M_many v_294 v_302 v_310 v_318 v_326 M_now).bind fun M_now_327 =>
    bd2 (f_M_comes M_now_327 M_many) fun M_now_331 M_many_331 =>
    if l2 ≤ (0 : Int32) then
      fj_M_joint_360 l2 M_now_331 M_many_331
    else
      (ldA M_read 32 (l3_283 + (5 : Int32))).bind fun v_358 =>
      (stI M_now_331 35 (((7 : Int32) * (l2 - (1 : Int32))) + (6 : Int32)) v_358).bind fun M_now_359 =>
      fj_M_joint_360 l2 M_now_359 M_many_331
noncomputable def fj_M_joint_230 (F : Nat) (l1 : Int32) (M_now : Nat → Int32) (M_many : Int32) (M_upper : Int32) (M_lower : Int32) (M_typed : Int32) (M_thrown : Int32) (M_length : Int32) (M_at : Int32) (M_wrong : Int32) (M_read : Nat → Int32) : Option (Int32 × (Nat → Int32) × Int32 × Int32 × Int32 × Int32 × Int32 × Int32 × Int32 × Int32 × (Nat → Int32)) :=
  if M_wrong = (-1 : Int32) then
    (ldA M_read 32 (0 : Int32)).bind fun v_251 =>
    (ldA M_read 32 (1 : Int32)).bind fun v_261 =>
    bd2 (iter (un3 (fb_M_joint_272 l1 M_read)) F ((0 : Int32), M_now, (0 : Int32))) fun M_now_272 M_many_272 =>
    some (l1, M_now_272, M_many_272, v_251, v_261, M_typed, M_thrown, M_length, M_at, M_wrong, M_read)
  else
    some (((-1 : Int32) - M_wrong), M_now, M_many, M_upper, M_lower, M_typed, M_thrown, M_length, M_at, M_wrong, M_read)
noncomputable def f_M_joint (F : Nat) (M_now : Nat → Int32) (M_many : Int32) (M_upper : Int32) (M_lower : Int32) (M_text : Nat → Int32) (M_typed : Int32) (M_thrown : Int32) (M_length : Int32) (M_at : Int32) (M_wrong : Int32) (M_read : Nat → Int32) : Option (Int32 × (Nat → Int32) × Int32 × Int32 × Int32 × Int32 × Int32 × Int32 × Int32 × Int32 × (Nat → Int32)) :=
  bd4 (f_M_begin M_typed M_length M_at M_wrong) fun M_typed_6 M_length_6 M_at_6 M_wrong_6 =>
  bd3 (f_M_digits F (1 : Int32) (0 : Int32) (2 : Int32) M_text M_length_6 M_at_6 M_wrong_6) fun r_20 M_at_20 M_wrong_20 =>
  (stI M_read 32 (0 : Int32) r_20).bind fun M_read_23 =>
  bd3 (f_M_digits F (1 : Int32) (0 : Int32) (2 : Int32) M_text M_length_6 M_at_20 M_wrong_20) fun r_33 M_at_33 M_wrong_33 =>
  (stI M_read_23 32 (1 : Int32) r_33).bind fun M_read_36 =>
  bd4 (iter (un4 (fb_M_joint_37 F M_text M_length_6)) F ((0 : Int32), M_at_33, M_wrong_33, M_read_36)) fun l1_37 M_at_37 M_wrong_37 M_read_37 =>
  fj_M_joint_230 F l1_37 M_now M_many M_upper M_lower M_typed_6 (0 : Int32) M_length_6 M_at_37 M_wrong_37 M_read_37
noncomputable def f_M_part (l1 : Int32) (l2 : Int32) (M_now : Nat → Int32) (M_many : Int32) (M_thrown : Int32) : Option (Int32 × Int32) :=
  (f_M_isBolt l1 M_many).bind fun r_7 =>
  if r_7 = (0 : Int32) then
    bd2 (f_M_lost (0 : Int32)) fun r_26 M_thrown_26 =>
    some (r_26, M_thrown_26)
  else
    (f_M_in (Int32.toInt64 l2) (0 : Int64) (6 : Int64)).bind fun r_19 =>
    if r_19 = (0 : Int32) then
      bd2 (f_M_lost (0 : Int32)) fun r_26 M_thrown_26 =>
      some (r_26, M_thrown_26)
    else
      if l2 = (6 : Int32) then
        if l1 = (M_many - (1 : Int32)) then
          some ((0 : Int32), (0 : Int32))
        else
          (f_M_of l1 l2 M_now).bind fun r_53 =>
          some (r_53, (0 : Int32))
      else
        (f_M_of l1 l2 M_now).bind fun r_53 =>
        some (r_53, (0 : Int32))
noncomputable def f_M_give (l1 : Int32) (M_now : Nat → Int32) (M_mode : Nat → Int32) : Option (Int32) :=
  (ldA M_mode 5 l1).bind fun v_5 =>
  if v_5 = (2 : Int32) then
    (f_M_of l1 (3 : Int32) M_now).bind fun r_13 =>
    some r_13
  else
    (f_M_of l1 (0 : Int32) M_now).bind fun r_22 =>
    some r_22
noncomputable def fj_M_layOffsets_55 (l1 : Int32) (s1 : Int32) (s2 : Int32) (s3 : Int32) (M_offset : Nat → Int64) : Option ((Int32 × (Nat → Int64)) ⊕ ((Nat → Int64))) :=
  (stL M_offset 5 s1 (Int32.toInt64 (s2 + s3))).bind fun M_offset_57 =>
  nm (l1 + (1 : Int32)) fun l1_58 =>
  some (.inl (l1_58, M_offset_57))
noncomputable def fb_M_layOffsets_2 (M_now : Nat → Int32) (M_many : Int32) (M_mode : Nat → Int32) (l1 : Int32) (M_offset : Nat → Int64) : Option ((Int32 × (Nat → Int64)) ⊕ ((Nat → Int64))) :=
  if M_many ≤ l1 then
    some (.inr M_offset)
  else
    (f_M_of l1 (1 : Int32) M_now).bind fun r_18 =>
    (ldA M_mode 5 l1).bind fun v_26 =>
    if v_26 = (2 : Int32) then
      (f_M_of l1 (0 : Int32) M_now).bind fun r_34 =>
      (f_M_of l1 (3 : Int32) M_now).bind fun r_40 =>
      (f_M_of l1 (2 : Int32) M_now).bind fun r_47 =>
      fj_M_layOffsets_55 l1 l1 r_18 ((r_34 - r_40) * r_47) M_offset
    else
      fj_M_layOffsets_55 l1 l1 r_18 (0 : Int32) M_offset
noncomputable def f_M_layOffsets (F : Nat) (M_now : Nat → Int32) (M_many : Int32) (M_mode : Nat → Int32) (M_offset : Nat → Int64) : Option ((Nat → Int64)) :=
  (iter (un2 (fb_M_layOffsets_2 M_now M_many M_mode)) F ((0 : Int32), M_offset)).bind fun M_offset_2 =>
  some M_offset_2
noncomputable def fb_M_pitchesFrom_5 (l2 : Int32) (M_now : Nat → Int32) (l3 : Int32) (l4 : Int32) : Option ((Int32 × Int32) ⊕ (Int32)) :=
  if l2 ≤ l4 then
    some (.inr l3)
  else
    (f_M_of l4 (6 : Int32) M_now).bind fun r_17 =>
    nm (l3 + r_17) fun l3_21 =>
    nm (l4 + (1 : Int32)) fun l4_22 =>
    some (.inl (l3_21, l4_22))
noncomputable def f_M_pitchesFrom (F : Nat) (l1 : Int32) (l2 : Int32) (M_now : Nat → Int32) : Option (Int32) :=
  (iter (un2 (fb_M_pitchesFrom_5 l2 M_now)) F ((0 : Int32), l1)).bind fun l3_5 =>
  some l3_5
noncomputable def f_M_cell (l1 : Int32) (l2 : Int32) (M_matrix : Nat → Int64) : Option (Int64) :=
  (ldA M_matrix 35 (((7 : Int32) * l1) + l2)).bind fun v_10 =>
  some v_10
noncomputable def fj_M_layMatrix_52 (l1 : Int32) (M_bearer : Nat → Int32) (M_bearers : Int32) : Option ((Int32 × (Nat → Int32) × Int32) ⊕ ((Nat → Int32) × Int32)) :=
  nm (l1 + (1 : Int32)) fun l1_52 =>
  some (.inl (l1_52, M_bearer, M_bearers))
noncomputable def fj_M_layMatrix_35 (l1 : Int32) (M_bearer : Nat → Int32) (M_bearers : Int32) : Option ((Int32 × (Nat → Int32) × Int32) ⊕ ((Nat → Int32) × Int32)) :=
  nm (M_bearers + (1 : Int32)) fun M_bearers_47 =>
  (stI M_bearer 5 M_bearers l1).bind fun M_bearer_51 =>
  fj_M_layMatrix_52 l1 M_bearer_51 M_bearers_47
noncomputable def fb_M_layMatrix_7 (M_many : Int32) (M_mode : Nat → Int32) (l1 : Int32) (M_bearer : Nat → Int32) (M_bearers : Int32) : Option ((Int32 × (Nat → Int32) × Int32) ⊕ ((Nat → Int32) × Int32)) :=
  if M_many ≤ l1 then
    some (.inr (M_bearer, M_bearers))
  else
    (ldA M_mode 5 l1).bind fun v_20 =>
    if v_20 = (1 : Int32) then
      fj_M_layMatrix_35 l1 M_bearer M_bearers
    else
      (ldA M_mode 5 l1).bind fun v_30 =>
      if v_30 = (2 : Int32) then
        fj_M_layMatrix_35 l1 M_bearer M_bearers
      else
        fj_M_layMatrix_52 l1 M_bearer M_bearers
noncomputable def fb_M_layMatrix_60 (l1 : Int32) (M_matrix : Nat → Int64) : Option ((Int32 × (Nat → Int64)) ⊕ ((Nat → Int64))) :=
  if (35 : Int32) ≤ l1 then
    some (.inr M_matrix)
  else
    (stL M_matrix 35 l1 (0 : Int64)).bind fun M_matrix_75 =>
    nm (l1 + (1 : Int32)) fun l1_76 =>
    some (.inl (l1_76, M_matrix_75))
noncomputable def fb_M_layMatrix_180 (l1 : Int32) (l2 : Int32) (l4 : Int32) (M_upper : Int32) (M_lower : Int32) (l5 : Int32) (M_matrix : Nat → Int64) : Option ((Int32 × (Nat → Int64)) ⊕ ((Nat → Int64))) :=
  if l1 < l5 then
    some (.inr M_matrix)
  else
    (stL M_matrix 35 (l2 + l5) ((Int32.toInt64 (M_upper + M_lower)) * (Int32.toInt64 l4))).bind fun M_matrix_208 =>
    nm (l5 + (1 : Int32)) fun l5_209 =>
    some (.inl (l5_209, M_matrix_208))
noncomputable def fj_M_layMatrix_315 (l1 : Int32) (M_matrix : Nat → Int64) : Option ((Int32 × (Nat → Int64)) ⊕ ((Nat → Int64))) :=
  nm (l1 + (1 : Int32)) fun l1_315 =>
  some (.inl (l1_315, M_matrix))
noncomputable def fb_M_layMatrix_120 (l2 : Int32) (M_bearers : Int32) (l4 : Int32) (M_matrix : Nat → Int64) : Option ((Int32 × (Nat → Int64)) ⊕ ((Nat → Int64))) :=
  if M_bearers ≤ l4 then
    some (.inr M_matrix)
  else
    (stL M_matrix 35 (l2 + l4) (1 : Int64)).bind fun M_matrix_138 =>
    nm (l4 + (1 : Int32)) fun l4_139 =>
    some (.inl (l4_139, M_matrix_138))
noncomputable def fj_M_layMatrix_112 (F : Nat) (l1 : Int32) (l2 : Int32) (s0 : Int32) (M_now : Nat → Int32) (M_upper : Int32) (M_lower : Int32) (M_mode : Nat → Int32) (M_offset : Nat → Int64) (M_bearer : Nat → Int32) (M_bearers : Int32) (M_matrix : Nat → Int64) : Option ((Int32 × (Nat → Int64)) ⊕ ((Nat → Int64))) :=
  if s0 = (0 : Int32) then
    (ldA M_bearer 5 l1).bind fun v_163 =>
    (ldA M_bearer 5 (l1 + (1 : Int32))).bind fun v_171 =>
    (f_M_pitchesFrom F v_163 v_171 M_now).bind fun r_172 =>
    (iter (un2 (fb_M_layMatrix_180 l1 l2 r_172 M_upper M_lower)) F ((0 : Int32), M_matrix)).bind fun M_matrix_180 =>
    (ldA M_matrix_180 35 (l2 + l1)).bind fun v_223 =>
    (ldA M_bearer 5 l1).bind fun v_230 =>
    (f_M_give v_230 M_now M_mode).bind fun r_231 =>
    (stL M_matrix_180 35 (l2 + l1) (v_223 + (Int32.toInt64 r_231))).bind fun M_matrix_236 =>
    (ldA M_matrix_236 35 ((l2 + l1) + (1 : Int32))).bind fun v_247 =>
    (ldA M_bearer 5 (l1 + (1 : Int32))).bind fun v_256 =>
    (f_M_give v_256 M_now M_mode).bind fun r_257 =>
    (stL M_matrix_236 35 ((l2 + l1) + (1 : Int32)) (v_247 - (Int32.toInt64 r_257))).bind fun M_matrix_262 =>
    (stL M_matrix_262 35 (l2 + (5 : Int32)) ((Int32.toInt64 M_upper) * (Int32.toInt64 r_172))).bind fun M_matrix_279 =>
    (ldA M_bearer 5 (l1 + (1 : Int32))).bind fun v_300 =>
    (ldA M_offset 5 v_300).bind fun v_301 =>
    (ldA M_bearer 5 l1).bind fun v_311 =>
    (ldA M_offset 5 v_311).bind fun v_312 =>
    (stL M_matrix_279 35 ((l2 + (5 : Int32)) + (1 : Int32)) (v_301 - v_312)).bind fun M_matrix_314 =>
    fj_M_layMatrix_315 l1 M_matrix_314
  else
    (iter (un2 (fb_M_layMatrix_120 l2 M_bearers)) F ((0 : Int32), M_matrix)).bind fun M_matrix_120 =>
    (stL M_matrix_120 35 (l2 + (5 : Int32)) (1 : Int64)).bind fun M_matrix_153 =>
    fj_M_layMatrix_315 l1 M_matrix_153
noncomputable def fb_M_layMatrix_84 (F : Nat) (M_now : Nat → Int32) (M_upper : Int32) (M_lower : Int32) (M_mode : Nat → Int32) (M_offset : Nat → Int64) (M_bearer : Nat → Int32) (M_bearers : Int32) (l1 : Int32) (M_matrix : Nat → Int64) : Option ((Int32 × (Nat → Int64)) ⊕ ((Nat → Int64))) :=
  if M_bearers ≤ l1 then
    some (.inr M_matrix)
  else
    nm ((7 : Int32) * l1) fun l2_96 =>
    if l1 = (M_bearers - (1 : Int32)) then
      fj_M_layMatrix_112 F l1 l2_96 (1 : Int32) M_now M_upper M_lower M_mode M_offset M_bearer M_bearers M_matrix
    else
      fj_M_layMatrix_112 F l1 l2_96 (0 : Int32) M_now M_upper M_lower M_mode M_offset M_bearer M_bearers M_matrix
noncomputable def f_M_layMatrix (F : Nat) (M_now : Nat → Int32) (M_many : Int32) (M_upper : Int32) (M_lower : Int32) (M_mode : Nat → Int32) (M_offset : Nat → Int64) (M_bearer : Nat → Int32) (M_bearers : Int32) (M_matrix : Nat → Int64) : Option ((Nat → Int32) × Int32 × (Nat → Int64)) :=
  bd2 (iter (un3 (fb_M_layMatrix_7 M_many M_mode)) F ((0 : Int32), M_bearer, (0 : Int32))) fun M_bearer_7 M_bearers_7 =>
  (iter (un2 (fb_M_layMatrix_60)) F ((0 : Int32), M_matrix)).bind fun M_matrix_60 =>
  (iter (un2 (fb_M_layMatrix_84 F M_now M_upper M_lower M_mode M_offset M_bearer_7 M_bearers_7)) F ((0 : Int32), M_matrix_60)).bind fun M_matrix_84 =>
  some (M_bearer_7, M_bearers_7, M_matrix_84)
noncomputable def fj_M_determinant_102 (l5 : Int64) (l7 : Int32) (l8 : Int32) : Option ((Int64 × Int32 × Int32) ⊕ (Int64)) :=
  nm (l8 + (1 : Int32)) fun l8_102 =>
  some (.inl (l5, l7, l8_102))
noncomputable def fj_M_determinant_97 (l5 : Int64) (l7 : Int32) (l8 : Int32) : Option ((Int64 × Int32 × Int32) ⊕ (Int64)) :=
  nm (-l7) fun l7_100 =>
  fj_M_determinant_102 l5 l7_100 l8
noncomputable def fj_M_determinant_55 (rec : Int32 → Int32 → Int32 → Int32 → Option Int64) (l1 : Int32) (l2 : Int32) (l3 : Int32) (l4 : Int32) (l5 : Int64) (l7 : Int32) (l8 : Int32) (s1 : Int32) (s2 : Int32) (M_matrix : Nat → Int64) : Option ((Int64 × Int32 × Int32) ⊕ (Int64)) :=
  (f_M_cell s1 s2 M_matrix).bind fun r_55 =>
  if r_55 = (0 : Int64) then
    fj_M_determinant_97 l5 l7 l8
  else
    (rec (l1 + (1 : Int32)) (l2 &&& (((1 : Int32) <<< (l8 &&& 31)) ^^^ (-1 : Int32))) l3 l4).bind fun r_90 =>
    nm (l5 + (((Int32.toInt64 l7) * r_55) * r_90)) fun l5_95 =>
    fj_M_determinant_97 l5_95 l7 l8
noncomputable def fb_M_determinant_19 (rec : Int32 → Int32 → Int32 → Int32 → Option Int64) (l1 : Int32) (l2 : Int32) (l3 : Int32) (l4 : Int32) (M_bearers : Int32) (M_matrix : Nat → Int64) (l5 : Int64) (l7 : Int32) (l8 : Int32) : Option ((Int64 × Int32 × Int32) ⊕ (Int64)) :=
  if M_bearers ≤ l8 then
    some (.inr l5)
  else
    if ((l2 >>> (l8 &&& 31)) &&& (1 : Int32)) = (0 : Int32) then
      fj_M_determinant_102 l5 l7 l8
    else
      if l8 = l3 then
        fj_M_determinant_55 rec l1 l2 l3 l4 l5 l7 l8 l1 l4 M_matrix
      else
        fj_M_determinant_55 rec l1 l2 l3 l4 l5 l7 l8 l1 l8 M_matrix
noncomputable def fd_M_determinant (rec : Int32 → Int32 → Int32 → Int32 → Option Int64) (F : Nat) (l1 : Int32) (l2 : Int32) (l3 : Int32) (l4 : Int32) (M_bearers : Int32) (M_matrix : Nat → Int64) : Option (Int64) :=
  if l1 = M_bearers then
    some (1 : Int64)
  else
    (iter (un3 (fb_M_determinant_19 rec l1 l2 l3 l4 M_bearers M_matrix)) F ((0 : Int64), (1 : Int32), (0 : Int32))).bind fun l5_19 =>
    some l5_19
noncomputable def f_M_determinant (F : Nat) : Nat → Int32 → (Nat → Int64) → Int32 → Int32 → Int32 → Int32 → Option Int64
  | 0 => fun _ _ _ _ _ _ => none
  | k + 1 => fun M_bearers M_matrix l1 l2 l3 l4 => fd_M_determinant (fun x1 x2 x3 x4 => f_M_determinant F k M_bearers M_matrix x1 x2 x3 x4) F l1 l2 l3 l4 M_bearers M_matrix
noncomputable def fb_M_laySlips_61 (M_now : Nat → Int32) (M_upper : Int32) (M_under : Int64) (l2 : Int32) (M_slipSlope : Nat → Int64) (M_slipBase : Nat → Int64) : Option ((Int32 × (Nat → Int64) × (Nat → Int64)) ⊕ ((Nat → Int64) × (Nat → Int64))) :=
  if l2 < (0 : Int32) then
    some (.inr (M_slipSlope, M_slipBase))
  else
    (ldA M_slipSlope 5 (l2 + (1 : Int32))).bind fun v_77 =>
    (f_M_of l2 (6 : Int32) M_now).bind fun r_87 =>
    (stL M_slipSlope 5 l2 (v_77 + (((Int32.toInt64 M_upper) * (Int32.toInt64 r_87)) * M_under))).bind fun M_slipSlope_98 =>
    (ldA M_slipBase 5 (l2 + (1 : Int32))).bind fun v_111 =>
    (stL M_slipBase 5 l2 v_111).bind fun M_slipBase_112 =>
    nm (l2 + (-1 : Int32)) fun l2_113 =>
    some (.inl (l2_113, M_slipSlope_98, M_slipBase_112))
noncomputable def fj_M_laySlips_253 (l2 : Int64) (l4 : Int64) (l6 : Int32) (M_slipSlope : Nat → Int64) (M_slipBase : Nat → Int64) : Option ((Int64 × Int64 × Int32 × (Nat → Int64) × (Nat → Int64)) ⊕ ((Nat → Int64) × (Nat → Int64))) :=
  nm (l6 + (1 : Int32)) fun l6_253 =>
  some (.inl (l2, l4, l6_253, M_slipSlope, M_slipBase))
noncomputable def fb_M_laySlips_127 (l1 : Int32) (M_now : Nat → Int32) (M_many : Int32) (M_upper : Int32) (M_lower : Int32) (M_under : Int64) (M_slope : Nat → Int64) (M_base : Nat → Int64) (l2 : Int64) (l4 : Int64) (l6 : Int32) (M_slipSlope : Nat → Int64) (M_slipBase : Nat → Int64) : Option ((Int64 × Int64 × Int32 × (Nat → Int64) × (Nat → Int64)) ⊕ ((Nat → Int64) × (Nat → Int64))) :=
  if (M_many - (1 : Int32)) ≤ l6 then
    some (.inr (M_slipSlope, M_slipBase))
  else
    (ldA M_slope 5 l6).bind fun v_145 =>
    nm (l2 + v_145) fun l2_147 =>
    (ldA M_base 5 l6).bind fun v_156 =>
    nm (l4 + v_156) fun l4_158 =>
    if l1 ≤ l6 then
      (f_M_of l6 (6 : Int32) M_now).bind fun r_174 =>
      nm (Int32.toInt64 r_174) fun l7_178 =>
      (ldA M_slipSlope 5 l6).bind fun v_194 =>
      (stL M_slipSlope 5 (l6 + (1 : Int32)) (v_194 - (l7_178 * (((Int32.toInt64 M_upper) * (M_under - l2_147)) - ((Int32.toInt64 M_lower) * l2_147))))).bind fun M_slipSlope_219 =>
      (ldA M_slipBase 5 l6).bind fun v_234 =>
      (stL M_slipBase 5 (l6 + (1 : Int32)) (v_234 + ((l7_178 * (Int32.toInt64 (M_upper + M_lower))) * l4_158))).bind fun M_slipBase_252 =>
      fj_M_laySlips_253 l2_147 l4_158 l6 M_slipSlope_219 M_slipBase_252
    else
      fj_M_laySlips_253 l2_147 l4_158 l6 M_slipSlope M_slipBase
noncomputable def f_M_laySlips (F : Nat) (M_now : Nat → Int32) (M_many : Int32) (M_upper : Int32) (M_lower : Int32) (M_mode : Nat → Int32) (M_under : Int64) (M_slope : Nat → Int64) (M_base : Nat → Int64) (M_slipSlope : Nat → Int64) (M_slipBase : Nat → Int64) (M_offset : Nat → Int64) (M_bearer : Nat → Int32) : Option ((Nat → Int64) × (Nat → Int64)) :=
  (ldA M_bearer 5 (0 : Int32)).bind fun v_5 =>
  (f_M_give v_5 M_now M_mode).bind fun r_14 =>
  (ldA M_slope 5 v_5).bind fun v_23 =>
  (stL M_slipSlope 5 v_5 ((Int32.toInt64 r_14) * v_23)).bind fun M_slipSlope_25 =>
  (f_M_give v_5 M_now M_mode).bind fun r_33 =>
  (ldA M_base 5 v_5).bind fun v_42 =>
  (ldA M_offset 5 v_5).bind fun v_49 =>
  (stL M_slipBase 5 v_5 (((Int32.toInt64 r_33) * v_42) + (v_49 * M_under))).bind fun M_slipBase_56 =>
  nm (v_5 - (1 : Int32)) fun l2_60 =>
  bd2 (iter (un3 (fb_M_laySlips_61 M_now M_upper M_under)) F (l2_60, M_slipSlope_25, M_slipBase_56)) fun M_slipSlope_61 M_slipBase_61 =>
  bd2 (iter (un5 (fb_M_laySlips_127 v_5 M_now M_many M_upper M_lower M_under M_slope M_base)) F ((0 : Int64), (0 : Int64), (0 : Int32), M_slipSlope_61, M_slipBase_61)) fun M_slipSlope_127 M_slipBase_127 =>
  some (M_slipSlope_127, M_slipBase_127)
noncomputable def fb_M_solveBy_53 (M_many : Int32) (l3 : Int32) (M_slope : Nat → Int64) (M_base : Nat → Int64) : Option ((Int32 × (Nat → Int64) × (Nat → Int64)) ⊕ ((Nat → Int64) × (Nat → Int64))) :=
  if M_many ≤ l3 then
    some (.inr (M_slope, M_base))
  else
    (stL M_slope 5 l3 (0 : Int64)).bind fun M_slope_67 =>
    (stL M_base 5 l3 (0 : Int64)).bind fun M_base_74 =>
    nm (l3 + (1 : Int32)) fun l3_75 =>
    some (.inl (l3_75, M_slope_67, M_base_74))
noncomputable def fb_M_solveBy_83 (F : Nat) (l1 : Int32) (l2 : Int32) (M_bearer : Nat → Int32) (M_bearers : Int32) (M_matrix : Nat → Int64) (l3 : Int32) (M_slope : Nat → Int64) (M_base : Nat → Int64) : Option ((Int32 × (Nat → Int64) × (Nat → Int64)) ⊕ ((Nat → Int64) × (Nat → Int64))) :=
  if M_bearers ≤ l3 then
    some (.inr (M_slope, M_base))
  else
    (ldA M_bearer 5 l3).bind fun v_100 =>
    (f_M_determinant F 6 M_bearers M_matrix (0 : Int32) l1 l3 (5 : Int32)).bind fun r_108 =>
    (stL M_slope 5 v_100 ((Int32.toInt64 l2) * r_108)).bind fun M_slope_112 =>
    (ldA M_bearer 5 l3).bind fun v_122 =>
    (f_M_determinant F 6 M_bearers M_matrix (0 : Int32) l1 l3 (6 : Int32)).bind fun r_131 =>
    (stL M_base 5 v_122 ((Int32.toInt64 l2) * r_131)).bind fun M_base_135 =>
    nm (l3 + (1 : Int32)) fun l3_136 =>
    some (.inl (l3_136, M_slope_112, M_base_135))
noncomputable def fj_M_solveBy_39 (F : Nat) (l1 : Int32) (s0 : Int32) (M_now : Nat → Int32) (M_many : Int32) (M_upper : Int32) (M_lower : Int32) (M_mode : Nat → Int32) (M_under : Int64) (M_slope : Nat → Int64) (M_base : Nat → Int64) (M_slipSlope : Nat → Int64) (M_slipBase : Nat → Int64) (M_offset : Nat → Int64) (M_bearer : Nat → Int32) (M_bearers : Int32) (M_matrix : Nat → Int64) : Option (Int64 × (Nat → Int64) × (Nat → Int64) × (Nat → Int64) × (Nat → Int64) × (Nat → Int32) × Int32 × (Nat → Int64)) :=
  nm (M_under * (Int32.toInt64 s0)) fun M_under_48 =>
  bd2 (iter (un3 (fb_M_solveBy_53 M_many)) F ((0 : Int32), M_slope, M_base)) fun M_slope_53 M_base_53 =>
  bd2 (iter (un3 (fb_M_solveBy_83 F l1 s0 M_bearer M_bearers M_matrix)) F ((0 : Int32), M_slope_53, M_base_53)) fun M_slope_83 M_base_83 =>
  bd2 (f_M_laySlips F M_now M_many M_upper M_lower M_mode M_under_48 M_slope_83 M_base_83 M_slipSlope M_slipBase M_offset M_bearer) fun M_slipSlope_143 M_slipBase_143 =>
  some (M_under_48, M_slope_83, M_base_83, M_slipSlope_143, M_slipBase_143, M_bearer, M_bearers, M_matrix)
noncomputable def f_M_solveBy (F : Nat) (M_now : Nat → Int32) (M_many : Int32) (M_upper : Int32) (M_lower : Int32) (M_mode : Nat → Int32) (M_under : Int64) (M_slope : Nat → Int64) (M_base : Nat → Int64) (M_slipSlope : Nat → Int64) (M_slipBase : Nat → Int64) (M_offset : Nat → Int64) (M_bearer : Nat → Int32) (M_bearers : Int32) (M_matrix : Nat → Int64) : Option (Int64 × (Nat → Int64) × (Nat → Int64) × (Nat → Int64) × (Nat → Int64) × (Nat → Int32) × Int32 × (Nat → Int64)) :=
  bd3 (f_M_layMatrix F M_now M_many M_upper M_lower M_mode M_offset M_bearer M_bearers M_matrix) fun M_bearer_1 M_bearers_1 M_matrix_1 =>
  nm (((1 : Int32) <<< (M_bearers_1 &&& 31)) - (1 : Int32)) fun l1_12 =>
  (f_M_determinant F 6 M_bearers_1 M_matrix_1 (0 : Int32) l1_12 (-1 : Int32) (0 : Int32)).bind fun r_19 =>
  if (0 : Int64) ≤ r_19 then
    fj_M_solveBy_39 F l1_12 (1 : Int32) M_now M_many M_upper M_lower M_mode r_19 M_slope M_base M_slipSlope M_slipBase M_offset M_bearer_1 M_bearers_1 M_matrix_1
  else
    fj_M_solveBy_39 F l1_12 (-1 : Int32) M_now M_many M_upper M_lower M_mode r_19 M_slope M_base M_slipSlope M_slipBase M_offset M_bearer_1 M_bearers_1 M_matrix_1
noncomputable def f_M_solve (F : Nat) (M_now : Nat → Int32) (M_many : Int32) (M_upper : Int32) (M_lower : Int32) (M_mode : Nat → Int32) (M_under : Int64) (M_slope : Nat → Int64) (M_base : Nat → Int64) (M_slipSlope : Nat → Int64) (M_slipBase : Nat → Int64) (M_offset : Nat → Int64) (M_bearer : Nat → Int32) (M_bearers : Int32) (M_matrix : Nat → Int64) : Option (Int64 × (Nat → Int64) × (Nat → Int64) × (Nat → Int64) × (Nat → Int64) × (Nat → Int64) × (Nat → Int32) × Int32 × (Nat → Int64)) :=
  (f_M_layOffsets F M_now M_many M_mode M_offset).bind fun M_offset_1 =>
  bd8 (f_M_solveBy F M_now M_many M_upper M_lower M_mode M_under M_slope M_base M_slipSlope M_slipBase M_offset_1 M_bearer M_bearers M_matrix) fun M_under_5 M_slope_5 M_base_5 M_slipSlope_5 M_slipBase_5 M_bearer_5 M_bearers_5 M_matrix_5 =>
  some (M_under_5, M_slope_5, M_base_5, M_slipSlope_5, M_slipBase_5, M_offset_1, M_bearer_5, M_bearers_5, M_matrix_5)
noncomputable def fj_M_setLoad_15 (l1 : Int64) (l3 : Int64) (s0 : Int64) : Option (Int64 × Int64) :=
  (dvL l1 s0).bind fun v_21 =>
  (dvL l3 s0).bind fun v_29 =>
  some (v_21, v_29)
noncomputable def f_M_setLoad (F : Nat) (l1 : Int64) (l3 : Int64) (M_loadOver : Int64) (M_loadUnder : Int64) : Option (Int64 × Int64) :=
  if l1 = (0 : Int64) then
    fj_M_setLoad_15 l1 l3 l3
  else
    (f_M_common F l1 l3).bind fun r_12 =>
    fj_M_setLoad_15 l1 l3 r_12
noncomputable def f_M_forceThere (l1 : Int32) (M_slope : Nat → Int64) (M_base : Nat → Int64) (M_loadOver : Int64) (M_loadUnder : Int64) : Option (Int64) :=
  (ldA M_slope 5 l1).bind fun v_5 =>
  (ldA M_base 5 l1).bind fun v_16 =>
  some ((v_5 * M_loadOver) + (v_16 * M_loadUnder))
noncomputable def f_M_slipThere (l1 : Int32) (M_slipSlope : Nat → Int64) (M_slipBase : Nat → Int64) (M_loadOver : Int64) (M_loadUnder : Int64) : Option (Int64) :=
  (ldA M_slipSlope 5 l1).bind fun v_5 =>
  (ldA M_slipBase 5 l1).bind fun v_16 =>
  some ((v_5 * M_loadOver) + (v_16 * M_loadUnder))
noncomputable def f_M_unitThere (M_under : Int64) (M_loadUnder : Int64) : Option (Int64) :=
  some (M_under * M_loadUnder)
noncomputable def f_M_isLive (l1 : Int32) (M_mode : Nat → Int32) : Option (Int32) :=
  (ldA M_mode 5 l1).bind fun v_5 =>
  if v_5 = (3 : Int32) then
    some (0 : Int32)
  else
    some (1 : Int32)
noncomputable def f_M_note (l1 : Int32) (l2 : Int32) (M_loadOver : Int64) (M_loadUnder : Int64) (M_eventMany : Int32) (M_eventKind : Nat → Int32) (M_eventBolt : Nat → Int32) (M_eventOver : Nat → Int64) (M_eventUnder : Nat → Int64) (M_had : Nat → Int32) : Option (Int32 × (Nat → Int32) × (Nat → Int32) × (Nat → Int64) × (Nat → Int64) × (Nat → Int32)) :=
  (stI M_eventKind 32 M_eventMany l1).bind fun M_eventKind_9 =>
  (stI M_eventBolt 32 M_eventMany l2).bind fun M_eventBolt_19 =>
  (stL M_eventOver 32 M_eventMany M_loadOver).bind fun M_eventOver_32 =>
  (stL M_eventUnder 32 M_eventMany M_loadUnder).bind fun M_eventUnder_45 =>
  nm (M_eventMany + (1 : Int32)) fun M_eventMany_53 =>
  (ldA M_had 5 l2).bind fun v_62 =>
  (stI M_had 5 l2 (v_62 ||| ((1 : Int32) <<< (l1 &&& 31)))).bind fun M_had_67 =>
  some (M_eventMany_53, M_eventKind_9, M_eventBolt_19, M_eventOver_32, M_eventUnder_45, M_had_67)
noncomputable def fj_M_leastClear_32 (l1 : Int32) (l2 : Int32) : Option ((Int32 × Int32) ⊕ (Int32)) :=
  nm (l2 + (1 : Int32)) fun l2_32 =>
  some (.inl (l1, l2_32))
noncomputable def fb_M_leastClear_5 (M_now : Nat → Int32) (M_many : Int32) (M_mode : Nat → Int32) (l1 : Int32) (l2 : Int32) : Option ((Int32 × Int32) ⊕ (Int32)) :=
  if M_many ≤ l2 then
    some (.inr l1)
  else
    (f_M_isLive l2 M_mode).bind fun r_15 =>
    if r_15 = (0 : Int32) then
      fj_M_leastClear_32 l1 l2
    else
      (f_M_of l2 (1 : Int32) M_now).bind fun r_25 =>
      nm (if r_25 < l1 then r_25 else l1) fun v_28 =>
      fj_M_leastClear_32 v_28 l2
noncomputable def f_M_leastClear (F : Nat) (M_now : Nat → Int32) (M_many : Int32) (M_mode : Nat → Int32) : Option (Int32) :=
  (iter (un2 (fb_M_leastClear_5 M_now M_many M_mode)) F ((10 : Int32), (0 : Int32))).bind fun l1_5 =>
  some l1_5
noncomputable def fj_M_start_41 (l1 : Int32) (s1 : Int32) (s2 : Int32) (M_mode : Nat → Int32) (M_had : Nat → Int32) : Option ((Int32 × (Nat → Int32) × (Nat → Int32)) ⊕ ((Nat → Int32) × (Nat → Int32))) :=
  (stI M_mode 5 s1 s2).bind fun M_mode_41 =>
  (stI M_had 5 l1 (0 : Int32)).bind fun M_had_48 =>
  nm (l1 + (1 : Int32)) fun l1_49 =>
  some (.inl (l1_49, M_mode_41, M_had_48))
noncomputable def fb_M_start_13 (M_now : Nat → Int32) (M_many : Int32) (l1 : Int32) (M_mode : Nat → Int32) (M_had : Nat → Int32) : Option ((Int32 × (Nat → Int32) × (Nat → Int32)) ⊕ ((Nat → Int32) × (Nat → Int32))) :=
  if M_many ≤ l1 then
    some (.inr (M_mode, M_had))
  else
    (f_M_of l1 (5 : Int32) M_now).bind fun r_29 =>
    if r_29 = (1 : Int32) then
      fj_M_start_41 l1 l1 (3 : Int32) M_mode M_had
    else
      fj_M_start_41 l1 l1 (0 : Int32) M_mode M_had
noncomputable def fj_M_start_104 (l2 : Int32) (M_mode : Nat → Int32) (M_eventMany : Int32) (M_eventKind : Nat → Int32) (M_eventBolt : Nat → Int32) (M_eventOver : Nat → Int64) (M_eventUnder : Nat → Int64) (M_had : Nat → Int32) : Option ((Int32 × (Nat → Int32) × Int32 × (Nat → Int32) × (Nat → Int32) × (Nat → Int64) × (Nat → Int64) × (Nat → Int32)) ⊕ ((Nat → Int32) × Int32 × (Nat → Int32) × (Nat → Int32) × (Nat → Int64) × (Nat → Int64) × (Nat → Int32))) :=
  nm (l2 + (1 : Int32)) fun l2_104 =>
  some (.inl (l2_104, M_mode, M_eventMany, M_eventKind, M_eventBolt, M_eventOver, M_eventUnder, M_had))
noncomputable def fb_M_start_62 (l1 : Int32) (M_now : Nat → Int32) (M_many : Int32) (M_loadOver : Int64) (M_loadUnder : Int64) (l2 : Int32) (M_mode : Nat → Int32) (M_eventMany : Int32) (M_eventKind : Nat → Int32) (M_eventBolt : Nat → Int32) (M_eventOver : Nat → Int64) (M_eventUnder : Nat → Int64) (M_had : Nat → Int32) : Option ((Int32 × (Nat → Int32) × Int32 × (Nat → Int32) × (Nat → Int32) × (Nat → Int64) × (Nat → Int64) × (Nat → Int32)) ⊕ ((Nat → Int32) × Int32 × (Nat → Int32) × (Nat → Int32) × (Nat → Int64) × (Nat → Int64) × (Nat → Int32))) :=
  if M_many ≤ l2 then
    some (.inr (M_mode, M_eventMany, M_eventKind, M_eventBolt, M_eventOver, M_eventUnder, M_had))
  else
    (f_M_isLive l2 M_mode).bind fun r_72 =>
    if r_72 = (0 : Int32) then
      fj_M_start_104 l2 M_mode M_eventMany M_eventKind M_eventBolt M_eventOver M_eventUnder M_had
    else
      (f_M_of l2 (1 : Int32) M_now).bind fun r_81 =>
      if r_81 = l1 then
        (stI M_mode 5 l2 (1 : Int32)).bind fun M_mode_97 =>
        bd6 (f_M_note (0 : Int32) l2 M_loadOver M_loadUnder M_eventMany M_eventKind M_eventBolt M_eventOver M_eventUnder M_had) fun M_eventMany_101 M_eventKind_101 M_eventBolt_101 M_eventOver_101 M_eventUnder_101 M_had_101 =>
        fj_M_start_104 l2 M_mode_97 M_eventMany_101 M_eventKind_101 M_eventBolt_101 M_eventOver_101 M_eventUnder_101 M_had_101
      else
        fj_M_start_104 l2 M_mode M_eventMany M_eventKind M_eventBolt M_eventOver M_eventUnder M_had
noncomputable def f_M_start (F : Nat) (M_now : Nat → Int32) (M_many : Int32) (M_mode : Nat → Int32) (M_loadOver : Int64) (M_loadUnder : Int64) (M_eventMany : Int32) (M_eventKind : Nat → Int32) (M_eventBolt : Nat → Int32) (M_eventOver : Nat → Int64) (M_eventUnder : Nat → Int64) (M_had : Nat → Int32) : Option ((Nat → Int32) × Int64 × Int64 × Int32 × (Nat → Int32) × (Nat → Int32) × (Nat → Int64) × (Nat → Int64) × (Nat → Int32)) :=
  bd2 (f_M_setLoad F (0 : Int64) (1 : Int64) M_loadOver M_loadUnder) fun M_loadOver_8 M_loadUnder_8 =>
  bd2 (iter (un3 (fb_M_start_13 M_now M_many)) F ((0 : Int32), M_mode, M_had)) fun M_mode_13 M_had_13 =>
  (f_M_leastClear F M_now M_many M_mode_13).bind fun r_56 =>
  bd7 (iter (un8 (fb_M_start_62 r_56 M_now M_many M_loadOver_8 M_loadUnder_8)) F ((0 : Int32), M_mode_13, (0 : Int32), M_eventKind, M_eventBolt, M_eventOver, M_eventUnder, M_had_13)) fun M_mode_62 M_eventMany_62 M_eventKind_62 M_eventBolt_62 M_eventOver_62 M_eventUnder_62 M_had_62 =>
  some (M_mode_62, M_loadOver_8, M_loadUnder_8, M_eventMany_62, M_eventKind_62, M_eventBolt_62, M_eventOver_62, M_eventUnder_62, M_had_62)
noncomputable def fb_M_isOver_2 (M_many : Int32) (M_mode : Nat → Int32) (l1 : Int32) : Option ((Int32) ⊕ (Nat)) :=
  if M_many ≤ l1 then
    some (.inr 1)
  else
    (f_M_isLive l1 M_mode).bind fun r_12 =>
    if r_12 = (0 : Int32) then
      nm (l1 + (1 : Int32)) fun l1_20 =>
      some (.inl l1_20)
    else
      some (.inr 0)
noncomputable def f_M_isOver (F : Nat) (M_many : Int32) (M_mode : Nat → Int32) : Option (Int32) :=
  (iter (fb_M_isOver_2 M_many M_mode) F (0 : Int32)).bind fun c_2 =>
  if c_2 = 0 then
    some (0 : Int32)
  else
    some (1 : Int32)
noncomputable def f_M_meets (l1 : Int64) (l3 : Int64) (l5 : Int64) (M_nextOver : Int64) (M_nextUnder : Int64) : Option (Int64 × Int64) :=
  if (0 : Int64) < l1 then
    nm (l5 - l3) fun l7_11 =>
    if M_nextUnder = (0 : Int64) then
      some (l7_11, l1)
    else
      if (l7_11 * M_nextUnder) < (M_nextOver * l1) then
        some (l7_11, l1)
      else
        some (M_nextOver, M_nextUnder)
  else
    some (M_nextOver, M_nextUnder)
noncomputable def fj_M_findNext_132 (l1 : Int32) (M_nextOver : Int64) (M_nextUnder : Int64) : Option ((Int32 × Int64 × Int64) ⊕ (Int64 × Int64)) :=
  nm (l1 + (1 : Int32)) fun l1_132 =>
  some (.inl (l1_132, M_nextOver, M_nextUnder))
noncomputable def fj_M_findNext_94 (l1 : Int32) (M_now : Nat → Int32) (M_mode : Nat → Int32) (M_under : Int64) (M_slope : Nat → Int64) (M_base : Nat → Int64) (M_nextOver : Int64) (M_nextUnder : Int64) : Option ((Int32 × Int64 × Int64) ⊕ (Int64 × Int64)) :=
  (ldA M_mode 5 l1).bind fun v_99 =>
  if v_99 = (2 : Int32) then
    (ldA M_slope 5 l1).bind fun v_110 =>
    (ldA M_base 5 l1).bind fun v_116 =>
    (f_M_of l1 (4 : Int32) M_now).bind fun r_120 =>
    bd2 (f_M_meets v_110 v_116 ((Int32.toInt64 r_120) * M_under) M_nextOver M_nextUnder) fun M_nextOver_129 M_nextUnder_129 =>
    fj_M_findNext_132 l1 M_nextOver_129 M_nextUnder_129
  else
    fj_M_findNext_132 l1 M_nextOver M_nextUnder
noncomputable def fj_M_findNext_56 (l1 : Int32) (M_now : Nat → Int32) (M_mode : Nat → Int32) (M_under : Int64) (M_slope : Nat → Int64) (M_base : Nat → Int64) (M_nextOver : Int64) (M_nextUnder : Int64) : Option ((Int32 × Int64 × Int64) ⊕ (Int64 × Int64)) :=
  (ldA M_mode 5 l1).bind fun v_61 =>
  if v_61 = (1 : Int32) then
    (ldA M_slope 5 l1).bind fun v_72 =>
    (ldA M_base 5 l1).bind fun v_78 =>
    (f_M_of l1 (2 : Int32) M_now).bind fun r_82 =>
    bd2 (f_M_meets v_72 v_78 ((Int32.toInt64 r_82) * M_under) M_nextOver M_nextUnder) fun M_nextOver_91 M_nextUnder_91 =>
    fj_M_findNext_94 l1 M_now M_mode M_under M_slope M_base M_nextOver_91 M_nextUnder_91
  else
    fj_M_findNext_94 l1 M_now M_mode M_under M_slope M_base M_nextOver M_nextUnder
noncomputable def fb_M_findNext_11 (M_now : Nat → Int32) (M_many : Int32) (M_mode : Nat → Int32) (M_under : Int64) (M_slope : Nat → Int64) (M_base : Nat → Int64) (M_slipSlope : Nat → Int64) (M_slipBase : Nat → Int64) (l1 : Int32) (M_nextOver : Int64) (M_nextUnder : Int64) : Option ((Int32 × Int64 × Int64) ⊕ (Int64 × Int64)) :=
  if M_many ≤ l1 then
    some (.inr (M_nextOver, M_nextUnder))
  else
    (ldA M_mode 5 l1).bind fun v_24 =>
    if v_24 = (0 : Int32) then
      (ldA M_slipSlope 5 l1).bind fun v_34 =>
      (ldA M_slipBase 5 l1).bind fun v_40 =>
      (f_M_of l1 (1 : Int32) M_now).bind fun r_44 =>
      bd2 (f_M_meets v_34 v_40 ((Int32.toInt64 r_44) * M_under) M_nextOver M_nextUnder) fun M_nextOver_53 M_nextUnder_53 =>
      fj_M_findNext_56 l1 M_now M_mode M_under M_slope M_base M_nextOver_53 M_nextUnder_53
    else
      fj_M_findNext_56 l1 M_now M_mode M_under M_slope M_base M_nextOver M_nextUnder
noncomputable def f_M_findNext (F : Nat) (M_now : Nat → Int32) (M_many : Int32) (M_upper : Int32) (M_lower : Int32) (M_mode : Nat → Int32) (M_under : Int64) (M_slope : Nat → Int64) (M_base : Nat → Int64) (M_slipSlope : Nat → Int64) (M_slipBase : Nat → Int64) (M_offset : Nat → Int64) (M_bearer : Nat → Int32) (M_bearers : Int32) (M_matrix : Nat → Int64) (M_nextOver : Int64) (M_nextUnder : Int64) : Option (Int64 × (Nat → Int64) × (Nat → Int64) × (Nat → Int64) × (Nat → Int64) × (Nat → Int64) × (Nat → Int32) × Int32 × (Nat → Int64) × Int64 × Int64) :=
  bd9 (f_M_solve F M_now M_many M_upper M_lower M_mode M_under M_slope M_base M_slipSlope M_slipBase M_offset M_bearer M_bearers M_matrix) fun M_under_1 M_slope_1 M_base_1 M_slipSlope_1 M_slipBase_1 M_offset_1 M_bearer_1 M_bearers_1 M_matrix_1 =>
  bd2 (iter (un3 (fb_M_findNext_11 M_now M_many M_mode M_under_1 M_slope_1 M_base_1 M_slipSlope_1 M_slipBase_1)) F ((0 : Int32), M_nextOver, (0 : Int64))) fun M_nextOver_11 M_nextUnder_11 =>
  some (M_under_1, M_slope_1, M_base_1, M_slipSlope_1, M_slipBase_1, M_offset_1, M_bearer_1, M_bearers_1, M_matrix_1, M_nextOver_11, M_nextUnder_11)
noncomputable def f_M_begins (l1 : Int32) (l2 : Int32) (M_mode : Nat → Int32) (M_loadOver : Int64) (M_loadUnder : Int64) (M_eventMany : Int32) (M_eventKind : Nat → Int32) (M_eventBolt : Nat → Int32) (M_eventOver : Nat → Int64) (M_eventUnder : Nat → Int64) (M_had : Nat → Int32) (M_fresh : Nat → Int32) : Option ((Nat → Int32) × Int32 × (Nat → Int32) × (Nat → Int32) × (Nat → Int64) × (Nat → Int64) × (Nat → Int32) × (Nat → Int32)) :=
  (ldA M_mode 5 l1).bind fun v_6 =>
  (stI M_mode 5 l1 (v_6 + (1 : Int32))).bind fun M_mode_9 =>
  (stZ M_fresh 5 l1 (1 : Int32)).bind fun M_fresh_16 =>
  bd6 (f_M_note l2 l1 M_loadOver M_loadUnder M_eventMany M_eventKind M_eventBolt M_eventOver M_eventUnder M_had) fun M_eventMany_20 M_eventKind_20 M_eventBolt_20 M_eventOver_20 M_eventUnder_20 M_had_20 =>
  some (M_mode_9, M_eventMany_20, M_eventKind_20, M_eventBolt_20, M_eventOver_20, M_eventUnder_20, M_had_20, M_fresh_16)
noncomputable def fj_M_isSo_122 (l1 : Int32) : Option ((Int32) ⊕ (Nat)) :=
  nm (l1 + (1 : Int32)) fun l1_122 =>
  some (.inl l1_122)
noncomputable def fj_M_isSo_89 (l1 : Int32) (M_now : Nat → Int32) (M_mode : Nat → Int32) (M_under : Int64) (M_slope : Nat → Int64) (M_base : Nat → Int64) (M_loadOver : Int64) (M_loadUnder : Int64) : Option ((Int32) ⊕ (Nat)) :=
  (ldA M_mode 5 l1).bind fun v_94 =>
  if v_94 = (2 : Int32) then
    (f_M_forceThere l1 M_slope M_base M_loadOver M_loadUnder).bind fun r_101 =>
    (f_M_of l1 (2 : Int32) M_now).bind fun r_107 =>
    (f_M_unitThere M_under M_loadUnder).bind fun r_112 =>
    if ((Int32.toInt64 r_107) * r_112) < r_101 then
      fj_M_isSo_122 l1
    else
      some (.inr 2)
  else
    fj_M_isSo_122 l1
noncomputable def fj_M_isSo_46 (l1 : Int32) (M_now : Nat → Int32) (M_mode : Nat → Int32) (M_under : Int64) (M_slope : Nat → Int64) (M_base : Nat → Int64) (M_loadOver : Int64) (M_loadUnder : Int64) : Option ((Int32) ⊕ (Nat)) :=
  (ldA M_mode 5 l1).bind fun v_51 =>
  if v_51 = (1 : Int32) then
    (f_M_forceThere l1 M_slope M_base M_loadOver M_loadUnder).bind fun r_58 =>
    if r_58 ≤ (0 : Int64) then
      some (.inr 1)
    else
      (f_M_forceThere l1 M_slope M_base M_loadOver M_loadUnder).bind fun r_68 =>
      (f_M_of l1 (2 : Int32) M_now).bind fun r_74 =>
      (f_M_unitThere M_under M_loadUnder).bind fun r_79 =>
      if r_68 ≤ ((Int32.toInt64 r_74) * r_79) then
        fj_M_isSo_89 l1 M_now M_mode M_under M_slope M_base M_loadOver M_loadUnder
      else
        some (.inr 1)
  else
    fj_M_isSo_89 l1 M_now M_mode M_under M_slope M_base M_loadOver M_loadUnder
noncomputable def fb_M_isSo_6 (M_now : Nat → Int32) (M_many : Int32) (M_mode : Nat → Int32) (M_under : Int64) (M_slope : Nat → Int64) (M_base : Nat → Int64) (M_slipSlope : Nat → Int64) (M_slipBase : Nat → Int64) (M_loadOver : Int64) (M_loadUnder : Int64) (l1 : Int32) : Option ((Int32) ⊕ (Nat)) :=
  if M_many ≤ l1 then
    some (.inr 3)
  else
    (ldA M_mode 5 l1).bind fun v_19 =>
    if v_19 = (0 : Int32) then
      (f_M_slipThere l1 M_slipSlope M_slipBase M_loadOver M_loadUnder).bind fun r_25 =>
      (f_M_of l1 (1 : Int32) M_now).bind fun r_31 =>
      (f_M_unitThere M_under M_loadUnder).bind fun r_36 =>
      if r_25 ≤ ((Int32.toInt64 r_31) * r_36) then
        fj_M_isSo_46 l1 M_now M_mode M_under M_slope M_base M_loadOver M_loadUnder
      else
        some (.inr 0)
    else
      fj_M_isSo_46 l1 M_now M_mode M_under M_slope M_base M_loadOver M_loadUnder
noncomputable def f_M_isSo (F : Nat) (M_now : Nat → Int32) (M_many : Int32) (M_upper : Int32) (M_lower : Int32) (M_mode : Nat → Int32) (M_under : Int64) (M_slope : Nat → Int64) (M_base : Nat → Int64) (M_slipSlope : Nat → Int64) (M_slipBase : Nat → Int64) (M_offset : Nat → Int64) (M_bearer : Nat → Int32) (M_bearers : Int32) (M_matrix : Nat → Int64) (M_loadOver : Int64) (M_loadUnder : Int64) : Option (Int32 × Int64 × (Nat → Int64) × (Nat → Int64) × (Nat → Int64) × (Nat → Int64) × (Nat → Int64) × (Nat → Int32) × Int32 × (Nat → Int64)) :=
  bd9 (f_M_solve F M_now M_many M_upper M_lower M_mode M_under M_slope M_base M_slipSlope M_slipBase M_offset M_bearer M_bearers M_matrix) fun M_under_1 M_slope_1 M_base_1 M_slipSlope_1 M_slipBase_1 M_offset_1 M_bearer_1 M_bearers_1 M_matrix_1 =>
  (iter (fb_M_isSo_6 M_now M_many M_mode M_under_1 M_slope_1 M_base_1 M_slipSlope_1 M_slipBase_1 M_loadOver M_loadUnder) F (0 : Int32)).bind fun c_6 =>
  if c_6 = 0 then
    some ((0 : Int32), M_under_1, M_slope_1, M_base_1, M_slipSlope_1, M_slipBase_1, M_offset_1, M_bearer_1, M_bearers_1, M_matrix_1)
  else
  if c_6 = 1 then
    some ((0 : Int32), M_under_1, M_slope_1, M_base_1, M_slipSlope_1, M_slipBase_1, M_offset_1, M_bearer_1, M_bearers_1, M_matrix_1)
  else
  if c_6 = 2 then
    some ((0 : Int32), M_under_1, M_slope_1, M_base_1, M_slipSlope_1, M_slipBase_1, M_offset_1, M_bearer_1, M_bearers_1, M_matrix_1)
  else
    some ((1 : Int32), M_under_1, M_slope_1, M_base_1, M_slipSlope_1, M_slipBase_1, M_offset_1, M_bearer_1, M_bearers_1, M_matrix_1)
noncomputable def fj_M_settle_26 (l2 : Int32) (s0 : Int32) (s1 : Int32) : Option ((Int32 × Int32) ⊕ (Int32)) :=
  nm (s0 * s1) fun l1_27 =>
  nm (l2 + (1 : Int32)) fun l2_28 =>
  some (.inl (l1_27, l2_28))
noncomputable def fb_M_settle_4 (M_many : Int32) (M_mode : Nat → Int32) (l1 : Int32) (l2 : Int32) : Option ((Int32 × Int32) ⊕ (Int32)) :=
  if M_many ≤ l2 then
    some (.inr l1)
  else
    (f_M_isLive l2 M_mode).bind fun r_15 =>
    if r_15 = (0 : Int32) then
      fj_M_settle_26 l2 l1 (1 : Int32)
    else
      fj_M_settle_26 l2 l1 (3 : Int32)
noncomputable def fj_M_settle_91 (l4 : Int32) (l5 : Int32) (M_mode : Nat → Int32) : Option ((Int32 × Int32 × (Nat → Int32)) ⊕ ((Nat → Int32))) :=
  nm (l5 + (1 : Int32)) fun l5_91 =>
  some (.inl (l4, l5_91, M_mode))
noncomputable def fb_M_settle_53 (M_many : Int32) (l4 : Int32) (l5 : Int32) (M_mode : Nat → Int32) : Option ((Int32 × Int32 × (Nat → Int32)) ⊕ ((Nat → Int32))) :=
  if M_many ≤ l5 then
    some (.inr M_mode)
  else
    (f_M_isLive l5 M_mode).bind fun r_65 =>
    if r_65 = (0 : Int32) then
      fj_M_settle_91 l4 l5 M_mode
    else
      (rmI l4 (3 : Int32)).bind fun v_83 =>
      (stI M_mode 5 l5 v_83).bind fun M_mode_84 =>
      (dvI l4 (3 : Int32)).bind fun v_88 =>
      fj_M_settle_91 v_88 l5 M_mode_84
noncomputable def fb_M_settle_38 (F : Nat) (l1 : Int32) (M_now : Nat → Int32) (M_many : Int32) (M_upper : Int32) (M_lower : Int32) (M_loadOver : Int64) (M_loadUnder : Int64) (l2 : Int32) (l3 : Int32) (M_mode : Nat → Int32) (M_under : Int64) (M_slope : Nat → Int64) (M_base : Nat → Int64) (M_slipSlope : Nat → Int64) (M_slipBase : Nat → Int64) (M_offset : Nat → Int64) (M_bearer : Nat → Int32) (M_bearers : Int32) (M_matrix : Nat → Int64) : Option ((Int32 × Int32 × (Nat → Int32) × Int64 × (Nat → Int64) × (Nat → Int64) × (Nat → Int64) × (Nat → Int64) × (Nat → Int64) × (Nat → Int32) × Int32 × (Nat → Int64)) ⊕ ((Nat → Int32) × Int64 × (Nat → Int64) × (Nat → Int64) × (Nat → Int64) × (Nat → Int64) × (Nat → Int64) × (Nat → Int32) × Int32 × (Nat → Int64))) :=
  if l3 = (0 : Int32) then
    if l1 ≤ l2 then
      some (.inr (M_mode, M_under, M_slope, M_base, M_slipSlope, M_slipBase, M_offset, M_bearer, M_bearers, M_matrix))
    else
      (iter (un3 (fb_M_settle_53 M_many)) F (l2, (0 : Int32), M_mode)).bind fun M_mode_53 =>
      bd10 (f_M_isSo F M_now M_many M_upper M_lower M_mode_53 M_under M_slope M_base M_slipSlope M_slipBase M_offset M_bearer M_bearers M_matrix M_loadOver M_loadUnder) fun r_98 M_under_98 M_slope_98 M_base_98 M_slipSlope_98 M_slipBase_98 M_offset_98 M_bearer_98 M_bearers_98 M_matrix_98 =>
      nm (l2 + (1 : Int32)) fun l2_102 =>
      some (.inl (l2_102, r_98, M_mode_53, M_under_98, M_slope_98, M_base_98, M_slipSlope_98, M_slipBase_98, M_offset_98, M_bearer_98, M_bearers_98, M_matrix_98))
  else
    some (.inr (M_mode, M_under, M_slope, M_base, M_slipSlope, M_slipBase, M_offset, M_bearer, M_bearers, M_matrix))
noncomputable def f_M_settle (F : Nat) (M_now : Nat → Int32) (M_many : Int32) (M_upper : Int32) (M_lower : Int32) (M_mode : Nat → Int32) (M_under : Int64) (M_slope : Nat → Int64) (M_base : Nat → Int64) (M_slipSlope : Nat → Int64) (M_slipBase : Nat → Int64) (M_offset : Nat → Int64) (M_bearer : Nat → Int32) (M_bearers : Int32) (M_matrix : Nat → Int64) (M_loadOver : Int64) (M_loadUnder : Int64) : Option ((Nat → Int32) × Int64 × (Nat → Int64) × (Nat → Int64) × (Nat → Int64) × (Nat → Int64) × (Nat → Int64) × (Nat → Int32) × Int32 × (Nat → Int64)) :=
  (iter (un2 (fb_M_settle_4 M_many M_mode)) F ((1 : Int32), (0 : Int32))).bind fun l1_4 =>
  bd10 (iter (un12 (fb_M_settle_38 F l1_4 M_now M_many M_upper M_lower M_loadOver M_loadUnder)) F ((1 : Int32), (0 : Int32), M_mode, M_under, M_slope, M_base, M_slipSlope, M_slipBase, M_offset, M_bearer, M_bearers, M_matrix)) fun M_mode_38 M_under_38 M_slope_38 M_base_38 M_slipSlope_38 M_slipBase_38 M_offset_38 M_bearer_38 M_bearers_38 M_matrix_38 =>
  some (M_mode_38, M_under_38, M_slope_38, M_base_38, M_slipSlope_38, M_slipBase_38, M_offset_38, M_bearer_38, M_bearers_38, M_matrix_38)
noncomputable def fb_M_breaks_6 (l1 : Int32) (M_many : Int32) (M_slope : Nat → Int64) (M_base : Nat → Int64) (M_loadOver : Int64) (M_loadUnder : Int64) (l2 : Int32) (M_aheadOver : Nat → Int64) : Option ((Int32 × (Nat → Int64)) ⊕ ((Nat → Int64))) :=
  if M_many ≤ l2 then
    some (.inr M_aheadOver)
  else
    (f_M_forceThere l2 M_slope M_base M_loadOver M_loadUnder).bind fun r_25 =>
    (stL M_aheadOver 25 (((5 : Int32) * l1) + l2) r_25).bind fun M_aheadOver_28 =>
    nm (l2 + (1 : Int32)) fun l2_29 =>
    some (.inl (l2_29, M_aheadOver_28))
noncomputable def fb_M_breaks_72 (l1 : Int32) (M_many : Int32) (M_slope : Nat → Int64) (M_base : Nat → Int64) (M_loadOver : Int64) (M_loadUnder : Int64) (l2 : Int32) (M_behindOver : Nat → Int64) : Option ((Int32 × (Nat → Int64)) ⊕ ((Nat → Int64))) :=
  if M_many ≤ l2 then
    some (.inr M_behindOver)
  else
    (f_M_forceThere l2 M_slope M_base M_loadOver M_loadUnder).bind fun r_91 =>
    (stL M_behindOver 25 (((5 : Int32) * l1) + l2) r_91).bind fun M_behindOver_94 =>
    nm (l2 + (1 : Int32)) fun l2_95 =>
    some (.inl (l2_95, M_behindOver_94))
noncomputable def fj_M_breaks_155 (l2 : Int32) (M_eventMany : Int32) (M_eventKind : Nat → Int32) (M_eventBolt : Nat → Int32) (M_eventOver : Nat → Int64) (M_eventUnder : Nat → Int64) (M_had : Nat → Int32) : Option ((Int32 × Int32 × (Nat → Int32) × (Nat → Int32) × (Nat → Int64) × (Nat → Int64) × (Nat → Int32)) ⊕ (Int32 × (Nat → Int32) × (Nat → Int32) × (Nat → Int64) × (Nat → Int64) × (Nat → Int32))) :=
  nm (l2 + (1 : Int32)) fun l2_155 =>
  some (.inl (l2_155, M_eventMany, M_eventKind, M_eventBolt, M_eventOver, M_eventUnder, M_had))
noncomputable def fb_M_breaks_113 (M_many : Int32) (M_mode : Nat → Int32) (M_loadOver : Int64) (M_loadUnder : Int64) (l2 : Int32) (M_eventMany : Int32) (M_eventKind : Nat → Int32) (M_eventBolt : Nat → Int32) (M_eventOver : Nat → Int64) (M_eventUnder : Nat → Int64) (M_had : Nat → Int32) : Option ((Int32 × Int32 × (Nat → Int32) × (Nat → Int32) × (Nat → Int64) × (Nat → Int64) × (Nat → Int32)) ⊕ (Int32 × (Nat → Int32) × (Nat → Int32) × (Nat → Int64) × (Nat → Int64) × (Nat → Int32))) :=
  if M_many ≤ l2 then
    some (.inr (M_eventMany, M_eventKind, M_eventBolt, M_eventOver, M_eventUnder, M_had))
  else
    (f_M_isLive l2 M_mode).bind fun r_123 =>
    if r_123 = (0 : Int32) then
      fj_M_breaks_155 l2 M_eventMany M_eventKind M_eventBolt M_eventOver M_eventUnder M_had
    else
      (ldA M_mode 5 l2).bind fun v_134 =>
      if v_134 ≤ (0 : Int32) then
        fj_M_breaks_155 l2 M_eventMany M_eventKind M_eventBolt M_eventOver M_eventUnder M_had
      else
        (ldA M_had 5 l2).bind fun v_143 =>
        if (v_143 &&& (1 : Int32)) = (0 : Int32) then
          bd6 (f_M_note (0 : Int32) l2 M_loadOver M_loadUnder M_eventMany M_eventKind M_eventBolt M_eventOver M_eventUnder M_had) fun M_eventMany_152 M_eventKind_152 M_eventBolt_152 M_eventOver_152 M_eventUnder_152 M_had_152 =>
          fj_M_breaks_155 l2 M_eventMany_152 M_eventKind_152 M_eventBolt_152 M_eventOver_152 M_eventUnder_152 M_had_152
        else
          fj_M_breaks_155 l2 M_eventMany M_eventKind M_eventBolt M_eventOver M_eventUnder M_had
noncomputable def fj_M_breaks_198 (l2 : Int32) (M_eventMany : Int32) (M_eventKind : Nat → Int32) (M_eventBolt : Nat → Int32) (M_eventOver : Nat → Int64) (M_eventUnder : Nat → Int64) (M_had : Nat → Int32) : Option ((Int32 × Int32 × (Nat → Int32) × (Nat → Int32) × (Nat → Int64) × (Nat → Int64) × (Nat → Int32)) ⊕ (Int32 × (Nat → Int32) × (Nat → Int32) × (Nat → Int64) × (Nat → Int64) × (Nat → Int32))) :=
  nm (l2 + (1 : Int32)) fun l2_198 =>
  some (.inl (l2_198, M_eventMany, M_eventKind, M_eventBolt, M_eventOver, M_eventUnder, M_had))
noncomputable def fb_M_breaks_163 (M_many : Int32) (M_mode : Nat → Int32) (M_loadOver : Int64) (M_loadUnder : Int64) (l2 : Int32) (M_eventMany : Int32) (M_eventKind : Nat → Int32) (M_eventBolt : Nat → Int32) (M_eventOver : Nat → Int64) (M_eventUnder : Nat → Int64) (M_had : Nat → Int32) : Option ((Int32 × Int32 × (Nat → Int32) × (Nat → Int32) × (Nat → Int64) × (Nat → Int64) × (Nat → Int32)) ⊕ (Int32 × (Nat → Int32) × (Nat → Int32) × (Nat → Int64) × (Nat → Int64) × (Nat → Int32))) :=
  if M_many ≤ l2 then
    some (.inr (M_eventMany, M_eventKind, M_eventBolt, M_eventOver, M_eventUnder, M_had))
  else
    (ldA M_mode 5 l2).bind fun v_176 =>
    if v_176 = (2 : Int32) then
      (ldA M_had 5 l2).bind fun v_186 =>
      if (v_186 &&& (2 : Int32)) = (0 : Int32) then
        bd6 (f_M_note (1 : Int32) l2 M_loadOver M_loadUnder M_eventMany M_eventKind M_eventBolt M_eventOver M_eventUnder M_had) fun M_eventMany_195 M_eventKind_195 M_eventBolt_195 M_eventOver_195 M_eventUnder_195 M_had_195 =>
        fj_M_breaks_198 l2 M_eventMany_195 M_eventKind_195 M_eventBolt_195 M_eventOver_195 M_eventUnder_195 M_had_195
      else
        fj_M_breaks_198 l2 M_eventMany M_eventKind M_eventBolt M_eventOver M_eventUnder M_had
    else
      fj_M_breaks_198 l2 M_eventMany M_eventKind M_eventBolt M_eventOver M_eventUnder M_had
noncomputable def f_M_breaks (F : Nat) (l1 : Int32) (M_now : Nat → Int32) (M_many : Int32) (M_upper : Int32) (M_lower : Int32) (M_mode : Nat → Int32) (M_under : Int64) (M_slope : Nat → Int64) (M_base : Nat → Int64) (M_slipSlope : Nat → Int64) (M_slipBase : Nat → Int64) (M_offset : Nat → Int64) (M_bearer : Nat → Int32) (M_bearers : Int32) (M_matrix : Nat → Int64) (M_loadOver : Int64) (M_loadUnder : Int64) (M_eventMany : Int32) (M_eventKind : Nat → Int32) (M_eventBolt : Nat → Int32) (M_eventOver : Nat → Int64) (M_eventUnder : Nat → Int64) (M_had : Nat → Int32) (M_aheadOver : Nat → Int64) (M_aheadUnder : Nat → Int64) (M_behindOver : Nat → Int64) (M_behindUnder : Nat → Int64) : Option ((Nat → Int32) × Int64 × (Nat → Int64) × (Nat → Int64) × (Nat → Int64) × (Nat → Int64) × (Nat → Int64) × (Nat → Int32) × Int32 × (Nat → Int64) × Int32 × (Nat → Int32) × (Nat → Int32) × (Nat → Int64) × (Nat → Int64) × (Nat → Int32) × (Nat → Int64) × (Nat → Int64) × (Nat → Int64) × (Nat → Int64)) :=
  bd9 (f_M_solve F M_now M_many M_upper M_lower M_mode M_under M_slope M_base M_slipSlope M_slipBase M_offset M_bearer M_bearers M_matrix) fun M_under_1 M_slope_1 M_base_1 M_slipSlope_1 M_slipBase_1 M_offset_1 M_bearer_1 M_bearers_1 M_matrix_1 =>
  (iter (un2 (fb_M_breaks_6 l1 M_many M_slope_1 M_base_1 M_loadOver M_loadUnder)) F ((0 : Int32), M_aheadOver)).bind fun M_aheadOver_6 =>
  (f_M_unitThere M_under_1 M_loadUnder).bind fun r_41 =>
  (stL M_aheadUnder 5 l1 r_41).bind fun M_aheadUnder_44 =>
  bd6 (f_M_note (2 : Int32) l1 M_loadOver M_loadUnder M_eventMany M_eventKind M_eventBolt M_eventOver M_eventUnder M_had) fun M_eventMany_48 M_eventKind_48 M_eventBolt_48 M_eventOver_48 M_eventUnder_48 M_had_48 =>
  (stI M_mode 5 l1 (3 : Int32)).bind fun M_mode_57 =>
  (f_M_isOver F M_many M_mode_57).bind fun r_59 =>
  if r_59 = (0 : Int32) then
    bd10 (f_M_settle F M_now M_many M_upper M_lower M_mode_57 M_under_1 M_slope_1 M_base_1 M_slipSlope_1 M_slipBase_1 M_offset_1 M_bearer_1 M_bearers_1 M_matrix_1 M_loadOver M_loadUnder) fun M_mode_67 M_under_67 M_slope_67 M_base_67 M_slipSlope_67 M_slipBase_67 M_offset_67 M_bearer_67 M_bearers_67 M_matrix_67 =>
    (iter (un2 (fb_M_breaks_72 l1 M_many M_slope_67 M_base_67 M_loadOver M_loadUnder)) F ((0 : Int32), M_behindOver)).bind fun M_behindOver_72 =>
    (f_M_unitThere M_under_67 M_loadUnder).bind fun r_107 =>
    (stL M_behindUnder 5 l1 r_107).bind fun M_behindUnder_110 =>
    bd6 (iter (un7 (fb_M_breaks_113 M_many M_mode_67 M_loadOver M_loadUnder)) F ((0 : Int32), M_eventMany_48, M_eventKind_48, M_eventBolt_48, M_eventOver_48, M_eventUnder_48, M_had_48)) fun M_eventMany_113 M_eventKind_113 M_eventBolt_113 M_eventOver_113 M_eventUnder_113 M_had_113 =>
    bd6 (iter (un7 (fb_M_breaks_163 M_many M_mode_67 M_loadOver M_loadUnder)) F ((0 : Int32), M_eventMany_113, M_eventKind_113, M_eventBolt_113, M_eventOver_113, M_eventUnder_113, M_had_113)) fun M_eventMany_163 M_eventKind_163 M_eventBolt_163 M_eventOver_163 M_eventUnder_163 M_had_163 =>
    some (M_mode_67, M_under_67, M_slope_67, M_base_67, M_slipSlope_67, M_slipBase_67, M_offset_67, M_bearer_67, M_bearers_67, M_matrix_67, M_eventMany_163, M_eventKind_163, M_eventBolt_163, M_eventOver_163, M_eventUnder_163, M_had_163, M_aheadOver_6, M_aheadUnder_44, M_behindOver_72, M_behindUnder_110)
  else
    some (M_mode_57, M_under_1, M_slope_1, M_base_1, M_slipSlope_1, M_slipBase_1, M_offset_1, M_bearer_1, M_bearers_1, M_matrix_1, M_eventMany_48, M_eventKind_48, M_eventBolt_48, M_eventOver_48, M_eventUnder_48, M_had_48, M_aheadOver_6, M_aheadUnder_44, M_behindOver, M_behindUnder)
noncomputable def fj_M_worst_81 (l1 : Int32) (l2 : Int32) : Option ((Int32 × Int32) ⊕ (Int32)) :=
  nm (l2 + (1 : Int32)) fun l2_81 =>
  some (.inl (l1, l2_81))
noncomputable def fj_M_worst_79 (l2 : Int32) : Option ((Int32 × Int32) ⊕ (Int32)) :=
  fj_M_worst_81 l2 l2
noncomputable def fb_M_worst_4 (M_now : Nat → Int32) (M_many : Int32) (M_mode : Nat → Int32) (M_under : Int64) (M_slope : Nat → Int64) (M_base : Nat → Int64) (M_loadOver : Int64) (M_loadUnder : Int64) (l1 : Int32) (l2 : Int32) : Option ((Int32 × Int32) ⊕ (Int32)) :=
  if M_many ≤ l2 then
    some (.inr l1)
  else
    (f_M_isLive l2 M_mode).bind fun r_14 =>
    if r_14 = (0 : Int32) then
      fj_M_worst_81 l1 l2
    else
      (f_M_forceThere l2 M_slope M_base M_loadOver M_loadUnder).bind fun r_22 =>
      (f_M_of l2 (4 : Int32) M_now).bind fun r_28 =>
      (f_M_unitThere M_under M_loadUnder).bind fun r_33 =>
      if ((Int32.toInt64 r_28) * r_33) ≤ r_22 then
        if l1 = (-1 : Int32) then
          fj_M_worst_79 l2
        else
          (f_M_forceThere l2 M_slope M_base M_loadOver M_loadUnder).bind fun r_51 =>
          (f_M_of l1 (4 : Int32) M_now).bind fun r_57 =>
          (f_M_forceThere l1 M_slope M_base M_loadOver M_loadUnder).bind fun r_64 =>
          (f_M_of l2 (4 : Int32) M_now).bind fun r_70 =>
          if (r_51 * (Int32.toInt64 r_57)) ≤ (r_64 * (Int32.toInt64 r_70)) then
            fj_M_worst_81 l1 l2
          else
            fj_M_worst_79 l2
      else
        fj_M_worst_81 l1 l2
noncomputable def f_M_worst (F : Nat) (M_now : Nat → Int32) (M_many : Int32) (M_mode : Nat → Int32) (M_under : Int64) (M_slope : Nat → Int64) (M_base : Nat → Int64) (M_loadOver : Int64) (M_loadUnder : Int64) : Option (Int32) :=
  (iter (un2 (fb_M_worst_4 M_now M_many M_mode M_under M_slope M_base M_loadOver M_loadUnder)) F ((-1 : Int32), (0 : Int32))).bind fun l1_4 =>
  some l1_4
noncomputable def fj_M_goNext_140 (l1 : Int32) (s1 : Int32) (s2 : Int32) (M_met : Nat → Int32) : Option ((Int32 × (Nat → Int32)) ⊕ ((Nat → Int32))) :=
  (stZ M_met 5 s1 s2).bind fun M_met_140 =>
  nm (l1 + (1 : Int32)) fun l1_141 =>
  some (.inl (l1_141, M_met_140))
noncomputable def fj_M_goNext_139 (l1 : Int32) (s1 : Int32) (M_met : Nat → Int32) : Option ((Int32 × (Nat → Int32)) ⊕ ((Nat → Int32))) :=
  fj_M_goNext_140 l1 s1 (0 : Int32) M_met
noncomputable def fb_M_goNext_14 (M_now : Nat → Int32) (M_many : Int32) (M_mode : Nat → Int32) (M_under : Int64) (M_slope : Nat → Int64) (M_base : Nat → Int64) (M_slipSlope : Nat → Int64) (M_slipBase : Nat → Int64) (M_loadOver : Int64) (M_loadUnder : Int64) (l1 : Int32) (M_met : Nat → Int32) : Option ((Int32 × (Nat → Int32)) ⊕ ((Nat → Int32))) :=
  if M_many ≤ l1 then
    some (.inr M_met)
  else
    (ldA M_mode 5 l1).bind fun v_32 =>
    if v_32 = (0 : Int32) then
      (f_M_slipThere l1 M_slipSlope M_slipBase M_loadOver M_loadUnder).bind fun r_38 =>
      (f_M_of l1 (1 : Int32) M_now).bind fun r_44 =>
      (f_M_unitThere M_under M_loadUnder).bind fun r_49 =>
      if r_38 = ((Int32.toInt64 r_44) * r_49) then
        fj_M_goNext_140 l1 l1 (1 : Int32) M_met
      else
        fj_M_goNext_140 l1 l1 (0 : Int32) M_met
    else
      (ldA M_mode 5 l1).bind fun v_70 =>
      if v_70 = (1 : Int32) then
        (f_M_forceThere l1 M_slope M_base M_loadOver M_loadUnder).bind fun r_77 =>
        (f_M_of l1 (2 : Int32) M_now).bind fun r_83 =>
        (f_M_unitThere M_under M_loadUnder).bind fun r_88 =>
        if r_77 = ((Int32.toInt64 r_83) * r_88) then
          fj_M_goNext_140 l1 l1 (1 : Int32) M_met
        else
          fj_M_goNext_140 l1 l1 (0 : Int32) M_met
      else
        (ldA M_mode 5 l1).bind fun v_109 =>
        if v_109 = (2 : Int32) then
          (f_M_forceThere l1 M_slope M_base M_loadOver M_loadUnder).bind fun r_116 =>
          (f_M_of l1 (4 : Int32) M_now).bind fun r_122 =>
          (f_M_unitThere M_under M_loadUnder).bind fun r_127 =>
          if r_116 = ((Int32.toInt64 r_122) * r_127) then
            fj_M_goNext_140 l1 l1 (1 : Int32) M_met
          else
            fj_M_goNext_139 l1 l1 M_met
        else
          fj_M_goNext_139 l1 l1 M_met
noncomputable def fj_M_goNext_181 (l1 : Int32) (M_mode : Nat → Int32) (M_eventMany : Int32) (M_eventKind : Nat → Int32) (M_eventBolt : Nat → Int32) (M_eventOver : Nat → Int64) (M_eventUnder : Nat → Int64) (M_had : Nat → Int32) (M_fresh : Nat → Int32) : Option ((Int32 × (Nat → Int32) × Int32 × (Nat → Int32) × (Nat → Int32) × (Nat → Int64) × (Nat → Int64) × (Nat → Int32) × (Nat → Int32)) ⊕ ((Nat → Int32) × Int32 × (Nat → Int32) × (Nat → Int32) × (Nat → Int64) × (Nat → Int64) × (Nat → Int32) × (Nat → Int32))) :=
  nm (l1 + (1 : Int32)) fun l1_181 =>
  some (.inl (l1_181, M_mode, M_eventMany, M_eventKind, M_eventBolt, M_eventOver, M_eventUnder, M_had, M_fresh))
noncomputable def fb_M_goNext_149 (M_many : Int32) (M_loadOver : Int64) (M_loadUnder : Int64) (M_met : Nat → Int32) (l1 : Int32) (M_mode : Nat → Int32) (M_eventMany : Int32) (M_eventKind : Nat → Int32) (M_eventBolt : Nat → Int32) (M_eventOver : Nat → Int64) (M_eventUnder : Nat → Int64) (M_had : Nat → Int32) (M_fresh : Nat → Int32) : Option ((Int32 × (Nat → Int32) × Int32 × (Nat → Int32) × (Nat → Int32) × (Nat → Int64) × (Nat → Int64) × (Nat → Int32) × (Nat → Int32)) ⊕ ((Nat → Int32) × Int32 × (Nat → Int32) × (Nat → Int32) × (Nat → Int64) × (Nat → Int64) × (Nat → Int32) × (Nat → Int32))) :=
  if M_many ≤ l1 then
    some (.inr (M_mode, M_eventMany, M_eventKind, M_eventBolt, M_eventOver, M_eventUnder, M_had, M_fresh))
  else
    (ldA M_met 5 l1).bind fun v_162 =>
    if v_162 = (0 : Int32) then
      fj_M_goNext_181 l1 M_mode M_eventMany M_eventKind M_eventBolt M_eventOver M_eventUnder M_had M_fresh
    else
      (ldA M_mode 5 l1).bind fun v_171 =>
      if v_171 = (0 : Int32) then
        bd8 (f_M_begins l1 (0 : Int32) M_mode M_loadOver M_loadUnder M_eventMany M_eventKind M_eventBolt M_eventOver M_eventUnder M_had M_fresh) fun M_mode_178 M_eventMany_178 M_eventKind_178 M_eventBolt_178 M_eventOver_178 M_eventUnder_178 M_had_178 M_fresh_178 =>
        fj_M_goNext_181 l1 M_mode_178 M_eventMany_178 M_eventKind_178 M_eventBolt_178 M_eventOver_178 M_eventUnder_178 M_had_178 M_fresh_178
      else
        fj_M_goNext_181 l1 M_mode M_eventMany M_eventKind M_eventBolt M_eventOver M_eventUnder M_had M_fresh
noncomputable def fj_M_goNext_231 (l1 : Int32) (M_mode : Nat → Int32) (M_eventMany : Int32) (M_eventKind : Nat → Int32) (M_eventBolt : Nat → Int32) (M_eventOver : Nat → Int64) (M_eventUnder : Nat → Int64) (M_had : Nat → Int32) (M_fresh : Nat → Int32) : Option ((Int32 × (Nat → Int32) × Int32 × (Nat → Int32) × (Nat → Int32) × (Nat → Int64) × (Nat → Int64) × (Nat → Int32) × (Nat → Int32)) ⊕ ((Nat → Int32) × Int32 × (Nat → Int32) × (Nat → Int32) × (Nat → Int64) × (Nat → Int64) × (Nat → Int32) × (Nat → Int32))) :=
  nm (l1 + (1 : Int32)) fun l1_231 =>
  some (.inl (l1_231, M_mode, M_eventMany, M_eventKind, M_eventBolt, M_eventOver, M_eventUnder, M_had, M_fresh))
noncomputable def fb_M_goNext_189 (M_many : Int32) (M_loadOver : Int64) (M_loadUnder : Int64) (M_met : Nat → Int32) (l1 : Int32) (M_mode : Nat → Int32) (M_eventMany : Int32) (M_eventKind : Nat → Int32) (M_eventBolt : Nat → Int32) (M_eventOver : Nat → Int64) (M_eventUnder : Nat → Int64) (M_had : Nat → Int32) (M_fresh : Nat → Int32) : Option ((Int32 × (Nat → Int32) × Int32 × (Nat → Int32) × (Nat → Int32) × (Nat → Int64) × (Nat → Int64) × (Nat → Int32) × (Nat → Int32)) ⊕ ((Nat → Int32) × Int32 × (Nat → Int32) × (Nat → Int32) × (Nat → Int64) × (Nat → Int64) × (Nat → Int32) × (Nat → Int32))) :=
  if M_many ≤ l1 then
    some (.inr (M_mode, M_eventMany, M_eventKind, M_eventBolt, M_eventOver, M_eventUnder, M_had, M_fresh))
  else
    (ldA M_met 5 l1).bind fun v_202 =>
    if v_202 = (0 : Int32) then
      fj_M_goNext_231 l1 M_mode M_eventMany M_eventKind M_eventBolt M_eventOver M_eventUnder M_had M_fresh
    else
      (ldA M_mode 5 l1).bind fun v_211 =>
      if v_211 = (1 : Int32) then
        (ldA M_fresh 5 l1).bind fun v_221 =>
        if v_221 = (0 : Int32) then
          bd8 (f_M_begins l1 (1 : Int32) M_mode M_loadOver M_loadUnder M_eventMany M_eventKind M_eventBolt M_eventOver M_eventUnder M_had M_fresh) fun M_mode_228 M_eventMany_228 M_eventKind_228 M_eventBolt_228 M_eventOver_228 M_eventUnder_228 M_had_228 M_fresh_228 =>
          fj_M_goNext_231 l1 M_mode_228 M_eventMany_228 M_eventKind_228 M_eventBolt_228 M_eventOver_228 M_eventUnder_228 M_had_228 M_fresh_228
        else
          fj_M_goNext_231 l1 M_mode M_eventMany M_eventKind M_eventBolt M_eventOver M_eventUnder M_had M_fresh
      else
        fj_M_goNext_231 l1 M_mode M_eventMany M_eventKind M_eventBolt M_eventOver M_eventUnder M_had M_fresh
noncomputable def fj_M_goNext_280 (l1 : Int32) (l2 : Int32) (M_fresh : Nat → Int32) : Option ((Int32 × Int32 × (Nat → Int32)) ⊕ (Int32 × (Nat → Int32))) :=
  (stZ M_fresh 5 l2 (0 : Int32)).bind fun M_fresh_286 =>
  nm (l2 + (-1 : Int32)) fun l2_287 =>
  some (.inl (l1, l2_287, M_fresh_286))
noncomputable def fb_M_goNext_246 (M_mode : Nat → Int32) (M_met : Nat → Int32) (l1 : Int32) (l2 : Int32) (M_fresh : Nat → Int32) : Option ((Int32 × Int32 × (Nat → Int32)) ⊕ (Int32 × (Nat → Int32))) :=
  if l2 < (0 : Int32) then
    some (.inr (l1, M_fresh))
  else
    (ldA M_met 5 l2).bind fun v_255 =>
    if v_255 = (0 : Int32) then
      fj_M_goNext_280 l1 l2 M_fresh
    else
      (ldA M_mode 5 l2).bind fun v_264 =>
      if v_264 = (2 : Int32) then
        (ldA M_fresh 5 l2).bind fun v_274 =>
        if v_274 = (0 : Int32) then
          fj_M_goNext_280 l2 l2 M_fresh
        else
          fj_M_goNext_280 l1 l2 M_fresh
      else
        fj_M_goNext_280 l1 l2 M_fresh
noncomputable def fj_M_goNext_318 (s0 : Int32) (M_mode : Nat → Int32) (M_under : Int64) (M_slope : Nat → Int64) (M_base : Nat → Int64) (M_slipSlope : Nat → Int64) (M_slipBase : Nat → Int64) (M_offset : Nat → Int64) (M_bearer : Nat → Int32) (M_bearers : Int32) (M_matrix : Nat → Int64) (M_eventMany : Int32) (M_eventKind : Nat → Int32) (M_eventBolt : Nat → Int32) (M_eventOver : Nat → Int64) (M_eventUnder : Nat → Int64) (M_had : Nat → Int32) (M_aheadOver : Nat → Int64) (M_aheadUnder : Nat → Int64) (M_behindOver : Nat → Int64) (M_behindUnder : Nat → Int64) : Option ((Int32 × (Nat → Int32) × Int64 × (Nat → Int64) × (Nat → Int64) × (Nat → Int64) × (Nat → Int64) × (Nat → Int64) × (Nat → Int32) × Int32 × (Nat → Int64) × Int32 × (Nat → Int32) × (Nat → Int32) × (Nat → Int64) × (Nat → Int64) × (Nat → Int32) × (Nat → Int64) × (Nat → Int64) × (Nat → Int64) × (Nat → Int64)) ⊕ ((Nat → Int32) × Int64 × (Nat → Int64) × (Nat → Int64) × (Nat → Int64) × (Nat → Int64) × (Nat → Int64) × (Nat → Int32) × Int32 × (Nat → Int64) × Int32 × (Nat → Int32) × (Nat → Int32) × (Nat → Int64) × (Nat → Int64) × (Nat → Int32) × (Nat → Int64) × (Nat → Int64) × (Nat → Int64) × (Nat → Int64))) :=
  some (.inl (s0, M_mode, M_under, M_slope, M_base, M_slipSlope, M_slipBase, M_offset, M_bearer, M_bearers, M_matrix, M_eventMany, M_eventKind, M_eventBolt, M_eventOver, M_eventUnder, M_had, M_aheadOver, M_aheadUnder, M_behindOver, M_behindUnder))
noncomputable def fb_M_goNext_293 (F : Nat) (M_now : Nat → Int32) (M_many : Int32) (M_upper : Int32) (M_lower : Int32) (M_loadOver : Int64) (M_loadUnder : Int64) (l1 : Int32) (M_mode : Nat → Int32) (M_under : Int64) (M_slope : Nat → Int64) (M_base : Nat → Int64) (M_slipSlope : Nat → Int64) (M_slipBase : Nat → Int64) (M_offset : Nat → Int64) (M_bearer : Nat → Int32) (M_bearers : Int32) (M_matrix : Nat → Int64) (M_eventMany : Int32) (M_eventKind : Nat → Int32) (M_eventBolt : Nat → Int32) (M_eventOver : Nat → Int64) (M_eventUnder : Nat → Int64) (M_had : Nat → Int32) (M_aheadOver : Nat → Int64) (M_aheadUnder : Nat → Int64) (M_behindOver : Nat → Int64) (M_behindUnder : Nat → Int64) : Option ((Int32 × (Nat → Int32) × Int64 × (Nat → Int64) × (Nat → Int64) × (Nat → Int64) × (Nat → Int64) × (Nat → Int64) × (Nat → Int32) × Int32 × (Nat → Int64) × Int32 × (Nat → Int32) × (Nat → Int32) × (Nat → Int64) × (Nat → Int64) × (Nat → Int32) × (Nat → Int64) × (Nat → Int64) × (Nat → Int64) × (Nat → Int64)) ⊕ ((Nat → Int32) × Int64 × (Nat → Int64) × (Nat → Int64) × (Nat → Int64) × (Nat → Int64) × (Nat → Int64) × (Nat → Int32) × Int32 × (Nat → Int64) × Int32 × (Nat → Int32) × (Nat → Int32) × (Nat → Int64) × (Nat → Int64) × (Nat → Int32) × (Nat → Int64) × (Nat → Int64) × (Nat → Int64) × (Nat → Int64))) :=
  if l1 = (-1 : Int32) then
    some (.inr (M_mode, M_under, M_slope, M_base, M_slipSlope, M_slipBase, M_offset, M_bearer, M_bearers, M_matrix, M_eventMany, M_eventKind, M_eventBolt, M_eventOver, M_eventUnder, M_had, M_aheadOver, M_aheadUnder, M_behindOver, M_behindUnder))
  else
    bd20 (f_M_breaks F l1 M_now M_many M_upper M_lower M_mode M_under M_slope M_base M_slipSlope M_slipBase M_offset M_bearer M_bearers M_matrix M_loadOver M_loadUnder M_eventMany M_eventKind M_eventBolt M_eventOver M_eventUnder M_had M_aheadOver M_aheadUnder M_behindOver M_behindUnder) fun M_mode_300 M_under_300 M_slope_300 M_base_300 M_slipSlope_300 M_slipBase_300 M_offset_300 M_bearer_300 M_bearers_300 M_matrix_300 M_eventMany_300 M_eventKind_300 M_eventBolt_300 M_eventOver_300 M_eventUnder_300 M_had_300 M_aheadOver_300 M_aheadUnder_300 M_behindOver_300 M_behindUnder_300 =>
    (f_M_isOver F M_many M_mode_300).bind fun r_304 =>
    if r_304 = (0 : Int32) then
      (f_M_worst F M_now M_many M_mode_300 M_under_300 M_slope_300 M_base_300 M_loadOver M_loadUnder).bind fun r_315 =>
      fj_M_goNext_318 r_315 M_mode_300 M_under_300 M_slope_300 M_base_300 M_slipSlope_300 M_slipBase_300 M_offset_300 M_bearer_300 M_bearers_300 M_matrix_300 M_eventMany_300 M_eventKind_300 M_eventBolt_300 M_eventOver_300 M_eventUnder_300 M_had_300 M_aheadOver_300 M_aheadUnder_300 M_behindOver_300 M_behindUnder_300
    else
      fj_M_goNext_318 (-1 : Int32) M_mode_300 M_under_300 M_slope_300 M_base_300 M_slipSlope_300 M_slipBase_300 M_offset_300 M_bearer_300 M_bearers_300 M_matrix_300 M_eventMany_300 M_eventKind_300 M_eventBolt_300 M_eventOver_300 M_eventUnder_300 M_had_300 M_aheadOver_300 M_aheadUnder_300 M_behindOver_300 M_behindUnder_300
noncomputable def f_M_goNext (F : Nat) (M_now : Nat → Int32) (M_many : Int32) (M_upper : Int32) (M_lower : Int32) (M_mode : Nat → Int32) (M_under : Int64) (M_slope : Nat → Int64) (M_base : Nat → Int64) (M_slipSlope : Nat → Int64) (M_slipBase : Nat → Int64) (M_offset : Nat → Int64) (M_bearer : Nat → Int32) (M_bearers : Int32) (M_matrix : Nat → Int64) (M_loadOver : Int64) (M_loadUnder : Int64) (M_eventMany : Int32) (M_eventKind : Nat → Int32) (M_eventBolt : Nat → Int32) (M_eventOver : Nat → Int64) (M_eventUnder : Nat → Int64) (M_had : Nat → Int32) (M_nextOver : Int64) (M_nextUnder : Int64) (M_met : Nat → Int32) (M_fresh : Nat → Int32) (M_aheadOver : Nat → Int64) (M_aheadUnder : Nat → Int64) (M_behindOver : Nat → Int64) (M_behindUnder : Nat → Int64) : Option ((Nat → Int32) × Int64 × (Nat → Int64) × (Nat → Int64) × (Nat → Int64) × (Nat → Int64) × (Nat → Int64) × (Nat → Int32) × Int32 × (Nat → Int64) × Int64 × Int64 × Int32 × (Nat → Int32) × (Nat → Int32) × (Nat → Int64) × (Nat → Int64) × (Nat → Int32) × (Nat → Int32) × (Nat → Int32) × (Nat → Int64) × (Nat → Int64) × (Nat → Int64) × (Nat → Int64)) :=
  bd2 (f_M_setLoad F M_nextOver M_nextUnder M_loadOver M_loadUnder) fun M_loadOver_9 M_loadUnder_9 =>
  (iter (un2 (fb_M_goNext_14 M_now M_many M_mode M_under M_slope M_base M_slipSlope M_slipBase M_loadOver_9 M_loadUnder_9)) F ((0 : Int32), M_met)).bind fun M_met_14 =>
  bd8 (iter (un9 (fb_M_goNext_149 M_many M_loadOver_9 M_loadUnder_9 M_met_14)) F ((0 : Int32), M_mode, M_eventMany, M_eventKind, M_eventBolt, M_eventOver, M_eventUnder, M_had, M_fresh)) fun M_mode_149 M_eventMany_149 M_eventKind_149 M_eventBolt_149 M_eventOver_149 M_eventUnder_149 M_had_149 M_fresh_149 =>
  bd8 (iter (un9 (fb_M_goNext_189 M_many M_loadOver_9 M_loadUnder_9 M_met_14)) F ((0 : Int32), M_mode_149, M_eventMany_149, M_eventKind_149, M_eventBolt_149, M_eventOver_149, M_eventUnder_149, M_had_149, M_fresh_149)) fun M_mode_189 M_eventMany_189 M_eventKind_189 M_eventBolt_189 M_eventOver_189 M_eventUnder_189 M_had_189 M_fresh_189 =>
  nm (M_many - (1 : Int32)) fun l2_245 =>
  bd2 (iter (un3 (fb_M_goNext_246 M_mode_189 M_met_14)) F ((-1 : Int32), l2_245, M_fresh_189)) fun l1_246 M_fresh_246 =>
  bd20 (iter (un21 (fb_M_goNext_293 F M_now M_many M_upper M_lower M_loadOver_9 M_loadUnder_9)) F (l1_246, M_mode_189, M_under, M_slope, M_base, M_slipSlope, M_slipBase, M_offset, M_bearer, M_bearers, M_matrix, M_eventMany_189, M_eventKind_189, M_eventBolt_189, M_eventOver_189, M_eventUnder_189, M_had_189, M_aheadOver, M_aheadUnder, M_behindOver, M_behindUnder)) fun M_mode_293 M_under_293 M_slope_293 M_base_293 M_slipSlope_293 M_slipBase_293 M_offset_293 M_bearer_293 M_bearers_293 M_matrix_293 M_eventMany_293 M_eventKind_293 M_eventBolt_293 M_eventOver_293 M_eventUnder_293 M_had_293 M_aheadOver_293 M_aheadUnder_293 M_behindOver_293 M_behindUnder_293 =>
  some (M_mode_293, M_under_293, M_slope_293, M_base_293, M_slipSlope_293, M_slipBase_293, M_offset_293, M_bearer_293, M_bearers_293, M_matrix_293, M_loadOver_9, M_loadUnder_9, M_eventMany_293, M_eventKind_293, M_eventBolt_293, M_eventOver_293, M_eventUnder_293, M_had_293, M_met_14, M_fresh_246, M_aheadOver_293, M_aheadUnder_293, M_behindOver_293, M_behindUnder_293)
noncomputable def fb_M_grow_4 (F : Nat) (M_now : Nat → Int32) (M_many : Int32) (M_upper : Int32) (M_lower : Int32) (M_mode : Nat → Int32) (M_under : Int64) (M_slope : Nat → Int64) (M_base : Nat → Int64) (M_slipSlope : Nat → Int64) (M_slipBase : Nat → Int64) (M_offset : Nat → Int64) (M_bearer : Nat → Int32) (M_bearers : Int32) (M_matrix : Nat → Int64) (M_loadOver : Int64) (M_loadUnder : Int64) (M_eventMany : Int32) (M_eventKind : Nat → Int32) (M_eventBolt : Nat → Int32) (M_eventOver : Nat → Int64) (M_eventUnder : Nat → Int64) (M_had : Nat → Int32) (M_nextOver : Int64) (M_nextUnder : Int64) (M_met : Nat → Int32) (M_fresh : Nat → Int32) (M_aheadOver : Nat → Int64) (M_aheadUnder : Nat → Int64) (M_behindOver : Nat → Int64) (M_behindUnder : Nat → Int64) : Option (((Nat → Int32) × Int64 × (Nat → Int64) × (Nat → Int64) × (Nat → Int64) × (Nat → Int64) × (Nat → Int64) × (Nat → Int32) × Int32 × (Nat → Int64) × Int64 × Int64 × Int32 × (Nat → Int32) × (Nat → Int32) × (Nat → Int64) × (Nat → Int64) × (Nat → Int32) × Int64 × Int64 × (Nat → Int32) × (Nat → Int32) × (Nat → Int64) × (Nat → Int64) × (Nat → Int64) × (Nat → Int64)) ⊕ ((Nat → Int32) × Int64 × (Nat → Int64) × (Nat → Int64) × (Nat → Int64) × (Nat → Int64) × (Nat → Int64) × (Nat → Int32) × Int32 × (Nat → Int64) × Int64 × Int64 × Int32 × (Nat → Int32) × (Nat → Int32) × (Nat → Int64) × (Nat → Int64) × (Nat → Int32) × Int64 × Int64 × (Nat → Int32) × (Nat → Int32) × (Nat → Int64) × (Nat → Int64) × (Nat → Int64) × (Nat → Int64))) :=
  (f_M_isOver F M_many M_mode).bind fun r_5 =>
  if r_5 = (0 : Int32) then
    bd11 (f_M_findNext F M_now M_many M_upper M_lower M_mode M_under M_slope M_base M_slipSlope M_slipBase M_offset M_bearer M_bearers M_matrix M_nextOver M_nextUnder) fun M_under_12 M_slope_12 M_base_12 M_slipSlope_12 M_slipBase_12 M_offset_12 M_bearer_12 M_bearers_12 M_matrix_12 M_nextOver_12 M_nextUnder_12 =>
    bd24 (f_M_goNext F M_now M_many M_upper M_lower M_mode M_under_12 M_slope_12 M_base_12 M_slipSlope_12 M_slipBase_12 M_offset_12 M_bearer_12 M_bearers_12 M_matrix_12 M_loadOver M_loadUnder M_eventMany M_eventKind M_eventBolt M_eventOver M_eventUnder M_had M_nextOver_12 M_nextUnder_12 M_met M_fresh M_aheadOver M_aheadUnder M_behindOver M_behindUnder) fun M_mode_16 M_under_16 M_slope_16 M_base_16 M_slipSlope_16 M_slipBase_16 M_offset_16 M_bearer_16 M_bearers_16 M_matrix_16 M_loadOver_16 M_loadUnder_16 M_eventMany_16 M_eventKind_16 M_eventBolt_16 M_eventOver_16 M_eventUnder_16 M_had_16 M_met_16 M_fresh_16 M_aheadOver_16 M_aheadUnder_16 M_behindOver_16 M_behindUnder_16 =>
    some (.inl (M_mode_16, M_under_16, M_slope_16, M_base_16, M_slipSlope_16, M_slipBase_16, M_offset_16, M_bearer_16, M_bearers_16, M_matrix_16, M_loadOver_16, M_loadUnder_16, M_eventMany_16, M_eventKind_16, M_eventBolt_16, M_eventOver_16, M_eventUnder_16, M_had_16, M_nextOver_12, M_nextUnder_12, M_met_16, M_fresh_16, M_aheadOver_16, M_aheadUnder_16, M_behindOver_16, M_behindUnder_16))
  else
    some (.inr (M_mode, M_under, M_slope, M_base, M_slipSlope, M_slipBase, M_offset, M_bearer, M_bearers, M_matrix, M_loadOver, M_loadUnder, M_eventMany, M_eventKind, M_eventBolt, M_eventOver, M_eventUnder, M_had, M_nextOver, M_nextUnder, M_met, M_fresh, M_aheadOver, M_aheadUnder, M_behindOver, M_behindUnder))
noncomputable def f_M_grow (F : Nat) (M_now : Nat → Int32) (M_many : Int32) (M_upper : Int32) (M_lower : Int32) (M_mode : Nat → Int32) (M_under : Int64) (M_slope : Nat → Int64) (M_base : Nat → Int64) (M_slipSlope : Nat → Int64) (M_slipBase : Nat → Int64) (M_offset : Nat → Int64) (M_bearer : Nat → Int32) (M_bearers : Int32) (M_matrix : Nat → Int64) (M_loadOver : Int64) (M_loadUnder : Int64) (M_eventMany : Int32) (M_eventKind : Nat → Int32) (M_eventBolt : Nat → Int32) (M_eventOver : Nat → Int64) (M_eventUnder : Nat → Int64) (M_had : Nat → Int32) (M_nextOver : Int64) (M_nextUnder : Int64) (M_met : Nat → Int32) (M_fresh : Nat → Int32) (M_aheadOver : Nat → Int64) (M_aheadUnder : Nat → Int64) (M_behindOver : Nat → Int64) (M_behindUnder : Nat → Int64) : Option ((Nat → Int32) × Int64 × (Nat → Int64) × (Nat → Int64) × (Nat → Int64) × (Nat → Int64) × (Nat → Int64) × (Nat → Int32) × Int32 × (Nat → Int64) × Int64 × Int64 × Int32 × (Nat → Int32) × (Nat → Int32) × (Nat → Int64) × (Nat → Int64) × (Nat → Int32) × Int64 × Int64 × (Nat → Int32) × (Nat → Int32) × (Nat → Int64) × (Nat → Int64) × (Nat → Int64) × (Nat → Int64)) :=
  bd9 (f_M_start F M_now M_many M_mode M_loadOver M_loadUnder M_eventMany M_eventKind M_eventBolt M_eventOver M_eventUnder M_had) fun M_mode_1 M_loadOver_1 M_loadUnder_1 M_eventMany_1 M_eventKind_1 M_eventBolt_1 M_eventOver_1 M_eventUnder_1 M_had_1 =>
  bd26 (iter (un26 (fb_M_grow_4 F M_now M_many M_upper M_lower)) F (M_mode_1, M_under, M_slope, M_base, M_slipSlope, M_slipBase, M_offset, M_bearer, M_bearers, M_matrix, M_loadOver_1, M_loadUnder_1, M_eventMany_1, M_eventKind_1, M_eventBolt_1, M_eventOver_1, M_eventUnder_1, M_had_1, M_nextOver, M_nextUnder, M_met, M_fresh, M_aheadOver, M_aheadUnder, M_behindOver, M_behindUnder)) fun M_mode_4 M_under_4 M_slope_4 M_base_4 M_slipSlope_4 M_slipBase_4 M_offset_4 M_bearer_4 M_bearers_4 M_matrix_4 M_loadOver_4 M_loadUnder_4 M_eventMany_4 M_eventKind_4 M_eventBolt_4 M_eventOver_4 M_eventUnder_4 M_had_4 M_nextOver_4 M_nextUnder_4 M_met_4 M_fresh_4 M_aheadOver_4 M_aheadUnder_4 M_behindOver_4 M_behindUnder_4 =>
  some (M_mode_4, M_under_4, M_slope_4, M_base_4, M_slipSlope_4, M_slipBase_4, M_offset_4, M_bearer_4, M_bearers_4, M_matrix_4, M_loadOver_4, M_loadUnder_4, M_eventMany_4, M_eventKind_4, M_eventBolt_4, M_eventOver_4, M_eventUnder_4, M_had_4, M_nextOver_4, M_nextUnder_4, M_met_4, M_fresh_4, M_aheadOver_4, M_aheadUnder_4, M_behindOver_4, M_behindUnder_4)
noncomputable def fb_M_growTo_4 (F : Nat) (l1 : Int32) (M_now : Nat → Int32) (M_many : Int32) (M_upper : Int32) (M_lower : Int32) (M_mode : Nat → Int32) (M_under : Int64) (M_slope : Nat → Int64) (M_base : Nat → Int64) (M_slipSlope : Nat → Int64) (M_slipBase : Nat → Int64) (M_offset : Nat → Int64) (M_bearer : Nat → Int32) (M_bearers : Int32) (M_matrix : Nat → Int64) (M_loadOver : Int64) (M_loadUnder : Int64) (M_eventMany : Int32) (M_eventKind : Nat → Int32) (M_eventBolt : Nat → Int32) (M_eventOver : Nat → Int64) (M_eventUnder : Nat → Int64) (M_had : Nat → Int32) (M_nextOver : Int64) (M_nextUnder : Int64) (M_met : Nat → Int32) (M_fresh : Nat → Int32) (M_aheadOver : Nat → Int64) (M_aheadUnder : Nat → Int64) (M_behindOver : Nat → Int64) (M_behindUnder : Nat → Int64) : Option (((Nat → Int32) × Int64 × (Nat → Int64) × (Nat → Int64) × (Nat → Int64) × (Nat → Int64) × (Nat → Int64) × (Nat → Int32) × Int32 × (Nat → Int64) × Int64 × Int64 × Int32 × (Nat → Int32) × (Nat → Int32) × (Nat → Int64) × (Nat → Int64) × (Nat → Int32) × Int64 × Int64 × (Nat → Int32) × (Nat → Int32) × (Nat → Int64) × (Nat → Int64) × (Nat → Int64) × (Nat → Int64)) ⊕ (Nat × (Nat → Int32) × Int64 × (Nat → Int64) × (Nat → Int64) × (Nat → Int64) × (Nat → Int64) × (Nat → Int64) × (Nat → Int32) × Int32 × (Nat → Int64) × Int64 × Int64 × Int32 × (Nat → Int32) × (Nat → Int32) × (Nat → Int64) × (Nat → Int64) × (Nat → Int32) × Int64 × Int64 × (Nat → Int32) × (Nat → Int32) × (Nat → Int64) × (Nat → Int64) × (Nat → Int64) × (Nat → Int64))) :=
  (f_M_isOver F M_many M_mode).bind fun r_5 =>
  if r_5 = (0 : Int32) then
    bd11 (f_M_findNext F M_now M_many M_upper M_lower M_mode M_under M_slope M_base M_slipSlope M_slipBase M_offset M_bearer M_bearers M_matrix M_nextOver M_nextUnder) fun M_under_12 M_slope_12 M_base_12 M_slipSlope_12 M_slipBase_12 M_offset_12 M_bearer_12 M_bearers_12 M_matrix_12 M_nextOver_12 M_nextUnder_12 =>
    if M_nextOver_12 ≤ ((Int32.toInt64 l1) * M_nextUnder_12) then
      bd24 (f_M_goNext F M_now M_many M_upper M_lower M_mode M_under_12 M_slope_12 M_base_12 M_slipSlope_12 M_slipBase_12 M_offset_12 M_bearer_12 M_bearers_12 M_matrix_12 M_loadOver M_loadUnder M_eventMany M_eventKind M_eventBolt M_eventOver M_eventUnder M_had M_nextOver_12 M_nextUnder_12 M_met M_fresh M_aheadOver M_aheadUnder M_behindOver M_behindUnder) fun M_mode_40 M_under_40 M_slope_40 M_base_40 M_slipSlope_40 M_slipBase_40 M_offset_40 M_bearer_40 M_bearers_40 M_matrix_40 M_loadOver_40 M_loadUnder_40 M_eventMany_40 M_eventKind_40 M_eventBolt_40 M_eventOver_40 M_eventUnder_40 M_had_40 M_met_40 M_fresh_40 M_aheadOver_40 M_aheadUnder_40 M_behindOver_40 M_behindUnder_40 =>
      some (.inl (M_mode_40, M_under_40, M_slope_40, M_base_40, M_slipSlope_40, M_slipBase_40, M_offset_40, M_bearer_40, M_bearers_40, M_matrix_40, M_loadOver_40, M_loadUnder_40, M_eventMany_40, M_eventKind_40, M_eventBolt_40, M_eventOver_40, M_eventUnder_40, M_had_40, M_nextOver_12, M_nextUnder_12, M_met_40, M_fresh_40, M_aheadOver_40, M_aheadUnder_40, M_behindOver_40, M_behindUnder_40))
    else
      some (.inr (0, M_mode, M_under_12, M_slope_12, M_base_12, M_slipSlope_12, M_slipBase_12, M_offset_12, M_bearer_12, M_bearers_12, M_matrix_12, M_loadOver, M_loadUnder, M_eventMany, M_eventKind, M_eventBolt, M_eventOver, M_eventUnder, M_had, M_nextOver_12, M_nextUnder_12, M_met, M_fresh, M_aheadOver, M_aheadUnder, M_behindOver, M_behindUnder))
  else
    some (.inr (1, M_mode, M_under, M_slope, M_base, M_slipSlope, M_slipBase, M_offset, M_bearer, M_bearers, M_matrix, M_loadOver, M_loadUnder, M_eventMany, M_eventKind, M_eventBolt, M_eventOver, M_eventUnder, M_had, M_nextOver, M_nextUnder, M_met, M_fresh, M_aheadOver, M_aheadUnder, M_behindOver, M_behindUnder))
noncomputable def f_M_growTo (F : Nat) (l1 : Int32) (M_now : Nat → Int32) (M_many : Int32) (M_upper : Int32) (M_lower : Int32) (M_mode : Nat → Int32) (M_under : Int64) (M_slope : Nat → Int64) (M_base : Nat → Int64) (M_slipSlope : Nat → Int64) (M_slipBase : Nat → Int64) (M_offset : Nat → Int64) (M_bearer : Nat → Int32) (M_bearers : Int32) (M_matrix : Nat → Int64) (M_loadOver : Int64) (M_loadUnder : Int64) (M_eventMany : Int32) (M_eventKind : Nat → Int32) (M_eventBolt : Nat → Int32) (M_eventOver : Nat → Int64) (M_eventUnder : Nat → Int64) (M_had : Nat → Int32) (M_nextOver : Int64) (M_nextUnder : Int64) (M_met : Nat → Int32) (M_fresh : Nat → Int32) (M_aheadOver : Nat → Int64) (M_aheadUnder : Nat → Int64) (M_behindOver : Nat → Int64) (M_behindUnder : Nat → Int64) : Option (Int32 × (Nat → Int32) × Int64 × (Nat → Int64) × (Nat → Int64) × (Nat → Int64) × (Nat → Int64) × (Nat → Int64) × (Nat → Int32) × Int32 × (Nat → Int64) × Int64 × Int64 × Int32 × (Nat → Int32) × (Nat → Int32) × (Nat → Int64) × (Nat → Int64) × (Nat → Int32) × Int64 × Int64 × (Nat → Int32) × (Nat → Int32) × (Nat → Int64) × (Nat → Int64) × (Nat → Int64) × (Nat → Int64)) :=
  bd9 (f_M_start F M_now M_many M_mode M_loadOver M_loadUnder M_eventMany M_eventKind M_eventBolt M_eventOver M_eventUnder M_had) fun M_mode_1 M_loadOver_1 M_loadUnder_1 M_eventMany_1 M_eventKind_1 M_eventBolt_1 M_eventOver_1 M_eventUnder_1 M_had_1 =>
  bd27 (iter (un26 (fb_M_growTo_4 F l1 M_now M_many M_upper M_lower)) F (M_mode_1, M_under, M_slope, M_base, M_slipSlope, M_slipBase, M_offset, M_bearer, M_bearers, M_matrix, M_loadOver_1, M_loadUnder_1, M_eventMany_1, M_eventKind_1, M_eventBolt_1, M_eventOver_1, M_eventUnder_1, M_had_1, M_nextOver, M_nextUnder, M_met, M_fresh, M_aheadOver, M_aheadUnder, M_behindOver, M_behindUnder)) fun c_4 M_mode_4 M_under_4 M_slope_4 M_base_4 M_slipSlope_4 M_slipBase_4 M_offset_4 M_bearer_4 M_bearers_4 M_matrix_4 M_loadOver_4 M_loadUnder_4 M_eventMany_4 M_eventKind_4 M_eventBolt_4 M_eventOver_4 M_eventUnder_4 M_had_4 M_nextOver_4 M_nextUnder_4 M_met_4 M_fresh_4 M_aheadOver_4 M_aheadUnder_4 M_behindOver_4 M_behindUnder_4 =>
  if c_4 = 0 then
    bd2 (f_M_setLoad F (Int32.toInt64 l1) (1 : Int64) M_loadOver_4 M_loadUnder_4) fun M_loadOver_34 M_loadUnder_34 =>
    some ((1 : Int32), M_mode_4, M_under_4, M_slope_4, M_base_4, M_slipSlope_4, M_slipBase_4, M_offset_4, M_bearer_4, M_bearers_4, M_matrix_4, M_loadOver_34, M_loadUnder_34, M_eventMany_4, M_eventKind_4, M_eventBolt_4, M_eventOver_4, M_eventUnder_4, M_had_4, M_nextOver_4, M_nextUnder_4, M_met_4, M_fresh_4, M_aheadOver_4, M_aheadUnder_4, M_behindOver_4, M_behindUnder_4)
  else
    some ((0 : Int32), M_mode_4, M_under_4, M_slope_4, M_base_4, M_slipSlope_4, M_slipBase_4, M_offset_4, M_bearer_4, M_bearers_4, M_matrix_4, M_loadOver_4, M_loadUnder_4, M_eventMany_4, M_eventKind_4, M_eventBolt_4, M_eventOver_4, M_eventUnder_4, M_had_4, M_nextOver_4, M_nextUnder_4, M_met_4, M_fresh_4, M_aheadOver_4, M_aheadUnder_4, M_behindOver_4, M_behindUnder_4)
noncomputable def f_M_isLoad (l0 : Int32) : Option (Int32) :=
  (f_M_in (Int32.toInt64 l0) (0 : Int64) (300 : Int64)).bind fun r_6 =>
  (bzO r_6).bind fun b_9 =>
  some b_9
noncomputable def f_M_force (F : Nat) (l1 : Int32) (l2 : Int32) (M_now : Nat → Int32) (M_many : Int32) (M_upper : Int32) (M_lower : Int32) (M_row : Nat → Int64) (M_rowMany : Int32) (M_thrown : Int32) (M_mode : Nat → Int32) (M_under : Int64) (M_slope : Nat → Int64) (M_base : Nat → Int64) (M_slipSlope : Nat → Int64) (M_slipBase : Nat → Int64) (M_offset : Nat → Int64) (M_bearer : Nat → Int32) (M_bearers : Int32) (M_matrix : Nat → Int64) (M_loadOver : Int64) (M_loadUnder : Int64) (M_eventMany : Int32) (M_eventKind : Nat → Int32) (M_eventBolt : Nat → Int32) (M_eventOver : Nat → Int64) (M_eventUnder : Nat → Int64) (M_had : Nat → Int32) (M_nextOver : Int64) (M_nextUnder : Int64) (M_met : Nat → Int32) (M_fresh : Nat → Int32) (M_aheadOver : Nat → Int64) (M_aheadUnder : Nat → Int64) (M_behindOver : Nat → Int64) (M_behindUnder : Nat → Int64) : Option (Int32 × (Nat → Int64) × Int32 × Int32 × (Nat → Int32) × Int64 × (Nat → Int64) × (Nat → Int64) × (Nat → Int64) × (Nat → Int64) × (Nat → Int64) × (Nat → Int32) × Int32 × (Nat → Int64) × Int64 × Int64 × Int32 × (Nat → Int32) × (Nat → Int32) × (Nat → Int64) × (Nat → Int64) × (Nat → Int32) × Int64 × Int64 × (Nat → Int32) × (Nat → Int32) × (Nat → Int64) × (Nat → Int64) × (Nat → Int64) × (Nat → Int64)) :=
  (f_M_isBolt l2 M_many).bind fun r_7 =>
  if r_7 = (0 : Int32) then
    some ((-1 : Int32), M_row, M_rowMany, (0 : Int32), M_mode, M_under, M_slope, M_base, M_slipSlope, M_slipBase, M_offset, M_bearer, M_bearers, M_matrix, M_loadOver, M_loadUnder, M_eventMany, M_eventKind, M_eventBolt, M_eventOver, M_eventUnder, M_had, M_nextOver, M_nextUnder, M_met, M_fresh, M_aheadOver, M_aheadUnder, M_behindOver, M_behindUnder)
  else
    (f_M_isLoad l1).bind fun r_14 =>
    if r_14 = (0 : Int32) then
      some ((-1 : Int32), M_row, M_rowMany, (0 : Int32), M_mode, M_under, M_slope, M_base, M_slipSlope, M_slipBase, M_offset, M_bearer, M_bearers, M_matrix, M_loadOver, M_loadUnder, M_eventMany, M_eventKind, M_eventBolt, M_eventOver, M_eventUnder, M_had, M_nextOver, M_nextUnder, M_met, M_fresh, M_aheadOver, M_aheadUnder, M_behindOver, M_behindUnder)
    else
      bd27 (f_M_growTo F l1 M_now M_many M_upper M_lower M_mode M_under M_slope M_base M_slipSlope M_slipBase M_offset M_bearer M_bearers M_matrix M_loadOver M_loadUnder M_eventMany M_eventKind M_eventBolt M_eventOver M_eventUnder M_had M_nextOver M_nextUnder M_met M_fresh M_aheadOver M_aheadUnder M_behindOver M_behindUnder) fun r_24 M_mode_24 M_under_24 M_slope_24 M_base_24 M_slipSlope_24 M_slipBase_24 M_offset_24 M_bearer_24 M_bearers_24 M_matrix_24 M_loadOver_24 M_loadUnder_24 M_eventMany_24 M_eventKind_24 M_eventBolt_24 M_eventOver_24 M_eventUnder_24 M_had_24 M_nextOver_24 M_nextUnder_24 M_met_24 M_fresh_24 M_aheadOver_24 M_aheadUnder_24 M_behindOver_24 M_behindUnder_24 =>
      if r_24 = (0 : Int32) then
        some ((-2 : Int32), M_row, M_rowMany, (0 : Int32), M_mode_24, M_under_24, M_slope_24, M_base_24, M_slipSlope_24, M_slipBase_24, M_offset_24, M_bearer_24, M_bearers_24, M_matrix_24, M_loadOver_24, M_loadUnder_24, M_eventMany_24, M_eventKind_24, M_eventBolt_24, M_eventOver_24, M_eventUnder_24, M_had_24, M_nextOver_24, M_nextUnder_24, M_met_24, M_fresh_24, M_aheadOver_24, M_aheadUnder_24, M_behindOver_24, M_behindUnder_24)
      else
        (f_M_forceThere l2 M_slope_24 M_base_24 M_loadOver_24 M_loadUnder_24).bind fun r_41 =>
        (f_M_unitThere M_under_24 M_loadUnder_24).bind fun r_45 =>
        bd2 (f_M_tellFraction F r_41 r_45 M_row (0 : Int32)) fun M_row_48 M_rowMany_48 =>
        some ((0 : Int32), M_row_48, M_rowMany_48, (0 : Int32), M_mode_24, M_under_24, M_slope_24, M_base_24, M_slipSlope_24, M_slipBase_24, M_offset_24, M_bearer_24, M_bearers_24, M_matrix_24, M_loadOver_24, M_loadUnder_24, M_eventMany_24, M_eventKind_24, M_eventBolt_24, M_eventOver_24, M_eventUnder_24, M_had_24, M_nextOver_24, M_nextUnder_24, M_met_24, M_fresh_24, M_aheadOver_24, M_aheadUnder_24, M_behindOver_24, M_behindUnder_24)
noncomputable def f_M_slip (F : Nat) (l1 : Int32) (l2 : Int32) (M_now : Nat → Int32) (M_many : Int32) (M_upper : Int32) (M_lower : Int32) (M_row : Nat → Int64) (M_rowMany : Int32) (M_thrown : Int32) (M_mode : Nat → Int32) (M_under : Int64) (M_slope : Nat → Int64) (M_base : Nat → Int64) (M_slipSlope : Nat → Int64) (M_slipBase : Nat → Int64) (M_offset : Nat → Int64) (M_bearer : Nat → Int32) (M_bearers : Int32) (M_matrix : Nat → Int64) (M_loadOver : Int64) (M_loadUnder : Int64) (M_eventMany : Int32) (M_eventKind : Nat → Int32) (M_eventBolt : Nat → Int32) (M_eventOver : Nat → Int64) (M_eventUnder : Nat → Int64) (M_had : Nat → Int32) (M_nextOver : Int64) (M_nextUnder : Int64) (M_met : Nat → Int32) (M_fresh : Nat → Int32) (M_aheadOver : Nat → Int64) (M_aheadUnder : Nat → Int64) (M_behindOver : Nat → Int64) (M_behindUnder : Nat → Int64) : Option (Int32 × (Nat → Int64) × Int32 × Int32 × (Nat → Int32) × Int64 × (Nat → Int64) × (Nat → Int64) × (Nat → Int64) × (Nat → Int64) × (Nat → Int64) × (Nat → Int32) × Int32 × (Nat → Int64) × Int64 × Int64 × Int32 × (Nat → Int32) × (Nat → Int32) × (Nat → Int64) × (Nat → Int64) × (Nat → Int32) × Int64 × Int64 × (Nat → Int32) × (Nat → Int32) × (Nat → Int64) × (Nat → Int64) × (Nat → Int64) × (Nat → Int64)) :=
  (f_M_isBolt l2 M_many).bind fun r_7 =>
  if r_7 = (0 : Int32) then
    some ((-1 : Int32), M_row, M_rowMany, (0 : Int32), M_mode, M_under, M_slope, M_base, M_slipSlope, M_slipBase, M_offset, M_bearer, M_bearers, M_matrix, M_loadOver, M_loadUnder, M_eventMany, M_eventKind, M_eventBolt, M_eventOver, M_eventUnder, M_had, M_nextOver, M_nextUnder, M_met, M_fresh, M_aheadOver, M_aheadUnder, M_behindOver, M_behindUnder)
  else
    (f_M_isLoad l1).bind fun r_14 =>
    if r_14 = (0 : Int32) then
      some ((-1 : Int32), M_row, M_rowMany, (0 : Int32), M_mode, M_under, M_slope, M_base, M_slipSlope, M_slipBase, M_offset, M_bearer, M_bearers, M_matrix, M_loadOver, M_loadUnder, M_eventMany, M_eventKind, M_eventBolt, M_eventOver, M_eventUnder, M_had, M_nextOver, M_nextUnder, M_met, M_fresh, M_aheadOver, M_aheadUnder, M_behindOver, M_behindUnder)
    else
      bd27 (f_M_growTo F l1 M_now M_many M_upper M_lower M_mode M_under M_slope M_base M_slipSlope M_slipBase M_offset M_bearer M_bearers M_matrix M_loadOver M_loadUnder M_eventMany M_eventKind M_eventBolt M_eventOver M_eventUnder M_had M_nextOver M_nextUnder M_met M_fresh M_aheadOver M_aheadUnder M_behindOver M_behindUnder) fun r_24 M_mode_24 M_under_24 M_slope_24 M_base_24 M_slipSlope_24 M_slipBase_24 M_offset_24 M_bearer_24 M_bearers_24 M_matrix_24 M_loadOver_24 M_loadUnder_24 M_eventMany_24 M_eventKind_24 M_eventBolt_24 M_eventOver_24 M_eventUnder_24 M_had_24 M_nextOver_24 M_nextUnder_24 M_met_24 M_fresh_24 M_aheadOver_24 M_aheadUnder_24 M_behindOver_24 M_behindUnder_24 =>
      if r_24 = (0 : Int32) then
        some ((-2 : Int32), M_row, M_rowMany, (0 : Int32), M_mode_24, M_under_24, M_slope_24, M_base_24, M_slipSlope_24, M_slipBase_24, M_offset_24, M_bearer_24, M_bearers_24, M_matrix_24, M_loadOver_24, M_loadUnder_24, M_eventMany_24, M_eventKind_24, M_eventBolt_24, M_eventOver_24, M_eventUnder_24, M_had_24, M_nextOver_24, M_nextUnder_24, M_met_24, M_fresh_24, M_aheadOver_24, M_aheadUnder_24, M_behindOver_24, M_behindUnder_24)
      else
        (f_M_slipThere l2 M_slipSlope_24 M_slipBase_24 M_loadOver_24 M_loadUnder_24).bind fun r_41 =>
        (f_M_unitThere M_under_24 M_loadUnder_24).bind fun r_45 =>
        bd2 (f_M_tellFraction F r_41 r_45 M_row (0 : Int32)) fun M_row_48 M_rowMany_48 =>
        some ((0 : Int32), M_row_48, M_rowMany_48, (0 : Int32), M_mode_24, M_under_24, M_slope_24, M_base_24, M_slipSlope_24, M_slipBase_24, M_offset_24, M_bearer_24, M_bearers_24, M_matrix_24, M_loadOver_24, M_loadUnder_24, M_eventMany_24, M_eventKind_24, M_eventBolt_24, M_eventOver_24, M_eventUnder_24, M_had_24, M_nextOver_24, M_nextUnder_24, M_met_24, M_fresh_24, M_aheadOver_24, M_aheadUnder_24, M_behindOver_24, M_behindUnder_24)
noncomputable def fb_M_borne_5 (l1 : Int32) (M_slope : Nat → Int64) (M_base : Nat → Int64) (M_loadOver : Int64) (M_loadUnder : Int64) (l2 : Int64) (l4 : Int32) : Option ((Int64 × Int32) ⊕ (Int64)) :=
  if l1 < l4 then
    some (.inr l2)
  else
    (f_M_forceThere l4 M_slope M_base M_loadOver M_loadUnder).bind fun r_15 =>
    nm (l2 + r_15) fun l2_19 =>
    nm (l4 + (1 : Int32)) fun l4_20 =>
    some (.inl (l2_19, l4_20))
noncomputable def f_M_borne (F : Nat) (l1 : Int32) (M_slope : Nat → Int64) (M_base : Nat → Int64) (M_loadOver : Int64) (M_loadUnder : Int64) : Option (Int64) :=
  (iter (un2 (fb_M_borne_5 l1 M_slope M_base M_loadOver M_loadUnder)) F ((0 : Int64), (0 : Int32))).bind fun l2_5 =>
  some l2_5
noncomputable def f_M_bears (F : Nat) (l1 : Int32) (l2 : Int32) (M_now : Nat → Int32) (M_many : Int32) (M_upper : Int32) (M_lower : Int32) (M_row : Nat → Int64) (M_rowMany : Int32) (M_thrown : Int32) (M_mode : Nat → Int32) (M_under : Int64) (M_slope : Nat → Int64) (M_base : Nat → Int64) (M_slipSlope : Nat → Int64) (M_slipBase : Nat → Int64) (M_offset : Nat → Int64) (M_bearer : Nat → Int32) (M_bearers : Int32) (M_matrix : Nat → Int64) (M_loadOver : Int64) (M_loadUnder : Int64) (M_eventMany : Int32) (M_eventKind : Nat → Int32) (M_eventBolt : Nat → Int32) (M_eventOver : Nat → Int64) (M_eventUnder : Nat → Int64) (M_had : Nat → Int32) (M_nextOver : Int64) (M_nextUnder : Int64) (M_met : Nat → Int32) (M_fresh : Nat → Int32) (M_aheadOver : Nat → Int64) (M_aheadUnder : Nat → Int64) (M_behindOver : Nat → Int64) (M_behindUnder : Nat → Int64) : Option (Int32 × (Nat → Int64) × Int32 × Int32 × (Nat → Int32) × Int64 × (Nat → Int64) × (Nat → Int64) × (Nat → Int64) × (Nat → Int64) × (Nat → Int64) × (Nat → Int32) × Int32 × (Nat → Int64) × Int64 × Int64 × Int32 × (Nat → Int32) × (Nat → Int32) × (Nat → Int64) × (Nat → Int64) × (Nat → Int32) × Int64 × Int64 × (Nat → Int32) × (Nat → Int32) × (Nat → Int64) × (Nat → Int64) × (Nat → Int64) × (Nat → Int64)) :=
  (f_M_in (Int32.toInt64 l2) (0 : Int64) (Int32.toInt64 (M_many - (2 : Int32)))).bind fun r_15 =>
  if r_15 = (0 : Int32) then
    some ((-1 : Int32), M_row, M_rowMany, (0 : Int32), M_mode, M_under, M_slope, M_base, M_slipSlope, M_slipBase, M_offset, M_bearer, M_bearers, M_matrix, M_loadOver, M_loadUnder, M_eventMany, M_eventKind, M_eventBolt, M_eventOver, M_eventUnder, M_had, M_nextOver, M_nextUnder, M_met, M_fresh, M_aheadOver, M_aheadUnder, M_behindOver, M_behindUnder)
  else
    (f_M_isLoad l1).bind fun r_22 =>
    if r_22 = (0 : Int32) then
      some ((-1 : Int32), M_row, M_rowMany, (0 : Int32), M_mode, M_under, M_slope, M_base, M_slipSlope, M_slipBase, M_offset, M_bearer, M_bearers, M_matrix, M_loadOver, M_loadUnder, M_eventMany, M_eventKind, M_eventBolt, M_eventOver, M_eventUnder, M_had, M_nextOver, M_nextUnder, M_met, M_fresh, M_aheadOver, M_aheadUnder, M_behindOver, M_behindUnder)
    else
      bd27 (f_M_growTo F l1 M_now M_many M_upper M_lower M_mode M_under M_slope M_base M_slipSlope M_slipBase M_offset M_bearer M_bearers M_matrix M_loadOver M_loadUnder M_eventMany M_eventKind M_eventBolt M_eventOver M_eventUnder M_had M_nextOver M_nextUnder M_met M_fresh M_aheadOver M_aheadUnder M_behindOver M_behindUnder) fun r_32 M_mode_32 M_under_32 M_slope_32 M_base_32 M_slipSlope_32 M_slipBase_32 M_offset_32 M_bearer_32 M_bearers_32 M_matrix_32 M_loadOver_32 M_loadUnder_32 M_eventMany_32 M_eventKind_32 M_eventBolt_32 M_eventOver_32 M_eventUnder_32 M_had_32 M_nextOver_32 M_nextUnder_32 M_met_32 M_fresh_32 M_aheadOver_32 M_aheadUnder_32 M_behindOver_32 M_behindUnder_32 =>
      if r_32 = (0 : Int32) then
        some ((-2 : Int32), M_row, M_rowMany, (0 : Int32), M_mode_32, M_under_32, M_slope_32, M_base_32, M_slipSlope_32, M_slipBase_32, M_offset_32, M_bearer_32, M_bearers_32, M_matrix_32, M_loadOver_32, M_loadUnder_32, M_eventMany_32, M_eventKind_32, M_eventBolt_32, M_eventOver_32, M_eventUnder_32, M_had_32, M_nextOver_32, M_nextUnder_32, M_met_32, M_fresh_32, M_aheadOver_32, M_aheadUnder_32, M_behindOver_32, M_behindUnder_32)
      else
        (f_M_unitThere M_under_32 M_loadUnder_32).bind fun r_50 =>
        (f_M_borne F l2 M_slope_32 M_base_32 M_loadOver_32 M_loadUnder_32).bind fun r_56 =>
        (f_M_unitThere M_under_32 M_loadUnder_32).bind fun r_61 =>
        bd2 (f_M_tellFraction F (((Int32.toInt64 l1) * r_50) - r_56) r_61 M_row (0 : Int32)) fun M_row_64 M_rowMany_64 =>
        (f_M_borne F l2 M_slope_32 M_base_32 M_loadOver_32 M_loadUnder_32).bind fun r_70 =>
        (f_M_unitThere M_under_32 M_loadUnder_32).bind fun r_74 =>
        bd2 (f_M_tellFraction F r_70 r_74 M_row_64 M_rowMany_64) fun M_row_77 M_rowMany_77 =>
        some ((0 : Int32), M_row_77, M_rowMany_77, (0 : Int32), M_mode_32, M_under_32, M_slope_32, M_base_32, M_slipSlope_32, M_slipBase_32, M_offset_32, M_bearer_32, M_bearers_32, M_matrix_32, M_loadOver_32, M_loadUnder_32, M_eventMany_32, M_eventKind_32, M_eventBolt_32, M_eventOver_32, M_eventUnder_32, M_had_32, M_nextOver_32, M_nextUnder_32, M_met_32, M_fresh_32, M_aheadOver_32, M_aheadUnder_32, M_behindOver_32, M_behindUnder_32)
noncomputable def fb_M_stretch_41 (F : Nat) (M_now : Nat → Int32) (M_many : Int32) (M_lower : Int32) (M_slope : Nat → Int64) (M_base : Nat → Int64) (M_loadOver : Int64) (M_loadUnder : Int64) (l2 : Int64) (l4 : Int32) : Option ((Int64 × Int32) ⊕ (Int64)) :=
  if (M_many - (1 : Int32)) ≤ l4 then
    some (.inr l2)
  else
    (f_M_of l4 (6 : Int32) M_now).bind fun r_63 =>
    (f_M_borne F l4 M_slope M_base M_loadOver M_loadUnder).bind fun r_71 =>
    nm (l2 + (((Int32.toInt64 M_lower) * (Int32.toInt64 r_63)) * r_71)) fun l2_76 =>
    nm (l4 + (1 : Int32)) fun l4_77 =>
    some (.inl (l2_76, l4_77))
noncomputable def f_M_stretch (F : Nat) (l1 : Int32) (M_now : Nat → Int32) (M_many : Int32) (M_upper : Int32) (M_lower : Int32) (M_row : Nat → Int64) (M_rowMany : Int32) (M_thrown : Int32) (M_mode : Nat → Int32) (M_under : Int64) (M_slope : Nat → Int64) (M_base : Nat → Int64) (M_slipSlope : Nat → Int64) (M_slipBase : Nat → Int64) (M_offset : Nat → Int64) (M_bearer : Nat → Int32) (M_bearers : Int32) (M_matrix : Nat → Int64) (M_loadOver : Int64) (M_loadUnder : Int64) (M_eventMany : Int32) (M_eventKind : Nat → Int32) (M_eventBolt : Nat → Int32) (M_eventOver : Nat → Int64) (M_eventUnder : Nat → Int64) (M_had : Nat → Int32) (M_nextOver : Int64) (M_nextUnder : Int64) (M_met : Nat → Int32) (M_fresh : Nat → Int32) (M_aheadOver : Nat → Int64) (M_aheadUnder : Nat → Int64) (M_behindOver : Nat → Int64) (M_behindUnder : Nat → Int64) : Option (Int32 × (Nat → Int64) × Int32 × Int32 × (Nat → Int32) × Int64 × (Nat → Int64) × (Nat → Int64) × (Nat → Int64) × (Nat → Int64) × (Nat → Int64) × (Nat → Int32) × Int32 × (Nat → Int64) × Int64 × Int64 × Int32 × (Nat → Int32) × (Nat → Int32) × (Nat → Int64) × (Nat → Int64) × (Nat → Int32) × Int64 × Int64 × (Nat → Int32) × (Nat → Int32) × (Nat → Int64) × (Nat → Int64) × (Nat → Int64) × (Nat → Int64)) :=
  if M_many = (0 : Int32) then
    some ((-1 : Int32), M_row, M_rowMany, (0 : Int32), M_mode, M_under, M_slope, M_base, M_slipSlope, M_slipBase, M_offset, M_bearer, M_bearers, M_matrix, M_loadOver, M_loadUnder, M_eventMany, M_eventKind, M_eventBolt, M_eventOver, M_eventUnder, M_had, M_nextOver, M_nextUnder, M_met, M_fresh, M_aheadOver, M_aheadUnder, M_behindOver, M_behindUnder)
  else
    (f_M_isLoad l1).bind fun r_13 =>
    if r_13 = (0 : Int32) then
      some ((-1 : Int32), M_row, M_rowMany, (0 : Int32), M_mode, M_under, M_slope, M_base, M_slipSlope, M_slipBase, M_offset, M_bearer, M_bearers, M_matrix, M_loadOver, M_loadUnder, M_eventMany, M_eventKind, M_eventBolt, M_eventOver, M_eventUnder, M_had, M_nextOver, M_nextUnder, M_met, M_fresh, M_aheadOver, M_aheadUnder, M_behindOver, M_behindUnder)
    else
      bd27 (f_M_growTo F l1 M_now M_many M_upper M_lower M_mode M_under M_slope M_base M_slipSlope M_slipBase M_offset M_bearer M_bearers M_matrix M_loadOver M_loadUnder M_eventMany M_eventKind M_eventBolt M_eventOver M_eventUnder M_had M_nextOver M_nextUnder M_met M_fresh M_aheadOver M_aheadUnder M_behindOver M_behindUnder) fun r_23 M_mode_23 M_under_23 M_slope_23 M_base_23 M_slipSlope_23 M_slipBase_23 M_offset_23 M_bearer_23 M_bearers_23 M_matrix_23 M_loadOver_23 M_loadUnder_23 M_eventMany_23 M_eventKind_23 M_eventBolt_23 M_eventOver_23 M_eventUnder_23 M_had_23 M_nextOver_23 M_nextUnder_23 M_met_23 M_fresh_23 M_aheadOver_23 M_aheadUnder_23 M_behindOver_23 M_behindUnder_23 =>
      if r_23 = (0 : Int32) then
        some ((-2 : Int32), M_row, M_rowMany, (0 : Int32), M_mode_23, M_under_23, M_slope_23, M_base_23, M_slipSlope_23, M_slipBase_23, M_offset_23, M_bearer_23, M_bearers_23, M_matrix_23, M_loadOver_23, M_loadUnder_23, M_eventMany_23, M_eventKind_23, M_eventBolt_23, M_eventOver_23, M_eventUnder_23, M_had_23, M_nextOver_23, M_nextUnder_23, M_met_23, M_fresh_23, M_aheadOver_23, M_aheadUnder_23, M_behindOver_23, M_behindUnder_23)
      else
        (f_M_slipThere (0 : Int32) M_slipSlope_23 M_slipBase_23 M_loadOver_23 M_loadUnder_23).bind fun r_34 =>
        (iter (un2 (fb_M_stretch_41 F M_now M_many M_lower M_slope_23 M_base_23 M_loadOver_23 M_loadUnder_23)) F (r_34, (0 : Int32))).bind fun l2_41 =>
        (f_M_unitThere M_under_23 M_loadUnder_23).bind fun r_91 =>
        bd2 (f_M_tellFraction F l2_41 r_91 M_row (0 : Int32)) fun M_row_94 M_rowMany_94 =>
        some ((0 : Int32), M_row_94, M_rowMany_94, (0 : Int32), M_mode_23, M_under_23, M_slope_23, M_base_23, M_slipSlope_23, M_slipBase_23, M_offset_23, M_bearer_23, M_bearers_23, M_matrix_23, M_loadOver_23, M_loadUnder_23, M_eventMany_23, M_eventKind_23, M_eventBolt_23, M_eventOver_23, M_eventUnder_23, M_had_23, M_nextOver_23, M_nextUnder_23, M_met_23, M_fresh_23, M_aheadOver_23, M_aheadUnder_23, M_behindOver_23, M_behindUnder_23)
noncomputable def f_M_stateOf (l1 : Int32) (M_now : Nat → Int32) (M_mode : Nat → Int32) (M_under : Int64) (M_slope : Nat → Int64) (M_base : Nat → Int64) (M_loadOver : Int64) (M_loadUnder : Int64) : Option (Int32) :=
  (f_M_of l1 (5 : Int32) M_now).bind fun r_3 =>
  if r_3 = (1 : Int32) then
    some (4 : Int32)
  else
    (ldA M_mode 5 l1).bind fun v_17 =>
    if v_17 = (3 : Int32) then
      some (3 : Int32)
    else
      (f_M_forceThere l1 M_slope M_base M_loadOver M_loadUnder).bind fun r_26 =>
      if r_26 = (0 : Int64) then
        some (0 : Int32)
      else
        (f_M_forceThere l1 M_slope M_base M_loadOver M_loadUnder).bind fun r_40 =>
        (f_M_of l1 (2 : Int32) M_now).bind fun r_46 =>
        (f_M_unitThere M_under M_loadUnder).bind fun r_51 =>
        if r_40 ≤ ((Int32.toInt64 r_46) * r_51) then
          some (1 : Int32)
        else
          some (2 : Int32)
noncomputable def f_M_state (F : Nat) (l1 : Int32) (l2 : Int32) (M_now : Nat → Int32) (M_many : Int32) (M_upper : Int32) (M_lower : Int32) (M_thrown : Int32) (M_mode : Nat → Int32) (M_under : Int64) (M_slope : Nat → Int64) (M_base : Nat → Int64) (M_slipSlope : Nat → Int64) (M_slipBase : Nat → Int64) (M_offset : Nat → Int64) (M_bearer : Nat → Int32) (M_bearers : Int32) (M_matrix : Nat → Int64) (M_loadOver : Int64) (M_loadUnder : Int64) (M_eventMany : Int32) (M_eventKind : Nat → Int32) (M_eventBolt : Nat → Int32) (M_eventOver : Nat → Int64) (M_eventUnder : Nat → Int64) (M_had : Nat → Int32) (M_nextOver : Int64) (M_nextUnder : Int64) (M_met : Nat → Int32) (M_fresh : Nat → Int32) (M_aheadOver : Nat → Int64) (M_aheadUnder : Nat → Int64) (M_behindOver : Nat → Int64) (M_behindUnder : Nat → Int64) : Option (Int32 × Int32 × (Nat → Int32) × Int64 × (Nat → Int64) × (Nat → Int64) × (Nat → Int64) × (Nat → Int64) × (Nat → Int64) × (Nat → Int32) × Int32 × (Nat → Int64) × Int64 × Int64 × Int32 × (Nat → Int32) × (Nat → Int32) × (Nat → Int64) × (Nat → Int64) × (Nat → Int32) × Int64 × Int64 × (Nat → Int32) × (Nat → Int32) × (Nat → Int64) × (Nat → Int64) × (Nat → Int64) × (Nat → Int64)) :=
  (f_M_isBolt l2 M_many).bind fun r_7 =>
  if r_7 = (0 : Int32) then
    some ((-1 : Int32), (0 : Int32), M_mode, M_under, M_slope, M_base, M_slipSlope, M_slipBase, M_offset, M_bearer, M_bearers, M_matrix, M_loadOver, M_loadUnder, M_eventMany, M_eventKind, M_eventBolt, M_eventOver, M_eventUnder, M_had, M_nextOver, M_nextUnder, M_met, M_fresh, M_aheadOver, M_aheadUnder, M_behindOver, M_behindUnder)
  else
    (f_M_isLoad l1).bind fun r_14 =>
    if r_14 = (0 : Int32) then
      some ((-1 : Int32), (0 : Int32), M_mode, M_under, M_slope, M_base, M_slipSlope, M_slipBase, M_offset, M_bearer, M_bearers, M_matrix, M_loadOver, M_loadUnder, M_eventMany, M_eventKind, M_eventBolt, M_eventOver, M_eventUnder, M_had, M_nextOver, M_nextUnder, M_met, M_fresh, M_aheadOver, M_aheadUnder, M_behindOver, M_behindUnder)
    else
      bd27 (f_M_growTo F l1 M_now M_many M_upper M_lower M_mode M_under M_slope M_base M_slipSlope M_slipBase M_offset M_bearer M_bearers M_matrix M_loadOver M_loadUnder M_eventMany M_eventKind M_eventBolt M_eventOver M_eventUnder M_had M_nextOver M_nextUnder M_met M_fresh M_aheadOver M_aheadUnder M_behindOver M_behindUnder) fun r_24 M_mode_24 M_under_24 M_slope_24 M_base_24 M_slipSlope_24 M_slipBase_24 M_offset_24 M_bearer_24 M_bearers_24 M_matrix_24 M_loadOver_24 M_loadUnder_24 M_eventMany_24 M_eventKind_24 M_eventBolt_24 M_eventOver_24 M_eventUnder_24 M_had_24 M_nextOver_24 M_nextUnder_24 M_met_24 M_fresh_24 M_aheadOver_24 M_aheadUnder_24 M_behindOver_24 M_behindUnder_24 =>
      if r_24 = (0 : Int32) then
        (f_M_of l2 (5 : Int32) M_now).bind fun r_43 =>
        if r_43 = (1 : Int32) then
          some ((4 : Int32), (0 : Int32), M_mode_24, M_under_24, M_slope_24, M_base_24, M_slipSlope_24, M_slipBase_24, M_offset_24, M_bearer_24, M_bearers_24, M_matrix_24, M_loadOver_24, M_loadUnder_24, M_eventMany_24, M_eventKind_24, M_eventBolt_24, M_eventOver_24, M_eventUnder_24, M_had_24, M_nextOver_24, M_nextUnder_24, M_met_24, M_fresh_24, M_aheadOver_24, M_aheadUnder_24, M_behindOver_24, M_behindUnder_24)
        else
          some ((3 : Int32), (0 : Int32), M_mode_24, M_under_24, M_slope_24, M_base_24, M_slipSlope_24, M_slipBase_24, M_offset_24, M_bearer_24, M_bearers_24, M_matrix_24, M_loadOver_24, M_loadUnder_24, M_eventMany_24, M_eventKind_24, M_eventBolt_24, M_eventOver_24, M_eventUnder_24, M_had_24, M_nextOver_24, M_nextUnder_24, M_met_24, M_fresh_24, M_aheadOver_24, M_aheadUnder_24, M_behindOver_24, M_behindUnder_24)
      else
        (f_M_stateOf l2 M_now M_mode_24 M_under_24 M_slope_24 M_base_24 M_loadOver_24 M_loadUnder_24).bind fun r_34 =>
        some (r_34, (0 : Int32), M_mode_24, M_under_24, M_slope_24, M_base_24, M_slipSlope_24, M_slipBase_24, M_offset_24, M_bearer_24, M_bearers_24, M_matrix_24, M_loadOver_24, M_loadUnder_24, M_eventMany_24, M_eventKind_24, M_eventBolt_24, M_eventOver_24, M_eventUnder_24, M_had_24, M_nextOver_24, M_nextUnder_24, M_met_24, M_fresh_24, M_aheadOver_24, M_aheadUnder_24, M_behindOver_24, M_behindUnder_24)
noncomputable def fj_M_idle_92 (l3 : Int32) (l5 : Int32) (s0 : Int32) (s1 : Int32) : Option ((Int32 × Int32 × Int32) ⊕ (Int32 × Int32)) :=
  nm (s0 ||| s1) fun l4_93 =>
  nm (l5 + (1 : Int32)) fun l5_95 =>
  some (.inl (l3, l4_93, l5_95))
noncomputable def fj_M_idle_91 (l3 : Int32) (l5 : Int32) (s0 : Int32) : Option ((Int32 × Int32 × Int32) ⊕ (Int32 × Int32)) :=
  fj_M_idle_92 l3 l5 s0 (0 : Int32)
noncomputable def fj_M_idle_59 (l4 : Int32) (l5 : Int32) (s0 : Int32) (s1 : Int32) (M_now : Nat → Int32) (M_mode : Nat → Int32) : Option ((Int32 × Int32 × Int32) ⊕ (Int32 × Int32)) :=
  nm (s0 ||| s1) fun l3_60 =>
  (ldA M_mode 5 l5).bind fun v_69 =>
  if v_69 = (3 : Int32) then
    (f_M_of l5 (5 : Int32) M_now).bind fun r_78 =>
    if r_78 = (0 : Int32) then
      fj_M_idle_92 l3_60 l5 l4 ((1 : Int32) <<< (l5 &&& 31))
    else
      fj_M_idle_91 l3_60 l5 l4
  else
    fj_M_idle_91 l3_60 l5 l4
noncomputable def fj_M_idle_58 (l4 : Int32) (l5 : Int32) (s0 : Int32) (M_now : Nat → Int32) (M_mode : Nat → Int32) : Option ((Int32 × Int32 × Int32) ⊕ (Int32 × Int32)) :=
  fj_M_idle_59 l4 l5 s0 (0 : Int32) M_now M_mode
noncomputable def fb_M_idle_28 (l2 : Int32) (M_now : Nat → Int32) (M_many : Int32) (M_mode : Nat → Int32) (M_under : Int64) (M_slope : Nat → Int64) (M_base : Nat → Int64) (M_loadOver : Int64) (M_loadUnder : Int64) (l3 : Int32) (l4 : Int32) (l5 : Int32) : Option ((Int32 × Int32 × Int32) ⊕ (Int32 × Int32)) :=
  if M_many ≤ l5 then
    some (.inr (l3, l4))
  else
    if l2 = (0 : Int32) then
      fj_M_idle_58 l4 l5 l3 M_now M_mode
    else
      (f_M_stateOf l5 M_now M_mode M_under M_slope M_base M_loadOver M_loadUnder).bind fun r_45 =>
      if r_45 = (0 : Int32) then
        fj_M_idle_59 l4 l5 l3 ((1 : Int32) <<< (l5 &&& 31)) M_now M_mode
      else
        fj_M_idle_58 l4 l5 l3 M_now M_mode
noncomputable def f_M_idle (F : Nat) (l1 : Int32) (M_now : Nat → Int32) (M_many : Int32) (M_upper : Int32) (M_lower : Int32) (M_row : Nat → Int64) (M_rowMany : Int32) (M_thrown : Int32) (M_mode : Nat → Int32) (M_under : Int64) (M_slope : Nat → Int64) (M_base : Nat → Int64) (M_slipSlope : Nat → Int64) (M_slipBase : Nat → Int64) (M_offset : Nat → Int64) (M_bearer : Nat → Int32) (M_bearers : Int32) (M_matrix : Nat → Int64) (M_loadOver : Int64) (M_loadUnder : Int64) (M_eventMany : Int32) (M_eventKind : Nat → Int32) (M_eventBolt : Nat → Int32) (M_eventOver : Nat → Int64) (M_eventUnder : Nat → Int64) (M_had : Nat → Int32) (M_nextOver : Int64) (M_nextUnder : Int64) (M_met : Nat → Int32) (M_fresh : Nat → Int32) (M_aheadOver : Nat → Int64) (M_aheadUnder : Nat → Int64) (M_behindOver : Nat → Int64) (M_behindUnder : Nat → Int64) : Option (Int32 × (Nat → Int64) × Int32 × Int32 × (Nat → Int32) × Int64 × (Nat → Int64) × (Nat → Int64) × (Nat → Int64) × (Nat → Int64) × (Nat → Int64) × (Nat → Int32) × Int32 × (Nat → Int64) × Int64 × Int64 × Int32 × (Nat → Int32) × (Nat → Int32) × (Nat → Int64) × (Nat → Int64) × (Nat → Int32) × Int64 × Int64 × (Nat → Int32) × (Nat → Int32) × (Nat → Int64) × (Nat → Int64) × (Nat → Int64) × (Nat → Int64)) :=
  (f_M_isLoad l1).bind fun r_6 =>
  if r_6 = (0 : Int32) then
    some ((-1 : Int32), M_row, M_rowMany, (0 : Int32), M_mode, M_under, M_slope, M_base, M_slipSlope, M_slipBase, M_offset, M_bearer, M_bearers, M_matrix, M_loadOver, M_loadUnder, M_eventMany, M_eventKind, M_eventBolt, M_eventOver, M_eventUnder, M_had, M_nextOver, M_nextUnder, M_met, M_fresh, M_aheadOver, M_aheadUnder, M_behindOver, M_behindUnder)
  else
    bd27 (f_M_growTo F l1 M_now M_many M_upper M_lower M_mode M_under M_slope M_base M_slipSlope M_slipBase M_offset M_bearer M_bearers M_matrix M_loadOver M_loadUnder M_eventMany M_eventKind M_eventBolt M_eventOver M_eventUnder M_had M_nextOver M_nextUnder M_met M_fresh M_aheadOver M_aheadUnder M_behindOver M_behindUnder) fun r_16 M_mode_16 M_under_16 M_slope_16 M_base_16 M_slipSlope_16 M_slipBase_16 M_offset_16 M_bearer_16 M_bearers_16 M_matrix_16 M_loadOver_16 M_loadUnder_16 M_eventMany_16 M_eventKind_16 M_eventBolt_16 M_eventOver_16 M_eventUnder_16 M_had_16 M_nextOver_16 M_nextUnder_16 M_met_16 M_fresh_16 M_aheadOver_16 M_aheadUnder_16 M_behindOver_16 M_behindUnder_16 =>
    bd2 (iter (un3 (fb_M_idle_28 r_16 M_now M_many M_mode_16 M_under_16 M_slope_16 M_base_16 M_loadOver_16 M_loadUnder_16)) F ((0 : Int32), (0 : Int32), (0 : Int32))) fun l3_28 l4_28 =>
    bd2 (f_M_tell (Int32.toInt64 l4_28) M_row (0 : Int32)) fun M_row_110 M_rowMany_110 =>
    some (l3_28, M_row_110, M_rowMany_110, (0 : Int32), M_mode_16, M_under_16, M_slope_16, M_base_16, M_slipSlope_16, M_slipBase_16, M_offset_16, M_bearer_16, M_bearers_16, M_matrix_16, M_loadOver_16, M_loadUnder_16, M_eventMany_16, M_eventKind_16, M_eventBolt_16, M_eventOver_16, M_eventUnder_16, M_had_16, M_nextOver_16, M_nextUnder_16, M_met_16, M_fresh_16, M_aheadOver_16, M_aheadUnder_16, M_behindOver_16, M_behindUnder_16)
noncomputable def fj_M_hardest_83 (l2 : Int32) (l4 : Int32) (s0 : Int32) (s1 : Int32) : Option ((Int32 × Int32 × Int32) ⊕ (Int32 × Int32)) :=
  nm (s0 + s1) fun l3_84 =>
  nm (l4 + (1 : Int32)) fun l4_85 =>
  some (.inl (l2, l3_84, l4_85))
noncomputable def fj_M_hardest_66 (l2 : Int32) (l3 : Int32) (l4 : Int32) (M_slope : Nat → Int64) (M_base : Nat → Int64) (M_loadOver : Int64) (M_loadUnder : Int64) : Option ((Int32 × Int32 × Int32) ⊕ (Int32 × Int32)) :=
  (f_M_forceThere l4 M_slope M_base M_loadOver M_loadUnder).bind fun r_70 =>
  if r_70 ≤ (0 : Int64) then
    fj_M_hardest_83 l2 l4 l3 (0 : Int32)
  else
    fj_M_hardest_83 l2 l4 l3 (1 : Int32)
noncomputable def fb_M_hardest_39 (M_many : Int32) (M_slope : Nat → Int64) (M_base : Nat → Int64) (M_loadOver : Int64) (M_loadUnder : Int64) (l2 : Int32) (l3 : Int32) (l4 : Int32) : Option ((Int32 × Int32 × Int32) ⊕ (Int32 × Int32)) :=
  if M_many ≤ l4 then
    some (.inr (l2, l3))
  else
    (f_M_forceThere l4 M_slope M_base M_loadOver M_loadUnder).bind fun r_51 =>
    (f_M_forceThere l2 M_slope M_base M_loadOver M_loadUnder).bind fun r_56 =>
    if r_51 ≤ r_56 then
      fj_M_hardest_66 l2 l3 l4 M_slope M_base M_loadOver M_loadUnder
    else
      fj_M_hardest_66 l4 l3 l4 M_slope M_base M_loadOver M_loadUnder
noncomputable def f_M_hardest (F : Nat) (l1 : Int32) (M_now : Nat → Int32) (M_many : Int32) (M_upper : Int32) (M_lower : Int32) (M_row : Nat → Int64) (M_rowMany : Int32) (M_thrown : Int32) (M_mode : Nat → Int32) (M_under : Int64) (M_slope : Nat → Int64) (M_base : Nat → Int64) (M_slipSlope : Nat → Int64) (M_slipBase : Nat → Int64) (M_offset : Nat → Int64) (M_bearer : Nat → Int32) (M_bearers : Int32) (M_matrix : Nat → Int64) (M_loadOver : Int64) (M_loadUnder : Int64) (M_eventMany : Int32) (M_eventKind : Nat → Int32) (M_eventBolt : Nat → Int32) (M_eventOver : Nat → Int64) (M_eventUnder : Nat → Int64) (M_had : Nat → Int32) (M_nextOver : Int64) (M_nextUnder : Int64) (M_met : Nat → Int32) (M_fresh : Nat → Int32) (M_aheadOver : Nat → Int64) (M_aheadUnder : Nat → Int64) (M_behindOver : Nat → Int64) (M_behindUnder : Nat → Int64) : Option (Int32 × (Nat → Int64) × Int32 × Int32 × (Nat → Int32) × Int64 × (Nat → Int64) × (Nat → Int64) × (Nat → Int64) × (Nat → Int64) × (Nat → Int64) × (Nat → Int32) × Int32 × (Nat → Int64) × Int64 × Int64 × Int32 × (Nat → Int32) × (Nat → Int32) × (Nat → Int64) × (Nat → Int64) × (Nat → Int32) × Int64 × Int64 × (Nat → Int32) × (Nat → Int32) × (Nat → Int64) × (Nat → Int64) × (Nat → Int64) × (Nat → Int64)) :=
  if M_many = (0 : Int32) then
    some ((-1 : Int32), M_row, M_rowMany, (0 : Int32), M_mode, M_under, M_slope, M_base, M_slipSlope, M_slipBase, M_offset, M_bearer, M_bearers, M_matrix, M_loadOver, M_loadUnder, M_eventMany, M_eventKind, M_eventBolt, M_eventOver, M_eventUnder, M_had, M_nextOver, M_nextUnder, M_met, M_fresh, M_aheadOver, M_aheadUnder, M_behindOver, M_behindUnder)
  else
    (f_M_isLoad l1).bind fun r_13 =>
    if r_13 = (0 : Int32) then
      some ((-1 : Int32), M_row, M_rowMany, (0 : Int32), M_mode, M_under, M_slope, M_base, M_slipSlope, M_slipBase, M_offset, M_bearer, M_bearers, M_matrix, M_loadOver, M_loadUnder, M_eventMany, M_eventKind, M_eventBolt, M_eventOver, M_eventUnder, M_had, M_nextOver, M_nextUnder, M_met, M_fresh, M_aheadOver, M_aheadUnder, M_behindOver, M_behindUnder)
    else
      bd27 (f_M_growTo F l1 M_now M_many M_upper M_lower M_mode M_under M_slope M_base M_slipSlope M_slipBase M_offset M_bearer M_bearers M_matrix M_loadOver M_loadUnder M_eventMany M_eventKind M_eventBolt M_eventOver M_eventUnder M_had M_nextOver M_nextUnder M_met M_fresh M_aheadOver M_aheadUnder M_behindOver M_behindUnder) fun r_23 M_mode_23 M_under_23 M_slope_23 M_base_23 M_slipSlope_23 M_slipBase_23 M_offset_23 M_bearer_23 M_bearers_23 M_matrix_23 M_loadOver_23 M_loadUnder_23 M_eventMany_23 M_eventKind_23 M_eventBolt_23 M_eventOver_23 M_eventUnder_23 M_had_23 M_nextOver_23 M_nextUnder_23 M_met_23 M_fresh_23 M_aheadOver_23 M_aheadUnder_23 M_behindOver_23 M_behindUnder_23 =>
      if r_23 = (0 : Int32) then
        some ((-2 : Int32), M_row, M_rowMany, (0 : Int32), M_mode_23, M_under_23, M_slope_23, M_base_23, M_slipSlope_23, M_slipBase_23, M_offset_23, M_bearer_23, M_bearers_23, M_matrix_23, M_loadOver_23, M_loadUnder_23, M_eventMany_23, M_eventKind_23, M_eventBolt_23, M_eventOver_23, M_eventUnder_23, M_had_23, M_nextOver_23, M_nextUnder_23, M_met_23, M_fresh_23, M_aheadOver_23, M_aheadUnder_23, M_behindOver_23, M_behindUnder_23)
      else
        bd2 (iter (un3 (fb_M_hardest_39 M_many M_slope_23 M_base_23 M_loadOver_23 M_loadUnder_23)) F ((0 : Int32), (0 : Int32), (0 : Int32))) fun l2_39 l3_39 =>
        if l1 = (0 : Int32) then
          bd2 (f_M_tell (0 : Int64) M_row (0 : Int32)) fun M_row_122 M_rowMany_122 =>
          bd2 (f_M_tell (Int32.toInt64 l3_39) M_row_122 M_rowMany_122) fun M_row_128 M_rowMany_128 =>
          some (l2_39, M_row_128, M_rowMany_128, (0 : Int32), M_mode_23, M_under_23, M_slope_23, M_base_23, M_slipSlope_23, M_slipBase_23, M_offset_23, M_bearer_23, M_bearers_23, M_matrix_23, M_loadOver_23, M_loadUnder_23, M_eventMany_23, M_eventKind_23, M_eventBolt_23, M_eventOver_23, M_eventUnder_23, M_had_23, M_nextOver_23, M_nextUnder_23, M_met_23, M_fresh_23, M_aheadOver_23, M_aheadUnder_23, M_behindOver_23, M_behindUnder_23)
        else
          (f_M_forceThere l2_39 M_slope_23 M_base_23 M_loadOver_23 M_loadUnder_23).bind fun r_110 =>
          (f_M_unitThere M_under_23 M_loadUnder_23).bind fun r_117 =>
          (dvL ((1000 : Int64) * r_110) ((Int32.toInt64 l1) * r_117)).bind fun v_121 =>
          bd2 (f_M_tell v_121 M_row (0 : Int32)) fun M_row_122 M_rowMany_122 =>
          bd2 (f_M_tell (Int32.toInt64 l3_39) M_row_122 M_rowMany_122) fun M_row_128 M_rowMany_128 =>
          some (l2_39, M_row_128, M_rowMany_128, (0 : Int32), M_mode_23, M_under_23, M_slope_23, M_base_23, M_slipSlope_23, M_slipBase_23, M_offset_23, M_bearer_23, M_bearers_23, M_matrix_23, M_loadOver_23, M_loadUnder_23, M_eventMany_23, M_eventKind_23, M_eventBolt_23, M_eventOver_23, M_eventUnder_23, M_had_23, M_nextOver_23, M_nextUnder_23, M_met_23, M_fresh_23, M_aheadOver_23, M_aheadUnder_23, M_behindOver_23, M_behindUnder_23)
noncomputable def fb_M_margin_38 (l1 : Int32) (M_eventOver : Nat → Int64) (M_eventUnder : Nat → Int64) (l2 : Int32) : Option ((Int32) ⊕ (Int32)) :=
  (ldA M_eventOver 32 l2).bind fun v_43 =>
  (ldA M_eventUnder 32 l2).bind fun v_51 =>
  if ((Int32.toInt64 l1) * v_51) < v_43 then
    some (.inr l2)
  else
    nm (l2 + (1 : Int32)) fun l2_57 =>
    some (.inl l2_57)
noncomputable def f_M_margin (F : Nat) (l1 : Int32) (M_now : Nat → Int32) (M_many : Int32) (M_upper : Int32) (M_lower : Int32) (M_row : Nat → Int64) (M_rowMany : Int32) (M_thrown : Int32) (M_mode : Nat → Int32) (M_under : Int64) (M_slope : Nat → Int64) (M_base : Nat → Int64) (M_slipSlope : Nat → Int64) (M_slipBase : Nat → Int64) (M_offset : Nat → Int64) (M_bearer : Nat → Int32) (M_bearers : Int32) (M_matrix : Nat → Int64) (M_loadOver : Int64) (M_loadUnder : Int64) (M_eventMany : Int32) (M_eventKind : Nat → Int32) (M_eventBolt : Nat → Int32) (M_eventOver : Nat → Int64) (M_eventUnder : Nat → Int64) (M_had : Nat → Int32) (M_nextOver : Int64) (M_nextUnder : Int64) (M_met : Nat → Int32) (M_fresh : Nat → Int32) (M_aheadOver : Nat → Int64) (M_aheadUnder : Nat → Int64) (M_behindOver : Nat → Int64) (M_behindUnder : Nat → Int64) : Option (Int32 × (Nat → Int64) × Int32 × Int32 × (Nat → Int32) × Int64 × (Nat → Int64) × (Nat → Int64) × (Nat → Int64) × (Nat → Int64) × (Nat → Int64) × (Nat → Int32) × Int32 × (Nat → Int64) × Int64 × Int64 × Int32 × (Nat → Int32) × (Nat → Int32) × (Nat → Int64) × (Nat → Int64) × (Nat → Int32) × Int64 × Int64 × (Nat → Int32) × (Nat → Int32) × (Nat → Int64) × (Nat → Int64) × (Nat → Int64) × (Nat → Int64)) :=
  if M_many = (0 : Int32) then
    some ((-1 : Int32), M_row, M_rowMany, (0 : Int32), M_mode, M_under, M_slope, M_base, M_slipSlope, M_slipBase, M_offset, M_bearer, M_bearers, M_matrix, M_loadOver, M_loadUnder, M_eventMany, M_eventKind, M_eventBolt, M_eventOver, M_eventUnder, M_had, M_nextOver, M_nextUnder, M_met, M_fresh, M_aheadOver, M_aheadUnder, M_behindOver, M_behindUnder)
  else
    (f_M_isLoad l1).bind fun r_13 =>
    if r_13 = (0 : Int32) then
      some ((-1 : Int32), M_row, M_rowMany, (0 : Int32), M_mode, M_under, M_slope, M_base, M_slipSlope, M_slipBase, M_offset, M_bearer, M_bearers, M_matrix, M_loadOver, M_loadUnder, M_eventMany, M_eventKind, M_eventBolt, M_eventOver, M_eventUnder, M_had, M_nextOver, M_nextUnder, M_met, M_fresh, M_aheadOver, M_aheadUnder, M_behindOver, M_behindUnder)
    else
      bd27 (f_M_growTo F l1 M_now M_many M_upper M_lower M_mode M_under M_slope M_base M_slipSlope M_slipBase M_offset M_bearer M_bearers M_matrix M_loadOver M_loadUnder M_eventMany M_eventKind M_eventBolt M_eventOver M_eventUnder M_had M_nextOver M_nextUnder M_met M_fresh M_aheadOver M_aheadUnder M_behindOver M_behindUnder) fun r_23 M_mode_23 M_under_23 M_slope_23 M_base_23 M_slipSlope_23 M_slipBase_23 M_offset_23 M_bearer_23 M_bearers_23 M_matrix_23 M_loadOver_23 M_loadUnder_23 M_eventMany_23 M_eventKind_23 M_eventBolt_23 M_eventOver_23 M_eventUnder_23 M_had_23 M_nextOver_23 M_nextUnder_23 M_met_23 M_fresh_23 M_aheadOver_23 M_aheadUnder_23 M_behindOver_23 M_behindUnder_23 =>
      if r_23 = (0 : Int32) then
        some ((-2 : Int32), M_row, M_rowMany, (0 : Int32), M_mode_23, M_under_23, M_slope_23, M_base_23, M_slipSlope_23, M_slipBase_23, M_offset_23, M_bearer_23, M_bearers_23, M_matrix_23, M_loadOver_23, M_loadUnder_23, M_eventMany_23, M_eventKind_23, M_eventBolt_23, M_eventOver_23, M_eventUnder_23, M_had_23, M_nextOver_23, M_nextUnder_23, M_met_23, M_fresh_23, M_aheadOver_23, M_aheadUnder_23, M_behindOver_23, M_behindUnder_23)
      else
        bd26 (f_M_grow F M_now M_many M_upper M_lower M_mode_23 M_under_23 M_slope_23 M_base_23 M_slipSlope_23 M_slipBase_23 M_offset_23 M_bearer_23 M_bearers_23 M_matrix_23 M_loadOver_23 M_loadUnder_23 M_eventMany_23 M_eventKind_23 M_eventBolt_23 M_eventOver_23 M_eventUnder_23 M_had_23 M_nextOver_23 M_nextUnder_23 M_met_23 M_fresh_23 M_aheadOver_23 M_aheadUnder_23 M_behindOver_23 M_behindUnder_23) fun M_mode_33 M_under_33 M_slope_33 M_base_33 M_slipSlope_33 M_slipBase_33 M_offset_33 M_bearer_33 M_bearers_33 M_matrix_33 M_loadOver_33 M_loadUnder_33 M_eventMany_33 M_eventKind_33 M_eventBolt_33 M_eventOver_33 M_eventUnder_33 M_had_33 M_nextOver_33 M_nextUnder_33 M_met_33 M_fresh_33 M_aheadOver_33 M_aheadUnder_33 M_behindOver_33 M_behindUnder_33 =>
        (iter (fb_M_margin_38 l1 M_eventOver_33 M_eventUnder_33) F (0 : Int32)).bind fun l2_38 =>
        (ldA M_eventOver_33 32 l2_38).bind fun v_74 =>
        (ldA M_eventUnder_33 32 l2_38).bind fun v_82 =>
        (ldA M_eventUnder_33 32 l2_38).bind fun v_90 =>
        bd2 (f_M_tellFraction F (v_74 - ((Int32.toInt64 l1) * v_82)) v_90 M_row (0 : Int32)) fun M_row_91 M_rowMany_91 =>
        (ldA M_eventKind_33 32 l2_38).bind fun v_100 =>
        bd2 (f_M_tell (Int32.toInt64 v_100) M_row_91 M_rowMany_91) fun M_row_102 M_rowMany_102 =>
        (ldA M_eventBolt_33 32 l2_38).bind fun v_111 =>
        bd2 (f_M_tell (Int32.toInt64 v_111) M_row_102 M_rowMany_102) fun M_row_113 M_rowMany_113 =>
        some ((0 : Int32), M_row_113, M_rowMany_113, (0 : Int32), M_mode_33, M_under_33, M_slope_33, M_base_33, M_slipSlope_33, M_slipBase_33, M_offset_33, M_bearer_33, M_bearers_33, M_matrix_33, M_loadOver_33, M_loadUnder_33, M_eventMany_33, M_eventKind_33, M_eventBolt_33, M_eventOver_33, M_eventUnder_33, M_had_33, M_nextOver_33, M_nextUnder_33, M_met_33, M_fresh_33, M_aheadOver_33, M_aheadUnder_33, M_behindOver_33, M_behindUnder_33)
noncomputable def f_M_square (l1 : Int64) : Option (Int64) :=
  some (l1 * l1)
noncomputable def fj_M_work_211 (l4 : Int64) (l6 : Int64) (l8 : Int32) : Option ((Int64 × Int64 × Int32) ⊕ (Int64 × Int64)) :=
  nm (l8 + (1 : Int32)) fun l8_211 =>
  some (.inl (l4, l6, l8_211))
noncomputable def fj_M_work_141 (F : Nat) (l1 : Int32) (l2 : Int64) (l6 : Int64) (l8 : Int32) (s0 : Int64) (s1 : Int64) (M_now : Nat → Int32) (M_many : Int32) (M_upper : Int32) (M_lower : Int32) (M_slope : Nat → Int64) (M_base : Nat → Int64) (M_loadOver : Int64) (M_loadUnder : Int64) : Option ((Int64 × Int64 × Int32) ⊕ (Int64 × Int64)) :=
  nm (s0 + s1) fun l4_142 =>
  if l8 = (M_many - (1 : Int32)) then
    fj_M_work_211 l4_142 l6 l8
  else
    (f_M_of l8 (6 : Int32) M_now).bind fun r_165 =>
    (f_M_borne F l8 M_slope M_base M_loadOver M_loadUnder).bind fun r_182 =>
    (f_M_square (((Int32.toInt64 l1) * l2) - r_182)).bind fun r_186 =>
    (f_M_borne F l8 M_slope M_base M_loadOver M_loadUnder).bind fun r_199 =>
    (f_M_square r_199).bind fun r_202 =>
    nm (l6 + ((Int32.toInt64 r_165) * (((Int32.toInt64 M_upper) * r_186) + ((Int32.toInt64 M_lower) * r_202)))) fun l6_209 =>
    fj_M_work_211 l4_142 l6_209 l8
noncomputable def fb_M_work_46 (F : Nat) (l1 : Int32) (l2 : Int64) (M_now : Nat → Int32) (M_many : Int32) (M_upper : Int32) (M_lower : Int32) (M_slope : Nat → Int64) (M_base : Nat → Int64) (M_loadOver : Int64) (M_loadUnder : Int64) (l4 : Int64) (l6 : Int64) (l8 : Int32) : Option ((Int64 × Int64 × Int32) ⊕ (Int64 × Int64)) :=
  if M_many ≤ l8 then
    some (.inr (l4, l6))
  else
    (f_M_forceThere l8 M_slope M_base M_loadOver M_loadUnder).bind fun r_58 =>
    (f_M_of l8 (2 : Int32) M_now).bind fun r_67 =>
    nm ((Int32.toInt64 r_67) * l2) fun l11_73 =>
    if r_58 ≤ l11_73 then
      (f_M_of l8 (0 : Int32) M_now).bind fun r_130 =>
      (f_M_square r_58).bind fun r_137 =>
      fj_M_work_141 F l1 l2 l6 l8 l4 ((Int32.toInt64 r_130) * r_137) M_now M_many M_upper M_lower M_slope M_base M_loadOver M_loadUnder
    else
      (f_M_of l8 (0 : Int32) M_now).bind fun r_89 =>
      (f_M_square l11_73).bind fun r_96 =>
      (f_M_of l8 (3 : Int32) M_now).bind fun r_104 =>
      (f_M_square r_58).bind fun r_111 =>
      (f_M_square l11_73).bind fun r_117 =>
      fj_M_work_141 F l1 l2 l6 l8 l4 (((Int32.toInt64 r_89) * r_96) + ((Int32.toInt64 r_104) * (r_111 - r_117))) M_now M_many M_upper M_lower M_slope M_base M_loadOver M_loadUnder
noncomputable def f_M_work (F : Nat) (l1 : Int32) (M_now : Nat → Int32) (M_many : Int32) (M_upper : Int32) (M_lower : Int32) (M_row : Nat → Int64) (M_rowMany : Int32) (M_thrown : Int32) (M_mode : Nat → Int32) (M_under : Int64) (M_slope : Nat → Int64) (M_base : Nat → Int64) (M_slipSlope : Nat → Int64) (M_slipBase : Nat → Int64) (M_offset : Nat → Int64) (M_bearer : Nat → Int32) (M_bearers : Int32) (M_matrix : Nat → Int64) (M_loadOver : Int64) (M_loadUnder : Int64) (M_eventMany : Int32) (M_eventKind : Nat → Int32) (M_eventBolt : Nat → Int32) (M_eventOver : Nat → Int64) (M_eventUnder : Nat → Int64) (M_had : Nat → Int32) (M_nextOver : Int64) (M_nextUnder : Int64) (M_met : Nat → Int32) (M_fresh : Nat → Int32) (M_aheadOver : Nat → Int64) (M_aheadUnder : Nat → Int64) (M_behindOver : Nat → Int64) (M_behindUnder : Nat → Int64) : Option (Int32 × (Nat → Int64) × Int32 × Int32 × (Nat → Int32) × Int64 × (Nat → Int64) × (Nat → Int64) × (Nat → Int64) × (Nat → Int64) × (Nat → Int64) × (Nat → Int32) × Int32 × (Nat → Int64) × Int64 × Int64 × Int32 × (Nat → Int32) × (Nat → Int32) × (Nat → Int64) × (Nat → Int64) × (Nat → Int32) × Int64 × Int64 × (Nat → Int32) × (Nat → Int32) × (Nat → Int64) × (Nat → Int64) × (Nat → Int64) × (Nat → Int64)) :=
  if M_many = (0 : Int32) then
    some ((-1 : Int32), M_row, M_rowMany, (0 : Int32), M_mode, M_under, M_slope, M_base, M_slipSlope, M_slipBase, M_offset, M_bearer, M_bearers, M_matrix, M_loadOver, M_loadUnder, M_eventMany, M_eventKind, M_eventBolt, M_eventOver, M_eventUnder, M_had, M_nextOver, M_nextUnder, M_met, M_fresh, M_aheadOver, M_aheadUnder, M_behindOver, M_behindUnder)
  else
    (f_M_isLoad l1).bind fun r_13 =>
    if r_13 = (0 : Int32) then
      some ((-1 : Int32), M_row, M_rowMany, (0 : Int32), M_mode, M_under, M_slope, M_base, M_slipSlope, M_slipBase, M_offset, M_bearer, M_bearers, M_matrix, M_loadOver, M_loadUnder, M_eventMany, M_eventKind, M_eventBolt, M_eventOver, M_eventUnder, M_had, M_nextOver, M_nextUnder, M_met, M_fresh, M_aheadOver, M_aheadUnder, M_behindOver, M_behindUnder)
    else
      bd27 (f_M_growTo F l1 M_now M_many M_upper M_lower M_mode M_under M_slope M_base M_slipSlope M_slipBase M_offset M_bearer M_bearers M_matrix M_loadOver M_loadUnder M_eventMany M_eventKind M_eventBolt M_eventOver M_eventUnder M_had M_nextOver M_nextUnder M_met M_fresh M_aheadOver M_aheadUnder M_behindOver M_behindUnder) fun r_23 M_mode_23 M_under_23 M_slope_23 M_base_23 M_slipSlope_23 M_slipBase_23 M_offset_23 M_bearer_23 M_bearers_23 M_matrix_23 M_loadOver_23 M_loadUnder_23 M_eventMany_23 M_eventKind_23 M_eventBolt_23 M_eventOver_23 M_eventUnder_23 M_had_23 M_nextOver_23 M_nextUnder_23 M_met_23 M_fresh_23 M_aheadOver_23 M_aheadUnder_23 M_behindOver_23 M_behindUnder_23 =>
      if r_23 = (0 : Int32) then
        some ((-2 : Int32), M_row, M_rowMany, (0 : Int32), M_mode_23, M_under_23, M_slope_23, M_base_23, M_slipSlope_23, M_slipBase_23, M_offset_23, M_bearer_23, M_bearers_23, M_matrix_23, M_loadOver_23, M_loadUnder_23, M_eventMany_23, M_eventKind_23, M_eventBolt_23, M_eventOver_23, M_eventUnder_23, M_had_23, M_nextOver_23, M_nextUnder_23, M_met_23, M_fresh_23, M_aheadOver_23, M_aheadUnder_23, M_behindOver_23, M_behindUnder_23)
      else
        (f_M_unitThere M_under_23 M_loadUnder_23).bind fun r_33 =>
        bd2 (iter (un3 (fb_M_work_46 F l1 r_33 M_now M_many M_upper M_lower M_slope_23 M_base_23 M_loadOver_23 M_loadUnder_23)) F ((0 : Int64), (0 : Int64), (0 : Int32))) fun l4_46 l6_46 =>
        (f_M_square r_33).bind fun r_227 =>
        bd2 (f_M_tellFraction F l4_46 r_227 M_row (0 : Int32)) fun M_row_230 M_rowMany_230 =>
        (f_M_square r_33).bind fun r_238 =>
        bd2 (f_M_tellFraction F l6_46 r_238 M_row_230 M_rowMany_230) fun M_row_241 M_rowMany_241 =>
        some ((0 : Int32), M_row_241, M_rowMany_241, (0 : Int32), M_mode_23, M_under_23, M_slope_23, M_base_23, M_slipSlope_23, M_slipBase_23, M_offset_23, M_bearer_23, M_bearers_23, M_matrix_23, M_loadOver_23, M_loadUnder_23, M_eventMany_23, M_eventKind_23, M_eventBolt_23, M_eventOver_23, M_eventUnder_23, M_had_23, M_nextOver_23, M_nextUnder_23, M_met_23, M_fresh_23, M_aheadOver_23, M_aheadUnder_23, M_behindOver_23, M_behindUnder_23)
noncomputable def fj_M_laySets_80 (l1 : Int32) (s1 : Int32) (s2 : Int64) (s3 : Int64) (M_setOf : Nat → Int64) : Option ((Int32 × (Nat → Int64)) ⊕ ((Nat → Int64))) :=
  (stL M_setOf 5 s1 (s2 + s3)).bind fun M_setOf_81 =>
  nm (l1 + (1 : Int32)) fun l1_82 =>
  some (.inl (l1_82, M_setOf_81))
noncomputable def fb_M_laySets_10 (M_now : Nat → Int32) (M_many : Int32) (M_slope : Nat → Int64) (M_base : Nat → Int64) (M_loadOver : Int64) (M_loadUnder : Int64) (M_unit : Int64) (l1 : Int32) (M_setOf : Nat → Int64) : Option ((Int32 × (Nat → Int64)) ⊕ ((Nat → Int64))) :=
  if M_many ≤ l1 then
    some (.inr M_setOf)
  else
    (f_M_forceThere l1 M_slope M_base M_loadOver M_loadUnder).bind fun r_20 =>
    (f_M_of l1 (2 : Int32) M_now).bind fun r_26 =>
    nm (r_20 - ((Int32.toInt64 r_26) * M_unit)) fun l2_36 =>
    (f_M_of l1 (1 : Int32) M_now).bind fun r_45 =>
    if l2_36 ≤ (0 : Int64) then
      fj_M_laySets_80 l1 l1 ((Int32.toInt64 r_45) * M_unit) (0 : Int64) M_setOf
    else
      (f_M_of l1 (3 : Int32) M_now).bind fun r_63 =>
      (f_M_of l1 (0 : Int32) M_now).bind fun r_69 =>
      fj_M_laySets_80 l1 l1 ((Int32.toInt64 r_45) * M_unit) ((Int32.toInt64 (r_63 - r_69)) * l2_36) M_setOf
noncomputable def f_M_laySets (F : Nat) (M_now : Nat → Int32) (M_many : Int32) (M_under : Int64) (M_slope : Nat → Int64) (M_base : Nat → Int64) (M_loadOver : Int64) (M_loadUnder : Int64) (M_setOf : Nat → Int64) (M_unit : Int64) : Option ((Nat → Int64) × Int64) :=
  (f_M_unitThere M_under M_loadUnder).bind fun r_2 =>
  (iter (un2 (fb_M_laySets_10 M_now M_many M_slope M_base M_loadOver M_loadUnder r_2)) F ((0 : Int32), M_setOf)).bind fun M_setOf_10 =>
  some (M_setOf_10, r_2)
noncomputable def f_M_set (F : Nat) (l1 : Int32) (l2 : Int32) (M_now : Nat → Int32) (M_many : Int32) (M_upper : Int32) (M_lower : Int32) (M_row : Nat → Int64) (M_rowMany : Int32) (M_thrown : Int32) (M_mode : Nat → Int32) (M_under : Int64) (M_slope : Nat → Int64) (M_base : Nat → Int64) (M_slipSlope : Nat → Int64) (M_slipBase : Nat → Int64) (M_offset : Nat → Int64) (M_bearer : Nat → Int32) (M_bearers : Int32) (M_matrix : Nat → Int64) (M_loadOver : Int64) (M_loadUnder : Int64) (M_eventMany : Int32) (M_eventKind : Nat → Int32) (M_eventBolt : Nat → Int32) (M_eventOver : Nat → Int64) (M_eventUnder : Nat → Int64) (M_had : Nat → Int32) (M_nextOver : Int64) (M_nextUnder : Int64) (M_met : Nat → Int32) (M_fresh : Nat → Int32) (M_aheadOver : Nat → Int64) (M_aheadUnder : Nat → Int64) (M_behindOver : Nat → Int64) (M_behindUnder : Nat → Int64) (M_setOf : Nat → Int64) (M_unit : Int64) : Option (Int32 × (Nat → Int64) × Int32 × Int32 × (Nat → Int32) × Int64 × (Nat → Int64) × (Nat → Int64) × (Nat → Int64) × (Nat → Int64) × (Nat → Int64) × (Nat → Int32) × Int32 × (Nat → Int64) × Int64 × Int64 × Int32 × (Nat → Int32) × (Nat → Int32) × (Nat → Int64) × (Nat → Int64) × (Nat → Int32) × Int64 × Int64 × (Nat → Int32) × (Nat → Int32) × (Nat → Int64) × (Nat → Int64) × (Nat → Int64) × (Nat → Int64) × (Nat → Int64) × Int64) :=
  (f_M_isBolt l2 M_many).bind fun r_7 =>
  if r_7 = (0 : Int32) then
    some ((-1 : Int32), M_row, M_rowMany, (0 : Int32), M_mode, M_under, M_slope, M_base, M_slipSlope, M_slipBase, M_offset, M_bearer, M_bearers, M_matrix, M_loadOver, M_loadUnder, M_eventMany, M_eventKind, M_eventBolt, M_eventOver, M_eventUnder, M_had, M_nextOver, M_nextUnder, M_met, M_fresh, M_aheadOver, M_aheadUnder, M_behindOver, M_behindUnder, M_setOf, M_unit)
  else
    (f_M_isLoad l1).bind fun r_14 =>
    if r_14 = (0 : Int32) then
      some ((-1 : Int32), M_row, M_rowMany, (0 : Int32), M_mode, M_under, M_slope, M_base, M_slipSlope, M_slipBase, M_offset, M_bearer, M_bearers, M_matrix, M_loadOver, M_loadUnder, M_eventMany, M_eventKind, M_eventBolt, M_eventOver, M_eventUnder, M_had, M_nextOver, M_nextUnder, M_met, M_fresh, M_aheadOver, M_aheadUnder, M_behindOver, M_behindUnder, M_setOf, M_unit)
    else
      bd27 (f_M_growTo F l1 M_now M_many M_upper M_lower M_mode M_under M_slope M_base M_slipSlope M_slipBase M_offset M_bearer M_bearers M_matrix M_loadOver M_loadUnder M_eventMany M_eventKind M_eventBolt M_eventOver M_eventUnder M_had M_nextOver M_nextUnder M_met M_fresh M_aheadOver M_aheadUnder M_behindOver M_behindUnder) fun r_24 M_mode_24 M_under_24 M_slope_24 M_base_24 M_slipSlope_24 M_slipBase_24 M_offset_24 M_bearer_24 M_bearers_24 M_matrix_24 M_loadOver_24 M_loadUnder_24 M_eventMany_24 M_eventKind_24 M_eventBolt_24 M_eventOver_24 M_eventUnder_24 M_had_24 M_nextOver_24 M_nextUnder_24 M_met_24 M_fresh_24 M_aheadOver_24 M_aheadUnder_24 M_behindOver_24 M_behindUnder_24 =>
      if r_24 = (0 : Int32) then
        some ((-2 : Int32), M_row, M_rowMany, (0 : Int32), M_mode_24, M_under_24, M_slope_24, M_base_24, M_slipSlope_24, M_slipBase_24, M_offset_24, M_bearer_24, M_bearers_24, M_matrix_24, M_loadOver_24, M_loadUnder_24, M_eventMany_24, M_eventKind_24, M_eventBolt_24, M_eventOver_24, M_eventUnder_24, M_had_24, M_nextOver_24, M_nextUnder_24, M_met_24, M_fresh_24, M_aheadOver_24, M_aheadUnder_24, M_behindOver_24, M_behindUnder_24, M_setOf, M_unit)
      else
        (f_M_isLive l2 M_mode_24).bind fun r_35 =>
        if r_35 = (0 : Int32) then
          some ((-3 : Int32), M_row, M_rowMany, (0 : Int32), M_mode_24, M_under_24, M_slope_24, M_base_24, M_slipSlope_24, M_slipBase_24, M_offset_24, M_bearer_24, M_bearers_24, M_matrix_24, M_loadOver_24, M_loadUnder_24, M_eventMany_24, M_eventKind_24, M_eventBolt_24, M_eventOver_24, M_eventUnder_24, M_had_24, M_nextOver_24, M_nextUnder_24, M_met_24, M_fresh_24, M_aheadOver_24, M_aheadUnder_24, M_behindOver_24, M_behindUnder_24, M_setOf, M_unit)
        else
          bd2 (f_M_laySets F M_now M_many M_under_24 M_slope_24 M_base_24 M_loadOver_24 M_loadUnder_24 M_setOf M_unit) fun M_setOf_45 M_unit_45 =>
          (ldA M_setOf_45 5 l2).bind fun v_59 =>
          bd2 (f_M_tellFraction F v_59 M_unit_45 M_row (0 : Int32)) fun M_row_64 M_rowMany_64 =>
          some ((0 : Int32), M_row_64, M_rowMany_64, (0 : Int32), M_mode_24, M_under_24, M_slope_24, M_base_24, M_slipSlope_24, M_slipBase_24, M_offset_24, M_bearer_24, M_bearers_24, M_matrix_24, M_loadOver_24, M_loadUnder_24, M_eventMany_24, M_eventKind_24, M_eventBolt_24, M_eventOver_24, M_eventUnder_24, M_had_24, M_nextOver_24, M_nextUnder_24, M_met_24, M_fresh_24, M_aheadOver_24, M_aheadUnder_24, M_behindOver_24, M_behindUnder_24, M_setOf_45, M_unit_45)
noncomputable def fj_M_solveFalling_29 (l2 : Int32) (M_mode : Nat → Int32) (M_offset : Nat → Int64) (M_setOf : Nat → Int64) : Option ((Int32 × (Nat → Int32) × (Nat → Int64)) ⊕ ((Nat → Int32) × (Nat → Int64))) :=
  (ldA M_setOf 5 l2).bind fun v_39 =>
  (stL M_offset 5 l2 v_39).bind fun M_offset_40 =>
  nm (l2 + (1 : Int32)) fun l2_41 =>
  some (.inl (l2_41, M_mode, M_offset_40))
noncomputable def fb_M_solveFalling_2 (l1 : Int32) (M_many : Int32) (M_setOf : Nat → Int64) (l2 : Int32) (M_mode : Nat → Int32) (M_offset : Nat → Int64) : Option ((Int32 × (Nat → Int32) × (Nat → Int64)) ⊕ ((Nat → Int32) × (Nat → Int64))) :=
  if M_many ≤ l2 then
    some (.inr (M_mode, M_offset))
  else
    (f_M_isLive l2 M_mode).bind fun r_12 =>
    if r_12 = (0 : Int32) then
      fj_M_solveFalling_29 l2 M_mode M_offset M_setOf
    else
      (stI M_mode 5 l2 ((l1 >>> (l2 &&& 31)) &&& (1 : Int32))).bind fun M_mode_28 =>
      fj_M_solveFalling_29 l2 M_mode_28 M_offset M_setOf
noncomputable def f_M_solveFalling (F : Nat) (l1 : Int32) (M_now : Nat → Int32) (M_many : Int32) (M_upper : Int32) (M_lower : Int32) (M_mode : Nat → Int32) (M_under : Int64) (M_slope : Nat → Int64) (M_base : Nat → Int64) (M_slipSlope : Nat → Int64) (M_slipBase : Nat → Int64) (M_offset : Nat → Int64) (M_bearer : Nat → Int32) (M_bearers : Int32) (M_matrix : Nat → Int64) (M_setOf : Nat → Int64) : Option ((Nat → Int32) × Int64 × (Nat → Int64) × (Nat → Int64) × (Nat → Int64) × (Nat → Int64) × (Nat → Int64) × (Nat → Int32) × Int32 × (Nat → Int64)) :=
  bd2 (iter (un3 (fb_M_solveFalling_2 l1 M_many M_setOf)) F ((0 : Int32), M_mode, M_offset)) fun M_mode_2 M_offset_2 =>
  bd8 (f_M_solveBy F M_now M_many M_upper M_lower M_mode_2 M_under M_slope M_base M_slipSlope M_slipBase M_offset_2 M_bearer M_bearers M_matrix) fun M_under_48 M_slope_48 M_base_48 M_slipSlope_48 M_slipBase_48 M_bearer_48 M_bearers_48 M_matrix_48 =>
  some (M_mode_2, M_under_48, M_slope_48, M_base_48, M_slipSlope_48, M_slipBase_48, M_offset_2, M_bearer_48, M_bearers_48, M_matrix_48)
noncomputable def f_M_fallenForce (l1 : Int32) (l2 : Int32) (M_slope : Nat → Int64) (M_base : Nat → Int64) (M_unit : Int64) : Option (Int64) :=
  (ldA M_slope 5 l1).bind fun v_5 =>
  (ldA M_base 5 l1).bind fun v_19 =>
  some (((v_5 * (Int32.toInt64 l2)) * M_unit) + v_19)
noncomputable def f_M_fallenSlip (l1 : Int32) (l2 : Int32) (M_slipSlope : Nat → Int64) (M_slipBase : Nat → Int64) (M_unit : Int64) : Option (Int64) :=
  (ldA M_slipSlope 5 l1).bind fun v_5 =>
  (ldA M_slipBase 5 l1).bind fun v_19 =>
  some (((v_5 * (Int32.toInt64 l2)) * M_unit) + v_19)
noncomputable def fj_M_isFallen_29 (l3 : Int32) : Option ((Int32) ⊕ (Nat)) :=
  nm (l3 + (1 : Int32)) fun l3_29 =>
  some (.inl l3_29)
noncomputable def fb_M_isFallen_2 (l1 : Int32) (M_many : Int32) (M_mode : Nat → Int32) (l3 : Int32) : Option ((Int32) ⊕ (Nat)) :=
  if M_many ≤ l3 then
    some (.inr 1)
  else
    if ((l1 >>> (l3 &&& 31)) &&& (1 : Int32)) = (1 : Int32) then
      (f_M_isLive l3 M_mode).bind fun r_21 =>
      if r_21 = (0 : Int32) then
        some (.inr 0)
      else
        fj_M_isFallen_29 l3
    else
      fj_M_isFallen_29 l3
noncomputable def fj_M_isFallen_108 (l3 : Int32) : Option ((Int32) ⊕ (Nat)) :=
  nm (l3 + (1 : Int32)) fun l3_108 =>
  some (.inl l3_108)
noncomputable def fb_M_isFallen_42 (l2 : Int32) (M_many : Int32) (M_mode : Nat → Int32) (M_under : Int64) (M_slope : Nat → Int64) (M_base : Nat → Int64) (M_slipSlope : Nat → Int64) (M_slipBase : Nat → Int64) (M_setOf : Nat → Int64) (M_unit : Int64) (l3 : Int32) : Option ((Int32) ⊕ (Nat)) :=
  if M_many ≤ l3 then
    some (.inr 2)
  else
    (f_M_isLive l3 M_mode).bind fun r_52 =>
    if r_52 = (0 : Int32) then
      fj_M_isFallen_108 l3
    else
      (ldA M_mode 5 l3).bind fun v_66 =>
      if v_66 = (1 : Int32) then
        (f_M_fallenForce l3 l2 M_slope M_base M_unit).bind fun r_74 =>
        if (0 : Int64) < r_74 then
          fj_M_isFallen_108 l3
        else
          some (.inr 0)
      else
        (f_M_fallenSlip l3 l2 M_slipSlope M_slipBase M_unit).bind fun r_88 =>
        (ldA M_setOf 5 l3).bind fun v_96 =>
        if r_88 ≤ (v_96 * M_under) then
          fj_M_isFallen_108 l3
        else
          some (.inr 1)
noncomputable def f_M_isFallen (F : Nat) (l1 : Int32) (l2 : Int32) (M_now : Nat → Int32) (M_many : Int32) (M_upper : Int32) (M_lower : Int32) (M_mode : Nat → Int32) (M_under : Int64) (M_slope : Nat → Int64) (M_base : Nat → Int64) (M_slipSlope : Nat → Int64) (M_slipBase : Nat → Int64) (M_offset : Nat → Int64) (M_bearer : Nat → Int32) (M_bearers : Int32) (M_matrix : Nat → Int64) (M_setOf : Nat → Int64) (M_unit : Int64) : Option (Int32 × (Nat → Int32) × Int64 × (Nat → Int64) × (Nat → Int64) × (Nat → Int64) × (Nat → Int64) × (Nat → Int64) × (Nat → Int32) × Int32 × (Nat → Int64)) :=
  (iter (fb_M_isFallen_2 l1 M_many M_mode) F (0 : Int32)).bind fun c_2 =>
  if c_2 = 0 then
    some ((0 : Int32), M_mode, M_under, M_slope, M_base, M_slipSlope, M_slipBase, M_offset, M_bearer, M_bearers, M_matrix)
  else
    bd10 (f_M_solveFalling F l1 M_now M_many M_upper M_lower M_mode M_under M_slope M_base M_slipSlope M_slipBase M_offset M_bearer M_bearers M_matrix M_setOf) fun M_mode_37 M_under_37 M_slope_37 M_base_37 M_slipSlope_37 M_slipBase_37 M_offset_37 M_bearer_37 M_bearers_37 M_matrix_37 =>
    (iter (fb_M_isFallen_42 l2 M_many M_mode_37 M_under_37 M_slope_37 M_base_37 M_slipSlope_37 M_slipBase_37 M_setOf M_unit) F (0 : Int32)).bind fun c_42 =>
    if c_42 = 0 then
      some ((0 : Int32), M_mode_37, M_under_37, M_slope_37, M_base_37, M_slipSlope_37, M_slipBase_37, M_offset_37, M_bearer_37, M_bearers_37, M_matrix_37)
    else
    if c_42 = 1 then
      some ((0 : Int32), M_mode_37, M_under_37, M_slope_37, M_base_37, M_slipSlope_37, M_slipBase_37, M_offset_37, M_bearer_37, M_bearers_37, M_matrix_37)
    else
      some ((1 : Int32), M_mode_37, M_under_37, M_slope_37, M_base_37, M_slipSlope_37, M_slipBase_37, M_offset_37, M_bearer_37, M_bearers_37, M_matrix_37)
noncomputable def fj_M_leastSet_33 (l1 : Int64) (l3 : Int32) : Option ((Int64 × Int32) ⊕ (Int64)) :=
  nm (l3 + (1 : Int32)) fun l3_33 =>
  some (.inl (l1, l3_33))
noncomputable def fb_M_leastSet_6 (M_many : Int32) (M_mode : Nat → Int32) (M_setOf : Nat → Int64) (l1 : Int64) (l3 : Int32) : Option ((Int64 × Int32) ⊕ (Int64)) :=
  if M_many ≤ l3 then
    some (.inr l1)
  else
    (f_M_isLive l3 M_mode).bind fun r_16 =>
    if r_16 = (0 : Int32) then
      fj_M_leastSet_33 l1 l3
    else
      (ldA M_setOf 5 l3).bind fun v_28 =>
      nm (if v_28 < l1 then v_28 else l1) fun v_29 =>
      fj_M_leastSet_33 v_29 l3
noncomputable def f_M_leastSet (F : Nat) (M_many : Int32) (M_mode : Nat → Int32) (M_setOf : Nat → Int64) : Option (Int64) :=
  (iter (un2 (fb_M_leastSet_6 M_many M_mode M_setOf)) F ((9223372036854775807 : Int64), (0 : Int32))).bind fun l1_6 =>
  some l1_6
noncomputable def fb_M_falls_80 (F : Nat) (l2 : Int32) (M_now : Nat → Int32) (M_many : Int32) (M_upper : Int32) (M_lower : Int32) (M_setOf : Nat → Int64) (M_unit : Int64) (l4 : Int32) (M_mode : Nat → Int32) (M_under : Int64) (M_slope : Nat → Int64) (M_base : Nat → Int64) (M_slipSlope : Nat → Int64) (M_slipBase : Nat → Int64) (M_offset : Nat → Int64) (M_bearer : Nat → Int32) (M_bearers : Int32) (M_matrix : Nat → Int64) : Option ((Int32 × (Nat → Int32) × Int64 × (Nat → Int64) × (Nat → Int64) × (Nat → Int64) × (Nat → Int64) × (Nat → Int64) × (Nat → Int32) × Int32 × (Nat → Int64)) ⊕ ((Nat → Int32) × Int64 × (Nat → Int64) × (Nat → Int64) × (Nat → Int64) × (Nat → Int64) × (Nat → Int64) × (Nat → Int32) × Int32 × (Nat → Int64))) :=
  bd11 (f_M_isFallen F l4 l2 M_now M_many M_upper M_lower M_mode M_under M_slope M_base M_slipSlope M_slipBase M_offset M_bearer M_bearers M_matrix M_setOf M_unit) fun r_84 M_mode_84 M_under_84 M_slope_84 M_base_84 M_slipSlope_84 M_slipBase_84 M_offset_84 M_bearer_84 M_bearers_84 M_matrix_84 =>
  if r_84 = (0 : Int32) then
    nm (l4 + (1 : Int32)) fun l4_90 =>
    some (.inl (l4_90, M_mode_84, M_under_84, M_slope_84, M_base_84, M_slipSlope_84, M_slipBase_84, M_offset_84, M_bearer_84, M_bearers_84, M_matrix_84))
  else
    some (.inr (M_mode_84, M_under_84, M_slope_84, M_base_84, M_slipSlope_84, M_slipBase_84, M_offset_84, M_bearer_84, M_bearers_84, M_matrix_84))
noncomputable def f_M_falls (F : Nat) (l1 : Int32) (l2 : Int32) (l3 : Int32) (M_now : Nat → Int32) (M_many : Int32) (M_upper : Int32) (M_lower : Int32) (M_row : Nat → Int64) (M_rowMany : Int32) (M_thrown : Int32) (M_mode : Nat → Int32) (M_under : Int64) (M_slope : Nat → Int64) (M_base : Nat → Int64) (M_slipSlope : Nat → Int64) (M_slipBase : Nat → Int64) (M_offset : Nat → Int64) (M_bearer : Nat → Int32) (M_bearers : Int32) (M_matrix : Nat → Int64) (M_loadOver : Int64) (M_loadUnder : Int64) (M_eventMany : Int32) (M_eventKind : Nat → Int32) (M_eventBolt : Nat → Int32) (M_eventOver : Nat → Int64) (M_eventUnder : Nat → Int64) (M_had : Nat → Int32) (M_nextOver : Int64) (M_nextUnder : Int64) (M_met : Nat → Int32) (M_fresh : Nat → Int32) (M_aheadOver : Nat → Int64) (M_aheadUnder : Nat → Int64) (M_behindOver : Nat → Int64) (M_behindUnder : Nat → Int64) (M_setOf : Nat → Int64) (M_unit : Int64) : Option (Int32 × (Nat → Int64) × Int32 × Int32 × (Nat → Int32) × Int64 × (Nat → Int64) × (Nat → Int64) × (Nat → Int64) × (Nat → Int64) × (Nat → Int64) × (Nat → Int32) × Int32 × (Nat → Int64) × Int64 × Int64 × Int32 × (Nat → Int32) × (Nat → Int32) × (Nat → Int64) × (Nat → Int64) × (Nat → Int32) × Int64 × Int64 × (Nat → Int32) × (Nat → Int32) × (Nat → Int64) × (Nat → Int64) × (Nat → Int64) × (Nat → Int64) × (Nat → Int64) × Int64) :=
  (f_M_isBolt l3 M_many).bind fun r_7 =>
  if r_7 = (0 : Int32) then
    some ((-1 : Int32), M_row, M_rowMany, (0 : Int32), M_mode, M_under, M_slope, M_base, M_slipSlope, M_slipBase, M_offset, M_bearer, M_bearers, M_matrix, M_loadOver, M_loadUnder, M_eventMany, M_eventKind, M_eventBolt, M_eventOver, M_eventUnder, M_had, M_nextOver, M_nextUnder, M_met, M_fresh, M_aheadOver, M_aheadUnder, M_behindOver, M_behindUnder, M_setOf, M_unit)
  else
    (f_M_isLoad l1).bind fun r_14 =>
    if r_14 = (0 : Int32) then
      some ((-1 : Int32), M_row, M_rowMany, (0 : Int32), M_mode, M_under, M_slope, M_base, M_slipSlope, M_slipBase, M_offset, M_bearer, M_bearers, M_matrix, M_loadOver, M_loadUnder, M_eventMany, M_eventKind, M_eventBolt, M_eventOver, M_eventUnder, M_had, M_nextOver, M_nextUnder, M_met, M_fresh, M_aheadOver, M_aheadUnder, M_behindOver, M_behindUnder, M_setOf, M_unit)
    else
      (f_M_in (Int32.toInt64 l2) (0 : Int64) (Int32.toInt64 l1)).bind fun r_25 =>
      if r_25 = (0 : Int32) then
        some ((-1 : Int32), M_row, M_rowMany, (0 : Int32), M_mode, M_under, M_slope, M_base, M_slipSlope, M_slipBase, M_offset, M_bearer, M_bearers, M_matrix, M_loadOver, M_loadUnder, M_eventMany, M_eventKind, M_eventBolt, M_eventOver, M_eventUnder, M_had, M_nextOver, M_nextUnder, M_met, M_fresh, M_aheadOver, M_aheadUnder, M_behindOver, M_behindUnder, M_setOf, M_unit)
      else
        bd27 (f_M_growTo F l1 M_now M_many M_upper M_lower M_mode M_under M_slope M_base M_slipSlope M_slipBase M_offset M_bearer M_bearers M_matrix M_loadOver M_loadUnder M_eventMany M_eventKind M_eventBolt M_eventOver M_eventUnder M_had M_nextOver M_nextUnder M_met M_fresh M_aheadOver M_aheadUnder M_behindOver M_behindUnder) fun r_35 M_mode_35 M_under_35 M_slope_35 M_base_35 M_slipSlope_35 M_slipBase_35 M_offset_35 M_bearer_35 M_bearers_35 M_matrix_35 M_loadOver_35 M_loadUnder_35 M_eventMany_35 M_eventKind_35 M_eventBolt_35 M_eventOver_35 M_eventUnder_35 M_had_35 M_nextOver_35 M_nextUnder_35 M_met_35 M_fresh_35 M_aheadOver_35 M_aheadUnder_35 M_behindOver_35 M_behindUnder_35 =>
        if r_35 = (0 : Int32) then
          some ((-2 : Int32), M_row, M_rowMany, (0 : Int32), M_mode_35, M_under_35, M_slope_35, M_base_35, M_slipSlope_35, M_slipBase_35, M_offset_35, M_bearer_35, M_bearers_35, M_matrix_35, M_loadOver_35, M_loadUnder_35, M_eventMany_35, M_eventKind_35, M_eventBolt_35, M_eventOver_35, M_eventUnder_35, M_had_35, M_nextOver_35, M_nextUnder_35, M_met_35, M_fresh_35, M_aheadOver_35, M_aheadUnder_35, M_behindOver_35, M_behindUnder_35, M_setOf, M_unit)
        else
          bd2 (f_M_laySets F M_now M_many M_under_35 M_slope_35 M_base_35 M_loadOver_35 M_loadUnder_35 M_setOf M_unit) fun M_setOf_45 M_unit_45 =>
          if l2 = (0 : Int32) then
            bd2 (f_M_tellFraction F (0 : Int64) (1 : Int64) M_row (0 : Int32)) fun M_row_60 M_rowMany_60 =>
            (f_M_leastSet F M_many M_mode_35 M_setOf_45).bind fun r_65 =>
            bd2 (f_M_tellFraction F r_65 M_unit_45 M_row_60 M_rowMany_60) fun M_row_72 M_rowMany_72 =>
            some ((0 : Int32), M_row_72, M_rowMany_72, (0 : Int32), M_mode_35, M_under_35, M_slope_35, M_base_35, M_slipSlope_35, M_slipBase_35, M_offset_35, M_bearer_35, M_bearers_35, M_matrix_35, M_loadOver_35, M_loadUnder_35, M_eventMany_35, M_eventKind_35, M_eventBolt_35, M_eventOver_35, M_eventUnder_35, M_had_35, M_nextOver_35, M_nextUnder_35, M_met_35, M_fresh_35, M_aheadOver_35, M_aheadUnder_35, M_behindOver_35, M_behindUnder_35, M_setOf_45, M_unit_45)
          else
            bd10 (iter (un11 (fb_M_falls_80 F l2 M_now M_many M_upper M_lower M_setOf_45 M_unit_45)) F ((1 : Int32), M_mode_35, M_under_35, M_slope_35, M_base_35, M_slipSlope_35, M_slipBase_35, M_offset_35, M_bearer_35, M_bearers_35, M_matrix_35)) fun M_mode_80 M_under_80 M_slope_80 M_base_80 M_slipSlope_80 M_slipBase_80 M_offset_80 M_bearer_80 M_bearers_80 M_matrix_80 =>
            (f_M_fallenForce l3 l2 M_slope_80 M_base_80 M_unit_45).bind fun r_100 =>
            bd2 (f_M_tellFraction F r_100 (M_under_80 * M_unit_45) M_row (0 : Int32)) fun M_row_112 M_rowMany_112 =>
            (f_M_fallenSlip l3 l2 M_slipSlope_80 M_slipBase_80 M_unit_45).bind fun r_119 =>
            bd2 (f_M_tellFraction F r_119 (M_under_80 * M_unit_45) M_row_112 M_rowMany_112) fun M_row_131 M_rowMany_131 =>
            some ((0 : Int32), M_row_131, M_rowMany_131, (0 : Int32), M_mode_80, M_under_80, M_slope_80, M_base_80, M_slipSlope_80, M_slipBase_80, M_offset_80, M_bearer_80, M_bearers_80, M_matrix_80, M_loadOver_35, M_loadUnder_35, M_eventMany_35, M_eventKind_35, M_eventBolt_35, M_eventOver_35, M_eventUnder_35, M_had_35, M_nextOver_35, M_nextUnder_35, M_met_35, M_fresh_35, M_aheadOver_35, M_aheadUnder_35, M_behindOver_35, M_behindUnder_35, M_setOf_45, M_unit_45)
noncomputable def f_M_isGreater (l0 : Int64) (l2 : Int64) (l4 : Int64) (l6 : Int64) : Option (Int32) :=
  (dvL l0 l2).bind fun v_2 =>
  (dvL l4 l6).bind fun v_7 =>
  if v_2 = v_7 then
    (rmL l0 l2).bind fun v_34 =>
    (rmL l4 l6).bind fun v_42 =>
    if (v_34 * l6) ≤ (v_42 * l2) then
      some (0 : Int32)
    else
      some (1 : Int32)
  else
    (dvL l0 l2).bind fun v_14 =>
    (dvL l4 l6).bind fun v_19 =>
    if v_14 ≤ v_19 then
      some (0 : Int32)
    else
      some (1 : Int32)
noncomputable def fj_M_opens_62 (l3 : Int32) (s0 : Int32) (s1 : Int32) : Option ((Int32 × Int32) ⊕ (Int32)) :=
  nm (s0 ||| s1) fun l2_63 =>
  nm (l3 + (1 : Int32)) fun l3_64 =>
  some (.inl (l2_63, l3_64))
noncomputable def fb_M_opens_36 (M_many : Int32) (M_slope : Nat → Int64) (M_base : Nat → Int64) (M_loadOver : Int64) (M_loadUnder : Int64) (l2 : Int32) (l3 : Int32) : Option ((Int32 × Int32) ⊕ (Int32)) :=
  if M_many ≤ l3 then
    some (.inr l2)
  else
    (f_M_forceThere l3 M_slope M_base M_loadOver M_loadUnder).bind fun r_47 =>
    if r_47 ≤ (0 : Int64) then
      fj_M_opens_62 l3 l2 (0 : Int32)
    else
      fj_M_opens_62 l3 l2 ((1 : Int32) <<< (l3 &&& 31))
noncomputable def fj_M_opens_154 (l3 : Int32) (l4 : Int32) : Option ((Int32 × Int32) ⊕ (Int32)) :=
  nm (l4 + (1 : Int32)) fun l4_154 =>
  some (.inl (l3, l4_154))
noncomputable def fj_M_opens_151 (l4 : Int32) : Option ((Int32 × Int32) ⊕ (Int32)) :=
  fj_M_opens_154 l4 l4
noncomputable def fb_M_opens_91 (l2 : Int32) (M_many : Int32) (M_slope : Nat → Int64) (M_base : Nat → Int64) (l3 : Int32) (l4 : Int32) : Option ((Int32 × Int32) ⊕ (Int32)) :=
  if M_many ≤ l4 then
    some (.inr l3)
  else
    if ((l2 >>> (l4 &&& 31)) &&& (1 : Int32)) = (0 : Int32) then
      fj_M_opens_154 l3 l4
    else
      if l3 = (-1 : Int32) then
        fj_M_opens_151 l4
      else
        (ldA M_base 5 l4).bind fun v_123 =>
        (ldA M_slope 5 l4).bind fun v_131 =>
        (ldA M_base 5 l3).bind fun v_137 =>
        (ldA M_slope 5 l3).bind fun v_144 =>
        (f_M_isGreater (-v_123) v_131 (-v_137) v_144).bind fun r_145 =>
        if r_145 = (0 : Int32) then
          fj_M_opens_154 l3 l4
        else
          fj_M_opens_151 l4
noncomputable def f_M_opens (F : Nat) (l1 : Int32) (M_now : Nat → Int32) (M_many : Int32) (M_upper : Int32) (M_lower : Int32) (M_row : Nat → Int64) (M_rowMany : Int32) (M_thrown : Int32) (M_mode : Nat → Int32) (M_under : Int64) (M_slope : Nat → Int64) (M_base : Nat → Int64) (M_slipSlope : Nat → Int64) (M_slipBase : Nat → Int64) (M_offset : Nat → Int64) (M_bearer : Nat → Int32) (M_bearers : Int32) (M_matrix : Nat → Int64) (M_loadOver : Int64) (M_loadUnder : Int64) (M_eventMany : Int32) (M_eventKind : Nat → Int32) (M_eventBolt : Nat → Int32) (M_eventOver : Nat → Int64) (M_eventUnder : Nat → Int64) (M_had : Nat → Int32) (M_nextOver : Int64) (M_nextUnder : Int64) (M_met : Nat → Int32) (M_fresh : Nat → Int32) (M_aheadOver : Nat → Int64) (M_aheadUnder : Nat → Int64) (M_behindOver : Nat → Int64) (M_behindUnder : Nat → Int64) (M_setOf : Nat → Int64) (M_unit : Int64) : Option (Int32 × (Nat → Int64) × Int32 × Int32 × (Nat → Int32) × Int64 × (Nat → Int64) × (Nat → Int64) × (Nat → Int64) × (Nat → Int64) × (Nat → Int64) × (Nat → Int32) × Int32 × (Nat → Int64) × Int64 × Int64 × Int32 × (Nat → Int32) × (Nat → Int32) × (Nat → Int64) × (Nat → Int64) × (Nat → Int32) × Int64 × Int64 × (Nat → Int32) × (Nat → Int32) × (Nat → Int64) × (Nat → Int64) × (Nat → Int64) × (Nat → Int64) × (Nat → Int64) × Int64) :=
  if M_many = (0 : Int32) then
    some ((-1 : Int32), M_row, M_rowMany, (0 : Int32), M_mode, M_under, M_slope, M_base, M_slipSlope, M_slipBase, M_offset, M_bearer, M_bearers, M_matrix, M_loadOver, M_loadUnder, M_eventMany, M_eventKind, M_eventBolt, M_eventOver, M_eventUnder, M_had, M_nextOver, M_nextUnder, M_met, M_fresh, M_aheadOver, M_aheadUnder, M_behindOver, M_behindUnder, M_setOf, M_unit)
  else
    (f_M_isLoad l1).bind fun r_13 =>
    if r_13 = (0 : Int32) then
      some ((-1 : Int32), M_row, M_rowMany, (0 : Int32), M_mode, M_under, M_slope, M_base, M_slipSlope, M_slipBase, M_offset, M_bearer, M_bearers, M_matrix, M_loadOver, M_loadUnder, M_eventMany, M_eventKind, M_eventBolt, M_eventOver, M_eventUnder, M_had, M_nextOver, M_nextUnder, M_met, M_fresh, M_aheadOver, M_aheadUnder, M_behindOver, M_behindUnder, M_setOf, M_unit)
    else
      bd27 (f_M_growTo F l1 M_now M_many M_upper M_lower M_mode M_under M_slope M_base M_slipSlope M_slipBase M_offset M_bearer M_bearers M_matrix M_loadOver M_loadUnder M_eventMany M_eventKind M_eventBolt M_eventOver M_eventUnder M_had M_nextOver M_nextUnder M_met M_fresh M_aheadOver M_aheadUnder M_behindOver M_behindUnder) fun r_23 M_mode_23 M_under_23 M_slope_23 M_base_23 M_slipSlope_23 M_slipBase_23 M_offset_23 M_bearer_23 M_bearers_23 M_matrix_23 M_loadOver_23 M_loadUnder_23 M_eventMany_23 M_eventKind_23 M_eventBolt_23 M_eventOver_23 M_eventUnder_23 M_had_23 M_nextOver_23 M_nextUnder_23 M_met_23 M_fresh_23 M_aheadOver_23 M_aheadUnder_23 M_behindOver_23 M_behindUnder_23 =>
      if r_23 = (0 : Int32) then
        some ((-2 : Int32), M_row, M_rowMany, (0 : Int32), M_mode_23, M_under_23, M_slope_23, M_base_23, M_slipSlope_23, M_slipBase_23, M_offset_23, M_bearer_23, M_bearers_23, M_matrix_23, M_loadOver_23, M_loadUnder_23, M_eventMany_23, M_eventKind_23, M_eventBolt_23, M_eventOver_23, M_eventUnder_23, M_had_23, M_nextOver_23, M_nextUnder_23, M_met_23, M_fresh_23, M_aheadOver_23, M_aheadUnder_23, M_behindOver_23, M_behindUnder_23, M_setOf, M_unit)
      else
        (iter (un2 (fb_M_opens_36 M_many M_slope_23 M_base_23 M_loadOver_23 M_loadUnder_23)) F ((0 : Int32), (0 : Int32))).bind fun l2_36 =>
        if l2_36 = (0 : Int32) then
          some ((-3 : Int32), M_row, M_rowMany, (0 : Int32), M_mode_23, M_under_23, M_slope_23, M_base_23, M_slipSlope_23, M_slipBase_23, M_offset_23, M_bearer_23, M_bearers_23, M_matrix_23, M_loadOver_23, M_loadUnder_23, M_eventMany_23, M_eventKind_23, M_eventBolt_23, M_eventOver_23, M_eventUnder_23, M_had_23, M_nextOver_23, M_nextUnder_23, M_met_23, M_fresh_23, M_aheadOver_23, M_aheadUnder_23, M_behindOver_23, M_behindUnder_23, M_setOf, M_unit)
        else
          bd2 (f_M_laySets F M_now M_many M_under_23 M_slope_23 M_base_23 M_loadOver_23 M_loadUnder_23 M_setOf M_unit) fun M_setOf_78 M_unit_78 =>
          bd10 (f_M_solveFalling F l2_36 M_now M_many M_upper M_lower M_mode_23 M_under_23 M_slope_23 M_base_23 M_slipSlope_23 M_slipBase_23 M_offset_23 M_bearer_23 M_bearers_23 M_matrix_23 M_setOf_78) fun M_mode_83 M_under_83 M_slope_83 M_base_83 M_slipSlope_83 M_slipBase_83 M_offset_83 M_bearer_83 M_bearers_83 M_matrix_83 =>
          (iter (un2 (fb_M_opens_91 l2_36 M_many M_slope_83 M_base_83)) F ((-1 : Int32), (0 : Int32))).bind fun l3_91 =>
          (ldA M_base_83 5 l3_91).bind fun v_171 =>
          (ldA M_slope_83 5 l3_91).bind fun v_178 =>
          bd2 (f_M_tellFraction F (-v_171) (v_178 * M_unit_78) M_row (0 : Int32)) fun M_row_184 M_rowMany_184 =>
          some (l3_91, M_row_184, M_rowMany_184, (0 : Int32), M_mode_83, M_under_83, M_slope_83, M_base_83, M_slipSlope_83, M_slipBase_83, M_offset_83, M_bearer_83, M_bearers_83, M_matrix_83, M_loadOver_23, M_loadUnder_23, M_eventMany_23, M_eventKind_23, M_eventBolt_23, M_eventOver_23, M_eventUnder_23, M_had_23, M_nextOver_23, M_nextUnder_23, M_met_23, M_fresh_23, M_aheadOver_23, M_aheadUnder_23, M_behindOver_23, M_behindUnder_23, M_setOf_78, M_unit_78)
noncomputable def fj_M_kindMany_28 (l3 : Int32) (s0 : Int32) (s1 : Int32) : Option ((Int32 × Int32) ⊕ (Int32)) :=
  nm (s0 + s1) fun l2_29 =>
  nm (l3 + (1 : Int32)) fun l3_30 =>
  some (.inl (l2_29, l3_30))
noncomputable def fb_M_kindMany_4 (l1 : Int32) (M_eventMany : Int32) (M_eventKind : Nat → Int32) (l2 : Int32) (l3 : Int32) : Option ((Int32 × Int32) ⊕ (Int32)) :=
  if M_eventMany ≤ l3 then
    some (.inr l2)
  else
    (ldA M_eventKind 32 l3).bind fun v_18 =>
    if v_18 = l1 then
      fj_M_kindMany_28 l3 l2 (1 : Int32)
    else
      fj_M_kindMany_28 l3 l2 (0 : Int32)
noncomputable def f_M_kindMany (F : Nat) (l1 : Int32) (M_eventMany : Int32) (M_eventKind : Nat → Int32) : Option (Int32) :=
  (iter (un2 (fb_M_kindMany_4 l1 M_eventMany M_eventKind)) F ((0 : Int32), (0 : Int32))).bind fun l2_4 =>
  some l2_4
noncomputable def fb_M_events_16 (F : Nat) (M_eventMany : Int32) (M_eventKind : Nat → Int32) (l1 : Int32) (M_row : Nat → Int64) (M_rowMany : Int32) : Option ((Int32 × (Nat → Int64) × Int32) ⊕ ((Nat → Int64) × Int32)) :=
  if (3 : Int32) ≤ l1 then
    some (.inr (M_row, M_rowMany))
  else
    (f_M_kindMany F l1 M_eventMany M_eventKind).bind fun r_24 =>
    bd2 (f_M_tell (Int32.toInt64 r_24) M_row M_rowMany) fun M_row_28 M_rowMany_28 =>
    nm (l1 + (1 : Int32)) fun l1_31 =>
    some (.inl (l1_31, M_row_28, M_rowMany_28))
noncomputable def f_M_events (F : Nat) (M_now : Nat → Int32) (M_many : Int32) (M_upper : Int32) (M_lower : Int32) (M_row : Nat → Int64) (M_rowMany : Int32) (M_thrown : Int32) (M_mode : Nat → Int32) (M_under : Int64) (M_slope : Nat → Int64) (M_base : Nat → Int64) (M_slipSlope : Nat → Int64) (M_slipBase : Nat → Int64) (M_offset : Nat → Int64) (M_bearer : Nat → Int32) (M_bearers : Int32) (M_matrix : Nat → Int64) (M_loadOver : Int64) (M_loadUnder : Int64) (M_eventMany : Int32) (M_eventKind : Nat → Int32) (M_eventBolt : Nat → Int32) (M_eventOver : Nat → Int64) (M_eventUnder : Nat → Int64) (M_had : Nat → Int32) (M_nextOver : Int64) (M_nextUnder : Int64) (M_met : Nat → Int32) (M_fresh : Nat → Int32) (M_aheadOver : Nat → Int64) (M_aheadUnder : Nat → Int64) (M_behindOver : Nat → Int64) (M_behindUnder : Nat → Int64) : Option (Int32 × (Nat → Int64) × Int32 × Int32 × (Nat → Int32) × Int64 × (Nat → Int64) × (Nat → Int64) × (Nat → Int64) × (Nat → Int64) × (Nat → Int64) × (Nat → Int32) × Int32 × (Nat → Int64) × Int64 × Int64 × Int32 × (Nat → Int32) × (Nat → Int32) × (Nat → Int64) × (Nat → Int64) × (Nat → Int32) × Int64 × Int64 × (Nat → Int32) × (Nat → Int32) × (Nat → Int64) × (Nat → Int64) × (Nat → Int64) × (Nat → Int64)) :=
  bd26 (f_M_grow F M_now M_many M_upper M_lower M_mode M_under M_slope M_base M_slipSlope M_slipBase M_offset M_bearer M_bearers M_matrix M_loadOver M_loadUnder M_eventMany M_eventKind M_eventBolt M_eventOver M_eventUnder M_had M_nextOver M_nextUnder M_met M_fresh M_aheadOver M_aheadUnder M_behindOver M_behindUnder) fun M_mode_6 M_under_6 M_slope_6 M_base_6 M_slipSlope_6 M_slipBase_6 M_offset_6 M_bearer_6 M_bearers_6 M_matrix_6 M_loadOver_6 M_loadUnder_6 M_eventMany_6 M_eventKind_6 M_eventBolt_6 M_eventOver_6 M_eventUnder_6 M_had_6 M_nextOver_6 M_nextUnder_6 M_met_6 M_fresh_6 M_aheadOver_6 M_aheadUnder_6 M_behindOver_6 M_behindUnder_6 =>
  bd2 (iter (un3 (fb_M_events_16 F M_eventMany_6 M_eventKind_6)) F ((0 : Int32), M_row, (0 : Int32))) fun M_row_16 M_rowMany_16 =>
  some (M_eventMany_6, M_row_16, M_rowMany_16, (0 : Int32), M_mode_6, M_under_6, M_slope_6, M_base_6, M_slipSlope_6, M_slipBase_6, M_offset_6, M_bearer_6, M_bearers_6, M_matrix_6, M_loadOver_6, M_loadUnder_6, M_eventMany_6, M_eventKind_6, M_eventBolt_6, M_eventOver_6, M_eventUnder_6, M_had_6, M_nextOver_6, M_nextUnder_6, M_met_6, M_fresh_6, M_aheadOver_6, M_aheadUnder_6, M_behindOver_6, M_behindUnder_6)
noncomputable def f_M_event (F : Nat) (l1 : Int32) (M_now : Nat → Int32) (M_many : Int32) (M_upper : Int32) (M_lower : Int32) (M_row : Nat → Int64) (M_rowMany : Int32) (M_thrown : Int32) (M_mode : Nat → Int32) (M_under : Int64) (M_slope : Nat → Int64) (M_base : Nat → Int64) (M_slipSlope : Nat → Int64) (M_slipBase : Nat → Int64) (M_offset : Nat → Int64) (M_bearer : Nat → Int32) (M_bearers : Int32) (M_matrix : Nat → Int64) (M_loadOver : Int64) (M_loadUnder : Int64) (M_eventMany : Int32) (M_eventKind : Nat → Int32) (M_eventBolt : Nat → Int32) (M_eventOver : Nat → Int64) (M_eventUnder : Nat → Int64) (M_had : Nat → Int32) (M_nextOver : Int64) (M_nextUnder : Int64) (M_met : Nat → Int32) (M_fresh : Nat → Int32) (M_aheadOver : Nat → Int64) (M_aheadUnder : Nat → Int64) (M_behindOver : Nat → Int64) (M_behindUnder : Nat → Int64) : Option (Int32 × (Nat → Int64) × Int32 × Int32 × (Nat → Int32) × Int64 × (Nat → Int64) × (Nat → Int64) × (Nat → Int64) × (Nat → Int64) × (Nat → Int64) × (Nat → Int32) × Int32 × (Nat → Int64) × Int64 × Int64 × Int32 × (Nat → Int32) × (Nat → Int32) × (Nat → Int64) × (Nat → Int64) × (Nat → Int32) × Int64 × Int64 × (Nat → Int32) × (Nat → Int32) × (Nat → Int64) × (Nat → Int64) × (Nat → Int64) × (Nat → Int64)) :=
  bd26 (f_M_grow F M_now M_many M_upper M_lower M_mode M_under M_slope M_base M_slipSlope M_slipBase M_offset M_bearer M_bearers M_matrix M_loadOver M_loadUnder M_eventMany M_eventKind M_eventBolt M_eventOver M_eventUnder M_had M_nextOver M_nextUnder M_met M_fresh M_aheadOver M_aheadUnder M_behindOver M_behindUnder) fun M_mode_6 M_under_6 M_slope_6 M_base_6 M_slipSlope_6 M_slipBase_6 M_offset_6 M_bearer_6 M_bearers_6 M_matrix_6 M_loadOver_6 M_loadUnder_6 M_eventMany_6 M_eventKind_6 M_eventBolt_6 M_eventOver_6 M_eventUnder_6 M_had_6 M_nextOver_6 M_nextUnder_6 M_met_6 M_fresh_6 M_aheadOver_6 M_aheadUnder_6 M_behindOver_6 M_behindUnder_6 =>
  (f_M_in (Int32.toInt64 l1) (0 : Int64) (Int32.toInt64 (M_eventMany_6 - (1 : Int32)))).bind fun r_19 =>
  if r_19 = (0 : Int32) then
    some ((-1 : Int32), M_row, M_rowMany, (0 : Int32), M_mode_6, M_under_6, M_slope_6, M_base_6, M_slipSlope_6, M_slipBase_6, M_offset_6, M_bearer_6, M_bearers_6, M_matrix_6, M_loadOver_6, M_loadUnder_6, M_eventMany_6, M_eventKind_6, M_eventBolt_6, M_eventOver_6, M_eventUnder_6, M_had_6, M_nextOver_6, M_nextUnder_6, M_met_6, M_fresh_6, M_aheadOver_6, M_aheadUnder_6, M_behindOver_6, M_behindUnder_6)
  else
    (ldA M_eventBolt_6 32 l1).bind fun v_38 =>
    bd2 (f_M_tell (Int32.toInt64 v_38) M_row (0 : Int32)) fun M_row_40 M_rowMany_40 =>
    (ldA M_eventOver_6 32 l1).bind fun v_49 =>
    (ldA M_eventUnder_6 32 l1).bind fun v_55 =>
    bd2 (f_M_tellFraction F v_49 v_55 M_row_40 M_rowMany_40) fun M_row_56 M_rowMany_56 =>
    (ldA M_eventKind_6 32 l1).bind fun v_64 =>
    some (v_64, M_row_56, M_rowMany_56, (0 : Int32), M_mode_6, M_under_6, M_slope_6, M_base_6, M_slipSlope_6, M_slipBase_6, M_offset_6, M_bearer_6, M_bearers_6, M_matrix_6, M_loadOver_6, M_loadUnder_6, M_eventMany_6, M_eventKind_6, M_eventBolt_6, M_eventOver_6, M_eventUnder_6, M_had_6, M_nextOver_6, M_nextUnder_6, M_met_6, M_fresh_6, M_aheadOver_6, M_aheadUnder_6, M_behindOver_6, M_behindUnder_6)
noncomputable def fj_M_peak_65 (l2 : Int32) (s0 : Int32) (s1 : Int32) : Option ((Int32 × Int32) ⊕ (Int32)) :=
  nm (s0 + s1) fun l1_66 =>
  nm (l2 + (1 : Int32)) fun l2_67 =>
  some (.inl (l1_66, l2_67))
noncomputable def fj_M_peak_64 (l2 : Int32) (s0 : Int32) : Option ((Int32 × Int32) ⊕ (Int32)) :=
  fj_M_peak_65 l2 s0 (0 : Int32)
noncomputable def fb_M_peak_13 (M_loadOver : Int64) (M_loadUnder : Int64) (M_eventMany : Int32) (M_eventKind : Nat → Int32) (M_eventOver : Nat → Int64) (M_eventUnder : Nat → Int64) (l1 : Int32) (l2 : Int32) : Option ((Int32 × Int32) ⊕ (Int32)) :=
  if M_eventMany ≤ l2 then
    some (.inr l1)
  else
    (ldA M_eventKind 32 l2).bind fun v_27 =>
    if v_27 = (2 : Int32) then
      (ldA M_eventOver 32 l2).bind fun v_37 =>
      if v_37 = M_loadOver then
        (ldA M_eventUnder 32 l2).bind fun v_51 =>
        if v_51 = M_loadUnder then
          fj_M_peak_65 l2 l1 (1 : Int32)
        else
          fj_M_peak_64 l2 l1
      else
        fj_M_peak_64 l2 l1
    else
      fj_M_peak_64 l2 l1
noncomputable def f_M_peak (F : Nat) (M_now : Nat → Int32) (M_many : Int32) (M_upper : Int32) (M_lower : Int32) (M_row : Nat → Int64) (M_rowMany : Int32) (M_thrown : Int32) (M_mode : Nat → Int32) (M_under : Int64) (M_slope : Nat → Int64) (M_base : Nat → Int64) (M_slipSlope : Nat → Int64) (M_slipBase : Nat → Int64) (M_offset : Nat → Int64) (M_bearer : Nat → Int32) (M_bearers : Int32) (M_matrix : Nat → Int64) (M_loadOver : Int64) (M_loadUnder : Int64) (M_eventMany : Int32) (M_eventKind : Nat → Int32) (M_eventBolt : Nat → Int32) (M_eventOver : Nat → Int64) (M_eventUnder : Nat → Int64) (M_had : Nat → Int32) (M_nextOver : Int64) (M_nextUnder : Int64) (M_met : Nat → Int32) (M_fresh : Nat → Int32) (M_aheadOver : Nat → Int64) (M_aheadUnder : Nat → Int64) (M_behindOver : Nat → Int64) (M_behindUnder : Nat → Int64) : Option (Int32 × (Nat → Int64) × Int32 × Int32 × (Nat → Int32) × Int64 × (Nat → Int64) × (Nat → Int64) × (Nat → Int64) × (Nat → Int64) × (Nat → Int64) × (Nat → Int32) × Int32 × (Nat → Int64) × Int64 × Int64 × Int32 × (Nat → Int32) × (Nat → Int32) × (Nat → Int64) × (Nat → Int64) × (Nat → Int32) × Int64 × Int64 × (Nat → Int32) × (Nat → Int32) × (Nat → Int64) × (Nat → Int64) × (Nat → Int64) × (Nat → Int64)) :=
  bd26 (f_M_grow F M_now M_many M_upper M_lower M_mode M_under M_slope M_base M_slipSlope M_slipBase M_offset M_bearer M_bearers M_matrix M_loadOver M_loadUnder M_eventMany M_eventKind M_eventBolt M_eventOver M_eventUnder M_had M_nextOver M_nextUnder M_met M_fresh M_aheadOver M_aheadUnder M_behindOver M_behindUnder) fun M_mode_6 M_under_6 M_slope_6 M_base_6 M_slipSlope_6 M_slipBase_6 M_offset_6 M_bearer_6 M_bearers_6 M_matrix_6 M_loadOver_6 M_loadUnder_6 M_eventMany_6 M_eventKind_6 M_eventBolt_6 M_eventOver_6 M_eventUnder_6 M_had_6 M_nextOver_6 M_nextUnder_6 M_met_6 M_fresh_6 M_aheadOver_6 M_aheadUnder_6 M_behindOver_6 M_behindUnder_6 =>
  (iter (un2 (fb_M_peak_13 M_loadOver_6 M_loadUnder_6 M_eventMany_6 M_eventKind_6 M_eventOver_6 M_eventUnder_6)) F ((0 : Int32), (0 : Int32))).bind fun l1_13 =>
  bd2 (f_M_tellFraction F M_loadOver_6 M_loadUnder_6 M_row (0 : Int32)) fun M_row_87 M_rowMany_87 =>
  some (l1_13, M_row_87, M_rowMany_87, (0 : Int32), M_mode_6, M_under_6, M_slope_6, M_base_6, M_slipSlope_6, M_slipBase_6, M_offset_6, M_bearer_6, M_bearers_6, M_matrix_6, M_loadOver_6, M_loadUnder_6, M_eventMany_6, M_eventKind_6, M_eventBolt_6, M_eventOver_6, M_eventUnder_6, M_had_6, M_nextOver_6, M_nextUnder_6, M_met_6, M_fresh_6, M_aheadOver_6, M_aheadUnder_6, M_behindOver_6, M_behindUnder_6)
noncomputable def fj_M_order_45 (l1 : Int32) (M_row : Nat → Int64) (M_rowMany : Int32) : Option ((Int32 × (Nat → Int64) × Int32) ⊕ ((Nat → Int64) × Int32)) :=
  nm (l1 + (1 : Int32)) fun l1_45 =>
  some (.inl (l1_45, M_row, M_rowMany))
noncomputable def fb_M_order_16 (M_eventMany : Int32) (M_eventKind : Nat → Int32) (M_eventBolt : Nat → Int32) (l1 : Int32) (M_row : Nat → Int64) (M_rowMany : Int32) : Option ((Int32 × (Nat → Int64) × Int32) ⊕ ((Nat → Int64) × Int32)) :=
  if M_eventMany ≤ l1 then
    some (.inr (M_row, M_rowMany))
  else
    (ldA M_eventKind 32 l1).bind fun v_29 =>
    if v_29 = (2 : Int32) then
      (ldA M_eventBolt 32 l1).bind fun v_40 =>
      bd2 (f_M_tell (Int32.toInt64 v_40) M_row M_rowMany) fun M_row_42 M_rowMany_42 =>
      fj_M_order_45 l1 M_row_42 M_rowMany_42
    else
      fj_M_order_45 l1 M_row M_rowMany
noncomputable def f_M_order (F : Nat) (M_now : Nat → Int32) (M_many : Int32) (M_upper : Int32) (M_lower : Int32) (M_row : Nat → Int64) (M_rowMany : Int32) (M_thrown : Int32) (M_mode : Nat → Int32) (M_under : Int64) (M_slope : Nat → Int64) (M_base : Nat → Int64) (M_slipSlope : Nat → Int64) (M_slipBase : Nat → Int64) (M_offset : Nat → Int64) (M_bearer : Nat → Int32) (M_bearers : Int32) (M_matrix : Nat → Int64) (M_loadOver : Int64) (M_loadUnder : Int64) (M_eventMany : Int32) (M_eventKind : Nat → Int32) (M_eventBolt : Nat → Int32) (M_eventOver : Nat → Int64) (M_eventUnder : Nat → Int64) (M_had : Nat → Int32) (M_nextOver : Int64) (M_nextUnder : Int64) (M_met : Nat → Int32) (M_fresh : Nat → Int32) (M_aheadOver : Nat → Int64) (M_aheadUnder : Nat → Int64) (M_behindOver : Nat → Int64) (M_behindUnder : Nat → Int64) : Option (Int32 × (Nat → Int64) × Int32 × Int32 × (Nat → Int32) × Int64 × (Nat → Int64) × (Nat → Int64) × (Nat → Int64) × (Nat → Int64) × (Nat → Int64) × (Nat → Int32) × Int32 × (Nat → Int64) × Int64 × Int64 × Int32 × (Nat → Int32) × (Nat → Int32) × (Nat → Int64) × (Nat → Int64) × (Nat → Int32) × Int64 × Int64 × (Nat → Int32) × (Nat → Int32) × (Nat → Int64) × (Nat → Int64) × (Nat → Int64) × (Nat → Int64)) :=
  bd26 (f_M_grow F M_now M_many M_upper M_lower M_mode M_under M_slope M_base M_slipSlope M_slipBase M_offset M_bearer M_bearers M_matrix M_loadOver M_loadUnder M_eventMany M_eventKind M_eventBolt M_eventOver M_eventUnder M_had M_nextOver M_nextUnder M_met M_fresh M_aheadOver M_aheadUnder M_behindOver M_behindUnder) fun M_mode_6 M_under_6 M_slope_6 M_base_6 M_slipSlope_6 M_slipBase_6 M_offset_6 M_bearer_6 M_bearers_6 M_matrix_6 M_loadOver_6 M_loadUnder_6 M_eventMany_6 M_eventKind_6 M_eventBolt_6 M_eventOver_6 M_eventUnder_6 M_had_6 M_nextOver_6 M_nextUnder_6 M_met_6 M_fresh_6 M_aheadOver_6 M_aheadUnder_6 M_behindOver_6 M_behindUnder_6 =>
  bd2 (iter (un3 (fb_M_order_16 M_eventMany_6 M_eventKind_6 M_eventBolt_6)) F ((0 : Int32), M_row, (0 : Int32))) fun M_row_16 M_rowMany_16 =>
  some (M_rowMany_16, M_row_16, M_rowMany_16, (0 : Int32), M_mode_6, M_under_6, M_slope_6, M_base_6, M_slipSlope_6, M_slipBase_6, M_offset_6, M_bearer_6, M_bearers_6, M_matrix_6, M_loadOver_6, M_loadUnder_6, M_eventMany_6, M_eventKind_6, M_eventBolt_6, M_eventOver_6, M_eventUnder_6, M_had_6, M_nextOver_6, M_nextUnder_6, M_met_6, M_fresh_6, M_aheadOver_6, M_aheadUnder_6, M_behindOver_6, M_behindUnder_6)
noncomputable def fj_M_eventOf_32 (l3 : Int32) : Option ((Int32) ⊕ (Nat × Int32)) :=
  nm (l3 + (1 : Int32)) fun l3_32 =>
  some (.inl l3_32)
noncomputable def fb_M_eventOf_2 (l1 : Int32) (l2 : Int32) (M_eventMany : Int32) (M_eventKind : Nat → Int32) (M_eventBolt : Nat → Int32) (l3 : Int32) : Option ((Int32) ⊕ (Nat × Int32)) :=
  if M_eventMany ≤ l3 then
    some (.inr (1, l3))
  else
    (ldA M_eventKind 32 l3).bind fun v_15 =>
    if v_15 = l1 then
      (ldA M_eventBolt 32 l3).bind fun v_25 =>
      if v_25 = l2 then
        some (.inr (0, l3))
      else
        fj_M_eventOf_32 l3
    else
      fj_M_eventOf_32 l3
noncomputable def f_M_eventOf (F : Nat) (l1 : Int32) (l2 : Int32) (M_eventMany : Int32) (M_eventKind : Nat → Int32) (M_eventBolt : Nat → Int32) : Option (Int32) :=
  bd2 (iter (fb_M_eventOf_2 l1 l2 M_eventMany M_eventKind M_eventBolt) F (0 : Int32)) fun c_2 l3_2 =>
  if c_2 = 0 then
    some l3_2
  else
    some (-1 : Int32)
noncomputable def f_M_when (F : Nat) (l1 : Int32) (l2 : Int32) (M_now : Nat → Int32) (M_many : Int32) (M_upper : Int32) (M_lower : Int32) (M_row : Nat → Int64) (M_rowMany : Int32) (M_thrown : Int32) (M_mode : Nat → Int32) (M_under : Int64) (M_slope : Nat → Int64) (M_base : Nat → Int64) (M_slipSlope : Nat → Int64) (M_slipBase : Nat → Int64) (M_offset : Nat → Int64) (M_bearer : Nat → Int32) (M_bearers : Int32) (M_matrix : Nat → Int64) (M_loadOver : Int64) (M_loadUnder : Int64) (M_eventMany : Int32) (M_eventKind : Nat → Int32) (M_eventBolt : Nat → Int32) (M_eventOver : Nat → Int64) (M_eventUnder : Nat → Int64) (M_had : Nat → Int32) (M_nextOver : Int64) (M_nextUnder : Int64) (M_met : Nat → Int32) (M_fresh : Nat → Int32) (M_aheadOver : Nat → Int64) (M_aheadUnder : Nat → Int64) (M_behindOver : Nat → Int64) (M_behindUnder : Nat → Int64) : Option (Int32 × (Nat → Int64) × Int32 × Int32 × (Nat → Int32) × Int64 × (Nat → Int64) × (Nat → Int64) × (Nat → Int64) × (Nat → Int64) × (Nat → Int64) × (Nat → Int32) × Int32 × (Nat → Int64) × Int64 × Int64 × Int32 × (Nat → Int32) × (Nat → Int32) × (Nat → Int64) × (Nat → Int64) × (Nat → Int32) × Int64 × Int64 × (Nat → Int32) × (Nat → Int32) × (Nat → Int64) × (Nat → Int64) × (Nat → Int64) × (Nat → Int64)) :=
  (f_M_in (Int32.toInt64 l1) (0 : Int64) (2 : Int64)).bind fun r_11 =>
  if r_11 = (0 : Int32) then
    some ((-1 : Int32), M_row, M_rowMany, (0 : Int32), M_mode, M_under, M_slope, M_base, M_slipSlope, M_slipBase, M_offset, M_bearer, M_bearers, M_matrix, M_loadOver, M_loadUnder, M_eventMany, M_eventKind, M_eventBolt, M_eventOver, M_eventUnder, M_had, M_nextOver, M_nextUnder, M_met, M_fresh, M_aheadOver, M_aheadUnder, M_behindOver, M_behindUnder)
  else
    (f_M_isBolt l2 M_many).bind fun r_19 =>
    if r_19 = (0 : Int32) then
      some ((-1 : Int32), M_row, M_rowMany, (0 : Int32), M_mode, M_under, M_slope, M_base, M_slipSlope, M_slipBase, M_offset, M_bearer, M_bearers, M_matrix, M_loadOver, M_loadUnder, M_eventMany, M_eventKind, M_eventBolt, M_eventOver, M_eventUnder, M_had, M_nextOver, M_nextUnder, M_met, M_fresh, M_aheadOver, M_aheadUnder, M_behindOver, M_behindUnder)
    else
      bd26 (f_M_grow F M_now M_many M_upper M_lower M_mode M_under M_slope M_base M_slipSlope M_slipBase M_offset M_bearer M_bearers M_matrix M_loadOver M_loadUnder M_eventMany M_eventKind M_eventBolt M_eventOver M_eventUnder M_had M_nextOver M_nextUnder M_met M_fresh M_aheadOver M_aheadUnder M_behindOver M_behindUnder) fun M_mode_28 M_under_28 M_slope_28 M_base_28 M_slipSlope_28 M_slipBase_28 M_offset_28 M_bearer_28 M_bearers_28 M_matrix_28 M_loadOver_28 M_loadUnder_28 M_eventMany_28 M_eventKind_28 M_eventBolt_28 M_eventOver_28 M_eventUnder_28 M_had_28 M_nextOver_28 M_nextUnder_28 M_met_28 M_fresh_28 M_aheadOver_28 M_aheadUnder_28 M_behindOver_28 M_behindUnder_28 =>
      (f_M_eventOf F l1 l2 M_eventMany_28 M_eventKind_28 M_eventBolt_28).bind fun r_34 =>
      if r_34 = (-1 : Int32) then
        some ((-2 : Int32), M_row, M_rowMany, (0 : Int32), M_mode_28, M_under_28, M_slope_28, M_base_28, M_slipSlope_28, M_slipBase_28, M_offset_28, M_bearer_28, M_bearers_28, M_matrix_28, M_loadOver_28, M_loadUnder_28, M_eventMany_28, M_eventKind_28, M_eventBolt_28, M_eventOver_28, M_eventUnder_28, M_had_28, M_nextOver_28, M_nextUnder_28, M_met_28, M_fresh_28, M_aheadOver_28, M_aheadUnder_28, M_behindOver_28, M_behindUnder_28)
      else
        (ldA M_eventOver_28 32 r_34).bind fun v_57 =>
        (ldA M_eventUnder_28 32 r_34).bind fun v_63 =>
        bd2 (f_M_tellFraction F v_57 v_63 M_row (0 : Int32)) fun M_row_64 M_rowMany_64 =>
        some ((0 : Int32), M_row_64, M_rowMany_64, (0 : Int32), M_mode_28, M_under_28, M_slope_28, M_base_28, M_slipSlope_28, M_slipBase_28, M_offset_28, M_bearer_28, M_bearers_28, M_matrix_28, M_loadOver_28, M_loadUnder_28, M_eventMany_28, M_eventKind_28, M_eventBolt_28, M_eventOver_28, M_eventUnder_28, M_had_28, M_nextOver_28, M_nextUnder_28, M_met_28, M_fresh_28, M_aheadOver_28, M_aheadUnder_28, M_behindOver_28, M_behindUnder_28)
noncomputable def fj_M_layMore_103 (l2 : Int32) (l9 : Int64) (l11 : Int64) (s0 : Int64) (M_moreOver : Nat → Int64) (M_moreUnder : Nat → Int64) : Option ((Nat → Int64) × (Nat → Int64)) :=
  (dvL l9 s0).bind fun v_114 =>
  (stL M_moreOver 5 l2 v_114).bind fun M_moreOver_115 =>
  (dvL l11 s0).bind fun v_125 =>
  (stL M_moreUnder 5 l2 v_125).bind fun M_moreUnder_126 =>
  some (M_moreOver_115, M_moreUnder_126)
noncomputable def f_M_layMore (F : Nat) (l1 : Int32) (l2 : Int32) (M_aheadOver : Nat → Int64) (M_aheadUnder : Nat → Int64) (M_behindOver : Nat → Int64) (M_behindUnder : Nat → Int64) (M_moreOver : Nat → Int64) (M_moreUnder : Nat → Int64) : Option ((Nat → Int64) × (Nat → Int64)) :=
  (ldA M_behindOver 25 (((5 : Int32) * l1) + l2)).bind fun v_9 =>
  (ldA M_aheadOver 25 (((5 : Int32) * l1) + l2)).bind fun v_20 =>
  (ldA M_behindUnder 5 l1).bind fun v_28 =>
  (ldA M_aheadUnder 5 l1).bind fun v_34 =>
  (f_M_common F v_28 v_34).bind fun r_35 =>
  (ldA M_aheadUnder 5 l1).bind fun v_46 =>
  (dvL v_46 r_35).bind fun v_49 =>
  (ldA M_behindUnder 5 l1).bind fun v_58 =>
  (dvL v_58 r_35).bind fun v_61 =>
  nm ((v_9 * v_49) - (v_20 * v_61)) fun l9_64 =>
  (ldA M_behindUnder 5 l1).bind fun v_71 =>
  (dvL v_71 r_35).bind fun v_74 =>
  (ldA M_aheadUnder 5 l1).bind fun v_80 =>
  nm (v_74 * v_80) fun l11_82 =>
  if l9_64 = (0 : Int64) then
    fj_M_layMore_103 l2 l9_64 l11_82 l11_82 M_moreOver M_moreUnder
  else
    (f_M_common F l9_64 l11_82).bind fun r_100 =>
    fj_M_layMore_103 l2 l9_64 l11_82 r_100 M_moreOver M_moreUnder
noncomputable def fj_M_lastBreak_27 (l2 : Int32) (s0 : Int32) : Option ((Int32 × Int32) ⊕ (Int32)) :=
  nm (l2 + (1 : Int32)) fun l2_28 =>
  some (.inl (s0, l2_28))
noncomputable def fb_M_lastBreak_4 (M_eventMany : Int32) (M_eventKind : Nat → Int32) (l1 : Int32) (l2 : Int32) : Option ((Int32 × Int32) ⊕ (Int32)) :=
  if M_eventMany ≤ l2 then
    some (.inr l1)
  else
    (ldA M_eventKind 32 l2).bind fun v_17 =>
    if v_17 = (2 : Int32) then
      fj_M_lastBreak_27 l2 l2
    else
      fj_M_lastBreak_27 l2 l1
noncomputable def f_M_lastBreak (F : Nat) (M_eventMany : Int32) (M_eventKind : Nat → Int32) : Option (Int32) :=
  (iter (un2 (fb_M_lastBreak_4 M_eventMany M_eventKind)) F ((-1 : Int32), (0 : Int32))).bind fun l1_4 =>
  some l1_4
noncomputable def fj_M_sheds_149 (l4 : Int64) (l6 : Int32) (M_moreOver : Nat → Int64) (M_moreUnder : Nat → Int64) : Option ((Int64 × Int32 × (Nat → Int64) × (Nat → Int64)) ⊕ (Int64 × (Nat → Int64) × (Nat → Int64))) :=
  nm (l6 + (1 : Int32)) fun l6_149 =>
  some (.inl (l4, l6_149, M_moreOver, M_moreUnder))
noncomputable def fj_M_sheds_91 (F : Nat) (l1 : Int32) (l4 : Int64) (l6 : Int32) (s0 : Int32) (M_aheadOver : Nat → Int64) (M_aheadUnder : Nat → Int64) (M_behindOver : Nat → Int64) (M_behindUnder : Nat → Int64) (M_moreOver : Nat → Int64) (M_moreUnder : Nat → Int64) : Option ((Int64 × Int32 × (Nat → Int64) × (Nat → Int64)) ⊕ (Int64 × (Nat → Int64) × (Nat → Int64))) :=
  (stL M_moreOver 5 l6 (0 : Int64)).bind fun M_moreOver_100 =>
  (stL M_moreUnder 5 l6 (1 : Int64)).bind fun M_moreUnder_108 =>
  if s0 = (0 : Int32) then
    fj_M_sheds_149 l4 l6 M_moreOver_100 M_moreUnder_108
  else
    bd2 (f_M_layMore F l1 l6 M_aheadOver M_aheadUnder M_behindOver M_behindUnder M_moreOver_100 M_moreUnder_108) fun M_moreOver_121 M_moreUnder_121 =>
    (ldA M_moreUnder_121 5 l6).bind fun v_134 =>
    (f_M_common F l4 v_134).bind fun r_135 =>
    (dvL l4 r_135).bind fun v_138 =>
    (ldA M_moreUnder_121 5 l6).bind fun v_145 =>
    nm (v_138 * v_145) fun l4_147 =>
    fj_M_sheds_149 l4_147 l6 M_moreOver_121 M_moreUnder_121
noncomputable def fj_M_sheds_90 (F : Nat) (l1 : Int32) (l4 : Int64) (l6 : Int32) (M_aheadOver : Nat → Int64) (M_aheadUnder : Nat → Int64) (M_behindOver : Nat → Int64) (M_behindUnder : Nat → Int64) (M_moreOver : Nat → Int64) (M_moreUnder : Nat → Int64) : Option ((Int64 × Int32 × (Nat → Int64) × (Nat → Int64)) ⊕ (Int64 × (Nat → Int64) × (Nat → Int64))) :=
  fj_M_sheds_91 F l1 l4 l6 (0 : Int32) M_aheadOver M_aheadUnder M_behindOver M_behindUnder M_moreOver M_moreUnder
noncomputable def fb_M_sheds_50 (F : Nat) (l1 : Int32) (l2 : Int32) (M_now : Nat → Int32) (M_many : Int32) (M_eventMany : Int32) (M_eventKind : Nat → Int32) (M_eventBolt : Nat → Int32) (M_aheadOver : Nat → Int64) (M_aheadUnder : Nat → Int64) (M_behindOver : Nat → Int64) (M_behindUnder : Nat → Int64) (l4 : Int64) (l6 : Int32) (M_moreOver : Nat → Int64) (M_moreUnder : Nat → Int64) : Option ((Int64 × Int32 × (Nat → Int64) × (Nat → Int64)) ⊕ (Int64 × (Nat → Int64) × (Nat → Int64))) :=
  if M_many ≤ l6 then
    some (.inr (l4, M_moreOver, M_moreUnder))
  else
    (f_M_of l6 (5 : Int32) M_now).bind fun r_63 =>
    if r_63 = (0 : Int32) then
      if l6 = l1 then
        fj_M_sheds_90 F l1 l4 l6 M_aheadOver M_aheadUnder M_behindOver M_behindUnder M_moreOver M_moreUnder
      else
        (f_M_eventOf F (2 : Int32) l6 M_eventMany M_eventKind M_eventBolt).bind fun r_79 =>
        if r_79 ≤ l2 then
          fj_M_sheds_90 F l1 l4 l6 M_aheadOver M_aheadUnder M_behindOver M_behindUnder M_moreOver M_moreUnder
        else
          fj_M_sheds_91 F l1 l4 l6 (1 : Int32) M_aheadOver M_aheadUnder M_behindOver M_behindUnder M_moreOver M_moreUnder
    else
      fj_M_sheds_90 F l1 l4 l6 M_aheadOver M_aheadUnder M_behindOver M_behindUnder M_moreOver M_moreUnder
noncomputable def fj_M_sheds_225 (l3 : Int32) (l6 : Int32) : Option ((Int32 × Int32) ⊕ (Int32)) :=
  nm (l6 + (1 : Int32)) fun l6_225 =>
  some (.inl (l3, l6_225))
noncomputable def fj_M_sheds_222 (l6 : Int32) : Option ((Int32 × Int32) ⊕ (Int32)) :=
  fj_M_sheds_225 l6 l6
noncomputable def fb_M_sheds_158 (l4 : Int64) (M_many : Int32) (M_moreOver : Nat → Int64) (M_moreUnder : Nat → Int64) (l3 : Int32) (l6 : Int32) : Option ((Int32 × Int32) ⊕ (Int32)) :=
  if M_many ≤ l6 then
    some (.inr l3)
  else
    (ldA M_moreOver 5 l6).bind fun v_173 =>
    if v_173 ≤ (0 : Int64) then
      fj_M_sheds_225 l3 l6
    else
      if l3 = (-1 : Int32) then
        fj_M_sheds_222 l6
      else
        (ldA M_moreOver 5 l6).bind fun v_190 =>
        (ldA M_moreUnder 5 l6).bind fun v_199 =>
        (dvL l4 v_199).bind fun v_200 =>
        (ldA M_moreOver 5 l3).bind fun v_207 =>
        (ldA M_moreUnder 5 l3).bind fun v_215 =>
        (dvL l4 v_215).bind fun v_216 =>
        if (v_190 * v_200) ≤ (v_207 * v_216) then
          fj_M_sheds_225 l3 l6
        else
          fj_M_sheds_222 l6
noncomputable def fb_M_sheds_245 (l4 : Int64) (M_many : Int32) (M_moreOver : Nat → Int64) (M_moreUnder : Nat → Int64) (l6 : Int32) (M_row : Nat → Int64) (M_rowMany : Int32) : Option ((Int32 × (Nat → Int64) × Int32) ⊕ ((Nat → Int64) × Int32)) :=
  if M_many ≤ l6 then
    some (.inr (M_row, M_rowMany))
  else
    (ldA M_moreOver 5 l6).bind fun v_261 =>
    (ldA M_moreUnder 5 l6).bind fun v_270 =>
    (dvL l4 v_270).bind fun v_271 =>
    bd2 (f_M_tell (v_261 * v_271) M_row M_rowMany) fun M_row_273 M_rowMany_273 =>
    nm (l6 + (1 : Int32)) fun l6_276 =>
    some (.inl (l6_276, M_row_273, M_rowMany_273))
noncomputable def f_M_sheds (F : Nat) (l1 : Int32) (M_now : Nat → Int32) (M_many : Int32) (M_upper : Int32) (M_lower : Int32) (M_row : Nat → Int64) (M_rowMany : Int32) (M_thrown : Int32) (M_mode : Nat → Int32) (M_under : Int64) (M_slope : Nat → Int64) (M_base : Nat → Int64) (M_slipSlope : Nat → Int64) (M_slipBase : Nat → Int64) (M_offset : Nat → Int64) (M_bearer : Nat → Int32) (M_bearers : Int32) (M_matrix : Nat → Int64) (M_loadOver : Int64) (M_loadUnder : Int64) (M_eventMany : Int32) (M_eventKind : Nat → Int32) (M_eventBolt : Nat → Int32) (M_eventOver : Nat → Int64) (M_eventUnder : Nat → Int64) (M_had : Nat → Int32) (M_nextOver : Int64) (M_nextUnder : Int64) (M_met : Nat → Int32) (M_fresh : Nat → Int32) (M_aheadOver : Nat → Int64) (M_aheadUnder : Nat → Int64) (M_behindOver : Nat → Int64) (M_behindUnder : Nat → Int64) (M_moreOver : Nat → Int64) (M_moreUnder : Nat → Int64) : Option (Int32 × (Nat → Int64) × Int32 × Int32 × (Nat → Int32) × Int64 × (Nat → Int64) × (Nat → Int64) × (Nat → Int64) × (Nat → Int64) × (Nat → Int64) × (Nat → Int32) × Int32 × (Nat → Int64) × Int64 × Int64 × Int32 × (Nat → Int32) × (Nat → Int32) × (Nat → Int64) × (Nat → Int64) × (Nat → Int32) × Int64 × Int64 × (Nat → Int32) × (Nat → Int32) × (Nat → Int64) × (Nat → Int64) × (Nat → Int64) × (Nat → Int64) × (Nat → Int64) × (Nat → Int64)) :=
  (f_M_isBolt l1 M_many).bind fun r_7 =>
  if r_7 = (0 : Int32) then
    some ((-1 : Int32), M_row, M_rowMany, (0 : Int32), M_mode, M_under, M_slope, M_base, M_slipSlope, M_slipBase, M_offset, M_bearer, M_bearers, M_matrix, M_loadOver, M_loadUnder, M_eventMany, M_eventKind, M_eventBolt, M_eventOver, M_eventUnder, M_had, M_nextOver, M_nextUnder, M_met, M_fresh, M_aheadOver, M_aheadUnder, M_behindOver, M_behindUnder, M_moreOver, M_moreUnder)
  else
    bd26 (f_M_grow F M_now M_many M_upper M_lower M_mode M_under M_slope M_base M_slipSlope M_slipBase M_offset M_bearer M_bearers M_matrix M_loadOver M_loadUnder M_eventMany M_eventKind M_eventBolt M_eventOver M_eventUnder M_had M_nextOver M_nextUnder M_met M_fresh M_aheadOver M_aheadUnder M_behindOver M_behindUnder) fun M_mode_16 M_under_16 M_slope_16 M_base_16 M_slipSlope_16 M_slipBase_16 M_offset_16 M_bearer_16 M_bearers_16 M_matrix_16 M_loadOver_16 M_loadUnder_16 M_eventMany_16 M_eventKind_16 M_eventBolt_16 M_eventOver_16 M_eventUnder_16 M_had_16 M_nextOver_16 M_nextUnder_16 M_met_16 M_fresh_16 M_aheadOver_16 M_aheadUnder_16 M_behindOver_16 M_behindUnder_16 =>
    (f_M_eventOf F (2 : Int32) l1 M_eventMany_16 M_eventKind_16 M_eventBolt_16).bind fun r_22 =>
    if r_22 = (-1 : Int32) then
      some ((-2 : Int32), M_row, M_rowMany, (0 : Int32), M_mode_16, M_under_16, M_slope_16, M_base_16, M_slipSlope_16, M_slipBase_16, M_offset_16, M_bearer_16, M_bearers_16, M_matrix_16, M_loadOver_16, M_loadUnder_16, M_eventMany_16, M_eventKind_16, M_eventBolt_16, M_eventOver_16, M_eventUnder_16, M_had_16, M_nextOver_16, M_nextUnder_16, M_met_16, M_fresh_16, M_aheadOver_16, M_aheadUnder_16, M_behindOver_16, M_behindUnder_16, M_moreOver, M_moreUnder)
    else
      (f_M_lastBreak F M_eventMany_16 M_eventKind_16).bind fun r_33 =>
      if r_22 = r_33 then
        some ((-2 : Int32), M_row, M_rowMany, (0 : Int32), M_mode_16, M_under_16, M_slope_16, M_base_16, M_slipSlope_16, M_slipBase_16, M_offset_16, M_bearer_16, M_bearers_16, M_matrix_16, M_loadOver_16, M_loadUnder_16, M_eventMany_16, M_eventKind_16, M_eventBolt_16, M_eventOver_16, M_eventUnder_16, M_had_16, M_nextOver_16, M_nextUnder_16, M_met_16, M_fresh_16, M_aheadOver_16, M_aheadUnder_16, M_behindOver_16, M_behindUnder_16, M_moreOver, M_moreUnder)
      else
        bd3 (iter (un4 (fb_M_sheds_50 F l1 r_22 M_now M_many M_eventMany_16 M_eventKind_16 M_eventBolt_16 M_aheadOver_16 M_aheadUnder_16 M_behindOver_16 M_behindUnder_16)) F ((1 : Int64), (0 : Int32), M_moreOver, M_moreUnder)) fun l4_50 M_moreOver_50 M_moreUnder_50 =>
        (iter (un2 (fb_M_sheds_158 l4_50 M_many M_moreOver_50 M_moreUnder_50)) F ((-1 : Int32), (0 : Int32))).bind fun l3_158 =>
        bd2 (f_M_tell l4_50 M_row (0 : Int32)) fun M_row_239 M_rowMany_239 =>
        bd2 (iter (un3 (fb_M_sheds_245 l4_50 M_many M_moreOver_50 M_moreUnder_50)) F ((0 : Int32), M_row_239, M_rowMany_239)) fun M_row_245 M_rowMany_245 =>
        some (l3_158, M_row_245, M_rowMany_245, (0 : Int32), M_mode_16, M_under_16, M_slope_16, M_base_16, M_slipSlope_16, M_slipBase_16, M_offset_16, M_bearer_16, M_bearers_16, M_matrix_16, M_loadOver_16, M_loadUnder_16, M_eventMany_16, M_eventKind_16, M_eventBolt_16, M_eventOver_16, M_eventUnder_16, M_had_16, M_nextOver_16, M_nextUnder_16, M_met_16, M_fresh_16, M_aheadOver_16, M_aheadUnder_16, M_behindOver_16, M_behindUnder_16, M_moreOver_50, M_moreUnder_50)
noncomputable def fj_M_replays_74 (l1 : Int32) (l2 : Int32) (M_wrong : Int32) : Option ((Int32 × Int32 × Int32) ⊕ (Int32)) :=
  nm (l2 + (1 : Int32)) fun l2_74 =>
  some (.inl (l1, l2_74, M_wrong))
noncomputable def fj_M_replays_60 (l1 : Int32) (l2 : Int32) (M_wrong : Int32) : Option ((Int32 × Int32 × Int32) ⊕ (Int32)) :=
  (f_M_fault l2 M_wrong).bind fun M_wrong_62 =>
  fj_M_replays_74 l1 l2 M_wrong_62
noncomputable def fb_M_replays_13 (M_many : Int32) (M_text : Nat → Int32) (M_length : Int32) (l1 : Int32) (l2 : Int32) (M_wrong : Int32) : Option ((Int32 × Int32 × Int32) ⊕ (Int32)) :=
  if M_length ≤ l2 then
    some (.inr M_wrong)
  else
    if M_wrong = (-1 : Int32) then
      (ldA M_text 80 l2).bind fun v_34 =>
      nm ((v_34 &&& (255 : Int32)) - (48 : Int32)) fun l3_42 =>
      (f_M_isBolt l3_42 M_many).bind fun r_45 =>
      if r_45 = (0 : Int32) then
        fj_M_replays_60 l1 l2 M_wrong
      else
        if ((l1 >>> (l3_42 &&& 31)) &&& (1 : Int32)) = (1 : Int32) then
          fj_M_replays_60 l1 l2 M_wrong
        else
          nm (l1 ||| ((1 : Int32) <<< (l3_42 &&& 31))) fun l1_73 =>
          fj_M_replays_74 l1_73 l2 M_wrong
    else
      some (.inr M_wrong)
noncomputable def fj_M_replays_187 (l2 : Int32) (l3 : Int32) (l4 : Int32) (l5 : Int32) : Option ((Int32 × Int32 × Int32 × Int32) ⊕ (Int32 × Int32)) :=
  nm (l5 + (1 : Int32)) fun l5_187 =>
  some (.inl (l2, l3, l4, l5_187))
noncomputable def fj_M_replays_182 (l3 : Int32) (l4 : Int32) (l5 : Int32) (s0 : Int32) (s1 : Int32) : Option ((Int32 × Int32 × Int32 × Int32) ⊕ (Int32 × Int32)) :=
  nm (s0 + s1) fun l2_183 =>
  nm (l3 + (1 : Int32)) fun l3_184 =>
  fj_M_replays_187 l2_183 l3_184 l4 l5
noncomputable def fj_M_replays_169 (l2 : Int32) (l3 : Int32) (l5 : Int32) (s0 : Int32) : Option ((Int32 × Int32 × Int32 × Int32) ⊕ (Int32 × Int32)) :=
  if s0 = (0 : Int32) then
    fj_M_replays_182 l3 s0 l5 l2 (0 : Int32)
  else
    fj_M_replays_182 l3 s0 l5 l2 (1 : Int32)
noncomputable def fj_M_replays_168 (l2 : Int32) (l3 : Int32) (l5 : Int32) : Option ((Int32 × Int32 × Int32 × Int32) ⊕ (Int32 × Int32)) :=
  fj_M_replays_169 l2 l3 l5 (0 : Int32)
noncomputable def fb_M_replays_109 (M_text : Nat → Int32) (M_length : Int32) (M_eventMany : Int32) (M_eventKind : Nat → Int32) (M_eventBolt : Nat → Int32) (l2 : Int32) (l3 : Int32) (l4 : Int32) (l5 : Int32) : Option ((Int32 × Int32 × Int32 × Int32) ⊕ (Int32 × Int32)) :=
  if M_eventMany ≤ l5 then
    some (.inr (l2, l3))
  else
    (ldA M_eventKind 32 l5).bind fun v_124 =>
    if v_124 = (2 : Int32) then
      if l4 = (0 : Int32) then
        fj_M_replays_168 l2 l3 l5
      else
        if M_length ≤ l3 then
          fj_M_replays_168 l2 l3 l5
        else
          (ldA M_text 80 l3).bind fun v_150 =>
          (ldA M_eventBolt 32 l5).bind fun v_160 =>
          if (v_150 - (48 : Int32)) = v_160 then
            fj_M_replays_169 l2 l3 l5 (1 : Int32)
          else
            fj_M_replays_168 l2 l3 l5
    else
      fj_M_replays_187 l2 l3 l4 l5
noncomputable def fj_M_replays_80 (F : Nat) (M_now : Nat → Int32) (M_many : Int32) (M_upper : Int32) (M_lower : Int32) (M_text : Nat → Int32) (M_typed : Int32) (M_row : Nat → Int64) (M_rowMany : Int32) (M_thrown : Int32) (M_length : Int32) (M_at : Int32) (M_wrong : Int32) (M_mode : Nat → Int32) (M_under : Int64) (M_slope : Nat → Int64) (M_base : Nat → Int64) (M_slipSlope : Nat → Int64) (M_slipBase : Nat → Int64) (M_offset : Nat → Int64) (M_bearer : Nat → Int32) (M_bearers : Int32) (M_matrix : Nat → Int64) (M_loadOver : Int64) (M_loadUnder : Int64) (M_eventMany : Int32) (M_eventKind : Nat → Int32) (M_eventBolt : Nat → Int32) (M_eventOver : Nat → Int64) (M_eventUnder : Nat → Int64) (M_had : Nat → Int32) (M_nextOver : Int64) (M_nextUnder : Int64) (M_met : Nat → Int32) (M_fresh : Nat → Int32) (M_aheadOver : Nat → Int64) (M_aheadUnder : Nat → Int64) (M_behindOver : Nat → Int64) (M_behindUnder : Nat → Int64) : Option (Int32 × Int32 × (Nat → Int64) × Int32 × Int32 × Int32 × Int32 × Int32 × (Nat → Int32) × Int64 × (Nat → Int64) × (Nat → Int64) × (Nat → Int64) × (Nat → Int64) × (Nat → Int64) × (Nat → Int32) × Int32 × (Nat → Int64) × Int64 × Int64 × Int32 × (Nat → Int32) × (Nat → Int32) × (Nat → Int64) × (Nat → Int64) × (Nat → Int32) × Int64 × Int64 × (Nat → Int32) × (Nat → Int32) × (Nat → Int64) × (Nat → Int64) × (Nat → Int64) × (Nat → Int64)) :=
  if M_wrong = (-1 : Int32) then
    bd26 (f_M_grow F M_now M_many M_upper M_lower M_mode M_under M_slope M_base M_slipSlope M_slipBase M_offset M_bearer M_bearers M_matrix M_loadOver M_loadUnder M_eventMany M_eventKind M_eventBolt M_eventOver M_eventUnder M_had M_nextOver M_nextUnder M_met M_fresh M_aheadOver M_aheadUnder M_behindOver M_behindUnder) fun M_mode_96 M_under_96 M_slope_96 M_base_96 M_slipSlope_96 M_slipBase_96 M_offset_96 M_bearer_96 M_bearers_96 M_matrix_96 M_loadOver_96 M_loadUnder_96 M_eventMany_96 M_eventKind_96 M_eventBolt_96 M_eventOver_96 M_eventUnder_96 M_had_96 M_nextOver_96 M_nextUnder_96 M_met_96 M_fresh_96 M_aheadOver_96 M_aheadUnder_96 M_behindOver_96 M_behindUnder_96 =>
    bd2 (iter (un4 (fb_M_replays_109 M_text M_length M_eventMany_96 M_eventKind_96 M_eventBolt_96)) F ((0 : Int32), (0 : Int32), (1 : Int32), (0 : Int32))) fun l2_109 l3_109 =>
    if l2_109 = M_length then
      if l3_109 = M_length then
        bd2 (f_M_tell (1 : Int64) M_row (0 : Int32)) fun M_row_220 M_rowMany_220 =>
        some (l2_109, M_typed, M_row_220, M_rowMany_220, M_thrown, M_length, M_at, M_wrong, M_mode_96, M_under_96, M_slope_96, M_base_96, M_slipSlope_96, M_slipBase_96, M_offset_96, M_bearer_96, M_bearers_96, M_matrix_96, M_loadOver_96, M_loadUnder_96, M_eventMany_96, M_eventKind_96, M_eventBolt_96, M_eventOver_96, M_eventUnder_96, M_had_96, M_nextOver_96, M_nextUnder_96, M_met_96, M_fresh_96, M_aheadOver_96, M_aheadUnder_96, M_behindOver_96, M_behindUnder_96)
      else
        bd2 (f_M_tell (0 : Int64) M_row (0 : Int32)) fun M_row_220 M_rowMany_220 =>
        some (l2_109, M_typed, M_row_220, M_rowMany_220, M_thrown, M_length, M_at, M_wrong, M_mode_96, M_under_96, M_slope_96, M_base_96, M_slipSlope_96, M_slipBase_96, M_offset_96, M_bearer_96, M_bearers_96, M_matrix_96, M_loadOver_96, M_loadUnder_96, M_eventMany_96, M_eventKind_96, M_eventBolt_96, M_eventOver_96, M_eventUnder_96, M_had_96, M_nextOver_96, M_nextUnder_96, M_met_96, M_fresh_96, M_aheadOver_96, M_aheadUnder_96, M_behindOver_96, M_behindUnder_96)
    else
      bd2 (f_M_tell (0 : Int64) M_row (0 : Int32)) fun M_row_220 M_rowMany_220 =>
      some (l2_109, M_typed, M_row_220, M_rowMany_220, M_thrown, M_length, M_at, M_wrong, M_mode_96, M_under_96, M_slope_96, M_base_96, M_slipSlope_96, M_slipBase_96, M_offset_96, M_bearer_96, M_bearers_96, M_matrix_96, M_loadOver_96, M_loadUnder_96, M_eventMany_96, M_eventKind_96, M_eventBolt_96, M_eventOver_96, M_eventUnder_96, M_had_96, M_nextOver_96, M_nextUnder_96, M_met_96, M_fresh_96, M_aheadOver_96, M_aheadUnder_96, M_behindOver_96, M_behindUnder_96)
  else
    some (((-1 : Int32) - M_wrong), M_typed, M_row, M_rowMany, M_thrown, M_length, M_at, M_wrong, M_mode, M_under, M_slope, M_base, M_slipSlope, M_slipBase, M_offset, M_bearer, M_bearers, M_matrix, M_loadOver, M_loadUnder, M_eventMany, M_eventKind, M_eventBolt, M_eventOver, M_eventUnder, M_had, M_nextOver, M_nextUnder, M_met, M_fresh, M_aheadOver, M_aheadUnder, M_behindOver, M_behindUnder)
noncomputable def f_M_replays (F : Nat) (M_now : Nat → Int32) (M_many : Int32) (M_upper : Int32) (M_lower : Int32) (M_text : Nat → Int32) (M_typed : Int32) (M_row : Nat → Int64) (M_rowMany : Int32) (M_thrown : Int32) (M_length : Int32) (M_at : Int32) (M_wrong : Int32) (M_mode : Nat → Int32) (M_under : Int64) (M_slope : Nat → Int64) (M_base : Nat → Int64) (M_slipSlope : Nat → Int64) (M_slipBase : Nat → Int64) (M_offset : Nat → Int64) (M_bearer : Nat → Int32) (M_bearers : Int32) (M_matrix : Nat → Int64) (M_loadOver : Int64) (M_loadUnder : Int64) (M_eventMany : Int32) (M_eventKind : Nat → Int32) (M_eventBolt : Nat → Int32) (M_eventOver : Nat → Int64) (M_eventUnder : Nat → Int64) (M_had : Nat → Int32) (M_nextOver : Int64) (M_nextUnder : Int64) (M_met : Nat → Int32) (M_fresh : Nat → Int32) (M_aheadOver : Nat → Int64) (M_aheadUnder : Nat → Int64) (M_behindOver : Nat → Int64) (M_behindUnder : Nat → Int64) : Option (Int32 × Int32 × (Nat → Int64) × Int32 × Int32 × Int32 × Int32 × Int32 × (Nat → Int32) × Int64 × (Nat → Int64) × (Nat → Int64) × (Nat → Int64) × (Nat → Int64) × (Nat → Int64) × (Nat → Int32) × Int32 × (Nat → Int64) × Int64 × Int64 × Int32 × (Nat → Int32) × (Nat → Int32) × (Nat → Int64) × (Nat → Int64) × (Nat → Int32) × Int64 × Int64 × (Nat → Int32) × (Nat → Int32) × (Nat → Int64) × (Nat → Int64) × (Nat → Int64) × (Nat → Int64)) :=
  bd4 (f_M_begin M_typed M_length M_at M_wrong) fun M_typed_6 M_length_6 M_at_6 M_wrong_6 =>
  (iter (un3 (fb_M_replays_13 M_many M_text M_length_6)) F ((0 : Int32), (0 : Int32), M_wrong_6)).bind fun M_wrong_13 =>
  fj_M_replays_80 F M_now M_many M_upper M_lower M_text M_typed_6 M_row M_rowMany (0 : Int32) M_length_6 M_at_6 M_wrong_13 M_mode M_under M_slope M_base M_slipSlope M_slipBase M_offset M_bearer M_bearers M_matrix M_loadOver M_loadUnder M_eventMany M_eventKind M_eventBolt M_eventOver M_eventUnder M_had M_nextOver M_nextUnder M_met M_fresh M_aheadOver M_aheadUnder M_behindOver M_behindUnder
noncomputable def fb_M_layAside_2 (M_now : Nat → Int32) (l1 : Int32) (M_aside : Nat → Int32) : Option ((Int32 × (Nat → Int32)) ⊕ ((Nat → Int32))) :=
  if (35 : Int32) ≤ l1 then
    some (.inr M_aside)
  else
    (ldA M_now 35 l1).bind fun v_21 =>
    (stI M_aside 35 l1 v_21).bind fun M_aside_22 =>
    nm (l1 + (1 : Int32)) fun l1_23 =>
    some (.inl (l1_23, M_aside_22))
noncomputable def f_M_layAside (F : Nat) (M_now : Nat → Int32) (M_aside : Nat → Int32) : Option ((Nat → Int32)) :=
  (iter (un2 (fb_M_layAside_2 M_now)) F ((0 : Int32), M_aside)).bind fun M_aside_2 =>
  some M_aside_2
noncomputable def fb_M_comesBack_2 (M_aside : Nat → Int32) (l1 : Int32) (M_now : Nat → Int32) : Option ((Int32 × (Nat → Int32)) ⊕ ((Nat → Int32))) :=
  if (35 : Int32) ≤ l1 then
    some (.inr M_now)
  else
    (ldA M_aside 35 l1).bind fun v_21 =>
    (stI M_now 35 l1 v_21).bind fun M_now_22 =>
    nm (l1 + (1 : Int32)) fun l1_23 =>
    some (.inl (l1_23, M_now_22))
noncomputable def f_M_comesBack (F : Nat) (M_now : Nat → Int32) (M_aside : Nat → Int32) : Option ((Nat → Int32)) :=
  (iter (un2 (fb_M_comesBack_2 M_aside)) F ((0 : Int32), M_now)).bind fun M_now_2 =>
  some M_now_2
noncomputable def f_M_against (l1 : Int64) (l3 : Int64) (M_loadOver : Int64) (M_loadUnder : Int64) : Option (Int32) :=
  nm (M_loadOver * l3) fun l5_6 =>
  nm (l1 * M_loadUnder) fun l7_14 =>
  if l5_6 ≤ l7_14 then
    if l5_6 = l7_14 then
      some (0 : Int32)
    else
      some (-1 : Int32)
  else
    some (1 : Int32)
noncomputable def f_M_without (F : Nat) (l1 : Int32) (M_now : Nat → Int32) (M_many : Int32) (M_upper : Int32) (M_lower : Int32) (M_row : Nat → Int64) (M_rowMany : Int32) (M_thrown : Int32) (M_mode : Nat → Int32) (M_under : Int64) (M_slope : Nat → Int64) (M_base : Nat → Int64) (M_slipSlope : Nat → Int64) (M_slipBase : Nat → Int64) (M_offset : Nat → Int64) (M_bearer : Nat → Int32) (M_bearers : Int32) (M_matrix : Nat → Int64) (M_loadOver : Int64) (M_loadUnder : Int64) (M_eventMany : Int32) (M_eventKind : Nat → Int32) (M_eventBolt : Nat → Int32) (M_eventOver : Nat → Int64) (M_eventUnder : Nat → Int64) (M_had : Nat → Int32) (M_nextOver : Int64) (M_nextUnder : Int64) (M_met : Nat → Int32) (M_fresh : Nat → Int32) (M_aheadOver : Nat → Int64) (M_aheadUnder : Nat → Int64) (M_behindOver : Nat → Int64) (M_behindUnder : Nat → Int64) : Option (Int32 × (Nat → Int32) × (Nat → Int64) × Int32 × Int32 × (Nat → Int32) × Int64 × (Nat → Int64) × (Nat → Int64) × (Nat → Int64) × (Nat → Int64) × (Nat → Int64) × (Nat → Int32) × Int32 × (Nat → Int64) × Int64 × Int64 × Int32 × (Nat → Int32) × (Nat → Int32) × (Nat → Int64) × (Nat → Int64) × (Nat → Int32) × Int64 × Int64 × (Nat → Int32) × (Nat → Int32) × (Nat → Int64) × (Nat → Int64) × (Nat → Int64) × (Nat → Int64)) :=
  (f_M_isBolt l1 M_many).bind fun r_7 =>
  if r_7 = (0 : Int32) then
    some ((-1 : Int32), M_now, M_row, M_rowMany, (0 : Int32), M_mode, M_under, M_slope, M_base, M_slipSlope, M_slipBase, M_offset, M_bearer, M_bearers, M_matrix, M_loadOver, M_loadUnder, M_eventMany, M_eventKind, M_eventBolt, M_eventOver, M_eventUnder, M_had, M_nextOver, M_nextUnder, M_met, M_fresh, M_aheadOver, M_aheadUnder, M_behindOver, M_behindUnder)
  else
    (f_M_of l1 (5 : Int32) M_now).bind fun r_18 =>
    if r_18 = (1 : Int32) then
      some ((-2 : Int32), M_now, M_row, M_rowMany, (0 : Int32), M_mode, M_under, M_slope, M_base, M_slipSlope, M_slipBase, M_offset, M_bearer, M_bearers, M_matrix, M_loadOver, M_loadUnder, M_eventMany, M_eventKind, M_eventBolt, M_eventOver, M_eventUnder, M_had, M_nextOver, M_nextUnder, M_met, M_fresh, M_aheadOver, M_aheadUnder, M_behindOver, M_behindUnder)
    else
      bd26 (f_M_grow F M_now M_many M_upper M_lower M_mode M_under M_slope M_base M_slipSlope M_slipBase M_offset M_bearer M_bearers M_matrix M_loadOver M_loadUnder M_eventMany M_eventKind M_eventBolt M_eventOver M_eventUnder M_had M_nextOver M_nextUnder M_met M_fresh M_aheadOver M_aheadUnder M_behindOver M_behindUnder) fun M_mode_29 M_under_29 M_slope_29 M_base_29 M_slipSlope_29 M_slipBase_29 M_offset_29 M_bearer_29 M_bearers_29 M_matrix_29 M_loadOver_29 M_loadUnder_29 M_eventMany_29 M_eventKind_29 M_eventBolt_29 M_eventOver_29 M_eventUnder_29 M_had_29 M_nextOver_29 M_nextUnder_29 M_met_29 M_fresh_29 M_aheadOver_29 M_aheadUnder_29 M_behindOver_29 M_behindUnder_29 =>
      (stI M_now 35 (((7 : Int32) * l1) + (5 : Int32)) (1 : Int32)).bind fun M_now_54 =>
      bd26 (f_M_grow F M_now_54 M_many M_upper M_lower M_mode_29 M_under_29 M_slope_29 M_base_29 M_slipSlope_29 M_slipBase_29 M_offset_29 M_bearer_29 M_bearers_29 M_matrix_29 M_loadOver_29 M_loadUnder_29 M_eventMany_29 M_eventKind_29 M_eventBolt_29 M_eventOver_29 M_eventUnder_29 M_had_29 M_nextOver_29 M_nextUnder_29 M_met_29 M_fresh_29 M_aheadOver_29 M_aheadUnder_29 M_behindOver_29 M_behindUnder_29) fun M_mode_56 M_under_56 M_slope_56 M_base_56 M_slipSlope_56 M_slipBase_56 M_offset_56 M_bearer_56 M_bearers_56 M_matrix_56 M_loadOver_56 M_loadUnder_56 M_eventMany_56 M_eventKind_56 M_eventBolt_56 M_eventOver_56 M_eventUnder_56 M_had_56 M_nextOver_56 M_nextUnder_56 M_met_56 M_fresh_56 M_aheadOver_56 M_aheadUnder_56 M_behindOver_56 M_behindUnder_56 =>
      (stI M_now_54 35 (((7 : Int32) * l1) + (5 : Int32)) (0 : Int32)).bind fun M_now_70 =>
      bd2 (f_M_tellFraction F M_loadOver_56 M_loadUnder_56 M_row (0 : Int32)) fun M_row_85 M_rowMany_85 =>
      (f_M_against M_loadOver_29 M_loadUnder_29 M_loadOver_56 M_loadUnder_56).bind fun r_93 =>
      some (((1 : Int32) + r_93), M_now_70, M_row_85, M_rowMany_85, (0 : Int32), M_mode_56, M_under_56, M_slope_56, M_base_56, M_slipSlope_56, M_slipBase_56, M_offset_56, M_bearer_56, M_bearers_56, M_matrix_56, M_loadOver_56, M_loadUnder_56, M_eventMany_56, M_eventKind_56, M_eventBolt_56, M_eventOver_56, M_eventUnder_56, M_had_56, M_nextOver_56, M_nextUnder_56, M_met_56, M_fresh_56, M_aheadOver_56, M_aheadUnder_56, M_behindOver_56, M_behindUnder_56)
noncomputable def fj_M_isGreatest_26 (M_loadOver : Int64) (M_loadUnder : Int64) : Option (Int32 × Int64 × Int64) :=
  some ((1 : Int32), M_loadOver, M_loadUnder)
noncomputable def f_M_isGreatest (M_loadOver : Int64) (M_loadUnder : Int64) (M_bestOver : Int64) (M_bestUnder : Int64) : Option (Int32 × Int64 × Int64) :=
  if M_bestUnder = (0 : Int64) then
    fj_M_isGreatest_26 M_loadOver M_loadUnder
  else
    (f_M_against M_bestOver M_bestUnder M_loadOver M_loadUnder).bind fun r_18 =>
    if (0 : Int32) < r_18 then
      fj_M_isGreatest_26 M_loadOver M_loadUnder
    else
      some ((0 : Int32), M_bestOver, M_bestUnder)
noncomputable def fj_M_tunes_59 (l2 : Int32) (l3 : Int32) (M_now : Nat → Int32) (M_mode : Nat → Int32) (M_under : Int64) (M_slope : Nat → Int64) (M_base : Nat → Int64) (M_slipSlope : Nat → Int64) (M_slipBase : Nat → Int64) (M_offset : Nat → Int64) (M_bearer : Nat → Int32) (M_bearers : Int32) (M_matrix : Nat → Int64) (M_loadOver : Int64) (M_loadUnder : Int64) (M_eventMany : Int32) (M_eventKind : Nat → Int32) (M_eventBolt : Nat → Int32) (M_eventOver : Nat → Int64) (M_eventUnder : Nat → Int64) (M_had : Nat → Int32) (M_nextOver : Int64) (M_nextUnder : Int64) (M_met : Nat → Int32) (M_fresh : Nat → Int32) (M_aheadOver : Nat → Int64) (M_aheadUnder : Nat → Int64) (M_behindOver : Nat → Int64) (M_behindUnder : Nat → Int64) (M_bestOver : Int64) (M_bestUnder : Int64) : Option ((Int32 × Int32 × (Nat → Int32) × (Nat → Int32) × Int64 × (Nat → Int64) × (Nat → Int64) × (Nat → Int64) × (Nat → Int64) × (Nat → Int64) × (Nat → Int32) × Int32 × (Nat → Int64) × Int64 × Int64 × Int32 × (Nat → Int32) × (Nat → Int32) × (Nat → Int64) × (Nat → Int64) × (Nat → Int32) × Int64 × Int64 × (Nat → Int32) × (Nat → Int32) × (Nat → Int64) × (Nat → Int64) × (Nat → Int64) × (Nat → Int64) × Int64 × Int64) ⊕ (Int32 × (Nat → Int32) × (Nat → Int32) × Int64 × (Nat → Int64) × (Nat → Int64) × (Nat → Int64) × (Nat → Int64) × (Nat → Int64) × (Nat → Int32) × Int32 × (Nat → Int64) × Int64 × Int64 × Int32 × (Nat → Int32) × (Nat → Int32) × (Nat → Int64) × (Nat → Int64) × (Nat → Int32) × Int64 × Int64 × (Nat → Int32) × (Nat → Int32) × (Nat → Int64) × (Nat → Int64) × (Nat → Int64) × (Nat → Int64) × Int64 × Int64)) :=
  nm (l3 + (1 : Int32)) fun l3_59 =>
  some (.inl (l2, l3_59, M_now, M_mode, M_under, M_slope, M_base, M_slipSlope, M_slipBase, M_offset, M_bearer, M_bearers, M_matrix, M_loadOver, M_loadUnder, M_eventMany, M_eventKind, M_eventBolt, M_eventOver, M_eventUnder, M_had, M_nextOver, M_nextUnder, M_met, M_fresh, M_aheadOver, M_aheadUnder, M_behindOver, M_behindUnder, M_bestOver, M_bestUnder))
noncomputable def fb_M_tunes_28 (F : Nat) (l1 : Int32) (M_many : Int32) (M_upper : Int32) (M_lower : Int32) (l2 : Int32) (l3 : Int32) (M_now : Nat → Int32) (M_mode : Nat → Int32) (M_under : Int64) (M_slope : Nat → Int64) (M_base : Nat → Int64) (M_slipSlope : Nat → Int64) (M_slipBase : Nat → Int64) (M_offset : Nat → Int64) (M_bearer : Nat → Int32) (M_bearers : Int32) (M_matrix : Nat → Int64) (M_loadOver : Int64) (M_loadUnder : Int64) (M_eventMany : Int32) (M_eventKind : Nat → Int32) (M_eventBolt : Nat → Int32) (M_eventOver : Nat → Int64) (M_eventUnder : Nat → Int64) (M_had : Nat → Int32) (M_nextOver : Int64) (M_nextUnder : Int64) (M_met : Nat → Int32) (M_fresh : Nat → Int32) (M_aheadOver : Nat → Int64) (M_aheadUnder : Nat → Int64) (M_behindOver : Nat → Int64) (M_behindUnder : Nat → Int64) (M_bestOver : Int64) (M_bestUnder : Int64) : Option ((Int32 × Int32 × (Nat → Int32) × (Nat → Int32) × Int64 × (Nat → Int64) × (Nat → Int64) × (Nat → Int64) × (Nat → Int64) × (Nat → Int64) × (Nat → Int32) × Int32 × (Nat → Int64) × Int64 × Int64 × Int32 × (Nat → Int32) × (Nat → Int32) × (Nat → Int64) × (Nat → Int64) × (Nat → Int32) × Int64 × Int64 × (Nat → Int32) × (Nat → Int32) × (Nat → Int64) × (Nat → Int64) × (Nat → Int64) × (Nat → Int64) × Int64 × Int64) ⊕ (Int32 × (Nat → Int32) × (Nat → Int32) × Int64 × (Nat → Int64) × (Nat → Int64) × (Nat → Int64) × (Nat → Int64) × (Nat → Int64) × (Nat → Int32) × Int32 × (Nat → Int64) × Int64 × Int64 × Int32 × (Nat → Int32) × (Nat → Int32) × (Nat → Int64) × (Nat → Int64) × (Nat → Int32) × Int64 × Int64 × (Nat → Int32) × (Nat → Int32) × (Nat → Int64) × (Nat → Int64) × (Nat → Int64) × (Nat → Int64) × Int64 × Int64)) :=
  if (9 : Int32) < l3 then
    some (.inr (l2, M_now, M_mode, M_under, M_slope, M_base, M_slipSlope, M_slipBase, M_offset, M_bearer, M_bearers, M_matrix, M_loadOver, M_loadUnder, M_eventMany, M_eventKind, M_eventBolt, M_eventOver, M_eventUnder, M_had, M_nextOver, M_nextUnder, M_met, M_fresh, M_aheadOver, M_aheadUnder, M_behindOver, M_behindUnder, M_bestOver, M_bestUnder))
  else
    (stI M_now 35 (((7 : Int32) * l1) + (1 : Int32)) l3).bind fun M_now_45 =>
    bd26 (f_M_grow F M_now_45 M_many M_upper M_lower M_mode M_under M_slope M_base M_slipSlope M_slipBase M_offset M_bearer M_bearers M_matrix M_loadOver M_loadUnder M_eventMany M_eventKind M_eventBolt M_eventOver M_eventUnder M_had M_nextOver M_nextUnder M_met M_fresh M_aheadOver M_aheadUnder M_behindOver M_behindUnder) fun M_mode_47 M_under_47 M_slope_47 M_base_47 M_slipSlope_47 M_slipBase_47 M_offset_47 M_bearer_47 M_bearers_47 M_matrix_47 M_loadOver_47 M_loadUnder_47 M_eventMany_47 M_eventKind_47 M_eventBolt_47 M_eventOver_47 M_eventUnder_47 M_had_47 M_nextOver_47 M_nextUnder_47 M_met_47 M_fresh_47 M_aheadOver_47 M_aheadUnder_47 M_behindOver_47 M_behindUnder_47 =>
    bd3 (f_M_isGreatest M_loadOver_47 M_loadUnder_47 M_bestOver M_bestUnder) fun r_51 M_bestOver_51 M_bestUnder_51 =>
    if r_51 = (0 : Int32) then
      fj_M_tunes_59 l2 l3 M_now_45 M_mode_47 M_under_47 M_slope_47 M_base_47 M_slipSlope_47 M_slipBase_47 M_offset_47 M_bearer_47 M_bearers_47 M_matrix_47 M_loadOver_47 M_loadUnder_47 M_eventMany_47 M_eventKind_47 M_eventBolt_47 M_eventOver_47 M_eventUnder_47 M_had_47 M_nextOver_47 M_nextUnder_47 M_met_47 M_fresh_47 M_aheadOver_47 M_aheadUnder_47 M_behindOver_47 M_behindUnder_47 M_bestOver_51 M_bestUnder_51
    else
      fj_M_tunes_59 l3 l3 M_now_45 M_mode_47 M_under_47 M_slope_47 M_base_47 M_slipSlope_47 M_slipBase_47 M_offset_47 M_bearer_47 M_bearers_47 M_matrix_47 M_loadOver_47 M_loadUnder_47 M_eventMany_47 M_eventKind_47 M_eventBolt_47 M_eventOver_47 M_eventUnder_47 M_had_47 M_nextOver_47 M_nextUnder_47 M_met_47 M_fresh_47 M_aheadOver_47 M_aheadUnder_47 M_behindOver_47 M_behindUnder_47 M_bestOver_51 M_bestUnder_51
noncomputable def f_M_tunes (F : Nat) (l1 : Int32) (M_now : Nat → Int32) (M_many : Int32) (M_upper : Int32) (M_lower : Int32) (M_row : Nat → Int64) (M_rowMany : Int32) (M_thrown : Int32) (M_mode : Nat → Int32) (M_under : Int64) (M_slope : Nat → Int64) (M_base : Nat → Int64) (M_slipSlope : Nat → Int64) (M_slipBase : Nat → Int64) (M_offset : Nat → Int64) (M_bearer : Nat → Int32) (M_bearers : Int32) (M_matrix : Nat → Int64) (M_loadOver : Int64) (M_loadUnder : Int64) (M_eventMany : Int32) (M_eventKind : Nat → Int32) (M_eventBolt : Nat → Int32) (M_eventOver : Nat → Int64) (M_eventUnder : Nat → Int64) (M_had : Nat → Int32) (M_nextOver : Int64) (M_nextUnder : Int64) (M_met : Nat → Int32) (M_fresh : Nat → Int32) (M_aheadOver : Nat → Int64) (M_aheadUnder : Nat → Int64) (M_behindOver : Nat → Int64) (M_behindUnder : Nat → Int64) (M_aside : Nat → Int32) (M_bestOver : Int64) (M_bestUnder : Int64) : Option (Int32 × (Nat → Int32) × (Nat → Int64) × Int32 × Int32 × (Nat → Int32) × Int64 × (Nat → Int64) × (Nat → Int64) × (Nat → Int64) × (Nat → Int64) × (Nat → Int64) × (Nat → Int32) × Int32 × (Nat → Int64) × Int64 × Int64 × Int32 × (Nat → Int32) × (Nat → Int32) × (Nat → Int64) × (Nat → Int64) × (Nat → Int32) × Int64 × Int64 × (Nat → Int32) × (Nat → Int32) × (Nat → Int64) × (Nat → Int64) × (Nat → Int64) × (Nat → Int64) × (Nat → Int32) × Int64 × Int64) :=
  (f_M_isBolt l1 M_many).bind fun r_7 =>
  if r_7 = (0 : Int32) then
    some ((-1 : Int32), M_now, M_row, M_rowMany, (0 : Int32), M_mode, M_under, M_slope, M_base, M_slipSlope, M_slipBase, M_offset, M_bearer, M_bearers, M_matrix, M_loadOver, M_loadUnder, M_eventMany, M_eventKind, M_eventBolt, M_eventOver, M_eventUnder, M_had, M_nextOver, M_nextUnder, M_met, M_fresh, M_aheadOver, M_aheadUnder, M_behindOver, M_behindUnder, M_aside, M_bestOver, M_bestUnder)
  else
    (f_M_layAside F M_now M_aside).bind fun M_aside_16 =>
    bd30 (iter (un31 (fb_M_tunes_28 F l1 M_many M_upper M_lower)) F ((-1 : Int32), (0 : Int32), M_now, M_mode, M_under, M_slope, M_base, M_slipSlope, M_slipBase, M_offset, M_bearer, M_bearers, M_matrix, M_loadOver, M_loadUnder, M_eventMany, M_eventKind, M_eventBolt, M_eventOver, M_eventUnder, M_had, M_nextOver, M_nextUnder, M_met, M_fresh, M_aheadOver, M_aheadUnder, M_behindOver, M_behindUnder, M_bestOver, (0 : Int64))) fun l2_28 M_now_28 M_mode_28 M_under_28 M_slope_28 M_base_28 M_slipSlope_28 M_slipBase_28 M_offset_28 M_bearer_28 M_bearers_28 M_matrix_28 M_loadOver_28 M_loadUnder_28 M_eventMany_28 M_eventKind_28 M_eventBolt_28 M_eventOver_28 M_eventUnder_28 M_had_28 M_nextOver_28 M_nextUnder_28 M_met_28 M_fresh_28 M_aheadOver_28 M_aheadUnder_28 M_behindOver_28 M_behindUnder_28 M_bestOver_28 M_bestUnder_28 =>
    (f_M_comesBack F M_now_28 M_aside_16).bind fun M_now_66 =>
    bd2 (f_M_tellFraction F M_bestOver_28 M_bestUnder_28 M_row (0 : Int32)) fun M_row_83 M_rowMany_83 =>
    some (l2_28, M_now_66, M_row_83, M_rowMany_83, (0 : Int32), M_mode_28, M_under_28, M_slope_28, M_base_28, M_slipSlope_28, M_slipBase_28, M_offset_28, M_bearer_28, M_bearers_28, M_matrix_28, M_loadOver_28, M_loadUnder_28, M_eventMany_28, M_eventKind_28, M_eventBolt_28, M_eventOver_28, M_eventUnder_28, M_had_28, M_nextOver_28, M_nextUnder_28, M_met_28, M_fresh_28, M_aheadOver_28, M_aheadUnder_28, M_behindOver_28, M_behindUnder_28, M_aside_16, M_bestOver_28, M_bestUnder_28)
noncomputable def f_M_swapPlaces (l1 : Int32) (l2 : Int32) (M_places : Nat → Int32) : Option ((Nat → Int32)) :=
  (ldA M_places 5 l1).bind fun v_5 =>
  (ldA M_places 5 l2).bind fun v_17 =>
  (stI M_places 5 l1 v_17).bind fun M_places_18 =>
  (stI M_places_18 5 l2 v_5).bind fun M_places_25 =>
  some M_places_25
noncomputable def fb_M_nextPlaces_7 (M_places : Nat → Int32) (l1 : Int32) : Option ((Int32) ⊕ (Int32)) :=
  if l1 < (0 : Int32) then
    some (.inr l1)
  else
    (ldA M_places 5 l1).bind fun v_16 =>
    (ldA M_places 5 (l1 + (1 : Int32))).bind fun v_24 =>
    if v_16 ≤ v_24 then
      some (.inr l1)
    else
      nm (l1 + (-1 : Int32)) fun l1_28 =>
      some (.inl l1_28)
noncomputable def fb_M_nextPlaces_47 (l1 : Int32) (M_places : Nat → Int32) (l2 : Int32) : Option ((Int32) ⊕ (Int32)) :=
  (ldA M_places 5 l2).bind fun v_52 =>
  (ldA M_places 5 l1).bind fun v_58 =>
  if v_58 ≤ v_52 then
    some (.inr l2)
  else
    nm (l2 + (-1 : Int32)) fun l2_62 =>
    some (.inl l2_62)
noncomputable def fb_M_nextPlaces_86 (l3 : Int32) (l4 : Int32) (M_places : Nat → Int32) : Option ((Int32 × Int32 × (Nat → Int32)) ⊕ ((Nat → Int32))) :=
  if l4 ≤ l3 then
    some (.inr M_places)
  else
    (f_M_swapPlaces l3 l4 M_places).bind fun M_places_96 =>
    nm (l3 + (1 : Int32)) fun l3_99 =>
    nm (l4 + (-1 : Int32)) fun l4_102 =>
    some (.inl (l3_99, l4_102, M_places_96))
noncomputable def fj_M_nextPlaces_34 (F : Nat) (l1 : Int32) (M_many : Int32) (M_places : Nat → Int32) : Option (Int32 × (Nat → Int32)) :=
  if (0 : Int32) ≤ l1 then
    nm (M_many - (1 : Int32)) fun l2_46 =>
    (iter (fb_M_nextPlaces_47 l1 M_places) F l2_46).bind fun l2_47 =>
    (f_M_swapPlaces l1 l2_47 M_places).bind fun M_places_71 =>
    nm (l1 + (1 : Int32)) fun l3_77 =>
    nm (M_many - (1 : Int32)) fun l4_84 =>
    (iter (un3 (fb_M_nextPlaces_86)) F (l3_77, l4_84, M_places_71)).bind fun M_places_86 =>
    some ((1 : Int32), M_places_86)
  else
    some ((0 : Int32), M_places)
noncomputable def f_M_nextPlaces (F : Nat) (M_many : Int32) (M_places : Nat → Int32) : Option (Int32 × (Nat → Int32)) :=
  nm (M_many - (2 : Int32)) fun l1_6 =>
  (iter (fb_M_nextPlaces_7 M_places) F l1_6).bind fun l1_7 =>
  fj_M_nextPlaces_34 F l1_7 M_many M_places
noncomputable def fb_M_arranges_25 (M_many : Int32) (l1 : Int32) (M_places : Nat → Int32) : Option ((Int32 × (Nat → Int32)) ⊕ ((Nat → Int32))) :=
  if M_many ≤ l1 then
    some (.inr M_places)
  else
    (stI M_places 5 l1 l1).bind fun M_places_39 =>
    nm (l1 + (1 : Int32)) fun l1_40 =>
    some (.inl (l1_40, M_places_39))
noncomputable def fb_M_arranges_64 (l2 : Int32) (M_aside : Nat → Int32) (M_places : Nat → Int32) (l3 : Int32) (M_now : Nat → Int32) : Option ((Int32 × (Nat → Int32)) ⊕ ((Nat → Int32))) :=
  if (5 : Int32) < l3 then
    some (.inr M_now)
  else
    (ldA M_places 5 l2).bind fun v_90 =>
    (ldA M_aside 35 (((7 : Int32) * v_90) + l3)).bind fun v_94 =>
    (stI M_now 35 (((7 : Int32) * l2) + l3) v_94).bind fun M_now_95 =>
    nm (l3 + (1 : Int32)) fun l3_96 =>
    some (.inl (l3_96, M_now_95))
noncomputable def fb_M_arranges_54 (F : Nat) (M_many : Int32) (M_aside : Nat → Int32) (M_places : Nat → Int32) (l2 : Int32) (M_now : Nat → Int32) : Option ((Int32 × (Nat → Int32)) ⊕ ((Nat → Int32))) :=
  if M_many ≤ l2 then
    some (.inr M_now)
  else
    (iter (un2 (fb_M_arranges_64 l2 M_aside M_places)) F ((0 : Int32), M_now)).bind fun M_now_64 =>
    nm (l2 + (1 : Int32)) fun l2_102 =>
    some (.inl (l2_102, M_now_64))
noncomputable def fj_M_arranges_147 (F : Nat) (M_now : Nat → Int32) (M_many : Int32) (M_mode : Nat → Int32) (M_under : Int64) (M_slope : Nat → Int64) (M_base : Nat → Int64) (M_slipSlope : Nat → Int64) (M_slipBase : Nat → Int64) (M_offset : Nat → Int64) (M_bearer : Nat → Int32) (M_bearers : Int32) (M_matrix : Nat → Int64) (M_loadOver : Int64) (M_loadUnder : Int64) (M_eventMany : Int32) (M_eventKind : Nat → Int32) (M_eventBolt : Nat → Int32) (M_eventOver : Nat → Int64) (M_eventUnder : Nat → Int64) (M_had : Nat → Int32) (M_nextOver : Int64) (M_nextUnder : Int64) (M_met : Nat → Int32) (M_fresh : Nat → Int32) (M_aheadOver : Nat → Int64) (M_aheadUnder : Nat → Int64) (M_behindOver : Nat → Int64) (M_behindUnder : Nat → Int64) (M_bestOver : Int64) (M_bestUnder : Int64) (M_places : Nat → Int32) (M_bestPlaces : Nat → Int32) : Option ((Int32 × (Nat → Int32) × (Nat → Int32) × Int64 × (Nat → Int64) × (Nat → Int64) × (Nat → Int64) × (Nat → Int64) × (Nat → Int64) × (Nat → Int32) × Int32 × (Nat → Int64) × Int64 × Int64 × Int32 × (Nat → Int32) × (Nat → Int32) × (Nat → Int64) × (Nat → Int64) × (Nat → Int32) × Int64 × Int64 × (Nat → Int32) × (Nat → Int32) × (Nat → Int64) × (Nat → Int64) × (Nat → Int64) × (Nat → Int64) × Int64 × Int64 × (Nat → Int32) × (Nat → Int32)) ⊕ ((Nat → Int32) × (Nat → Int32) × Int64 × (Nat → Int64) × (Nat → Int64) × (Nat → Int64) × (Nat → Int64) × (Nat → Int64) × (Nat → Int32) × Int32 × (Nat → Int64) × Int64 × Int64 × Int32 × (Nat → Int32) × (Nat → Int32) × (Nat → Int64) × (Nat → Int64) × (Nat → Int32) × Int64 × Int64 × (Nat → Int32) × (Nat → Int32) × (Nat → Int64) × (Nat → Int64) × (Nat → Int64) × (Nat → Int64) × Int64 × Int64 × (Nat → Int32) × (Nat → Int32))) :=
  bd2 (f_M_nextPlaces F M_many M_places) fun r_148 M_places_148 =>
  some (.inl (r_148, M_now, M_mode, M_under, M_slope, M_base, M_slipSlope, M_slipBase, M_offset, M_bearer, M_bearers, M_matrix, M_loadOver, M_loadUnder, M_eventMany, M_eventKind, M_eventBolt, M_eventOver, M_eventUnder, M_had, M_nextOver, M_nextUnder, M_met, M_fresh, M_aheadOver, M_aheadUnder, M_behindOver, M_behindUnder, M_bestOver, M_bestUnder, M_places_148, M_bestPlaces))
noncomputable def fb_M_arranges_121 (M_many : Int32) (M_places : Nat → Int32) (l2 : Int32) (M_bestPlaces : Nat → Int32) : Option ((Int32 × (Nat → Int32)) ⊕ ((Nat → Int32))) :=
  if M_many ≤ l2 then
    some (.inr M_bestPlaces)
  else
    (ldA M_places 5 l2).bind fun v_139 =>
    (stI M_bestPlaces 5 l2 v_139).bind fun M_bestPlaces_140 =>
    nm (l2 + (1 : Int32)) fun l2_141 =>
    some (.inl (l2_141, M_bestPlaces_140))
noncomputable def fb_M_arranges_48 (F : Nat) (M_many : Int32) (M_upper : Int32) (M_lower : Int32) (M_aside : Nat → Int32) (l1 : Int32) (M_now : Nat → Int32) (M_mode : Nat → Int32) (M_under : Int64) (M_slope : Nat → Int64) (M_base : Nat → Int64) (M_slipSlope : Nat → Int64) (M_slipBase : Nat → Int64) (M_offset : Nat → Int64) (M_bearer : Nat → Int32) (M_bearers : Int32) (M_matrix : Nat → Int64) (M_loadOver : Int64) (M_loadUnder : Int64) (M_eventMany : Int32) (M_eventKind : Nat → Int32) (M_eventBolt : Nat → Int32) (M_eventOver : Nat → Int64) (M_eventUnder : Nat → Int64) (M_had : Nat → Int32) (M_nextOver : Int64) (M_nextUnder : Int64) (M_met : Nat → Int32) (M_fresh : Nat → Int32) (M_aheadOver : Nat → Int64) (M_aheadUnder : Nat → Int64) (M_behindOver : Nat → Int64) (M_behindUnder : Nat → Int64) (M_bestOver : Int64) (M_bestUnder : Int64) (M_places : Nat → Int32) (M_bestPlaces : Nat → Int32) : Option ((Int32 × (Nat → Int32) × (Nat → Int32) × Int64 × (Nat → Int64) × (Nat → Int64) × (Nat → Int64) × (Nat → Int64) × (Nat → Int64) × (Nat → Int32) × Int32 × (Nat → Int64) × Int64 × Int64 × Int32 × (Nat → Int32) × (Nat → Int32) × (Nat → Int64) × (Nat → Int64) × (Nat → Int32) × Int64 × Int64 × (Nat → Int32) × (Nat → Int32) × (Nat → Int64) × (Nat → Int64) × (Nat → Int64) × (Nat → Int64) × Int64 × Int64 × (Nat → Int32) × (Nat → Int32)) ⊕ ((Nat → Int32) × (Nat → Int32) × Int64 × (Nat → Int64) × (Nat → Int64) × (Nat → Int64) × (Nat → Int64) × (Nat → Int64) × (Nat → Int32) × Int32 × (Nat → Int64) × Int64 × Int64 × Int32 × (Nat → Int32) × (Nat → Int32) × (Nat → Int64) × (Nat → Int64) × (Nat → Int32) × Int64 × Int64 × (Nat → Int32) × (Nat → Int32) × (Nat → Int64) × (Nat → Int64) × (Nat → Int64) × (Nat → Int64) × Int64 × Int64 × (Nat → Int32) × (Nat → Int32))) :=
  if l1 = (0 : Int32) then
    some (.inr (M_now, M_mode, M_under, M_slope, M_base, M_slipSlope, M_slipBase, M_offset, M_bearer, M_bearers, M_matrix, M_loadOver, M_loadUnder, M_eventMany, M_eventKind, M_eventBolt, M_eventOver, M_eventUnder, M_had, M_nextOver, M_nextUnder, M_met, M_fresh, M_aheadOver, M_aheadUnder, M_behindOver, M_behindUnder, M_bestOver, M_bestUnder, M_places, M_bestPlaces))
  else
    (iter (un2 (fb_M_arranges_54 F M_many M_aside M_places)) F ((0 : Int32), M_now)).bind fun M_now_54 =>
    bd26 (f_M_grow F M_now_54 M_many M_upper M_lower M_mode M_under M_slope M_base M_slipSlope M_slipBase M_offset M_bearer M_bearers M_matrix M_loadOver M_loadUnder M_eventMany M_eventKind M_eventBolt M_eventOver M_eventUnder M_had M_nextOver M_nextUnder M_met M_fresh M_aheadOver M_aheadUnder M_behindOver M_behindUnder) fun M_mode_109 M_under_109 M_slope_109 M_base_109 M_slipSlope_109 M_slipBase_109 M_offset_109 M_bearer_109 M_bearers_109 M_matrix_109 M_loadOver_109 M_loadUnder_109 M_eventMany_109 M_eventKind_109 M_eventBolt_109 M_eventOver_109 M_eventUnder_109 M_had_109 M_nextOver_109 M_nextUnder_109 M_met_109 M_fresh_109 M_aheadOver_109 M_aheadUnder_109 M_behindOver_109 M_behindUnder_109 =>
    bd3 (f_M_isGreatest M_loadOver_109 M_loadUnder_109 M_bestOver M_bestUnder) fun r_113 M_bestOver_113 M_bestUnder_113 =>
    if r_113 = (0 : Int32) then
      fj_M_arranges_147 F M_now_54 M_many M_mode_109 M_under_109 M_slope_109 M_base_109 M_slipSlope_109 M_slipBase_109 M_offset_109 M_bearer_109 M_bearers_109 M_matrix_109 M_loadOver_109 M_loadUnder_109 M_eventMany_109 M_eventKind_109 M_eventBolt_109 M_eventOver_109 M_eventUnder_109 M_had_109 M_nextOver_109 M_nextUnder_109 M_met_109 M_fresh_109 M_aheadOver_109 M_aheadUnder_109 M_behindOver_109 M_behindUnder_109 M_bestOver_113 M_bestUnder_113 M_places M_bestPlaces
    else
      (iter (un2 (fb_M_arranges_121 M_many M_places)) F ((0 : Int32), M_bestPlaces)).bind fun M_bestPlaces_121 =>
      fj_M_arranges_147 F M_now_54 M_many M_mode_109 M_under_109 M_slope_109 M_base_109 M_slipSlope_109 M_slipBase_109 M_offset_109 M_bearer_109 M_bearers_109 M_matrix_109 M_loadOver_109 M_loadUnder_109 M_eventMany_109 M_eventKind_109 M_eventBolt_109 M_eventOver_109 M_eventUnder_109 M_had_109 M_nextOver_109 M_nextUnder_109 M_met_109 M_fresh_109 M_aheadOver_109 M_aheadUnder_109 M_behindOver_109 M_behindUnder_109 M_bestOver_113 M_bestUnder_113 M_places M_bestPlaces_121
noncomputable def fj_M_arranges_203 (l3 : Int32) (s0 : Int32) (s1 : Int32) (M_row : Nat → Int64) (M_rowMany : Int32) : Option ((Int32 × Int32 × (Nat → Int64) × Int32) ⊕ (Int32 × (Nat → Int64) × Int32)) :=
  nm (s0 + s1) fun l2_204 =>
  nm (l3 + (1 : Int32)) fun l3_205 =>
  some (.inl (l2_204, l3_205, M_row, M_rowMany))
noncomputable def fb_M_arranges_168 (M_many : Int32) (M_bestPlaces : Nat → Int32) (l2 : Int32) (l3 : Int32) (M_row : Nat → Int64) (M_rowMany : Int32) : Option ((Int32 × Int32 × (Nat → Int64) × Int32) ⊕ (Int32 × (Nat → Int64) × Int32)) :=
  if M_many ≤ l3 then
    some (.inr (l2, M_row, M_rowMany))
  else
    (ldA M_bestPlaces 5 l3).bind fun v_182 =>
    bd2 (f_M_tell (Int32.toInt64 v_182) M_row M_rowMany) fun M_row_184 M_rowMany_184 =>
    (ldA M_bestPlaces 5 l3).bind fun v_193 =>
    if v_193 = l3 then
      fj_M_arranges_203 l3 l2 (0 : Int32) M_row_184 M_rowMany_184
    else
      fj_M_arranges_203 l3 l2 (1 : Int32) M_row_184 M_rowMany_184
noncomputable def f_M_arranges (F : Nat) (M_now : Nat → Int32) (M_many : Int32) (M_upper : Int32) (M_lower : Int32) (M_row : Nat → Int64) (M_rowMany : Int32) (M_thrown : Int32) (M_mode : Nat → Int32) (M_under : Int64) (M_slope : Nat → Int64) (M_base : Nat → Int64) (M_slipSlope : Nat → Int64) (M_slipBase : Nat → Int64) (M_offset : Nat → Int64) (M_bearer : Nat → Int32) (M_bearers : Int32) (M_matrix : Nat → Int64) (M_loadOver : Int64) (M_loadUnder : Int64) (M_eventMany : Int32) (M_eventKind : Nat → Int32) (M_eventBolt : Nat → Int32) (M_eventOver : Nat → Int64) (M_eventUnder : Nat → Int64) (M_had : Nat → Int32) (M_nextOver : Int64) (M_nextUnder : Int64) (M_met : Nat → Int32) (M_fresh : Nat → Int32) (M_aheadOver : Nat → Int64) (M_aheadUnder : Nat → Int64) (M_behindOver : Nat → Int64) (M_behindUnder : Nat → Int64) (M_aside : Nat → Int32) (M_bestOver : Int64) (M_bestUnder : Int64) (M_places : Nat → Int32) (M_bestPlaces : Nat → Int32) : Option (Int32 × (Nat → Int32) × (Nat → Int64) × Int32 × Int32 × (Nat → Int32) × Int64 × (Nat → Int64) × (Nat → Int64) × (Nat → Int64) × (Nat → Int64) × (Nat → Int64) × (Nat → Int32) × Int32 × (Nat → Int64) × Int64 × Int64 × Int32 × (Nat → Int32) × (Nat → Int32) × (Nat → Int64) × (Nat → Int64) × (Nat → Int32) × Int64 × Int64 × (Nat → Int32) × (Nat → Int32) × (Nat → Int64) × (Nat → Int64) × (Nat → Int64) × (Nat → Int64) × (Nat → Int32) × Int64 × Int64 × (Nat → Int32) × (Nat → Int32)) :=
  if M_many = (0 : Int32) then
    some ((-1 : Int32), M_now, M_row, M_rowMany, (0 : Int32), M_mode, M_under, M_slope, M_base, M_slipSlope, M_slipBase, M_offset, M_bearer, M_bearers, M_matrix, M_loadOver, M_loadUnder, M_eventMany, M_eventKind, M_eventBolt, M_eventOver, M_eventUnder, M_had, M_nextOver, M_nextUnder, M_met, M_fresh, M_aheadOver, M_aheadUnder, M_behindOver, M_behindUnder, M_aside, M_bestOver, M_bestUnder, M_places, M_bestPlaces)
  else
    (f_M_layAside F M_now M_aside).bind fun M_aside_15 =>
    (iter (un2 (fb_M_arranges_25 M_many)) F ((0 : Int32), M_places)).bind fun M_places_25 =>
    bd31 (iter (un32 (fb_M_arranges_48 F M_many M_upper M_lower M_aside_15)) F ((1 : Int32), M_now, M_mode, M_under, M_slope, M_base, M_slipSlope, M_slipBase, M_offset, M_bearer, M_bearers, M_matrix, M_loadOver, M_loadUnder, M_eventMany, M_eventKind, M_eventBolt, M_eventOver, M_eventUnder, M_had, M_nextOver, M_nextUnder, M_met, M_fresh, M_aheadOver, M_aheadUnder, M_behindOver, M_behindUnder, M_bestOver, (0 : Int64), M_places_25, M_bestPlaces)) fun M_now_48 M_mode_48 M_under_48 M_slope_48 M_base_48 M_slipSlope_48 M_slipBase_48 M_offset_48 M_bearer_48 M_bearers_48 M_matrix_48 M_loadOver_48 M_loadUnder_48 M_eventMany_48 M_eventKind_48 M_eventBolt_48 M_eventOver_48 M_eventUnder_48 M_had_48 M_nextOver_48 M_nextUnder_48 M_met_48 M_fresh_48 M_aheadOver_48 M_aheadUnder_48 M_behindOver_48 M_behindUnder_48 M_bestOver_48 M_bestUnder_48 M_places_48 M_bestPlaces_48 =>
    (f_M_comesBack F M_now_48 M_aside_15).bind fun M_now_156 =>
    bd3 (iter (un4 (fb_M_arranges_168 M_many M_bestPlaces_48)) F ((0 : Int32), (0 : Int32), M_row, (0 : Int32))) fun l2_168 M_row_168 M_rowMany_168 =>
    bd2 (f_M_tellFraction F M_bestOver_48 M_bestUnder_48 M_row_168 M_rowMany_168) fun M_row_220 M_rowMany_220 =>
    if l2_168 ≤ (0 : Int32) then
      some ((0 : Int32), M_now_156, M_row_220, M_rowMany_220, (0 : Int32), M_mode_48, M_under_48, M_slope_48, M_base_48, M_slipSlope_48, M_slipBase_48, M_offset_48, M_bearer_48, M_bearers_48, M_matrix_48, M_loadOver_48, M_loadUnder_48, M_eventMany_48, M_eventKind_48, M_eventBolt_48, M_eventOver_48, M_eventUnder_48, M_had_48, M_nextOver_48, M_nextUnder_48, M_met_48, M_fresh_48, M_aheadOver_48, M_aheadUnder_48, M_behindOver_48, M_behindUnder_48, M_aside_15, M_bestOver_48, M_bestUnder_48, M_places_48, M_bestPlaces_48)
    else
      some ((1 : Int32), M_now_156, M_row_220, M_rowMany_220, (0 : Int32), M_mode_48, M_under_48, M_slope_48, M_base_48, M_slipSlope_48, M_slipBase_48, M_offset_48, M_bearer_48, M_bearers_48, M_matrix_48, M_loadOver_48, M_loadUnder_48, M_eventMany_48, M_eventKind_48, M_eventBolt_48, M_eventOver_48, M_eventUnder_48, M_had_48, M_nextOver_48, M_nextUnder_48, M_met_48, M_fresh_48, M_aheadOver_48, M_aheadUnder_48, M_behindOver_48, M_behindUnder_48, M_aside_15, M_bestOver_48, M_bestUnder_48, M_places_48, M_bestPlaces_48)
noncomputable def fb_M_fits_44 (l3 : Int32) (M_many : Int32) (M_aside : Nat → Int32) (l4 : Int32) (M_now : Nat → Int32) : Option ((Int32 × (Nat → Int32)) ⊕ ((Nat → Int32))) :=
  if M_many ≤ l4 then
    some (.inr M_now)
  else
    (ldA M_aside 35 (((7 : Int32) * l4) + (1 : Int32))).bind fun v_76 =>
    nm (if v_76 < l3 then v_76 else l3) fun v_77 =>
    (stI M_now 35 (((7 : Int32) * l4) + (1 : Int32)) v_77).bind fun M_now_80 =>
    nm (l4 + (1 : Int32)) fun l4_81 =>
    some (.inl (l4_81, M_now_80))
noncomputable def fj_M_fits_103 (l2 : Int32) (l3 : Int32) (M_now : Nat → Int32) (M_mode : Nat → Int32) (M_under : Int64) (M_slope : Nat → Int64) (M_base : Nat → Int64) (M_slipSlope : Nat → Int64) (M_slipBase : Nat → Int64) (M_offset : Nat → Int64) (M_bearer : Nat → Int32) (M_bearers : Int32) (M_matrix : Nat → Int64) (M_loadOver : Int64) (M_loadUnder : Int64) (M_eventMany : Int32) (M_eventKind : Nat → Int32) (M_eventBolt : Nat → Int32) (M_eventOver : Nat → Int64) (M_eventUnder : Nat → Int64) (M_had : Nat → Int32) (M_nextOver : Int64) (M_nextUnder : Int64) (M_met : Nat → Int32) (M_fresh : Nat → Int32) (M_aheadOver : Nat → Int64) (M_aheadUnder : Nat → Int64) (M_behindOver : Nat → Int64) (M_behindUnder : Nat → Int64) : Option ((Int32 × Int32 × (Nat → Int32) × (Nat → Int32) × Int64 × (Nat → Int64) × (Nat → Int64) × (Nat → Int64) × (Nat → Int64) × (Nat → Int64) × (Nat → Int32) × Int32 × (Nat → Int64) × Int64 × Int64 × Int32 × (Nat → Int32) × (Nat → Int32) × (Nat → Int64) × (Nat → Int64) × (Nat → Int32) × Int64 × Int64 × (Nat → Int32) × (Nat → Int32) × (Nat → Int64) × (Nat → Int64) × (Nat → Int64) × (Nat → Int64)) ⊕ (Int32 × (Nat → Int32) × (Nat → Int32) × Int64 × (Nat → Int64) × (Nat → Int64) × (Nat → Int64) × (Nat → Int64) × (Nat → Int64) × (Nat → Int32) × Int32 × (Nat → Int64) × Int64 × Int64 × Int32 × (Nat → Int32) × (Nat → Int32) × (Nat → Int64) × (Nat → Int64) × (Nat → Int32) × Int64 × Int64 × (Nat → Int32) × (Nat → Int32) × (Nat → Int64) × (Nat → Int64) × (Nat → Int64) × (Nat → Int64))) :=
  nm (l3 + (-1 : Int32)) fun l3_103 =>
  some (.inl (l2, l3_103, M_now, M_mode, M_under, M_slope, M_base, M_slipSlope, M_slipBase, M_offset, M_bearer, M_bearers, M_matrix, M_loadOver, M_loadUnder, M_eventMany, M_eventKind, M_eventBolt, M_eventOver, M_eventUnder, M_had, M_nextOver, M_nextUnder, M_met, M_fresh, M_aheadOver, M_aheadUnder, M_behindOver, M_behindUnder))
noncomputable def fb_M_fits_31 (F : Nat) (l1 : Int32) (M_many : Int32) (M_upper : Int32) (M_lower : Int32) (M_aside : Nat → Int32) (l2 : Int32) (l3 : Int32) (M_now : Nat → Int32) (M_mode : Nat → Int32) (M_under : Int64) (M_slope : Nat → Int64) (M_base : Nat → Int64) (M_slipSlope : Nat → Int64) (M_slipBase : Nat → Int64) (M_offset : Nat → Int64) (M_bearer : Nat → Int32) (M_bearers : Int32) (M_matrix : Nat → Int64) (M_loadOver : Int64) (M_loadUnder : Int64) (M_eventMany : Int32) (M_eventKind : Nat → Int32) (M_eventBolt : Nat → Int32) (M_eventOver : Nat → Int64) (M_eventUnder : Nat → Int64) (M_had : Nat → Int32) (M_nextOver : Int64) (M_nextUnder : Int64) (M_met : Nat → Int32) (M_fresh : Nat → Int32) (M_aheadOver : Nat → Int64) (M_aheadUnder : Nat → Int64) (M_behindOver : Nat → Int64) (M_behindUnder : Nat → Int64) : Option ((Int32 × Int32 × (Nat → Int32) × (Nat → Int32) × Int64 × (Nat → Int64) × (Nat → Int64) × (Nat → Int64) × (Nat → Int64) × (Nat → Int64) × (Nat → Int32) × Int32 × (Nat → Int64) × Int64 × Int64 × Int32 × (Nat → Int32) × (Nat → Int32) × (Nat → Int64) × (Nat → Int64) × (Nat → Int32) × Int64 × Int64 × (Nat → Int32) × (Nat → Int32) × (Nat → Int64) × (Nat → Int64) × (Nat → Int64) × (Nat → Int64)) ⊕ (Int32 × (Nat → Int32) × (Nat → Int32) × Int64 × (Nat → Int64) × (Nat → Int64) × (Nat → Int64) × (Nat → Int64) × (Nat → Int64) × (Nat → Int32) × Int32 × (Nat → Int64) × Int64 × Int64 × Int32 × (Nat → Int32) × (Nat → Int32) × (Nat → Int64) × (Nat → Int64) × (Nat → Int32) × Int64 × Int64 × (Nat → Int32) × (Nat → Int32) × (Nat → Int64) × (Nat → Int64) × (Nat → Int64) × (Nat → Int64))) :=
  if l3 < (0 : Int32) then
    some (.inr (l2, M_now, M_mode, M_under, M_slope, M_base, M_slipSlope, M_slipBase, M_offset, M_bearer, M_bearers, M_matrix, M_loadOver, M_loadUnder, M_eventMany, M_eventKind, M_eventBolt, M_eventOver, M_eventUnder, M_had, M_nextOver, M_nextUnder, M_met, M_fresh, M_aheadOver, M_aheadUnder, M_behindOver, M_behindUnder))
  else
    if l2 = (-2 : Int32) then
      (iter (un2 (fb_M_fits_44 l3 M_many M_aside)) F ((0 : Int32), M_now)).bind fun M_now_44 =>
      bd26 (f_M_grow F M_now_44 M_many M_upper M_lower M_mode M_under M_slope M_base M_slipSlope M_slipBase M_offset M_bearer M_bearers M_matrix M_loadOver M_loadUnder M_eventMany M_eventKind M_eventBolt M_eventOver M_eventUnder M_had M_nextOver M_nextUnder M_met M_fresh M_aheadOver M_aheadUnder M_behindOver M_behindUnder) fun M_mode_88 M_under_88 M_slope_88 M_base_88 M_slipSlope_88 M_slipBase_88 M_offset_88 M_bearer_88 M_bearers_88 M_matrix_88 M_loadOver_88 M_loadUnder_88 M_eventMany_88 M_eventKind_88 M_eventBolt_88 M_eventOver_88 M_eventUnder_88 M_had_88 M_nextOver_88 M_nextUnder_88 M_met_88 M_fresh_88 M_aheadOver_88 M_aheadUnder_88 M_behindOver_88 M_behindUnder_88 =>
      (f_M_against (Int32.toInt64 l1) (1 : Int64) M_loadOver_88 M_loadUnder_88).bind fun r_95 =>
      if r_95 < (0 : Int32) then
        fj_M_fits_103 l2 l3 M_now_44 M_mode_88 M_under_88 M_slope_88 M_base_88 M_slipSlope_88 M_slipBase_88 M_offset_88 M_bearer_88 M_bearers_88 M_matrix_88 M_loadOver_88 M_loadUnder_88 M_eventMany_88 M_eventKind_88 M_eventBolt_88 M_eventOver_88 M_eventUnder_88 M_had_88 M_nextOver_88 M_nextUnder_88 M_met_88 M_fresh_88 M_aheadOver_88 M_aheadUnder_88 M_behindOver_88 M_behindUnder_88
      else
        fj_M_fits_103 l3 l3 M_now_44 M_mode_88 M_under_88 M_slope_88 M_base_88 M_slipSlope_88 M_slipBase_88 M_offset_88 M_bearer_88 M_bearers_88 M_matrix_88 M_loadOver_88 M_loadUnder_88 M_eventMany_88 M_eventKind_88 M_eventBolt_88 M_eventOver_88 M_eventUnder_88 M_had_88 M_nextOver_88 M_nextUnder_88 M_met_88 M_fresh_88 M_aheadOver_88 M_aheadUnder_88 M_behindOver_88 M_behindUnder_88
    else
      some (.inr (l2, M_now, M_mode, M_under, M_slope, M_base, M_slipSlope, M_slipBase, M_offset, M_bearer, M_bearers, M_matrix, M_loadOver, M_loadUnder, M_eventMany, M_eventKind, M_eventBolt, M_eventOver, M_eventUnder, M_had, M_nextOver, M_nextUnder, M_met, M_fresh, M_aheadOver, M_aheadUnder, M_behindOver, M_behindUnder))
noncomputable def fj_M_fits_109 (F : Nat) (l2 : Int32) (M_now : Nat → Int32) (M_row : Nat → Int64) (M_rowMany : Int32) (M_thrown : Int32) (M_mode : Nat → Int32) (M_under : Int64) (M_slope : Nat → Int64) (M_base : Nat → Int64) (M_slipSlope : Nat → Int64) (M_slipBase : Nat → Int64) (M_offset : Nat → Int64) (M_bearer : Nat → Int32) (M_bearers : Int32) (M_matrix : Nat → Int64) (M_loadOver : Int64) (M_loadUnder : Int64) (M_eventMany : Int32) (M_eventKind : Nat → Int32) (M_eventBolt : Nat → Int32) (M_eventOver : Nat → Int64) (M_eventUnder : Nat → Int64) (M_had : Nat → Int32) (M_nextOver : Int64) (M_nextUnder : Int64) (M_met : Nat → Int32) (M_fresh : Nat → Int32) (M_aheadOver : Nat → Int64) (M_aheadUnder : Nat → Int64) (M_behindOver : Nat → Int64) (M_behindUnder : Nat → Int64) (M_aside : Nat → Int32) : Option (Int32 × (Nat → Int32) × (Nat → Int64) × Int32 × Int32 × (Nat → Int32) × Int64 × (Nat → Int64) × (Nat → Int64) × (Nat → Int64) × (Nat → Int64) × (Nat → Int64) × (Nat → Int32) × Int32 × (Nat → Int64) × Int64 × Int64 × Int32 × (Nat → Int32) × (Nat → Int32) × (Nat → Int64) × (Nat → Int64) × (Nat → Int32) × Int64 × Int64 × (Nat → Int32) × (Nat → Int32) × (Nat → Int64) × (Nat → Int64) × (Nat → Int64) × (Nat → Int64) × (Nat → Int32)) :=
  (f_M_comesBack F M_now M_aside).bind fun M_now_110 =>
  if l2 = (-2 : Int32) then
    some ((-2 : Int32), M_now_110, M_row, M_rowMany, M_thrown, M_mode, M_under, M_slope, M_base, M_slipSlope, M_slipBase, M_offset, M_bearer, M_bearers, M_matrix, M_loadOver, M_loadUnder, M_eventMany, M_eventKind, M_eventBolt, M_eventOver, M_eventUnder, M_had, M_nextOver, M_nextUnder, M_met, M_fresh, M_aheadOver, M_aheadUnder, M_behindOver, M_behindUnder, M_aside)
  else
    bd2 (f_M_tellFraction F M_loadOver M_loadUnder M_row (0 : Int32)) fun M_row_136 M_rowMany_136 =>
    some (l2, M_now_110, M_row_136, M_rowMany_136, M_thrown, M_mode, M_under, M_slope, M_base, M_slipSlope, M_slipBase, M_offset, M_bearer, M_bearers, M_matrix, M_loadOver, M_loadUnder, M_eventMany, M_eventKind, M_eventBolt, M_eventOver, M_eventUnder, M_had, M_nextOver, M_nextUnder, M_met, M_fresh, M_aheadOver, M_aheadUnder, M_behindOver, M_behindUnder, M_aside)
noncomputable def f_M_fits (F : Nat) (l1 : Int32) (M_now : Nat → Int32) (M_many : Int32) (M_upper : Int32) (M_lower : Int32) (M_row : Nat → Int64) (M_rowMany : Int32) (M_thrown : Int32) (M_mode : Nat → Int32) (M_under : Int64) (M_slope : Nat → Int64) (M_base : Nat → Int64) (M_slipSlope : Nat → Int64) (M_slipBase : Nat → Int64) (M_offset : Nat → Int64) (M_bearer : Nat → Int32) (M_bearers : Int32) (M_matrix : Nat → Int64) (M_loadOver : Int64) (M_loadUnder : Int64) (M_eventMany : Int32) (M_eventKind : Nat → Int32) (M_eventBolt : Nat → Int32) (M_eventOver : Nat → Int64) (M_eventUnder : Nat → Int64) (M_had : Nat → Int32) (M_nextOver : Int64) (M_nextUnder : Int64) (M_met : Nat → Int32) (M_fresh : Nat → Int32) (M_aheadOver : Nat → Int64) (M_aheadUnder : Nat → Int64) (M_behindOver : Nat → Int64) (M_behindUnder : Nat → Int64) (M_aside : Nat → Int32) : Option (Int32 × (Nat → Int32) × (Nat → Int64) × Int32 × Int32 × (Nat → Int32) × Int64 × (Nat → Int64) × (Nat → Int64) × (Nat → Int64) × (Nat → Int64) × (Nat → Int64) × (Nat → Int32) × Int32 × (Nat → Int64) × Int64 × Int64 × Int32 × (Nat → Int32) × (Nat → Int32) × (Nat → Int64) × (Nat → Int64) × (Nat → Int32) × Int64 × Int64 × (Nat → Int32) × (Nat → Int32) × (Nat → Int64) × (Nat → Int64) × (Nat → Int64) × (Nat → Int64) × (Nat → Int32)) :=
  if M_many = (0 : Int32) then
    some ((-1 : Int32), M_now, M_row, M_rowMany, (0 : Int32), M_mode, M_under, M_slope, M_base, M_slipSlope, M_slipBase, M_offset, M_bearer, M_bearers, M_matrix, M_loadOver, M_loadUnder, M_eventMany, M_eventKind, M_eventBolt, M_eventOver, M_eventUnder, M_had, M_nextOver, M_nextUnder, M_met, M_fresh, M_aheadOver, M_aheadUnder, M_behindOver, M_behindUnder, M_aside)
  else
    (f_M_isLoad l1).bind fun r_13 =>
    if r_13 = (0 : Int32) then
      some ((-1 : Int32), M_now, M_row, M_rowMany, (0 : Int32), M_mode, M_under, M_slope, M_base, M_slipSlope, M_slipBase, M_offset, M_bearer, M_bearers, M_matrix, M_loadOver, M_loadUnder, M_eventMany, M_eventKind, M_eventBolt, M_eventOver, M_eventUnder, M_had, M_nextOver, M_nextUnder, M_met, M_fresh, M_aheadOver, M_aheadUnder, M_behindOver, M_behindUnder, M_aside)
    else
      (f_M_layAside F M_now M_aside).bind fun M_aside_22 =>
      bd28 (iter (un29 (fb_M_fits_31 F l1 M_many M_upper M_lower M_aside_22)) F ((-2 : Int32), (9 : Int32), M_now, M_mode, M_under, M_slope, M_base, M_slipSlope, M_slipBase, M_offset, M_bearer, M_bearers, M_matrix, M_loadOver, M_loadUnder, M_eventMany, M_eventKind, M_eventBolt, M_eventOver, M_eventUnder, M_had, M_nextOver, M_nextUnder, M_met, M_fresh, M_aheadOver, M_aheadUnder, M_behindOver, M_behindUnder)) fun l2_31 M_now_31 M_mode_31 M_under_31 M_slope_31 M_base_31 M_slipSlope_31 M_slipBase_31 M_offset_31 M_bearer_31 M_bearers_31 M_matrix_31 M_loadOver_31 M_loadUnder_31 M_eventMany_31 M_eventKind_31 M_eventBolt_31 M_eventOver_31 M_eventUnder_31 M_had_31 M_nextOver_31 M_nextUnder_31 M_met_31 M_fresh_31 M_aheadOver_31 M_aheadUnder_31 M_behindOver_31 M_behindUnder_31 =>
      fj_M_fits_109 F l2_31 M_now_31 M_row M_rowMany (0 : Int32) M_mode_31 M_under_31 M_slope_31 M_base_31 M_slipSlope_31 M_slipBase_31 M_offset_31 M_bearer_31 M_bearers_31 M_matrix_31 M_loadOver_31 M_loadUnder_31 M_eventMany_31 M_eventKind_31 M_eventBolt_31 M_eventOver_31 M_eventUnder_31 M_had_31 M_nextOver_31 M_nextUnder_31 M_met_31 M_fresh_31 M_aheadOver_31 M_aheadUnder_31 M_behindOver_31 M_behindUnder_31 M_aside_22
noncomputable def f_M_draw (l1 : Int32) (M_drawn : Int32) : Option (Int32 × Int32) :=
  nm ((M_drawn * (1103515245 : Int32)) + (12345 : Int32)) fun M_drawn_13 =>
  (rmI (ushrI M_drawn_13 (16 : Int32)) l1).bind fun v_24 =>
  some (v_24, M_drawn_13)
noncomputable def fb_M_chance_62 (M_many : Int32) (l6 : Int32) (M_now : Nat → Int32) (M_drawn : Int32) : Option ((Int32 × (Nat → Int32) × Int32) ⊕ ((Nat → Int32) × Int32)) :=
  if M_many ≤ l6 then
    some (.inr (M_now, M_drawn))
  else
    bd2 (f_M_draw (10 : Int32) M_drawn) fun r_85 M_drawn_85 =>
    (stI M_now 35 (((7 : Int32) * l6) + (1 : Int32)) r_85).bind fun M_now_88 =>
    nm (l6 + (1 : Int32)) fun l6_89 =>
    some (.inl (l6_89, M_now_88, M_drawn_85))
noncomputable def fj_M_chance_162 (l4 : Int32) (l5 : Int32) (M_now : Nat → Int32) (M_mode : Nat → Int32) (M_under : Int64) (M_slope : Nat → Int64) (M_base : Nat → Int64) (M_slipSlope : Nat → Int64) (M_slipBase : Nat → Int64) (M_offset : Nat → Int64) (M_bearer : Nat → Int32) (M_bearers : Int32) (M_matrix : Nat → Int64) (M_loadOver : Int64) (M_loadUnder : Int64) (M_eventMany : Int32) (M_eventKind : Nat → Int32) (M_eventBolt : Nat → Int32) (M_eventOver : Nat → Int64) (M_eventUnder : Nat → Int64) (M_had : Nat → Int32) (M_nextOver : Int64) (M_nextUnder : Int64) (M_met : Nat → Int32) (M_fresh : Nat → Int32) (M_aheadOver : Nat → Int64) (M_aheadUnder : Nat → Int64) (M_behindOver : Nat → Int64) (M_behindUnder : Nat → Int64) (M_bestOver : Int64) (M_bestUnder : Int64) (M_drawn : Int32) : Option ((Int32 × Int32 × (Nat → Int32) × (Nat → Int32) × Int64 × (Nat → Int64) × (Nat → Int64) × (Nat → Int64) × (Nat → Int64) × (Nat → Int64) × (Nat → Int32) × Int32 × (Nat → Int64) × Int64 × Int64 × Int32 × (Nat → Int32) × (Nat → Int32) × (Nat → Int64) × (Nat → Int64) × (Nat → Int32) × Int64 × Int64 × (Nat → Int32) × (Nat → Int32) × (Nat → Int64) × (Nat → Int64) × (Nat → Int64) × (Nat → Int64) × Int64 × Int64 × Int32) ⊕ (Int32 × (Nat → Int32) × (Nat → Int32) × Int64 × (Nat → Int64) × (Nat → Int64) × (Nat → Int64) × (Nat → Int64) × (Nat → Int64) × (Nat → Int32) × Int32 × (Nat → Int64) × Int64 × Int64 × Int32 × (Nat → Int32) × (Nat → Int32) × (Nat → Int64) × (Nat → Int64) × (Nat → Int32) × Int64 × Int64 × (Nat → Int32) × (Nat → Int32) × (Nat → Int64) × (Nat → Int64) × (Nat → Int64) × (Nat → Int64) × Int64 × Int64 × Int32)) :=
  nm (l5 + (1 : Int32)) fun l5_162 =>
  some (.inl (l4, l5_162, M_now, M_mode, M_under, M_slope, M_base, M_slipSlope, M_slipBase, M_offset, M_bearer, M_bearers, M_matrix, M_loadOver, M_loadUnder, M_eventMany, M_eventKind, M_eventBolt, M_eventOver, M_eventUnder, M_had, M_nextOver, M_nextUnder, M_met, M_fresh, M_aheadOver, M_aheadUnder, M_behindOver, M_behindUnder, M_bestOver, M_bestUnder, M_drawn))
noncomputable def fj_M_chance_146 (l4 : Int32) (l5 : Int32) (M_now : Nat → Int32) (M_mode : Nat → Int32) (M_under : Int64) (M_slope : Nat → Int64) (M_base : Nat → Int64) (M_slipSlope : Nat → Int64) (M_slipBase : Nat → Int64) (M_offset : Nat → Int64) (M_bearer : Nat → Int32) (M_bearers : Int32) (M_matrix : Nat → Int64) (M_loadOver : Int64) (M_loadUnder : Int64) (M_eventMany : Int32) (M_eventKind : Nat → Int32) (M_eventBolt : Nat → Int32) (M_eventOver : Nat → Int64) (M_eventUnder : Nat → Int64) (M_had : Nat → Int32) (M_nextOver : Int64) (M_nextUnder : Int64) (M_met : Nat → Int32) (M_fresh : Nat → Int32) (M_aheadOver : Nat → Int64) (M_aheadUnder : Nat → Int64) (M_behindOver : Nat → Int64) (M_behindUnder : Nat → Int64) (M_drawn : Int32) : Option ((Int32 × Int32 × (Nat → Int32) × (Nat → Int32) × Int64 × (Nat → Int64) × (Nat → Int64) × (Nat → Int64) × (Nat → Int64) × (Nat → Int64) × (Nat → Int32) × Int32 × (Nat → Int64) × Int64 × Int64 × Int32 × (Nat → Int32) × (Nat → Int32) × (Nat → Int64) × (Nat → Int64) × (Nat → Int32) × Int64 × Int64 × (Nat → Int32) × (Nat → Int32) × (Nat → Int64) × (Nat → Int64) × (Nat → Int64) × (Nat → Int64) × Int64 × Int64 × Int32) ⊕ (Int32 × (Nat → Int32) × (Nat → Int32) × Int64 × (Nat → Int64) × (Nat → Int64) × (Nat → Int64) × (Nat → Int64) × (Nat → Int64) × (Nat → Int32) × Int32 × (Nat → Int64) × Int64 × Int64 × Int32 × (Nat → Int32) × (Nat → Int32) × (Nat → Int64) × (Nat → Int64) × (Nat → Int32) × Int64 × Int64 × (Nat → Int32) × (Nat → Int32) × (Nat → Int64) × (Nat → Int64) × (Nat → Int64) × (Nat → Int64) × Int64 × Int64 × Int32)) :=
  fj_M_chance_162 l4 l5 M_now M_mode M_under M_slope M_base M_slipSlope M_slipBase M_offset M_bearer M_bearers M_matrix M_loadOver M_loadUnder M_eventMany M_eventKind M_eventBolt M_eventOver M_eventUnder M_had M_nextOver M_nextUnder M_met M_fresh M_aheadOver M_aheadUnder M_behindOver M_behindUnder M_loadOver M_loadUnder M_drawn
noncomputable def fj_M_chance_116 (l5 : Int32) (s0 : Int32) (s1 : Int32) (M_now : Nat → Int32) (M_mode : Nat → Int32) (M_under : Int64) (M_slope : Nat → Int64) (M_base : Nat → Int64) (M_slipSlope : Nat → Int64) (M_slipBase : Nat → Int64) (M_offset : Nat → Int64) (M_bearer : Nat → Int32) (M_bearers : Int32) (M_matrix : Nat → Int64) (M_loadOver : Int64) (M_loadUnder : Int64) (M_eventMany : Int32) (M_eventKind : Nat → Int32) (M_eventBolt : Nat → Int32) (M_eventOver : Nat → Int64) (M_eventUnder : Nat → Int64) (M_had : Nat → Int32) (M_nextOver : Int64) (M_nextUnder : Int64) (M_met : Nat → Int32) (M_fresh : Nat → Int32) (M_aheadOver : Nat → Int64) (M_aheadUnder : Nat → Int64) (M_behindOver : Nat → Int64) (M_behindUnder : Nat → Int64) (M_bestOver : Int64) (M_bestUnder : Int64) (M_drawn : Int32) : Option ((Int32 × Int32 × (Nat → Int32) × (Nat → Int32) × Int64 × (Nat → Int64) × (Nat → Int64) × (Nat → Int64) × (Nat → Int64) × (Nat → Int64) × (Nat → Int32) × Int32 × (Nat → Int64) × Int64 × Int64 × Int32 × (Nat → Int32) × (Nat → Int32) × (Nat → Int64) × (Nat → Int64) × (Nat → Int32) × Int64 × Int64 × (Nat → Int32) × (Nat → Int32) × (Nat → Int64) × (Nat → Int64) × (Nat → Int64) × (Nat → Int64) × Int64 × Int64 × Int32) ⊕ (Int32 × (Nat → Int32) × (Nat → Int32) × Int64 × (Nat → Int64) × (Nat → Int64) × (Nat → Int64) × (Nat → Int64) × (Nat → Int64) × (Nat → Int32) × Int32 × (Nat → Int64) × Int64 × Int64 × Int32 × (Nat → Int32) × (Nat → Int32) × (Nat → Int64) × (Nat → Int64) × (Nat → Int32) × Int64 × Int64 × (Nat → Int32) × (Nat → Int32) × (Nat → Int64) × (Nat → Int64) × (Nat → Int64) × (Nat → Int64) × Int64 × Int64 × Int32)) :=
  nm (s0 + s1) fun l4_117 =>
  if M_bestUnder = (0 : Int64) then
    fj_M_chance_146 l4_117 l5 M_now M_mode M_under M_slope M_base M_slipSlope M_slipBase M_offset M_bearer M_bearers M_matrix M_loadOver M_loadUnder M_eventMany M_eventKind M_eventBolt M_eventOver M_eventUnder M_had M_nextOver M_nextUnder M_met M_fresh M_aheadOver M_aheadUnder M_behindOver M_behindUnder M_drawn
  else
    (f_M_against M_bestOver M_bestUnder M_loadOver M_loadUnder).bind fun r_137 =>
    if r_137 < (0 : Int32) then
      fj_M_chance_146 l4_117 l5 M_now M_mode M_under M_slope M_base M_slipSlope M_slipBase M_offset M_bearer M_bearers M_matrix M_loadOver M_loadUnder M_eventMany M_eventKind M_eventBolt M_eventOver M_eventUnder M_had M_nextOver M_nextUnder M_met M_fresh M_aheadOver M_aheadUnder M_behindOver M_behindUnder M_drawn
    else
      fj_M_chance_162 l4_117 l5 M_now M_mode M_under M_slope M_base M_slipSlope M_slipBase M_offset M_bearer M_bearers M_matrix M_loadOver M_loadUnder M_eventMany M_eventKind M_eventBolt M_eventOver M_eventUnder M_had M_nextOver M_nextUnder M_met M_fresh M_aheadOver M_aheadUnder M_behindOver M_behindUnder M_bestOver M_bestUnder M_drawn
noncomputable def fb_M_chance_53 (F : Nat) (l2 : Int32) (l3 : Int32) (M_many : Int32) (M_upper : Int32) (M_lower : Int32) (l4 : Int32) (l5 : Int32) (M_now : Nat → Int32) (M_mode : Nat → Int32) (M_under : Int64) (M_slope : Nat → Int64) (M_base : Nat → Int64) (M_slipSlope : Nat → Int64) (M_slipBase : Nat → Int64) (M_offset : Nat → Int64) (M_bearer : Nat → Int32) (M_bearers : Int32) (M_matrix : Nat → Int64) (M_loadOver : Int64) (M_loadUnder : Int64) (M_eventMany : Int32) (M_eventKind : Nat → Int32) (M_eventBolt : Nat → Int32) (M_eventOver : Nat → Int64) (M_eventUnder : Nat → Int64) (M_had : Nat → Int32) (M_nextOver : Int64) (M_nextUnder : Int64) (M_met : Nat → Int32) (M_fresh : Nat → Int32) (M_aheadOver : Nat → Int64) (M_aheadUnder : Nat → Int64) (M_behindOver : Nat → Int64) (M_behindUnder : Nat → Int64) (M_bestOver : Int64) (M_bestUnder : Int64) (M_drawn : Int32) : Option ((Int32 × Int32 × (Nat → Int32) × (Nat → Int32) × Int64 × (Nat → Int64) × (Nat → Int64) × (Nat → Int64) × (Nat → Int64) × (Nat → Int64) × (Nat → Int32) × Int32 × (Nat → Int64) × Int64 × Int64 × Int32 × (Nat → Int32) × (Nat → Int32) × (Nat → Int64) × (Nat → Int64) × (Nat → Int32) × Int64 × Int64 × (Nat → Int32) × (Nat → Int32) × (Nat → Int64) × (Nat → Int64) × (Nat → Int64) × (Nat → Int64) × Int64 × Int64 × Int32) ⊕ (Int32 × (Nat → Int32) × (Nat → Int32) × Int64 × (Nat → Int64) × (Nat → Int64) × (Nat → Int64) × (Nat → Int64) × (Nat → Int64) × (Nat → Int32) × Int32 × (Nat → Int64) × Int64 × Int64 × Int32 × (Nat → Int32) × (Nat → Int32) × (Nat → Int64) × (Nat → Int64) × (Nat → Int32) × Int64 × Int64 × (Nat → Int32) × (Nat → Int32) × (Nat → Int64) × (Nat → Int64) × (Nat → Int64) × (Nat → Int64) × Int64 × Int64 × Int32)) :=
  if l2 ≤ l5 then
    some (.inr (l4, M_now, M_mode, M_under, M_slope, M_base, M_slipSlope, M_slipBase, M_offset, M_bearer, M_bearers, M_matrix, M_loadOver, M_loadUnder, M_eventMany, M_eventKind, M_eventBolt, M_eventOver, M_eventUnder, M_had, M_nextOver, M_nextUnder, M_met, M_fresh, M_aheadOver, M_aheadUnder, M_behindOver, M_behindUnder, M_bestOver, M_bestUnder, M_drawn))
  else
    bd2 (iter (un3 (fb_M_chance_62 M_many)) F ((0 : Int32), M_now, M_drawn)) fun M_now_62 M_drawn_62 =>
    bd26 (f_M_grow F M_now_62 M_many M_upper M_lower M_mode M_under M_slope M_base M_slipSlope M_slipBase M_offset M_bearer M_bearers M_matrix M_loadOver M_loadUnder M_eventMany M_eventKind M_eventBolt M_eventOver M_eventUnder M_had M_nextOver M_nextUnder M_met M_fresh M_aheadOver M_aheadUnder M_behindOver M_behindUnder) fun M_mode_96 M_under_96 M_slope_96 M_base_96 M_slipSlope_96 M_slipBase_96 M_offset_96 M_bearer_96 M_bearers_96 M_matrix_96 M_loadOver_96 M_loadUnder_96 M_eventMany_96 M_eventKind_96 M_eventBolt_96 M_eventOver_96 M_eventUnder_96 M_had_96 M_nextOver_96 M_nextUnder_96 M_met_96 M_fresh_96 M_aheadOver_96 M_aheadUnder_96 M_behindOver_96 M_behindUnder_96 =>
    (f_M_against (Int32.toInt64 l3) (1 : Int64) M_loadOver_96 M_loadUnder_96).bind fun r_105 =>
    if r_105 < (0 : Int32) then
      fj_M_chance_116 l5 l4 (0 : Int32) M_now_62 M_mode_96 M_under_96 M_slope_96 M_base_96 M_slipSlope_96 M_slipBase_96 M_offset_96 M_bearer_96 M_bearers_96 M_matrix_96 M_loadOver_96 M_loadUnder_96 M_eventMany_96 M_eventKind_96 M_eventBolt_96 M_eventOver_96 M_eventUnder_96 M_had_96 M_nextOver_96 M_nextUnder_96 M_met_96 M_fresh_96 M_aheadOver_96 M_aheadUnder_96 M_behindOver_96 M_behindUnder_96 M_bestOver M_bestUnder M_drawn_62
    else
      fj_M_chance_116 l5 l4 (1 : Int32) M_now_62 M_mode_96 M_under_96 M_slope_96 M_base_96 M_slipSlope_96 M_slipBase_96 M_offset_96 M_bearer_96 M_bearers_96 M_matrix_96 M_loadOver_96 M_loadUnder_96 M_eventMany_96 M_eventKind_96 M_eventBolt_96 M_eventOver_96 M_eventUnder_96 M_had_96 M_nextOver_96 M_nextUnder_96 M_met_96 M_fresh_96 M_aheadOver_96 M_aheadUnder_96 M_behindOver_96 M_behindUnder_96 M_bestOver M_bestUnder M_drawn_62
noncomputable def f_M_chance (F : Nat) (l1 : Int32) (l2 : Int32) (l3 : Int32) (M_now : Nat → Int32) (M_many : Int32) (M_upper : Int32) (M_lower : Int32) (M_row : Nat → Int64) (M_rowMany : Int32) (M_thrown : Int32) (M_mode : Nat → Int32) (M_under : Int64) (M_slope : Nat → Int64) (M_base : Nat → Int64) (M_slipSlope : Nat → Int64) (M_slipBase : Nat → Int64) (M_offset : Nat → Int64) (M_bearer : Nat → Int32) (M_bearers : Int32) (M_matrix : Nat → Int64) (M_loadOver : Int64) (M_loadUnder : Int64) (M_eventMany : Int32) (M_eventKind : Nat → Int32) (M_eventBolt : Nat → Int32) (M_eventOver : Nat → Int64) (M_eventUnder : Nat → Int64) (M_had : Nat → Int32) (M_nextOver : Int64) (M_nextUnder : Int64) (M_met : Nat → Int32) (M_fresh : Nat → Int32) (M_aheadOver : Nat → Int64) (M_aheadUnder : Nat → Int64) (M_behindOver : Nat → Int64) (M_behindUnder : Nat → Int64) (M_aside : Nat → Int32) (M_bestOver : Int64) (M_bestUnder : Int64) (M_drawn : Int32) : Option (Int32 × (Nat → Int32) × (Nat → Int64) × Int32 × Int32 × (Nat → Int32) × Int64 × (Nat → Int64) × (Nat → Int64) × (Nat → Int64) × (Nat → Int64) × (Nat → Int64) × (Nat → Int32) × Int32 × (Nat → Int64) × Int64 × Int64 × Int32 × (Nat → Int32) × (Nat → Int32) × (Nat → Int64) × (Nat → Int64) × (Nat → Int32) × Int64 × Int64 × (Nat → Int32) × (Nat → Int32) × (Nat → Int64) × (Nat → Int64) × (Nat → Int64) × (Nat → Int64) × (Nat → Int32) × Int64 × Int64 × Int32) :=
  if M_many = (0 : Int32) then
    some ((-1 : Int32), M_now, M_row, M_rowMany, (0 : Int32), M_mode, M_under, M_slope, M_base, M_slipSlope, M_slipBase, M_offset, M_bearer, M_bearers, M_matrix, M_loadOver, M_loadUnder, M_eventMany, M_eventKind, M_eventBolt, M_eventOver, M_eventUnder, M_had, M_nextOver, M_nextUnder, M_met, M_fresh, M_aheadOver, M_aheadUnder, M_behindOver, M_behindUnder, M_aside, M_bestOver, M_bestUnder, M_drawn)
  else
    (f_M_in (Int32.toInt64 l2) (1 : Int64) (40 : Int64)).bind fun r_18 =>
    if r_18 = (0 : Int32) then
      some ((-1 : Int32), M_now, M_row, M_rowMany, (0 : Int32), M_mode, M_under, M_slope, M_base, M_slipSlope, M_slipBase, M_offset, M_bearer, M_bearers, M_matrix, M_loadOver, M_loadUnder, M_eventMany, M_eventKind, M_eventBolt, M_eventOver, M_eventUnder, M_had, M_nextOver, M_nextUnder, M_met, M_fresh, M_aheadOver, M_aheadUnder, M_behindOver, M_behindUnder, M_aside, M_bestOver, M_bestUnder, M_drawn)
    else
      (f_M_isLoad l3).bind fun r_25 =>
      if r_25 = (0 : Int32) then
        some ((-1 : Int32), M_now, M_row, M_rowMany, (0 : Int32), M_mode, M_under, M_slope, M_base, M_slipSlope, M_slipBase, M_offset, M_bearer, M_bearers, M_matrix, M_loadOver, M_loadUnder, M_eventMany, M_eventKind, M_eventBolt, M_eventOver, M_eventUnder, M_had, M_nextOver, M_nextUnder, M_met, M_fresh, M_aheadOver, M_aheadUnder, M_behindOver, M_behindUnder, M_aside, M_bestOver, M_bestUnder, M_drawn)
      else
        (f_M_layAside F M_now M_aside).bind fun M_aside_34 =>
        bd31 (iter (un32 (fb_M_chance_53 F l2 l3 M_many M_upper M_lower)) F ((0 : Int32), (0 : Int32), M_now, M_mode, M_under, M_slope, M_base, M_slipSlope, M_slipBase, M_offset, M_bearer, M_bearers, M_matrix, M_loadOver, M_loadUnder, M_eventMany, M_eventKind, M_eventBolt, M_eventOver, M_eventUnder, M_had, M_nextOver, M_nextUnder, M_met, M_fresh, M_aheadOver, M_aheadUnder, M_behindOver, M_behindUnder, M_bestOver, (0 : Int64), l1)) fun l4_53 M_now_53 M_mode_53 M_under_53 M_slope_53 M_base_53 M_slipSlope_53 M_slipBase_53 M_offset_53 M_bearer_53 M_bearers_53 M_matrix_53 M_loadOver_53 M_loadUnder_53 M_eventMany_53 M_eventKind_53 M_eventBolt_53 M_eventOver_53 M_eventUnder_53 M_had_53 M_nextOver_53 M_nextUnder_53 M_met_53 M_fresh_53 M_aheadOver_53 M_aheadUnder_53 M_behindOver_53 M_behindUnder_53 M_bestOver_53 M_bestUnder_53 M_drawn_53 =>
        (f_M_comesBack F M_now_53 M_aside_34).bind fun M_now_169 =>
        bd2 (f_M_tellFraction F M_bestOver_53 M_bestUnder_53 M_row (0 : Int32)) fun M_row_186 M_rowMany_186 =>
        some (l4_53, M_now_169, M_row_186, M_rowMany_186, (0 : Int32), M_mode_53, M_under_53, M_slope_53, M_base_53, M_slipSlope_53, M_slipBase_53, M_offset_53, M_bearer_53, M_bearers_53, M_matrix_53, M_loadOver_53, M_loadUnder_53, M_eventMany_53, M_eventKind_53, M_eventBolt_53, M_eventOver_53, M_eventUnder_53, M_had_53, M_nextOver_53, M_nextUnder_53, M_met_53, M_fresh_53, M_aheadOver_53, M_aheadUnder_53, M_behindOver_53, M_behindUnder_53, M_aside_34, M_bestOver_53, M_bestUnder_53, M_drawn_53)
noncomputable def fj_M_breakAll_32 (l2 : Int32) (s0 : Int32) (s1 : Int32) : Option ((Int32 × Int32) ⊕ (Int32)) :=
  nm (s0 + s1) fun l1_33 =>
  nm (l2 + (1 : Int32)) fun l2_34 =>
  some (.inl (l1_33, l2_34))
noncomputable def fb_M_breakAll_4 (M_now : Nat → Int32) (M_many : Int32) (l1 : Int32) (l2 : Int32) : Option ((Int32 × Int32) ⊕ (Int32)) :=
  if M_many ≤ l2 then
    some (.inr l1)
  else
    (f_M_of l2 (5 : Int32) M_now).bind fun r_16 =>
    if r_16 = (0 : Int32) then
      (f_M_of l2 (4 : Int32) M_now).bind fun r_25 =>
      fj_M_breakAll_32 l2 l1 r_25
    else
      fj_M_breakAll_32 l2 l1 (0 : Int32)
noncomputable def f_M_breakAll (F : Nat) (M_now : Nat → Int32) (M_many : Int32) : Option (Int32) :=
  (iter (un2 (fb_M_breakAll_4 M_now M_many)) F ((0 : Int32), (0 : Int32))).bind fun l1_4 =>
  some l1_4
noncomputable def fj_M_clearLeast_44 (l1 : Int32) (l2 : Int32) : Option ((Int32 × Int32) ⊕ (Int32)) :=
  nm (l2 + (-1 : Int32)) fun l2_44 =>
  some (.inl (l1, l2_44))
noncomputable def fj_M_clearLeast_37 (l2 : Int32) (M_now : Nat → Int32) : Option ((Int32 × Int32) ⊕ (Int32)) :=
  (f_M_of l2 (1 : Int32) M_now).bind fun r_40 =>
  fj_M_clearLeast_44 r_40 l2
noncomputable def fb_M_clearLeast_9 (M_now : Nat → Int32) (l1 : Int32) (l2 : Int32) : Option ((Int32 × Int32) ⊕ (Int32)) :=
  if l2 < (0 : Int32) then
    some (.inr l1)
  else
    (f_M_of l2 (5 : Int32) M_now).bind fun r_16 =>
    if r_16 = (0 : Int32) then
      if l1 = (-1 : Int32) then
        fj_M_clearLeast_37 l2 M_now
      else
        (f_M_of l2 (1 : Int32) M_now).bind fun r_30 =>
        if l1 ≤ r_30 then
          fj_M_clearLeast_44 l1 l2
        else
          fj_M_clearLeast_37 l2 M_now
    else
      fj_M_clearLeast_44 l1 l2
noncomputable def f_M_clearLeast (F : Nat) (M_now : Nat → Int32) (M_many : Int32) : Option (Int32) :=
  nm (M_many - (1 : Int32)) fun l2_8 =>
  (iter (un2 (fb_M_clearLeast_9 M_now)) F ((-1 : Int32), l2_8)).bind fun l1_9 =>
  some l1_9
noncomputable def f_M_count (F : Nat) (l1 : Int32) (M_now : Nat → Int32) (M_many : Int32) (M_upper : Int32) (M_lower : Int32) (M_typed : Int32) (M_rowMany : Int32) (M_thrown : Int32) (M_mode : Nat → Int32) (M_under : Int64) (M_slope : Nat → Int64) (M_base : Nat → Int64) (M_slipSlope : Nat → Int64) (M_slipBase : Nat → Int64) (M_offset : Nat → Int64) (M_bearer : Nat → Int32) (M_bearers : Int32) (M_matrix : Nat → Int64) (M_loadOver : Int64) (M_loadUnder : Int64) (M_eventMany : Int32) (M_eventKind : Nat → Int32) (M_eventBolt : Nat → Int32) (M_eventOver : Nat → Int64) (M_eventUnder : Nat → Int64) (M_had : Nat → Int32) (M_nextOver : Int64) (M_nextUnder : Int64) (M_met : Nat → Int32) (M_fresh : Nat → Int32) (M_aheadOver : Nat → Int64) (M_aheadUnder : Nat → Int64) (M_behindOver : Nat → Int64) (M_behindUnder : Nat → Int64) : Option (Int32 × Int32 × (Nat → Int32) × Int64 × (Nat → Int64) × (Nat → Int64) × (Nat → Int64) × (Nat → Int64) × (Nat → Int64) × (Nat → Int32) × Int32 × (Nat → Int64) × Int64 × Int64 × Int32 × (Nat → Int32) × (Nat → Int32) × (Nat → Int64) × (Nat → Int64) × (Nat → Int32) × Int64 × Int64 × (Nat → Int32) × (Nat → Int32) × (Nat → Int64) × (Nat → Int64) × (Nat → Int64) × (Nat → Int64)) :=
  if l1 = (0 : Int32) then
    some (M_many, (0 : Int32), M_mode, M_under, M_slope, M_base, M_slipSlope, M_slipBase, M_offset, M_bearer, M_bearers, M_matrix, M_loadOver, M_loadUnder, M_eventMany, M_eventKind, M_eventBolt, M_eventOver, M_eventUnder, M_had, M_nextOver, M_nextUnder, M_met, M_fresh, M_aheadOver, M_aheadUnder, M_behindOver, M_behindUnder)
  else
  if l1 = (1 : Int32) then
    (f_M_soundMany F M_now M_many).bind fun r_62 =>
    some (r_62, (0 : Int32), M_mode, M_under, M_slope, M_base, M_slipSlope, M_slipBase, M_offset, M_bearer, M_bearers, M_matrix, M_loadOver, M_loadUnder, M_eventMany, M_eventKind, M_eventBolt, M_eventOver, M_eventUnder, M_had, M_nextOver, M_nextUnder, M_met, M_fresh, M_aheadOver, M_aheadUnder, M_behindOver, M_behindUnder)
  else
  if l1 = (2 : Int32) then
    (f_M_breakAll F M_now M_many).bind fun r_67 =>
    some (r_67, (0 : Int32), M_mode, M_under, M_slope, M_base, M_slipSlope, M_slipBase, M_offset, M_bearer, M_bearers, M_matrix, M_loadOver, M_loadUnder, M_eventMany, M_eventKind, M_eventBolt, M_eventOver, M_eventUnder, M_had, M_nextOver, M_nextUnder, M_met, M_fresh, M_aheadOver, M_aheadUnder, M_behindOver, M_behindUnder)
  else
  if l1 = (3 : Int32) then
    (f_M_clearLeast F M_now M_many).bind fun r_72 =>
    some (r_72, (0 : Int32), M_mode, M_under, M_slope, M_base, M_slipSlope, M_slipBase, M_offset, M_bearer, M_bearers, M_matrix, M_loadOver, M_loadUnder, M_eventMany, M_eventKind, M_eventBolt, M_eventOver, M_eventUnder, M_had, M_nextOver, M_nextUnder, M_met, M_fresh, M_aheadOver, M_aheadUnder, M_behindOver, M_behindUnder)
  else
  if l1 = (4 : Int32) then
    bd26 (f_M_grow F M_now M_many M_upper M_lower M_mode M_under M_slope M_base M_slipSlope M_slipBase M_offset M_bearer M_bearers M_matrix M_loadOver M_loadUnder M_eventMany M_eventKind M_eventBolt M_eventOver M_eventUnder M_had M_nextOver M_nextUnder M_met M_fresh M_aheadOver M_aheadUnder M_behindOver M_behindUnder) fun M_mode_77 M_under_77 M_slope_77 M_base_77 M_slipSlope_77 M_slipBase_77 M_offset_77 M_bearer_77 M_bearers_77 M_matrix_77 M_loadOver_77 M_loadUnder_77 M_eventMany_77 M_eventKind_77 M_eventBolt_77 M_eventOver_77 M_eventUnder_77 M_had_77 M_nextOver_77 M_nextUnder_77 M_met_77 M_fresh_77 M_aheadOver_77 M_aheadUnder_77 M_behindOver_77 M_behindUnder_77 =>
    some (M_eventMany_77, (0 : Int32), M_mode_77, M_under_77, M_slope_77, M_base_77, M_slipSlope_77, M_slipBase_77, M_offset_77, M_bearer_77, M_bearers_77, M_matrix_77, M_loadOver_77, M_loadUnder_77, M_eventMany_77, M_eventKind_77, M_eventBolt_77, M_eventOver_77, M_eventUnder_77, M_had_77, M_nextOver_77, M_nextUnder_77, M_met_77, M_fresh_77, M_aheadOver_77, M_aheadUnder_77, M_behindOver_77, M_behindUnder_77)
  else
  if l1 = (5 : Int32) then
    some (M_rowMany, (0 : Int32), M_mode, M_under, M_slope, M_base, M_slipSlope, M_slipBase, M_offset, M_bearer, M_bearers, M_matrix, M_loadOver, M_loadUnder, M_eventMany, M_eventKind, M_eventBolt, M_eventOver, M_eventUnder, M_had, M_nextOver, M_nextUnder, M_met, M_fresh, M_aheadOver, M_aheadUnder, M_behindOver, M_behindUnder)
  else
  if l1 = (6 : Int32) then
    some (M_typed, (0 : Int32), M_mode, M_under, M_slope, M_base, M_slipSlope, M_slipBase, M_offset, M_bearer, M_bearers, M_matrix, M_loadOver, M_loadUnder, M_eventMany, M_eventKind, M_eventBolt, M_eventOver, M_eventUnder, M_had, M_nextOver, M_nextUnder, M_met, M_fresh, M_aheadOver, M_aheadUnder, M_behindOver, M_behindUnder)
  else
  if l1 = (7 : Int32) then
    some (M_upper, (0 : Int32), M_mode, M_under, M_slope, M_base, M_slipSlope, M_slipBase, M_offset, M_bearer, M_bearers, M_matrix, M_loadOver, M_loadUnder, M_eventMany, M_eventKind, M_eventBolt, M_eventOver, M_eventUnder, M_had, M_nextOver, M_nextUnder, M_met, M_fresh, M_aheadOver, M_aheadUnder, M_behindOver, M_behindUnder)
  else
  if l1 = (8 : Int32) then
    some (M_lower, (0 : Int32), M_mode, M_under, M_slope, M_base, M_slipSlope, M_slipBase, M_offset, M_bearer, M_bearers, M_matrix, M_loadOver, M_loadUnder, M_eventMany, M_eventKind, M_eventBolt, M_eventOver, M_eventUnder, M_had, M_nextOver, M_nextUnder, M_met, M_fresh, M_aheadOver, M_aheadUnder, M_behindOver, M_behindUnder)
  else
  some ((-1 : Int32), (0 : Int32), M_mode, M_under, M_slope, M_base, M_slipSlope, M_slipBase, M_offset, M_bearer, M_bearers, M_matrix, M_loadOver, M_loadUnder, M_eventMany, M_eventKind, M_eventBolt, M_eventOver, M_eventUnder, M_had, M_nextOver, M_nextUnder, M_met, M_fresh, M_aheadOver, M_aheadUnder, M_behindOver, M_behindUnder)
noncomputable def f_M_row (l1 : Int32) (M_row : Nat → Int64) (M_rowMany : Int32) (M_thrown : Int32) : Option (Int64 × Int32) :=
  (f_M_in (Int32.toInt64 l1) (0 : Int64) (Int32.toInt64 (M_rowMany - (1 : Int32)))).bind fun r_15 =>
  if r_15 = (0 : Int32) then
    bd2 (f_M_lost (0 : Int32)) fun r_31 M_thrown_31 =>
    some ((Int32.toInt64 r_31), M_thrown_31)
  else
    (ldA M_row 64 l1).bind fun v_26 =>
    some (v_26, (0 : Int32))
