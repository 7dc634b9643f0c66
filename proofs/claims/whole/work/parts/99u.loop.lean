/-! THE LAW: its loop -/
theorem tab_out_36 {x : Int32} (h0 : ¬ x = 0) (h1 : ¬ x = 1) (h2 : ¬ x = 2) (h3 : ¬ x = 3) (h4 : ¬ x = 4) (h5 : ¬ x = 5) (h6 : ¬ x = 6) (h7 : ¬ x = 7) (h8 : ¬ x = 8) (h9 : ¬ x = 9) (h10 : ¬ x = 10) (h11 : ¬ x = 11) (h12 : ¬ x = 12) (h13 : ¬ x = 13) (h14 : ¬ x = 14) (h15 : ¬ x = 15) (h16 : ¬ x = 16) (h17 : ¬ x = 17) (h18 : ¬ x = 18) (h19 : ¬ x = 19) (h20 : ¬ x = 20) (h21 : ¬ x = 21) (h22 : ¬ x = 22) (h23 : ¬ x = 23) (h24 : ¬ x = 24) (h25 : ¬ x = 25) (h26 : ¬ x = 26) (h27 : ¬ x = 27) (h28 : ¬ x = 28) (h29 : ¬ x = 29) (h30 : ¬ x = 30) (h31 : ¬ x = 31) (h32 : ¬ x = 32) (h33 : ¬ x = 33) (h34 : ¬ x = 34) (h35 : ¬ x = 35) (h36 : ¬ x = 36) : x.toInt < 0 ∨ 36 < x.toInt := by
  have g0 : x.toInt ≠ 0 := fun e => h0 (Int32.toInt_inj.mp (e.trans (by decide)))
  have g1 : x.toInt ≠ 1 := fun e => h1 (Int32.toInt_inj.mp (e.trans (by decide)))
  have g2 : x.toInt ≠ 2 := fun e => h2 (Int32.toInt_inj.mp (e.trans (by decide)))
  have g3 : x.toInt ≠ 3 := fun e => h3 (Int32.toInt_inj.mp (e.trans (by decide)))
  have g4 : x.toInt ≠ 4 := fun e => h4 (Int32.toInt_inj.mp (e.trans (by decide)))
  have g5 : x.toInt ≠ 5 := fun e => h5 (Int32.toInt_inj.mp (e.trans (by decide)))
  have g6 : x.toInt ≠ 6 := fun e => h6 (Int32.toInt_inj.mp (e.trans (by decide)))
  have g7 : x.toInt ≠ 7 := fun e => h7 (Int32.toInt_inj.mp (e.trans (by decide)))
  have g8 : x.toInt ≠ 8 := fun e => h8 (Int32.toInt_inj.mp (e.trans (by decide)))
  have g9 : x.toInt ≠ 9 := fun e => h9 (Int32.toInt_inj.mp (e.trans (by decide)))
  have g10 : x.toInt ≠ 10 := fun e => h10 (Int32.toInt_inj.mp (e.trans (by decide)))
  have g11 : x.toInt ≠ 11 := fun e => h11 (Int32.toInt_inj.mp (e.trans (by decide)))
  have g12 : x.toInt ≠ 12 := fun e => h12 (Int32.toInt_inj.mp (e.trans (by decide)))
  have g13 : x.toInt ≠ 13 := fun e => h13 (Int32.toInt_inj.mp (e.trans (by decide)))
  have g14 : x.toInt ≠ 14 := fun e => h14 (Int32.toInt_inj.mp (e.trans (by decide)))
  have g15 : x.toInt ≠ 15 := fun e => h15 (Int32.toInt_inj.mp (e.trans (by decide)))
  have g16 : x.toInt ≠ 16 := fun e => h16 (Int32.toInt_inj.mp (e.trans (by decide)))
  have g17 : x.toInt ≠ 17 := fun e => h17 (Int32.toInt_inj.mp (e.trans (by decide)))
  have g18 : x.toInt ≠ 18 := fun e => h18 (Int32.toInt_inj.mp (e.trans (by decide)))
  have g19 : x.toInt ≠ 19 := fun e => h19 (Int32.toInt_inj.mp (e.trans (by decide)))
  have g20 : x.toInt ≠ 20 := fun e => h20 (Int32.toInt_inj.mp (e.trans (by decide)))
  have g21 : x.toInt ≠ 21 := fun e => h21 (Int32.toInt_inj.mp (e.trans (by decide)))
  have g22 : x.toInt ≠ 22 := fun e => h22 (Int32.toInt_inj.mp (e.trans (by decide)))
  have g23 : x.toInt ≠ 23 := fun e => h23 (Int32.toInt_inj.mp (e.trans (by decide)))
  have g24 : x.toInt ≠ 24 := fun e => h24 (Int32.toInt_inj.mp (e.trans (by decide)))
  have g25 : x.toInt ≠ 25 := fun e => h25 (Int32.toInt_inj.mp (e.trans (by decide)))
  have g26 : x.toInt ≠ 26 := fun e => h26 (Int32.toInt_inj.mp (e.trans (by decide)))
  have g27 : x.toInt ≠ 27 := fun e => h27 (Int32.toInt_inj.mp (e.trans (by decide)))
  have g28 : x.toInt ≠ 28 := fun e => h28 (Int32.toInt_inj.mp (e.trans (by decide)))
  have g29 : x.toInt ≠ 29 := fun e => h29 (Int32.toInt_inj.mp (e.trans (by decide)))
  have g30 : x.toInt ≠ 30 := fun e => h30 (Int32.toInt_inj.mp (e.trans (by decide)))
  have g31 : x.toInt ≠ 31 := fun e => h31 (Int32.toInt_inj.mp (e.trans (by decide)))
  have g32 : x.toInt ≠ 32 := fun e => h32 (Int32.toInt_inj.mp (e.trans (by decide)))
  have g33 : x.toInt ≠ 33 := fun e => h33 (Int32.toInt_inj.mp (e.trans (by decide)))
  have g34 : x.toInt ≠ 34 := fun e => h34 (Int32.toInt_inj.mp (e.trans (by decide)))
  have g35 : x.toInt ≠ 35 := fun e => h35 (Int32.toInt_inj.mp (e.trans (by decide)))
  have g36 : x.toInt ≠ 36 := fun e => h36 (Int32.toInt_inj.mp (e.trans (by decide)))
  omega
set_option maxHeartbeats 4000000 in
set_option maxRecDepth 4000 in
theorem law_step {G : Gm} {b L : Nat} {xs : Nat → Int32} (O : LawOk G b L xs) {a a2 : Nat → Nat} {out : Nat} {o0 : Nat → Int64} {k n : Nat} (hkn : k + 1 ≤ room_1.cells ∧ n + 6 ≤ room_1.slots) {i : Nat} (hi : i + 7 ≤ L) {wx wm : va_W} (hr : Rel (gK G) a a2 wx wm) (z : ∀ o1 wx2 wm2, Rel (gK G) a a2 wx2 wm2 → V G (k + 1) (n + 6) (wsL G out o1 wx2 wm2) 1412 (lvL b (a 0) (a2 0) out i) []) : V G k n (wsL G out o0 wx wm) 33 (lvL b (a 0) (a2 0) out i) [] := by
  have hkn0 : k ≤ room_1.cells ∧ n ≤ room_1.slots := ⟨by omega, by omega⟩
  have z0 : ∀ wx2 wm2, Rel (gK G) a a2 wx2 wm2 → V G k n (wsL G out o0 wx2 wm2) 1412 (lvL b (a 0) (a2 0) out i) [] := fun wx2 wm2 h2 => V_widen (k + 1) (n + 6) (by omega) (by omega) (z o0 wx2 wm2 h2)
  have O' := O
  obtain ⟨h, hX, hbl, hbA, hL, -, -, -⟩ := O'
  refine V_aload_n (pc := 33) h 0 dL_law_33 rfl ?_
  refine V_iload (pc := 34) h 4 dL_law_34 rfl ?_
  refine V_sld (pc := 36) h hX hbl hbA (inx0 hi hL) dL_law_36 ?_
  refine V_bipush (pc := 37) h (v := 63) dL_law_37 (by decide) ?_
  refine V_iand (pc := 39) h dL_law_39 ?_
  generalize xs (zI (i : Int)).toNatClampNeg &&& (63 : Int32) = t
  by_cases hc_0 : t = (0 : Int32)
  · refine V_tabIn (pc := 40) h 204 0 dL_law_40 hc_0 (by decide) (by decide) (by decide) ?_
    exact lc_bolt O hkn0 hi hr z0
  by_cases hc_1 : t = (1 : Int32)
  · refine V_tabIn (pc := 40) h 277 0 dL_law_40 hc_1 (by decide) (by decide) (by decide) ?_
    exact lc_plates O hkn0 hi hr z0
  by_cases hc_2 : t = (2 : Int32)
  · refine V_tabIn (pc := 40) h 314 0 dL_law_40 hc_2 (by decide) (by decide) (by decide) ?_
    exact lc_pitch O hkn0 hi hr z0
  by_cases hc_3 : t = (3 : Int32)
  · refine V_tabIn (pc := 40) h 351 0 dL_law_40 hc_3 (by decide) (by decide) (by decide) ?_
    exact lc_alters O hkn0 hi hr z0
  by_cases hc_4 : t = (4 : Int32)
  · refine V_tabIn (pc := 40) h 438 0 dL_law_40 hc_4 (by decide) (by decide) (by decide) ?_
    exact lc_takes O hkn0 hi hr z0
  by_cases hc_5 : t = (5 : Int32)
  · refine V_tabIn (pc := 40) h 491 0 dL_law_40 hc_5 (by decide) (by decide) (by decide) ?_
    exact lc_swaps O hkn0 hi hr z0
  by_cases hc_6 : t = (6 : Int32)
  · refine V_tabIn (pc := 40) h 528 0 dL_law_40 hc_6 (by decide) (by decide) (by decide) ?_
    exact lc_clears O hkn0 hi hr z0
  by_cases hc_7 : t = (7 : Int32)
  · refine V_tabIn (pc := 40) h 541 0 dL_law_40 hc_7 (by decide) (by decide) (by decide) ?_
    exact lc_sign O hkn0 hi hr z0
  by_cases hc_8 : t = (8 : Int32)
  · refine V_tabIn (pc := 40) h 566 0 dL_law_40 hc_8 (by decide) (by decide) (by decide) ?_
    exact lc_end O hkn0 hi hr z0
  by_cases hc_9 : t = (9 : Int32)
  · refine V_tabIn (pc := 40) h 591 0 dL_law_40 hc_9 (by decide) (by decide) (by decide) ?_
    exact lc_joint O hkn0 hi hr z0
  by_cases hc_10 : t = (10 : Int32)
  · refine V_tabIn (pc := 40) h 604 0 dL_law_40 hc_10 (by decide) (by decide) (by decide) ?_
    exact lc_part O hkn hi hr (fun o1 wm2 h2 => z o1 wx wm2 h2)
  by_cases hc_11 : t = (11 : Int32)
  · refine V_tabIn (pc := 40) h 672 0 dL_law_40 hc_11 (by decide) (by decide) (by decide) ?_
    exact lc_force O hkn0 hi hr z0
  by_cases hc_12 : t = (12 : Int32)
  · refine V_tabIn (pc := 40) h 709 0 dL_law_40 hc_12 (by decide) (by decide) (by decide) ?_
    exact lc_slip O hkn0 hi hr z0
  by_cases hc_13 : t = (13 : Int32)
  · refine V_tabIn (pc := 40) h 746 0 dL_law_40 hc_13 (by decide) (by decide) (by decide) ?_
    exact lc_bears O hkn0 hi hr z0
  by_cases hc_14 : t = (14 : Int32)
  · refine V_tabIn (pc := 40) h 783 0 dL_law_40 hc_14 (by decide) (by decide) (by decide) ?_
    exact lc_stretch O hkn0 hi hr z0
  by_cases hc_15 : t = (15 : Int32)
  · refine V_tabIn (pc := 40) h 808 0 dL_law_40 hc_15 (by decide) (by decide) (by decide) ?_
    exact lc_state O hkn0 hi hr z0
  by_cases hc_16 : t = (16 : Int32)
  · refine V_tabIn (pc := 40) h 845 0 dL_law_40 hc_16 (by decide) (by decide) (by decide) ?_
    exact lc_idle O hkn0 hi hr z0
  by_cases hc_17 : t = (17 : Int32)
  · refine V_tabIn (pc := 40) h 870 0 dL_law_40 hc_17 (by decide) (by decide) (by decide) ?_
    exact lc_hardest O hkn0 hi hr z0
  by_cases hc_18 : t = (18 : Int32)
  · refine V_tabIn (pc := 40) h 895 0 dL_law_40 hc_18 (by decide) (by decide) (by decide) ?_
    exact lc_margin O hkn0 hi hr z0
  by_cases hc_19 : t = (19 : Int32)
  · refine V_tabIn (pc := 40) h 920 0 dL_law_40 hc_19 (by decide) (by decide) (by decide) ?_
    exact lc_work O hkn0 hi hr z0
  by_cases hc_20 : t = (20 : Int32)
  · refine V_tabIn (pc := 40) h 945 0 dL_law_40 hc_20 (by decide) (by decide) (by decide) ?_
    exact lc_set O hkn0 hi hr z0
  by_cases hc_21 : t = (21 : Int32)
  · refine V_tabIn (pc := 40) h 982 0 dL_law_40 hc_21 (by decide) (by decide) (by decide) ?_
    exact lc_falls O hkn0 hi hr z0
  by_cases hc_22 : t = (22 : Int32)
  · refine V_tabIn (pc := 40) h 1031 0 dL_law_40 hc_22 (by decide) (by decide) (by decide) ?_
    exact lc_opens O hkn0 hi hr z0
  by_cases hc_23 : t = (23 : Int32)
  · refine V_tabIn (pc := 40) h 1056 0 dL_law_40 hc_23 (by decide) (by decide) (by decide) ?_
    exact lc_events O hkn0 hi hr z0
  by_cases hc_24 : t = (24 : Int32)
  · refine V_tabIn (pc := 40) h 1069 0 dL_law_40 hc_24 (by decide) (by decide) (by decide) ?_
    exact lc_event O hkn0 hi hr z0
  by_cases hc_25 : t = (25 : Int32)
  · refine V_tabIn (pc := 40) h 1094 0 dL_law_40 hc_25 (by decide) (by decide) (by decide) ?_
    exact lc_peak O hkn0 hi hr z0
  by_cases hc_26 : t = (26 : Int32)
  · refine V_tabIn (pc := 40) h 1107 0 dL_law_40 hc_26 (by decide) (by decide) (by decide) ?_
    exact lc_order O hkn0 hi hr z0
  by_cases hc_27 : t = (27 : Int32)
  · refine V_tabIn (pc := 40) h 1120 0 dL_law_40 hc_27 (by decide) (by decide) (by decide) ?_
    exact lc_when O hkn0 hi hr z0
  by_cases hc_28 : t = (28 : Int32)
  · refine V_tabIn (pc := 40) h 1157 0 dL_law_40 hc_28 (by decide) (by decide) (by decide) ?_
    exact lc_sheds O hkn0 hi hr z0
  by_cases hc_29 : t = (29 : Int32)
  · refine V_tabIn (pc := 40) h 1182 0 dL_law_40 hc_29 (by decide) (by decide) (by decide) ?_
    exact lc_replays O hkn0 hi hr z0
  by_cases hc_30 : t = (30 : Int32)
  · refine V_tabIn (pc := 40) h 1195 0 dL_law_40 hc_30 (by decide) (by decide) (by decide) ?_
    exact lc_without O hkn0 hi hr z0
  by_cases hc_31 : t = (31 : Int32)
  · refine V_tabIn (pc := 40) h 1220 0 dL_law_40 hc_31 (by decide) (by decide) (by decide) ?_
    exact lc_tunes O hkn0 hi hr z0
  by_cases hc_32 : t = (32 : Int32)
  · refine V_tabIn (pc := 40) h 1245 0 dL_law_40 hc_32 (by decide) (by decide) (by decide) ?_
    exact lc_arranges O hkn0 hi hr z0
  by_cases hc_33 : t = (33 : Int32)
  · refine V_tabIn (pc := 40) h 1258 0 dL_law_40 hc_33 (by decide) (by decide) (by decide) ?_
    exact lc_fits O hkn0 hi hr z0
  by_cases hc_34 : t = (34 : Int32)
  · refine V_tabIn (pc := 40) h 1283 0 dL_law_40 hc_34 (by decide) (by decide) (by decide) ?_
    exact lc_chance O hkn0 hi hr z0
  by_cases hc_35 : t = (35 : Int32)
  · refine V_tabIn (pc := 40) h 1332 0 dL_law_40 hc_35 (by decide) (by decide) (by decide) ?_
    exact lc_count O hkn0 hi hr z0
  by_cases hc_36 : t = (36 : Int32)
  · refine V_tabIn (pc := 40) h 1357 0 dL_law_40 hc_36 (by decide) (by decide) (by decide) ?_
    exact lc_row O hkn hi hr (fun o1 wm2 h2 => z o1 wx wm2 h2)
  exact V_tabOut (pc := 40) h 1412 dL_law_40 (tab_out_36 hc_0 hc_1 hc_2 hc_3 hc_4 hc_5 hc_6 hc_7 hc_8 hc_9 hc_10 hc_11 hc_12 hc_13 hc_14 hc_15 hc_16 hc_17 hc_18 hc_19 hc_20 hc_21 hc_22 hc_23 hc_24 hc_25 hc_26 hc_27 hc_28 hc_29 hc_30 hc_31 hc_32 hc_33 hc_34 hc_35 hc_36) (by decide) (z0 wx wm hr)
theorem law_loop {G : Gm} {b L : Nat} {xs : Nat → Int32} (O : LawOk G b L xs) {a a2 : Nat → Nat} {out : Nat} : ∀ (f i : Nat), i ≤ L → L < i + 7 * f → ∀ (k n : Nat), k + f ≤ 603490 → n + 6 * f ≤ 7285634 → ∀ (o0 : Nat → Int64) (wx wm : va_W), Rel (gK G) a a2 wx wm → V G k n (wsL G out o0 wx wm) 23 (lvL b (a 0) (a2 0) out i) [] := by
  have O' := O
  obtain ⟨h, hX, hbl, hbA, hL, -, -, hend⟩ := O'
  intro f
  induction f with
  | zero => intro i h1 h2; omega
  | succ f ih =>
    intro i h1 h2 k n hk hn o0 wx wm hr
    refine V_iload (pc := 23) h 4 dL_law_23 rfl ?_
    refine V_aload_n (pc := 25) h 0 dL_law_25 rfl ?_
    refine V_slen (pc := 26) h hX hbl hbA dL_law_26 ?_
    refine V_bipush (pc := 27) h (v := 7) dL_law_27 (by decide) ?_
    refine V_isub (pc := 29) h dL_law_29 ?_
    have eL : Int32.ofNat L - (7 : Int32) = zI ((L : Int) - 7) := by
      rw [show Int32.ofNat L = zI (L : Int) from nI_z L, show (7 : Int32) = zI 7 from rfl, zI_sub]
    rw [eL]
    refine V_icmp_gt (pc := 30) h 1418 dL_law_30 (by decide) (fun hc => ?_) (fun hc => ?_)
    · refine V_iconst (pc := 1418) h dL_law_1418 ic_1 ?_
      exact hend k n _ _ (by omega) (by omega)
    · have hi : i + 7 ≤ L := by
        have := mt (zI_lt (a := (L : Int) - 7) (b := (i : Int)) (by omega) (by omega) (by omega) (by omega)).mpr hc
        omega
      refine law_step O ⟨show k + 1 ≤ 603490 by omega, show n + 6 ≤ 7285634 by omega⟩ hi hr (fun o1 wx2 wm2 h3 => ?_)
      have ei : zI (i : Int) + (7 : Int32) = zI ((i + 7 : Nat) : Int) := zI_addN i 7
      refine V_iinc (pc := 1412) h [(4, .int (zI (i : Int) + (7 : Int32))), (0, .ref b), (1, .ref (a 0)), (2, .ref (a2 0)), (3, .ref out)] 4 dL_law_1412 rfl (by decide) (by decide) rfl ?_
      rw [ei]
      refine V_goto (pc := 1415) (tgt := 23) h dL_law_1415 (by decide) ?_
      refine V_sub _ [1, 2, 3, 4, 0] rfl ?_
      exact ih (i + 7) hi (by omega) (k + 1) (n + 6) (by omega) (by omega) o1 wx2 wm2 h3
