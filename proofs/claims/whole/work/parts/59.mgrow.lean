/-! THE MODEL GROWS -/
/-- the model stands at a step of growth -/
def MSt (n : Nat) (nv : Nat → Nat → Int) (A B : Int) (s : Gs) (mode : Nat → Int32) (tot : Int32) (kd wh : Nat → Int32) (ov un : Nat → Int64) (had : Nat → Int32) (aO aU bO bU : Nat → Int64) : Prop :=
  EvZ s.2.2.2.2 tot kd wh ov un ∧ RecOk n nv A B s.2.2.2.2 aO aU bO bU ∧ (s.1 = 0 → ∀ i, i < n → mode i = zI 3) ∧ (¬ s.1 = 0 → (∀ i, i < n → mode i = zI (m3 s.2.1 i)) ∧ HadOk n s.1 s.2.1 had)
section MGROW
variable {n : Nat} {nv : Nat → Nat → Int} {A B : Int} {now : Nat → Int32} {F : Nat}
theorem zI3_m3 {mode : Nat → Int32} {i : Nat} (h : mode i = zI 3) : mode i = zI (m3 (fun _ => 3) i) ∧ (0 : Int) ≤ (fun _ => 3) i := ⟨h, show (0 : Int) ≤ 3 by decide⟩
theorem goLoop_z (hn : n ≤ 5) (hF : 300 < F) (hv : NvOk n nv) (hA : 0 ≤ A ∧ A ≤ 2) (hB : 0 ≤ B ∧ B ≤ 2) (h : ∀ i, i < n → ∀ q, q < 7 → now (7 * i + q) = zI (nv i q)) {m : Nat} {md : Nat → Int} {P Q : Int} {L : List (Int × Nat × Int × Int)} {b : Int} (hP : 0 < P)
    (hBO : BOk n nv A B m md P Q L) (hb : b = -1 ∨ (0 ≤ b ∧ b.toNat < n ∧ md b.toNat = 2)) (hK : 0 ≤ b → KOk P Q) (mode : Nat → Int32) (uu : Int64) (sl ba ss sb of' : Nat → Int64) (be' : Nat → Int32) (bs' : Int32) (ma' : Nat → Int64) (tot : Int32) (kd wh : Nat → Int32) (ov un : Nat → Int64) (had : Nat → Int32) (aO aU bO bU : Nat → Int64)
    (hm : ∀ i, i < n → mode i = zI (m3 md i)) (hh : HadOk n m md had) (hE : EvZ L tot kd wh ov un) (hR : RecOk n nv A B L aO aU bO bU) :
    ∃ (mode' : Nat → Int32) (uu1 : Int64) (sl1 ba1 ss1 sb1 of1 : Nat → Int64) (be1 : Nat → Int32) (bs1 : Int32) (ma1 : Nat → Int64) (tot' : Int32) (kd' wh' : Nat → Int32) (ov' un' : Nat → Int64) (had' : Nat → Int32) (aO' aU' bO' bU' : Nat → Int64),
      iter (un21 (fb_M_goNext_293 F now (zI (n : Int)) (zI A) (zI B) (zL P) (zL Q))) F (zI b, mode, uu, sl, ba, ss, sb, of', be', bs', ma', tot, kd, wh, ov, un, had, aO, aU, bO, bU) = some (mode', uu1, sl1, ba1, ss1, sb1, of1, be1, bs1, ma1, tot', kd', wh', ov', un', had', aO', aU', bO', bU') ∧
      MSt n nv A B ((brk n nv A B P Q 5 b m md L).1, (brk n nv A B P Q 5 b m md L).2.1, P, Q, (brk n nv A B P Q 5 b m md L).2.2) mode' tot' kd' wh' ov' un' had' aO' aU' bO' bU' := by
  generalize hRR : brk n nv A B P Q 5 b m md L = R
  have hpc5 : popc m n ≤ 5 := by have := popc_le (m := m) (n := n); omega
  have loop := iter_dn (body := un21 (fb_M_goNext_293 F now (zI (n : Int)) (zI A) (zI B) (zL P) (zL Q)))
    (fun M z => ∃ (g : Int32) (mode : Nat → Int32) (uu : Int64) (sl ba ss sb of' : Nat → Int64) (be' : Nat → Int32) (bs' : Int32) (ma' : Nat → Int64) (tot : Int32) (kd wh : Nat → Int32) (ov un : Nat → Int64) (had : Nat → Int32) (aO aU bO bU : Nat → Int64),
      z = (g, mode, uu, sl, ba, ss, sb, of', be', bs', ma', tot, kd, wh, ov, un, had, aO, aU, bO, bU) ∧
      ((∃ (k : Nat) (b : Int) (m : Nat) (md : Nat → Int) (L : List (Int × Nat × Int × Int)), M = k + 1 ∧ g = zI b ∧ BOk n nv A B m md P Q L ∧ (b = -1 ∨ (0 ≤ b ∧ b.toNat < n ∧ md b.toNat = 2)) ∧ (0 ≤ b → KOk P Q) ∧ popc m n ≤ k ∧ (∀ i, i < n → mode i = zI (m3 md i)) ∧ HadOk n m md had ∧ EvZ L tot kd wh ov un ∧ RecOk n nv A B L aO aU bO bU ∧ brk n nv A B P Q k b m md L = R) ∨
       (M = 0 ∧ g = zI (-1) ∧ MSt n nv A B (R.1, R.2.1, P, Q, R.2.2) mode tot kd wh ov un had aO aU bO bU)))
    (fun q => ∃ (mode : Nat → Int32) (uu : Int64) (sl ba ss sb of' : Nat → Int64) (be' : Nat → Int32) (bs' : Int32) (ma' : Nat → Int64) (tot : Int32) (kd wh : Nat → Int32) (ov un : Nat → Int64) (had : Nat → Int32) (aO aU bO bU : Nat → Int64),
      q = (mode, uu, sl, ba, ss, sb, of', be', bs', ma', tot, kd, wh, ov, un, had, aO, aU, bO, bU) ∧ MSt n nv A B (R.1, R.2.1, P, Q, R.2.2) mode tot kd wh ov un had aO aU bO bU)
    ?_ F 6 (zI b, mode, uu, sl, ba, ss, sb, of', be', bs', ma', tot, kd, wh, ov, un, had, aO, aU, bO, bU) (by omega)
    ⟨zI b, mode, uu, sl, ba, ss, sb, of', be', bs', ma', tot, kd, wh, ov, un, had, aO, aU, bO, bU, rfl, Or.inl ⟨5, b, m, md, L, rfl, rfl, hBO, hb, hK, hpc5, hm, hh, hE, hR, hRR⟩⟩
  · obtain ⟨q, e, mode', uu1, sl1, ba1, ss1, sb1, of1, be1, bs1, ma1, tot', kd', wh', ov', un', had', aO', aU', bO', bU', rfl, hM⟩ := loop
    exact ⟨mode', uu1, sl1, ba1, ss1, sb1, of1, be1, bs1, ma1, tot', kd', wh', ov', un', had', aO', aU', bO', bU', e, hM⟩
  · rintro M z ⟨g, mode, uu, sl, ba, ss, sb, of', be', bs', ma', tot, kd, wh, ov, un, had, aO, aU, bO, bU, rfl, hc⟩
    dsimp only [un21]
    unfold fb_M_goNext_293
    rcases hc with ⟨k, b, m, md, L, rfl, rfl, hBO, hb, hK, hpc, hm, hh, hE, hR, hRR⟩ | ⟨rfl, rfl, hM⟩
    · by_cases hneg : b = -1
      · left
        rw [if_pos (by rw [hneg]; rfl)]
        have er : R = (m, md, L) := by
          rw [← hRR]
          cases k with
          | zero => rfl
          | succ k => simp only [brk]; rw [if_pos (by omega)]
        refine ⟨_, rfl, mode, uu, sl, ba, ss, sb, of', be', bs', ma', tot, kd, wh, ov, un, had, aO, aU, bO, bU, rfl, ?_⟩
        rw [er]
        obtain ⟨i, hi, hi2⟩ := hBO.2.2.1
        have hl := hBO.2.1.test hi (by omega)
        refine ⟨hE, hR, fun w => ?_, fun _ => ⟨hm, hh⟩⟩
        dsimp only at w
        rw [w, Nat.zero_testBit] at hl; cases hl
      · right
        obtain ⟨b0, b1, b2⟩ := hb.resolve_left hneg
        have hKK := hK b0
        clear hK
        have eb : b = ((b.toNat : Nat) : Int) := by omega
        generalize b.toNat = a at *
        subst eb
        rw [if_neg (by rw [im1, zI_eq (by omega) (by omega) (by omega) (by omega)]; omega)]
        obtain ⟨g1, g2, g3, g4⟩ := hBO.gone hn hv hA hB hP hKK b1 b2
        obtain ⟨mode', uu1, sl1, ba1, ss1, sb1, of1, be1, bs1, ma1, tot', kd', wh', ov', un', had', aO', aU', bO', bU', eb, c0, c1⟩ := breaks_z (F := F) hn hF hv hA hB h hBO hP hKK b1 b2 hm hh hE hR uu sl ba ss sb of' be' bs' ma'
        rw [eb]
        simp only [bd20, Option.bind_some]
        cases k with
        | zero =>
          have := popc_pos b1 g1
          omega
        | succ k =>
          simp only [brk] at hRR
          rw [if_neg (by omega), show ((a : Nat) : Int).toNat = a from rfl] at hRR
          by_cases hz : clr m a = 0
          · obtain ⟨d1, d2, d3⟩ := c0 hz
            rw [if_pos hz] at hRR
            rw [(isOver_z (F := F) (md := fun _ => 3) hn (by omega) (fun i hi => zI3_m3 (d1 i hi))).2 (fun i _ => by decide), Option.bind_some, if_neg (by decide)]
            refine ⟨0, _, by omega, rfl, _, mode', uu1, sl1, ba1, ss1, sb1, of1, be1, bs1, ma1, tot', kd', wh', ov', un', had', aO', aU', bO', bU', rfl, Or.inr ⟨rfl, rfl, ?_⟩⟩
            rw [← hRR]
            exact ⟨d2, d3, fun _ => d1, fun w => absurd rfl w⟩
          · obtain ⟨d1, d2, ⟨D, fr, fs, dr, ds, d3, d4⟩, d5, d6⟩ := c1 hz
            rw [if_neg hz] at hRR
            obtain ⟨g5, g6, g7⟩ := g4 hz
            have hmd := g5.2.1.bd
            obtain ⟨j, hj, hj2⟩ := g5.2.2.1
            obtain ⟨hP0, hP2, hQ0, hQ2, hg⟩ := hBO.1.1
            rw [(isOver_z (F := F) (md := stw n nv A B (clr m a) P Q) hn (by omega) (fun i hi => ⟨d1 i hi, (hmd i hi).1⟩)).1 ⟨j, hj, by omega⟩, Option.bind_some, if_pos rfl]
            rw [mworst_z (F := F) hn (by omega) hv hA hB h d3 d1 ⟨hP, hP2⟩ ⟨hQ0, hQ2⟩ d4, Option.bind_some]
            have pc := popc_clr hn hBO.1.2.2.1 b1 g1
            exact ⟨k + 1, _, by omega, rfl, _, mode', uu1, sl1, ba1, ss1, sb1, of1, be1, bs1, ma1, tot', kd', wh', ov', un', had', aO', aU', bO', bU', rfl, Or.inl ⟨k, wors n nv A B (stw n nv A B (clr m a) P Q) P Q, clr m a, stw n nv A B (clr m a) P Q, _, rfl, rfl, g5, wors_cs _ _ _, fun _ => hKK, by omega, d1, d2, d5, d6, hRR⟩⟩
    · left
      rw [if_pos (show zI (-1) = -1 from rfl)]
      exact ⟨_, rfl, mode, uu, sl, ba, ss, sb, of', be', bs', ma', tot, kd, wh, ov, un, had, aO, aU, bO, bU, rfl, hM⟩
theorem goNext_z (hn : n ≤ 5) (hF : 300 < F) (hv : NvOk n nv) (hA : 0 ≤ A ∧ A ≤ 2) (hB : 0 ≤ B ∧ B ≤ 2) (h : ∀ i, i < n → ∀ q, q < 7 → now (7 * i + q) = zI (nv i q)) {s : Gs} (hs : ¬ s.1 = 0) (hG : GOk n nv A B s) {mode : Nat → Int32} {tot : Int32} {kd wh : Nat → Int32} {ov un : Nat → Int64} {had fresh met : Nat → Int32} {aO aU bO bU : Nat → Int64} (hM : MSt n nv A B s mode tot kd wh ov un had aO aU bO bU) (hf : ∀ i, i < 5 → fresh i = 0)
    {D : Int} {fr fs dr ds : Nat → Int} {nO nU : Int} {uu : Int64} {sl ba ss sb : Nat → Int64} (of' : Nat → Int64) (be' : Nat → Int32) (bs' : Int32) (ma' : Nat → Int64) (lO lU : Int64) (hS : Lns n nv A B s.2.1 D fr fs dr ds) (hD2 : D ≤ 299269) (hSO : SOk n D fr fs dr ds uu sl ba ss sb) (hnU : 0 < nU) (hnU2 : nU ≤ 25 * 299269) (hnO : -(400 * 299269) ≤ nO) (hnO2 : nO ≤ 400 * 299269) (hNx : NxL n nv s.2.1 D fr fs dr ds nO nU) :
    ∃ (mode' : Nat → Int32) (uu1 : Int64) (sl1 ba1 ss1 sb1 of1 : Nat → Int64) (be1 : Nat → Int32) (bs1 : Int32) (ma1 : Nat → Int64) (tot' : Int32) (kd' wh' : Nat → Int32) (ov' un' : Nat → Int64) (had' met' fresh' : Nat → Int32) (aO' aU' bO' bU' : Nat → Int64),
      f_M_goNext F now (zI (n : Int)) (zI A) (zI B) mode uu sl ba ss sb of' be' bs' ma' lO lU tot kd wh ov un had (zL nO) (zL nU) met fresh aO aU bO bU = some (mode', uu1, sl1, ba1, ss1, sb1, of1, be1, bs1, ma1, zL (gst n nv A B s).2.2.1, zL (gst n nv A B s).2.2.2.1, tot', kd', wh', ov', un', had', met', fresh', aO', aU', bO', bU') ∧
      MSt n nv A B (gst n nv A B s) mode' tot' kd' wh' ov' un' had' aO' aU' bO' bU' ∧ ∀ i, i < 5 → fresh' i = 0 := by
  obtain ⟨m, md, P, Q, L⟩ := s
  obtain ⟨hBO, hu⟩ := hG
  obtain ⟨hE, hR, -, hM2⟩ := hM
  obtain ⟨hm, hh⟩ := hM2 hs
  dsimp only at hs hBO hu hE hR hm hh hS hNx
  obtain ⟨P', Q', n1, n2, n3, n4, n5, -, nK, n7, n8⟩ := hBO.next hn hv hA hB hu
  obtain ⟨⟨j, j1, j2, j3, j4⟩, hle⟩ := hNx.2.2 hnU
  have hX := nxt_of hv hA hB hS hnU hle ⟨j, j1, j2, by rw [j3, j4]⟩
  obtain ⟨eP, eQ⟩ := Nxt.one hS hX n2
  have hmb := hBO.2.1.bd
  obtain ⟨met', e1, hmet⟩ := met_z (F := F) hn (by omega) hv hA hB h (fun i hi => ⟨hm i hi, (hmb i hi).1⟩) hS hD2 n2 n3 hSO met
  have hlen := n7.1.2.2.2.2.1
  simp only [List.length_append, evs_len] at hlen
  obtain ⟨mode1, tot1, kd1, wh1, ov1, un1, had1, fresh1, e2, hE1, h1, hf1⟩ := begin0_z (F := F) (P := P') (Q := Q') hn (by omega) (fun i hi => (hmb i hi).1) hm hmet (fun i hi => hf i (by omega)) (had := had) hE (by omega)
  obtain ⟨mode2, tot2, kd2, wh2, ov2, un2, had2, fresh2, e3, hE2, h2, hf2⟩ := begin1_z (F := F) (P := P') (Q := Q') hn (by omega) (fun i hi => (hmb i hi).1) hmet h1 hE1 (by
    rw [List.length_append, evs_len]
    unfold dueL at hlen
    omega)
  -- the modes past the load
  have hr : ∀ i, i < n → mode2 i = zI (m3 (rai n nv A B md) i) ∧ ((mode2 i = 2 ∧ fresh2 i = 0) ↔ decide (md i = 2) = true) ∧ (m.testBit i = true → had2 i = zI (hd (rai n nv A B md i))) := fun i hi => by
    have c := hmb i hi
    have cs := rai_cs (A := A) (B := B) hBO.2.1 hi
    by_cases p0 : md i = 0 ∧ due n nv A B md i = true
    · obtain ⟨x1, x2, x3⟩ := (h1 i hi).1 p0
      obtain ⟨y1, y2, y3⟩ := (h2 i hi).2 (fun w => by omega)
      have er : rai n nv A B md i = 1 := by unfold rai; rw [if_pos ⟨p0.2, by omega⟩]; omega
      refine ⟨?_, ?_, fun hl => ?_⟩
      · rw [y1, x1, (m3_eq (by omega)).mpr er]
      · rw [y1, x1, decide_eq_true_iff]
        exact ⟨fun w => absurd w.1 (by decide), fun w => by omega⟩
      · rw [y3, x3, hh i hi hl, p0.1, er]; decide
    · obtain ⟨x1, x2, x3⟩ := (h1 i hi).2 p0
      by_cases p1 : md i = 1 ∧ due n nv A B md i = true
      · obtain ⟨y1, y2, y3⟩ := (h2 i hi).1 p1
        have er : rai n nv A B md i = 2 := by unfold rai; rw [if_pos ⟨p1.2, by omega⟩]; omega
        refine ⟨?_, ?_, fun hl => ?_⟩
        · rw [y1, (m3_eq (by omega)).mpr er]
        · rw [y2, decide_eq_true_iff]
          exact ⟨fun w => absurd w.2 (by decide), fun w => by omega⟩
        · rw [y3, hh i hi hl, p1.1, er]; decide
      · obtain ⟨y1, y2, y3⟩ := (h2 i hi).2 p1
        have er : rai n nv A B md i = md i := by
          unfold rai
          rw [if_neg (fun w => by
            have : md i = 0 ∨ md i = 1 := by omega
            rcases this with q | q
            · exact p0 ⟨q, w.1⟩
            · exact p1 ⟨q, w.1⟩)]
        have b3 := m3_bd (md := md) c.1
        refine ⟨?_, ?_, fun hl => ?_⟩
        · rw [y1, x1, m3_of er]
        · rw [y1, x1, y2, x2, decide_eq_true_iff, i2, zI_eq (by omega) (by omega) (by omega) (by omega), m3_eq (by omega)]
          exact ⟨fun w => w.1, fun w => ⟨w, rfl⟩⟩
        · rw [y3, x3, hh i hi hl, er]
  obtain ⟨fresh3, e4, hf3, hf4⟩ := gone_z (F := F) hn (by omega) hmet (md2 := fun i => decide (md i = 2)) (fun i hi _ => (hr i hi).2.1)
  have hb := fst1_cs (fun i => decide (md i = 2) && due n nv A B md i) n
  obtain ⟨mode', uu1, sl1, ba1, ss1, sb1, of1, be1, bs1, ma1, tot', kd', wh', ov', un', had', aO', aU', bO', bU', e5, hMM⟩ := goLoop_z (F := F) (b := fst1 (fun i => decide (md i = 2) && due n nv A B md i) n) hn hF hv hA hB h n5 n7 (by
    rcases hb with q | ⟨q1, q2, q3⟩
    · exact Or.inl q
    · simp at q3
      refine Or.inr ⟨q1, q2, ?_⟩
      unfold rai
      rw [if_neg (by omega)]; exact q3.1) (fun q => by
    obtain ⟨q1, q2, q3⟩ := hb.resolve_left (by omega)
    simp at q3
    exact nK ⟨_, q2, q3.1, q3.2⟩) mode2 uu sl ba ss sb of' be' bs' ma' tot2 kd2 wh2 ov2 un2 had2 aO aU bO bU (fun i hi => (hr i hi).1) (fun i hi hl => (hr i hi).2.2 hl) hE2 ((hR.add fun e he => by rw [(mem_evs he).1]; omega).add fun e he => by rw [(mem_evs he).1]; omega)
  have eg : gst n nv A B (m, md, P, Q, L) = ((brk n nv A B P' Q' 5 (fst1 (fun i => decide (md i = 2) && due n nv A B md i) n) m (rai n nv A B md) (L ++ evs 0 P' Q' (dueL n nv A B md 0) ++ evs 1 P' Q' (dueL n nv A B md 1))).1, (brk n nv A B P' Q' 5 (fst1 (fun i => decide (md i = 2) && due n nv A B md i) n) m (rai n nv A B md) (L ++ evs 0 P' Q' (dueL n nv A B md 0) ++ evs 1 P' Q' (dueL n nv A B md 1))).2.1, P', Q', (brk n nv A B P' Q' 5 (fst1 (fun i => decide (md i = 2) && due n nv A B md i) n) m (rai n nv A B md) (L ++ evs 0 P' Q' (dueL n nv A B md 0) ++ evs 1 P' Q' (dueL n nv A B md 1))).2.2) := by
    unfold gst
    dsimp only
    rw [if_neg hs, n1]
  refine ⟨mode', uu1, sl1, ba1, ss1, sb1, of1, be1, bs1, ma1, tot', kd', wh', ov', un', had', met', fresh3, aO', aU', bO', bU', ?_, ?_, fun i hi => ?_⟩
  · unfold f_M_goNext
    rw [setLoad_z (by omega) (by omega) (by omega) hnU (by omega), ← eP, ← eQ]
    simp only [bd2, Option.bind_some]
    rw [e1, Option.bind_some, e2]
    simp only [bd8, Option.bind_some]
    rw [e3]
    simp only [Option.bind_some, nm]
    rw [show zI (n : Int) - (1 : Int32) = zI ((n : Int) - 1) by rw [i1, zI_sub], e4]
    simp only [Option.bind_some]
    rw [e5, eg]
    rfl
  · rw [eg]; exact hMM
  · by_cases q : i < n
    · exact hf3 i q
    · rw [hf4 i (by omega), hf2 i (by omega), hf1 i (by omega)]; exact hf i hi
end MGROW
