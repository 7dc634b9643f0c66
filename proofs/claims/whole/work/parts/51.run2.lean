section RUN2
variable {n : Nat} {nv : Nat → Nat → Int} {A B : Int} {F : Nat} {g c y s u pit o : Nat → Int32}
theorem fst1_congr {p q : Nat → Bool} : ∀ {n : Nat}, (∀ i, i < n → p i = q i) → fst1 p n = fst1 q n
  | 0, _ => rfl
  | n + 1, h => by simp only [fst1]; rw [fst1_congr (fun i hi => h i (by omega)), h n (by omega)]
theorem run_z (hn : n ≤ 5) (hF : 100 < F) (hv : NvOk n nv) (hA : 0 ≤ A ∧ A ≤ 2) (hB : 0 ≤ B ∧ B ≤ 2) (J : JOk n nv g c y s u pit) (ho : ∀ i, i < n → o i = zI (nv i 5)) (way wb : Nat → Int32) (tot : Int32) (kd wh : Nat → Int32) (ov un : Nat → Int64) (eO eU : Int64) (r : T17) :
    ∃ (way' wb' : Nat → Int32) (tot' : Int32) (kd' wh' : Nat → Int32) (ov' un' : Nat → Int64) (r' : T17),
      f_G_run F way wb (0 : Int32) tot kd wh ov un eO eU r.1 r.2.1 r.2.2.1 r.2.2.2.1 r.2.2.2.2.1 r.2.2.2.2.2.1 r.2.2.2.2.2.2.1 r.2.2.2.2.2.2.2.1 r.2.2.2.2.2.2.2.2.1 r.2.2.2.2.2.2.2.2.2.1 r.2.2.2.2.2.2.2.2.2.2.1 r.2.2.2.2.2.2.2.2.2.2.2.1 r.2.2.2.2.2.2.2.2.2.2.2.2.1 r.2.2.2.2.2.2.2.2.2.2.2.2.2.1 r.2.2.2.2.2.2.2.2.2.2.2.2.2.2.1 r.2.2.2.2.2.2.2.2.2.2.2.2.2.2.2.1 r.2.2.2.2.2.2.2.2.2.2.2.2.2.2.2.2 g c y s u o pit (zI (n : Int)) (zI A) (zI B) = some (way', wb', (1 : Int32), tot', kd', wh', ov', un', zL (gs n nv A B 15).2.2.1, zL (gs n nv A B 15).2.2.2.1, r') ∧
      EvZ (gs n nv A B 15).2.2.2.2 tot' kd' wh' ov' un' := by
  have es := sound_z (F := F) hn (by omega) hv ho
  have h32 : snd0 n nv < 32 := msk_32 _ hn
  obtain ⟨k, way1, e1, hk, hw1⟩ := start_z (F := F) hn (by omega) hv J.2.1 ho h32 way
  have hk0 : k = lst0 n nv (snd0 n nv) := hk.unique (lst0_ok hn hv h32)
  subst hk0
  obtain ⟨tot1, kd1, wh1, ov1, un1, e2, hE1⟩ := begin_z (F := F) hn (by omega) (fun i hi => ⟨hw1 i hi, by
    unfold mdS
    by_cases b : (snd0 n nv).testBit i = true
    · rw [if_pos b]
      by_cases q : nv i 1 = lst0 n nv (snd0 n nv)
      · rw [if_pos q]; omega
      · rw [if_neg q]; omega
    · rw [if_neg b]
      by_cases q : nv i 5 = 0
      · rw [if_pos q]; omega
      · rw [if_neg q]; omega⟩) kd wh ov un
  have loop := iter_up (body := un28 (fb_G_run_78 F g c y s u o pit (zI (n : Int)) (zI A) (zI B)))
    (fun k z => ∃ (way wb : Nat → Int32) (tot : Int32) (kd wh : Nat → Int32) (ov un : Nat → Int64) (r : T17),
      z = (zI ((gs n nv A B k).1 : Int), zI (k : Int), way, wb, tot, kd, wh, ov, un, zL (gs n nv A B k).2.2.1, zL (gs n nv A B k).2.2.2.1, r) ∧ (¬ (gs n nv A B k).1 = 0 → ∀ i, i < n → way i = zI ((gs n nv A B k).2.1 i)) ∧ EvZ (gs n nv A B k).2.2.2.2 tot kd wh ov un)
    (fun q => ∃ (x : Nat) (way wb : Nat → Int32) (tot : Int32) (kd wh : Nat → Int32) (ov un : Nat → Int64) (r : T17), q = (x, way, wb, tot, kd, wh, ov, un, zL (gs n nv A B 15).2.2.1, zL (gs n nv A B 15).2.2.2.1, r) ∧ EvZ (gs n nv A B 15).2.2.2.2 tot kd wh ov un)
    15 ?_ ?_ 15 0 F (zI (snd0 n nv : Int), (0 : Int32), way1, wb, tot1, kd1, wh1, ov1, un1, (0 : Int64), (1 : Int64), r) (by omega) (by omega) ⟨way1, wb, tot1, kd1, wh1, ov1, un1, r, rfl, fun _ => hw1, hE1⟩
  · obtain ⟨q, e, x, way', wb', tot', kd', wh', ov', un', r', rfl, hE'⟩ := loop
    refine ⟨way', wb', tot', kd', wh', ov', un', r', ?_, hE'⟩
    unfold f_G_run
    rw [if_pos rfl, es, Option.bind_some]
    rw [show zI ((msk (fun i => decide (nv i 5 = 0)) n : Nat) : Int) = zI (snd0 n nv : Int) from rfl, e1, Option.bind_some, e2]
    simp only [bd5, Option.bind_some]
    rw [e]
    simp only [bd27, Option.bind_some]
    by_cases hx : x = 0
    · rw [if_pos hx]
    · rw [if_neg hx]
  · rintro k z hk15 ⟨way, wb, tot, kd, wh, ov, un, ⟨dO, dU, sO, sU, st, re, fr, fs, dr, ds, unn, bf, bl, ba, sc, fR, fS⟩, rfl, hw, hE⟩
    obtain ⟨ok1, ok2⟩ := gs_ok hn hv hA hB k
    dsimp only [un28]
    unfold fb_G_run_78
    rw [if_neg (by rw [i15, zI_le (by omega) (by omega) (by omega) (by omega)]; omega)]
    have hfin := fun w => gs_fin (k := k) hn hv hA hB w
    have hsucc : gs n nv A B (k + 1) = gst n nv A B (gs n nv A B k) := rfl
    rw [hsucc]
    generalize gs n nv A B k = S at *
    obtain ⟨m, md, P, Q, L⟩ := S
    dsimp only at ok1 ok2 hw hE hfin ⊢
    by_cases hz : m = 0
    · right
      rw [if_pos ((zI_ne0 ok1.2.2.1).mpr hz)]
      rw [← hfin hz]
      exact ⟨_, rfl, 1, way, wb, tot, kd, wh, ov, un, _, rfl, hE⟩
    · left
      rw [if_neg (fun w => hz ((zI_ne0 ok1.2.2.1).mp w))]
      obtain ⟨⟨h, hu⟩, -⟩ := ok2 hz
      dsimp only at h hu
      have hw := hw hz
      obtain ⟨P', Q', n1, n2, n3, n4, n5, -, nK, n7, n8⟩ := h.next hn hv hA hB hu
      have hmb := h.2.1.bd
      obtain ⟨D, fr1, fs1, dr1, ds1, sO1, sU1, dO', dU', sO', st', re', fr', fs', dr', ds', bf', bl', ba', sc', fR', fS', e3, hS, hD2, h1, h2, h3, h4, hsO, hd, hsU, hsO2⟩ :=
        seek_z (F := F) hn (by omega) hv hA hB J (fun i hi => ⟨hw i hi, hmb i hi⟩) true h.2.2.1 dO dU sO sU st re fr fs dr ds unn bf bl ba sc fR fS
      have hb8 := fun i hi => by
        have := sol_bounds hn hv hA hB hS i hi
        exact (⟨this.1, this.2.1, this.2.2.1, this.2.2.2.1, this.2.2.2.2.1, this.2.2.2.2.2.1, this.2.2.2.2.2.2.1, this.2.2.2.2.2.2.2.1⟩ : 0 ≤ fr1 i ∧ fr1 i ≤ D ∧ 0 < dr1 i ∧ dr1 i ≤ 25 * D ∧ -(249 * D) ≤ fs1 i ∧ fs1 i ≤ 249 * D ∧ -(240 * D) ≤ ds1 i ∧ ds1 i ≤ 9 * D)
      have hpos : 0 < sU1 := by
        obtain ⟨-, i, i1, i2, i3⟩ := n2.2.2 D fr1 fs1 dr1 ds1 hS
        have a := hd.2.1
        refine Classical.byContradiction fun q => ?_
        have := hd.2.2.1 (by omega) i i1
        omega
      obtain ⟨⟨j, j1, j2, j3, j4⟩, hle⟩ := hd.2.2.2 hpos
      have hX := nxt_of hv hA hB hS hpos hle ⟨j, j1, j2, by rw [j3, j4]⟩
      obtain ⟨eP, eQ⟩ := Nxt.one hS hX n2
      obtain ⟨-, -, -, -, -, -, -, -, hcr, -⟩ := red_ok (o := sO1) hpos
      rw [← eP, ← eQ] at hcr
      have hs2 := hsO2 hpos
      have hdu : ∀ i, i < n → IsDue nv md true D fr1 fs1 dr1 ds1 sO1 sU1 i = due n nv A B md i := fun i hi => due_eq hv hA hB hS n2 hpos hcr.symm hi
      have hsel : ∀ w : Int, sel (fun i => decide (md i = w) && IsDue nv md true D fr1 fs1 dr1 ds1 sO1 sU1 i) n = dueL n nv A B md w := fun w => sel_congr fun i hi => by rw [hdu i hi]
      have hlen := n7.1.2.2.2.2.1
      simp only [List.length_append, evs_len] at hlen
      rw [show (1 : Int32) = zI (if true = true then 1 else 0) from rfl, e3]
      simp only [bd18, Option.bind_some]
      rw [if_pos hpos, if_neg (by decide), hsO hpos, reach_z (F := F) hF (by omega) (by omega) hpos (by omega), ← eP, ← eQ]
      simp only [bd2, Option.bind_some]
      obtain ⟨tot2, kd2, wh2, ov2, un2, e4, hE2⟩ := noteDue_z (F := F) (w := 0) (a := 0) (P := P') (Q := Q') hn (by omega) hv hb8 hS.1 hD2 hd hpos hsU hs2 (fun i hi => ⟨hw i hi, hmb i hi⟩) (by omega) hE (by rw [hsel]; omega)
      rw [hsel] at hE2
      obtain ⟨tot3, kd3, wh3, ov3, un3, e5, hE3⟩ := noteDue_z (F := F) (w := 1) (a := 1) (P := P') (Q := Q') hn (by omega) hv hb8 hS.1 hD2 hd hpos hsU hs2 (fun i hi => ⟨hw i hi, hmb i hi⟩) (by omega) hE2 (by rw [hsel, List.length_append, evs_len]; omega)
      rw [hsel] at hE3
      rw [show (0 : Int32) = zI 0 from rfl, e4]
      simp only [bd5, Option.bind_some]
      simp only [if_true]
      rw [e5]
      simp only [Option.bind_some]
      have e6 := firstDue_z (F := F) (w := 2) hn (by omega) hv hb8 hS.1 hD2 hd hpos hsU hs2 (fun i hi => ⟨hw i hi, hmb i hi⟩) (by omega)
      rw [fst1_congr (q := fun i => decide (md i = 2) && due n nv A B md i) (fun i hi => by rw [hdu i hi])] at e6
      obtain ⟨way2, e7, hw2⟩ := raise_z (F := F) hn (by omega) hv hb8 hS.1 hD2 hd hpos hsU hs2 (fun i hi => ⟨hw i hi, hmb i hi⟩)
      rw [show (2 : Int32) = zI 2 from rfl, e6, Option.bind_some, e7, Option.bind_some]
      have hb := fst1_cs (fun i => decide (md i = 2) && due n nv A B md i) n
      obtain ⟨way', wb', tot', kd', wh', ov', un', r', e8, hE8, hw8⟩ := breakOn_z (F := F) (b := fst1 (fun i => decide (md i = 2) && due n nv A B md i) n) hn (by omega) hv hA hB J ho n7 (by
        rcases hb with q | ⟨q1, q2, q3⟩
        · exact Or.inl q
        · simp at q3
          refine Or.inr ⟨n5, nK ⟨_, q2, q3.1, q3.2⟩, q1, q2, ?_⟩
          unfold rai
          rw [if_neg (by omega)]; exact q3.1) (way := way2) (wb := wb) (fun i hi => by rw [hw2 i hi, rai_eq hv hA hB hS n2 hpos hcr.symm hi]) hE3 (dO', dU', zL sO1, zL sU1, st', re', fr', fs', dr', ds', zL D, bf', bl', ba', sc', fR', fS')
      dsimp only at e8
      rw [e8]
      simp only [bd25, Option.bind_some, nm]
      have eg : gst n nv A B (m, md, P, Q, L) = ((brk n nv A B P' Q' 5 (fst1 (fun i => decide (md i = 2) && due n nv A B md i) n) m (rai n nv A B md) (L ++ evs 0 P' Q' (dueL n nv A B md 0) ++ evs 1 P' Q' (dueL n nv A B md 1))).1, (brk n nv A B P' Q' 5 (fst1 (fun i => decide (md i = 2) && due n nv A B md i) n) m (rai n nv A B md) (L ++ evs 0 P' Q' (dueL n nv A B md 0) ++ evs 1 P' Q' (dueL n nv A B md 1))).2.1, P', Q', (brk n nv A B P' Q' 5 (fst1 (fun i => decide (md i = 2) && due n nv A B md i) n) m (rai n nv A B md) (L ++ evs 0 P' Q' (dueL n nv A B md 0) ++ evs 1 P' Q' (dueL n nv A B md 1))).2.2) := by
        unfold gst
        dsimp only
        rw [if_neg hz, n1]
      rw [eg]
      refine ⟨_, rfl, way', wb', tot', kd', wh', ov', un', r', ?_, hw8, hE8⟩
      dsimp only
      rw [zI_add]; rfl
  · rintro z ⟨way, wb, tot, kd, wh, ov, un, ⟨dO, dU, sO, sU, st, re, fr, fs, dr, ds, unn, bf, bl, ba, sc, fR, fS⟩, rfl, hw, hE⟩
    dsimp only [un28]
    unfold fb_G_run_78
    rw [if_pos (by rw [i15, zI_le (by omega) (by omega) (by omega) (by omega)]; omega)]
    exact ⟨_, rfl, 1, way, wb, tot, kd, wh, ov, un, _, rfl, hE⟩
end RUN2
