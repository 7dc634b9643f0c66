section MGROW2
variable {n : Nat} {nv : Nat → Nat → Int} {A B : Int} {now : Nat → Int32} {F : Nat}
theorem mleast_z (hn : n ≤ 5) (hF : 10 < F) (hv : NvOk n nv) (h : ∀ i, i < n → ∀ q, q < 7 → now (7 * i + q) = zI (nv i q)) {mode : Nat → Int32} {m : Nat} (hm : Lvm n m mode) :
    ∃ k : Int, f_M_leastClear F now (zI (n : Int)) mode = some (zI k) ∧ 0 ≤ k ∧ k ≤ 10 ∧ ∀ k', Lst n nv m k' → (∃ i, i < n ∧ m.testBit i = true) → k = k' := by
  have loop := iter_for (body := un2 (fb_M_leastClear_5 now (zI (n : Int)) mode)) (F := F) (s := ((10 : Int32), (0 : Int32)))
    (fun i z => ∃ k : Int, z = (zI k, zI (i : Int)) ∧ 0 ≤ k ∧ k ≤ 10 ∧ (∀ j, j < i → m.testBit j = true → k ≤ nv j 1) ∧ (k = 10 ∨ ∃ j, j < i ∧ m.testBit j = true ∧ k = nv j 1))
    (fun q => ∃ k : Int, q = zI k ∧ 0 ≤ k ∧ k ≤ 10 ∧ (∀ j, j < n → m.testBit j = true → k ≤ nv j 1) ∧ (k = 10 ∨ ∃ j, j < n ∧ m.testBit j = true ∧ k = nv j 1)) n (by omega) ⟨10, rfl, by omega, by omega, fun j hj => absurd hj (by omega), Or.inl rfl⟩ ?_ ?_
  · obtain ⟨q, e, k, rfl, k1, k2, k3, k4⟩ := loop
    refine ⟨k, ?_, k1, k2, fun k' hk' ⟨i, hi, hl⟩ => ?_⟩
    · unfold f_M_leastClear
      rw [e, Option.bind_some]
    · rcases hk' with ⟨-, w⟩ | ⟨⟨j, j1, j2, j3⟩, w⟩
      · rw [w i hi] at hl; cases hl
      · have a := k3 j j1 j2
        have v := hv j j1
        rcases k4 with k4 | ⟨l, l1, l2, l3⟩
        · omega
        · have := w l l1 l2
          omega
  · rintro i z hi ⟨k, rfl, k1, k2, k3, k4⟩
    have v := hv i hi
    dsimp only [un2]
    unfold fb_M_leastClear_5
    rw [if_neg (by rw [zI_le (by omega) (by omega) (by omega) (by omega)]; omega), hm.live hn hi, Option.bind_some]
    by_cases q : m.testBit i = true
    · rw [if_pos q, if_neg (by decide), show (1 : Int32) = zI ((1 : Nat) : Int) from rfl, of_z hn h hi (by omega), Option.bind_some]
      by_cases c : nv i 1 < k
      · have e : (if zI (nv i 1) < zI k then zI (nv i 1) else zI k) = zI (nv i 1) := if_pos (by rw [zI_lt (by omega) (by omega) (by omega) (by omega)]; exact c)
        simp only [nm, e, fj_M_leastClear_32, zI_1]
        refine ⟨_, rfl, nv i 1, rfl, by omega, by omega, fun j hj hl => ?_, Or.inr ⟨i, by omega, q, rfl⟩⟩
        by_cases w : j = i
        · subst w; omega
        · have := k3 j (by omega) hl; omega
      · have e : (if zI (nv i 1) < zI k then zI (nv i 1) else zI k) = zI k := if_neg (by rw [zI_lt (by omega) (by omega) (by omega) (by omega)]; exact c)
        simp only [nm, e, fj_M_leastClear_32, zI_1]
        refine ⟨_, rfl, k, rfl, k1, k2, fun j hj hl => ?_, ?_⟩
        · by_cases w : j = i
          · subst w; omega
          · exact k3 j (by omega) hl
        · rcases k4 with k4 | ⟨l, l1, l2⟩
          · exact Or.inl k4
          · exact Or.inr ⟨l, by omega, l2⟩
    · rw [if_neg q, if_pos (show zI 0 = 0 from rfl)]
      simp only [fj_M_leastClear_32, nm, zI_1]
      refine ⟨_, rfl, k, rfl, k1, k2, fun j hj hl => ?_, ?_⟩
      · by_cases w : j = i
        · subst w; exact absurd hl q
        · exact k3 j (by omega) hl
      · rcases k4 with k4 | ⟨l, l1, l2⟩
        · exact Or.inl k4
        · exact Or.inr ⟨l, by omega, l2⟩
  · rintro z ⟨k, rfl, k1, k2, k3, k4⟩
    refine ⟨_, ?_, k, rfl, k1, k2, k3, k4⟩
    dsimp only [un2]
    unfold fb_M_leastClear_5
    rw [if_pos (by rw [zI_le (by omega) (by omega) (by omega) (by omega)]; omega)]
theorem mstart_z (hn : n ≤ 5) (hF : 100 < F) (hv : NvOk n nv) (hA : 0 ≤ A ∧ A ≤ 2) (hB : 0 ≤ B ∧ B ≤ 2) (h : ∀ i, i < n → ∀ q, q < 7 → now (7 * i + q) = zI (nv i q)) (mode0 : Nat → Int32) (lO lU : Int64) (tot : Int32) (kd wh : Nat → Int32) (ov un : Nat → Int64) (had0 : Nat → Int32) (aO aU bO bU : Nat → Int64) :
    ∃ (mode : Nat → Int32) (tot' : Int32) (kd' wh' : Nat → Int32) (ov' un' : Nat → Int64) (had : Nat → Int32), f_M_start F now (zI (n : Int)) mode0 lO lU tot kd wh ov un had0 = some (mode, zL (gs n nv A B 0).2.2.1, zL (gs n nv A B 0).2.2.2.1, tot', kd', wh', ov', un', had) ∧ MSt n nv A B (gs n nv A B 0) mode tot' kd' wh' ov' un' had aO aU bO bU := by
  have h32 : snd0 n nv < 32 := msk_32 _ hn
  have hl0 := lst0_ok hn hv h32
  have htest := fun i => snd0_test (n := n) (nv := nv) i
  have hgok := (gs0_ok hn hv hA hB).1
  -- OUT or not
  have loop := iter_for (body := un3 (fb_M_start_13 now (zI (n : Int)))) (F := F) (s := ((0 : Int32), mode0, had0)) (fun i z => ∃ f g, z = (zI (i : Int), f, g) ∧ (∀ j, j < i → f j = zI (if nv j 5 = 1 then 3 else 0)) ∧ ∀ j, j < i → g j = 0) (fun q => ∃ f g, q = (f, g) ∧ (∀ j, j < n → f j = zI (if nv j 5 = 1 then 3 else 0)) ∧ ∀ j, j < n → g j = 0) n (by omega) ⟨mode0, had0, rfl, fun j hj => absurd hj (by omega), fun j hj => absurd hj (by omega)⟩ ?_ ?_
  · obtain ⟨q, e1, mode1, had1, rfl, hm1, hh1⟩ := loop
    have hlv : Lvm n (snd0 n nv) mode1 := fun i hi => by
      have v := hv i hi
      refine ⟨_, hm1 i hi, ?_, ?_, ?_⟩
      · by_cases q : nv i 5 = 1
        · rw [if_pos q]; omega
        · rw [if_neg q]; omega
      · by_cases q : nv i 5 = 1
        · rw [if_pos q]; omega
        · rw [if_neg q]; omega
      · by_cases q : nv i 5 = 1
        · rw [if_pos q]
          have : ¬ (snd0 n nv).testBit i = true := fun w => by have := ((htest i).mp w).2; omega
          simp; simpa using this
        · rw [if_neg q]
          have : (snd0 n nv).testBit i = true := (htest i).mpr ⟨hi, by omega⟩
          rw [this]; simp
    obtain ⟨k, e2, k1, k2, k3⟩ := mleast_z (F := F) hn (by omega) hv h hlv
    unfold gs at hgok ⊢
    unfold gs0 at hgok ⊢
    dsimp only at hgok ⊢
    generalize lst0 n nv (snd0 n nv) = kk at *
    have hlen5 := sel5 (fun i => decide (mdS nv (snd0 n nv) kk i = 1)) n
    have hmdS : ∀ i, i < n → ((snd0 n nv).testBit i = true → mdS nv (snd0 n nv) kk i = if nv i 1 = k then 1 else 0) ∧ (¬ (snd0 n nv).testBit i = true → mdS nv (snd0 n nv) kk i = 4) := fun i hi => by
      have v := hv i hi
      refine ⟨fun w => ?_, fun w => ?_⟩
      · unfold mdS
        rw [if_pos w, k3 kk hl0 ⟨i, hi, w⟩]
      · unfold mdS
        rw [if_neg w, if_neg (fun x => w ((htest i).mpr ⟨hi, x⟩))]
    have loop2 := iter_for (body := un8 (fb_M_start_62 (zI k) now (zI (n : Int)) (zL 0) (zL 1))) (F := F) (s := ((0 : Int32), mode1, (0 : Int32), kd, wh, ov, un, had1))
      (fun i z => ∃ mode tot' kd' wh' ov' un' had, z = (zI (i : Int), mode, tot', kd', wh', ov', un', had) ∧ EvZ (evs 0 0 1 (sel (fun i => decide (mdS nv (snd0 n nv) kk i = 1)) i)) tot' kd' wh' ov' un' ∧ (∀ j, j < i → mode j = zI (m3 (mdS nv (snd0 n nv) kk) j) ∧ ((snd0 n nv).testBit j = true → had j = zI (hd (mdS nv (snd0 n nv) kk j)))) ∧ ∀ j, i ≤ j → mode j = mode1 j ∧ had j = had1 j)
      (fun q => ∃ mode tot' kd' wh' ov' un' had, q = (mode, tot', kd', wh', ov', un', had) ∧ EvZ (evs 0 0 1 (sel (fun i => decide (mdS nv (snd0 n nv) kk i = 1)) n)) tot' kd' wh' ov' un' ∧ ∀ j, j < n → mode j = zI (m3 (mdS nv (snd0 n nv) kk) j) ∧ ((snd0 n nv).testBit j = true → had j = zI (hd (mdS nv (snd0 n nv) kk j)))) n (by omega)
      ⟨mode1, 0, kd, wh, ov, un, had1, rfl, ⟨rfl, fun k e hk => by simp [sel, evs] at hk⟩, fun j hj => absurd hj (by omega), fun _ _ => ⟨rfl, rfl⟩⟩ ?_ ?_
    · obtain ⟨q, e3, mode, tot', kd', wh', ov', un', had, rfl, hE, hmm⟩ := loop2
      refine ⟨mode, tot', kd', wh', ov', un', had, ?_, hE, ?_, fun w i hi => ?_, fun _ => ⟨fun i hi => (hmm i hi).1, fun i hi => (hmm i hi).2⟩⟩
      · unfold f_M_start
        rw [l0z, l1z, setLoad_z (by omega) (by omega) (by omega) (by omega) (by omega)]
        simp only [bd2, Option.bind_some]
        rw [e1]
        simp only [Option.bind_some]
        rw [e2, Option.bind_some]
        have er : red 0 1 = (0, 1) := rfl
        rw [er]
        dsimp only
        rw [e3]
        rfl
      · intro L1 e L2 hE2 h2e
        have : e ∈ evs 0 0 1 (sel (fun i => decide (mdS nv (snd0 n nv) kk i = 1)) n) := by
          dsimp only at hE2
          rw [hE2]; simp
        have := (mem_evs this).1
        omega
      · dsimp only at w
        have hno : ¬ (snd0 n nv).testBit i = true := by rw [w, Nat.zero_testBit]; decide
        rw [(hmm i hi).1]
        unfold m3
        rw [(hmdS i hi).2 hno]; rfl
    · rintro i z hi ⟨mode, tot', kd', wh', ov', un', had, rfl, hE, hm2, hm3⟩
      have v := hv i hi
      obtain ⟨me1, me2⟩ := hm3 i (Nat.le_refl _)
      obtain ⟨x, x1, x2, x3, x4⟩ := hlv i hi
      have hlive : f_M_isLive (zI (i : Int)) mode = some (zI (if (snd0 n nv).testBit i = true then 1 else 0)) := by
        have := hlv.live hn hi
        unfold f_M_isLive at this ⊢
        rw [ldA_z (by omega) (by omega)] at this ⊢
        rw [me1]; exact this
      dsimp only [un8]
      unfold fb_M_start_62
      rw [if_neg (by rw [zI_le (by omega) (by omega) (by omega) (by omega)]; omega), hlive, Option.bind_some]
      have stay : ¬ mdS nv (snd0 n nv) kk i = 1 → mode i = zI (m3 (mdS nv (snd0 n nv) kk) i) → ((snd0 n nv).testBit i = true → had i = zI (hd (mdS nv (snd0 n nv) kk i))) → ∃ s', fj_M_start_104 (zI (i : Int)) mode tot' kd' wh' ov' un' had = some (.inl s') ∧ ∃ mode tot' kd' wh' ov' un' had, s' = (zI ((i + 1 : Nat) : Int), mode, tot', kd', wh', ov', un', had) ∧ EvZ (evs 0 0 1 (sel (fun i => decide (mdS nv (snd0 n nv) kk i = 1)) (i + 1))) tot' kd' wh' ov' un' ∧ (∀ j, j < i + 1 → mode j = zI (m3 (mdS nv (snd0 n nv) kk) j) ∧ ((snd0 n nv).testBit j = true → had j = zI (hd (mdS nv (snd0 n nv) kk j)))) ∧ ∀ j, i + 1 ≤ j → mode j = mode1 j ∧ had j = had1 j := fun e e2 e3 => by
        have es : sel (fun i => decide (mdS nv (snd0 n nv) kk i = 1)) (i + 1) = sel (fun i => decide (mdS nv (snd0 n nv) kk i = 1)) i := if_neg (by simpa using e)
        refine ⟨_, by simp only [fj_M_start_104, nm, zI_1], mode, tot', kd', wh', ov', un', had, rfl, by rw [es]; exact hE, fun j hj => ?_, fun j hj => hm3 j (by omega)⟩
        by_cases q : j = i
        · subst q; exact ⟨e2, e3⟩
        · exact hm2 j (by omega)
      by_cases q : (snd0 n nv).testBit i = true
      · have q5 := ((htest i).mp q).2
        have emd := (hmdS i hi).1 q
        rw [if_pos q, if_neg (by decide), show (1 : Int32) = zI ((1 : Nat) : Int) from rfl, of_z hn h hi (by omega), Option.bind_some]
        by_cases c : nv i 1 = k
        · rw [if_pos c] at emd
          have es : sel (fun i => decide (mdS nv (snd0 n nv) kk i = 1)) (i + 1) = sel (fun i => decide (mdS nv (snd0 n nv) kk i = 1)) i ++ [i] := if_pos (by simp [emd])
          have hl5 := sel5 (fun i => decide (mdS nv (snd0 n nv) kk i = 1)) i
          obtain ⟨t', k', b', o', u', e3, e4⟩ := mnote_z hn hE (by rw [evs_len]; omega) 0 hi 0 1 had
          rw [if_pos (by rw [c]), stI_z (by omega) (by omega), Option.bind_some, show (0 : Int32) = zI 0 from rfl, e3]
          refine ⟨_, by simp only [bd6, Option.bind_some, fj_M_start_104, nm, zI_1], upd mode i (zI ((1 : Nat) : Int)), t', k', b', o', u', upd had i (had i ||| ((1 : Int32) <<< (zI 0 &&& 31))), rfl, ?_, fun j hj => ?_, fun j hj => ?_⟩
          · rw [es, evs_snoc]; exact e4
          · rw [upd_at, upd_at]
            by_cases w : j = i
            · subst w
              rw [if_pos rfl, if_pos rfl, (m3_eq (by omega)).mpr emd, me2, hh1 j hi, emd]
              exact ⟨rfl, fun _ => by decide⟩
            · rw [if_neg w, if_neg w]; exact hm2 j (by omega)
          · rw [upd_at, upd_at, if_neg (by omega), if_neg (by omega)]; exact hm3 j (by omega)
        · rw [if_neg c] at emd
          rw [if_neg (by rw [zI_eq (by omega) (by omega) (by omega) (by omega)]; exact c)]
          refine stay (by omega) ?_ (fun _ => ?_)
          · rw [me1, hm1 i hi, if_neg (by omega), (m3_eq (by omega)).mpr emd]
          · rw [me2, hh1 i hi, emd]; rfl
      · have emd := (hmdS i hi).2 q
        rw [if_neg q, if_pos (show zI 0 = 0 from rfl)]
        refine stay (by omega) ?_ (fun w => absurd w q)
        have q5 : nv i 5 = 1 := by
          have : ¬ nv i 5 = 0 := fun x => q ((htest i).mpr ⟨hi, x⟩)
          omega
        rw [me1, hm1 i hi, if_pos q5]
        unfold m3
        rw [emd]; rfl
    · rintro z ⟨mode, tot', kd', wh', ov', un', had, rfl, hE, hm2, hm3⟩
      refine ⟨_, ?_, mode, tot', kd', wh', ov', un', had, rfl, hE, hm2⟩
      dsimp only [un8]
      unfold fb_M_start_62
      rw [if_pos (by rw [zI_le (by omega) (by omega) (by omega) (by omega)]; omega)]
  · rintro i z hi ⟨f, g, rfl, h1, h2⟩
    have v := hv i hi
    dsimp only [un3]
    unfold fb_M_start_13
    rw [if_neg (by rw [zI_le (by omega) (by omega) (by omega) (by omega)]; omega), show (5 : Int32) = zI ((5 : Nat) : Int) from rfl, of_z hn h hi (by omega), Option.bind_some]
    have fin : ∀ x : Int, x = (if nv i 5 = 1 then 3 else 0) → ∃ s', fj_M_start_41 (zI (i : Int)) (zI (i : Int)) (zI x) f g = some (.inl s') ∧ ∃ f' g', s' = (zI ((i + 1 : Nat) : Int), f', g') ∧ (∀ j, j < i + 1 → f' j = zI (if nv j 5 = 1 then 3 else 0)) ∧ ∀ j, j < i + 1 → g' j = 0 := by
      rintro x rfl
      unfold fj_M_start_41
      rw [stI_z (by omega) (by omega), Option.bind_some, stI_z (by omega) (by omega), Option.bind_some]
      simp only [nm, zI_1]
      refine ⟨_, rfl, _, _, rfl, fun j hj => ?_, fun j hj => ?_⟩
      · rw [upd_at]
        by_cases w : j = i
        · subst w; rw [if_pos rfl]
        · rw [if_neg w]; exact h1 j (by omega)
      · rw [upd_at]
        by_cases w : j = i
        · rw [if_pos w]
        · rw [if_neg w]; exact h2 j (by omega)
    by_cases q : nv i 5 = 1
    · rw [if_pos (by rw [q]; rfl)]
      exact fin 3 (by rw [if_pos q])
    · rw [if_neg (by rw [i1, zI_eq (by omega) (by omega) (by omega) (by omega)]; exact q)]
      exact fin 0 (by rw [if_neg q])
  · rintro z ⟨f, g, rfl, h1, h2⟩
    refine ⟨_, ?_, f, g, rfl, h1, h2⟩
    dsimp only [un3]
    unfold fb_M_start_13
    rw [if_pos (by rw [zI_le (by omega) (by omega) (by omega) (by omega)]; omega)]
end MGROW2
