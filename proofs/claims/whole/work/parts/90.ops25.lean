/-! AS LOAD FALLS: the class comes to a load -/
section OPS25
variable {n : Nat} {nv : Nat → Nat → Int} {A B : Int} {F : Nat} {g c y s u pit o now : Nat → Int32} {m : Nat} {σ : Nat → Int}
theorem sel_lt {p p' : Nat → Bool} : ∀ n : Nat, (∀ i, i < n → p' i = true → p i = true) → (sel p' n).length ≤ (sel p n).length ∧ ∀ b, b < n → p b = true → p' b = false → (sel p' n).length < (sel p n).length := by
  intro n
  induction n with
  | zero => intro _; exact ⟨Nat.le_refl _, fun b hb => absurd hb (Nat.not_lt_zero b)⟩
  | succ n ih =>
    intro h
    obtain ⟨i1, i2⟩ := ih (fun i hi => h i (by omega))
    rw [sel_s, sel_s]
    have hc : c1 (p' n) ≤ c1 (p n) := by
      unfold c1
      by_cases q : p' n = true
      · rw [if_pos q, if_pos (h n (by omega) q)]; exact Nat.le_refl _
      · rw [if_neg q]; exact Nat.zero_le _
    refine ⟨by omega, fun b hb q q' => ?_⟩
    by_cases e : b = n
    · subst e
      unfold c1
      rw [q, q', if_neg (by decide), if_pos rfl]
      omega
    · have := i2 b (by omega) q q'
      omega
theorem pull_z (hn : n ≤ 5) (hF : 10 < F) {q U : Int} (hq : 0 ≤ q ∧ q ≤ 300) {f : Nat → Int} {fr fs : Nat → Int64} (hf : ∀ i, i < n → f_L_forceAt (zI (i : Int)) (zL (q * U)) (1 : Int64) fr fs = some (zL (f i))) (hb : ∀ i, i < n → -9223372036854775808 ≤ f i ∧ f i ≤ 9223372036854775807) :
    iter (un2 (fb_F_comeTo_23 (zI q) (zL U) fr fs (zI (n : Int)))) F ((0 : Int32), (0 : Int32)) = some (zI (msk (fun i => decide (f i < 0)) n : Int)) := by
  have loop := iter_for (body := un2 (fb_F_comeTo_23 (zI q) (zL U) fr fs (zI (n : Int)))) (F := F) (s := ((0 : Int32), (0 : Int32))) (fun k z => z = (zI (msk (fun i => decide (f i < 0)) k : Int), zI (k : Int))) (fun r => r = zI (msk (fun i => decide (f i < 0)) n : Int)) n (by omega) rfl ?_ ?_
  · obtain ⟨r, e, rfl⟩ := loop
    exact e
  · rintro k z hk rfl
    have h1 := hf k hk
    have h2 := hb k hk
    have hm : msk (fun i => decide (f i < 0)) k < 32 := msk_32 _ (by omega)
    dsimp only [un2]
    unfold fb_F_comeTo_23
    rw [if_neg (by rw [zI_le (by omega) (by omega) (by omega) (by omega)]; omega), zI_l (a := q) (by omega) (by omega), zL_mul, h1, Option.bind_some]
    by_cases w : f k < 0
    · rw [if_neg (show ¬ (0 : Int64) ≤ zL (f k) from fun z => absurd ((zL_le (a := 0) (b := f k) (by omega) (by omega) (by omega) (by omega)).mp z) (by omega))]
      simp only [fj_F_comeTo_69, nm, zI_1]
      rw [bit_or _ hm k (by omega)]
      have e : msk (fun i => decide (f i < 0)) (k + 1) = msk (fun i => decide (f i < 0)) k ||| 2 ^ k := if_pos (by simp [w])
      exact ⟨_, rfl, by rw [e]⟩
    · rw [if_pos (show (0 : Int64) ≤ zL (f k) from (zL_le (a := 0) (b := f k) (by omega) (by omega) (by omega) (by omega)).mpr (by omega))]
      simp only [fj_F_comeTo_69, nm, zI_1]
      have e : msk (fun i => decide (f i < 0)) (k + 1) = msk (fun i => decide (f i < 0)) k := if_neg (by simp [w])
      exact ⟨_, rfl, by rw [e]⟩
  · rintro z rfl
    dsimp only [un2]
    unfold fb_F_comeTo_23
    rw [if_pos (Int32.le_refl _)]
    exact ⟨_, rfl, rfl⟩
/-- those that hold on keep to their lines -/
theorem lnF_on (hv : NvOk n nv) {h : Nat} {D : Int} {fr fs dr ds : Nat → Int} (hS : LnF n nv A B h σ D fr fs dr ds) (x : Int) {i : Nat} (hi : i < n) : (h.testBit i = true → dr i * x + ds i * 1 = σ i * D + nv i 0 * (fr i * x + fs i * 1)) ∧ (¬ h.testBit i = true → fr i * x + fs i * 1 = 0) := by
  refine ⟨fun q => ?_, fun q => ?_⟩
  · obtain ⟨a, b⟩ := hS.2.2.1 i hi ((kF_pos hv hi).mpr q)
    rw [kF_on q] at a b
    rw [a, b]
    grind
  · obtain ⟨a, b⟩ := hS.2.1 i hi (kF_off q)
    rw [a, b]
    omega
/-- when those that pull let go, the slips of all lessen -/
theorem let_go (hv : NvOk n nv) (hA : 0 ≤ A ∧ A ≤ 2) (hB : 0 ≤ B ∧ B ≤ 2) {h h' : Nat} {D D' : Int} {fr fs dr ds fr' fs' dr' ds' : Nat → Int} {x : Int} (hS : LnF n nv A B h σ D fr fs dr ds) (hS' : LnF n nv A B h' σ D' fr' fs' dr' ds') (hh : ∀ i, i < n → (h'.testBit i = true ↔ h.testBit i = true ∧ ¬ fr i * x + fs i * 1 < 0)) {b : Nat} (hb : b < n) (hbf : fr b * x + fs b * 1 < 0) : ∀ i, i < n → (dr' i * x + ds' i * 1) * D < (dr i * x + ds i * 1) * D' := by
  have hD := hS.1
  have hD' := hS'.1
  have r1 := (hS.row x 1).scale (t := D')
  have r2 := (hS'.row x 1).scale (t := D)
  have eN : D * x * D' = D' * x * D := by ac_rfl
  rw [eN] at r1
  rcases row_cmp (geo_nv hv hA hB) r2 r1 (Int.le_refl _) (fun i hi hd => by
    have v := hv i hi
    have o1 := lnF_on hv hS x hi
    have o2 := lnF_on hv hS' x hi
    by_cases q : h'.testBit i = true
    · have q1 := ((hh i hi).mp q).1
      rw [o1.1 q1, o2.1 q] at hd
      have e1 : (σ i * D + nv i 0 * (fr i * x + fs i * 1)) * D' = σ i * (D * D') + nv i 0 * ((fr i * x + fs i * 1) * D') := by grind
      have e2 : (σ i * D' + nv i 0 * (fr' i * x + fs' i * 1)) * D = σ i * (D * D') + nv i 0 * ((fr' i * x + fs' i * 1) * D) := by grind
      rw [e1, e2] at hd
      refine Int.le_of_mul_le_mul_left (a := nv i 0) ?_ (by omega)
      omega
    · rw [o2.2 q, Int.zero_mul]
      by_cases q1 : h.testBit i = true
      · have hneg : fr i * x + fs i * 1 < 0 := Classical.byContradiction fun w => q ((hh i hi).mpr ⟨q1, w⟩)
        have := Int.mul_nonneg (show 0 ≤ -(fr i * x + fs i * 1) by omega) (show 0 ≤ D' by omega)
        rw [Int.neg_mul] at this
        omega
      · rw [o1.2 q1, Int.zero_mul]; exact Int.le_refl 0) with q | q
  · exact q
  · exfalso
    have a := (q.2 b hb).2
    have o2 := lnF_on hv hS' x hb
    rw [o2.2 (fun z => ((hh b hb).mp z).2 hbf), Int.zero_mul] at a
    have := Int.mul_pos (show 0 < -(fr b * x + fs b * 1) by omega) hD'
    rw [Int.neg_mul] at this
    omega
theorem come_loop (hn : n ≤ 5) (hF : 10 < F) (hv : NvOk n nv) (hA : 0 ≤ A ∧ A ≤ 2) (hB : 0 ≤ B ∧ B ≤ 2) (J : JOk n nv g c y s u pit) (hσ : ∀ i, i < n → 0 ≤ σ i ∧ σ i ≤ 150000000) {se : Nat → Int64} (hse : ∀ i, i < n → se i = zL (σ i)) {q U : Int} (hq : 0 ≤ q ∧ q ≤ 300) (hU : 0 < U ∧ U ≤ 299269) :
    ∀ (j F1 : Nat), j < F1 → ∀ (h k : Nat) (st0 : Nat → Int32) (re0 fr0 fs0 dr0 ds0 : Nat → Int64) (lu0 : Int64) (bf0 bl0 ba0 sc0 : Nat → Int64) (fR0 fS0 : Int64), h < 32 → (∀ i, i < n → h.testBit i = true → m.testBit i = true) → (∃ i, i < n ∧ h.testBit i = true) → (sel (fun i => h.testBit i) n).length ≤ j → k + (sel (fun i => h.testBit i) n).length ≤ 5 →
      (∀ i, i < n → ¬ m.testBit i = true → ¬ h.testBit i = true) → (∀ D fr fs dr ds, LnF n nv A B h σ D fr fs dr ds → ∀ i, i < n → m.testBit i = true → ¬ h.testBit i = true → dr i * (q * U) + ds i * 1 ≤ σ i * D) →
      ∃ (hh : Nat) (D : Int) (fr fs dr ds : Nat → Int) (cc : Nat) (st1 : Nat → Int32) (re1 fr1 fs1 dr1 ds1 : Nat → Int64) (lu1 : Int64) (bf1 bl1 ba1 sc1 : Nat → Int64) (fR1 fS1 : Int64), iter (un15 (fb_F_comeTo_7 F (zI q) se (zL U) g pit (zI (n : Int)) (zI A) (zI B))) F1 (zI (h : Int), zI (k : Int), st0, re0, fr0, fs0, dr0, ds0, lu0, bf0, bl0, ba0, sc0, fR0, fS0) = some (cc, st1, re1, fr1, fs1, dr1, ds1, lu1, bf1, bl1, ba1, sc1, fR1, fS1) ∧
        LnF n nv A B hh σ D fr fs dr ds ∧ D ≤ 299269 ∧ SOk n D fr fs dr ds lu1 fr1 fs1 dr1 ds1 ∧ FSt n nv A B m (fun i => σ i * D) (D * (q * U)) (fun i => fr i * (q * U) + fs i * 1) (fun i => dr i * (q * U) + ds i * 1) ∧ ∃ i, i < n ∧ m.testBit i = true ∧ dr i * (q * U) + ds i * 1 = σ i * D + nv i 0 * (fr i * (q * U) + fs i * 1) := by
  have hx := mul_bd hq.1 (show 0 ≤ U by omega) hq.2 hU.2
  intro j
  induction j with
  | zero =>
    intro F1 h1 h k st0 re0 fr0 fs0 dr0 ds0 lu0 bf0 bl0 ba0 sc0 fR0 fS0 h32 hsub hne hle
    obtain ⟨i, hi, hi2⟩ := hne
    have := sel_pos (p := fun i => h.testBit i) hi hi2
    omega
  | succ j ih =>
    intro F1 h1 h k st0 re0 fr0 fs0 dr0 ds0 lu0 bf0 bl0 ba0 sc0 fR0 fS0 h32 hsub hne hle hk hout hrel
    obtain ⟨F1, rfl⟩ : ∃ x, F1 = x + 1 := ⟨F1 - 1, by omega⟩
    have h1c : 1 ≤ (sel (fun i => h.testBit i) n).length := by
      obtain ⟨i, hi, hi2⟩ := hne
      exact sel_pos (p := fun i => h.testBit i) hi hi2
    obtain ⟨D, fr, fs, dr, ds, st1, re1, fr1, fs1, dr1, ds1, lu1, bf1, bl1, ba1, sc1, fR1, fS1, el, hS, hD2, hO⟩ := layLines_z (F := F) hn hF hv hA hB J h32 hne hσ hse st0 re0 fr0 fs0 dr0 ds0 lu0 bf0 bl0 ba0 sc0 fR0 fS0
    have hD := hS.1
    have hbd := lnF_bd hn hv hA hB hσ hS
    have hfb : ∀ i, i < n → -9223372036854775808 ≤ fr i * (q * U) + fs i * 1 ∧ fr i * (q * U) + fs i * 1 ≤ 9223372036854775807 := fun i hi => by
      have b := hbd i hi
      have := mul_bd b.1 hx.1 (show fr i ≤ 299269 by omega) hx.2
      omega
    have ep := pull_z (F := F) hn hF hq (f := fun i => fr i * (q * U) + fs i * 1) (U := U) (fr := fr1) (fs := fs1) (fun i hi => (lnF_at hn hO (q * U) hi).1) hfb
    have hk5 : ¬ (5 : Int32) < zI (k : Int) := fun z => absurd ((zI_lt (a := 5) (b := (k : Int)) (by omega) (by omega) (by omega) (by omega)).mp z) (by omega)
    have p32 : msk (fun i => decide (fr i * (q * U) + fs i * 1 < 0)) n < 32 := msk_32 _ hn
    have hrow := hS.row (q * U) 1
    by_cases hz : msk (fun i => decide (fr i * (q * U) + fs i * 1 < 0)) n = 0
    · have hnn : ∀ i, i < n → 0 ≤ fr i * (q * U) + fs i * 1 := by
        intro i hi
        have t := msk_test (fun i => decide (fr i * (q * U) + fs i * 1 < 0)) n i
        rw [hz, Nat.zero_testBit] at t
        refine Int.not_lt.mp fun w => ?_
        simp [hi, w] at t
        omega
      refine ⟨h, D, fr, fs, dr, ds, 0, st1, re1, fr1, fs1, dr1, ds1, lu1, bf1, bl1, ba1, sc1, fR1, fS1, iter_en ?_, hS, hD2, hO, ⟨hrow, fun i hi qm => ?_, fun i hi qm => (lnF_on hv hS (q * U) hi).2 (hout i hi qm)⟩, ?_⟩
      · dsimp only [un15]
        unfold fb_F_comeTo_7
        rw [if_neg hk5, el]
        simp only [bd13, Option.bind_some]
        rw [ep, Option.bind_some, hz, if_pos (show zI ((0 : Nat) : Int) = (0 : Int32) from rfl)]
      · have on := lnF_on hv hS (q * U) hi
        by_cases w : h.testBit i = true
        · have a := on.1 w
          have b := hnn i hi
          rcases Int.lt_or_eq_of_le b with z | z
          · exact Or.inl ⟨z, a⟩
          · refine Or.inr ⟨z.symm, ?_⟩
            rw [← z, Int.mul_zero] at a
            dsimp only
            omega
        · exact Or.inr ⟨on.2 w, hrel D fr fs dr ds hS i hi qm w⟩
      · obtain ⟨i, hi, hi2⟩ := hne
        exact ⟨i, hi, hsub i hi hi2, (lnF_on hv hS (q * U) hi).1 hi2⟩
    · obtain ⟨b, hb⟩ := some_bit hz
      have tb := msk_test (fun i => decide (fr i * (q * U) + fs i * 1 < 0)) n b
      rw [hb] at tb
      have tb2 : b < n ∧ fr b * (q * U) + fs b * 1 < 0 := by simpa using tb.symm
      obtain ⟨hbn, hbf⟩ := tb2
      obtain ⟨n32, ntest⟩ := anb_test h h32 (msk (fun i => decide (fr i * (q * U) + fs i * 1 < 0)) n) p32
      have enew := anb_z h h32 (msk (fun i => decide (fr i * (q * U) + fs i * 1 < 0)) n) p32
      have hnew : ∀ i, i < n → ((h &&& (31 ^^^ msk (fun i => decide (fr i * (q * U) + fs i * 1 < 0)) n)).testBit i = true ↔ h.testBit i = true ∧ ¬ fr i * (q * U) + fs i * 1 < 0) := by
        intro i hi
        rw [ntest i (by omega), msk_test]
        simp [hi]
      have hstep : un15 (fb_F_comeTo_7 F (zI q) se (zL U) g pit (zI (n : Int)) (zI A) (zI B)) (zI (h : Int), zI (k : Int), st0, re0, fr0, fs0, dr0, ds0, lu0, bf0, bl0, ba0, sc0, fR0, fS0) = some (.inl (zI ((h &&& (31 ^^^ msk (fun i => decide (fr i * (q * U) + fs i * 1 < 0)) n) : Nat) : Int), zI ((k + 1 : Nat) : Int), st1, re1, fr1, fs1, dr1, ds1, lu1, bf1, bl1, ba1, sc1, fR1, fS1)) := by
        dsimp only [un15]
        unfold fb_F_comeTo_7
        rw [if_neg hk5, el]
        simp only [bd13, Option.bind_some]
        rw [ep, Option.bind_some, if_neg (fun z => hz (by have := (zI_eq (b := 0) (by omega) (by omega) (by omega) (by omega)).mp z; omega)), enew]
        simp only [nm, zI_1]
      generalize (h &&& (31 ^^^ msk (fun i => decide (fr i * (q * U) + fs i * 1 < 0)) n)) = h' at *
      have hbh : h.testBit b = true := Classical.byContradiction fun w => by
        have := (lnF_on hv hS (q * U) hbn).2 w
        omega
      have hbh' : h'.testBit b = false := by
        cases e : h'.testBit b with
        | false => rfl
        | true => exact absurd hbf ((hnew b hbn).mp e).2
      have hcnt := (sel_lt (p := fun i => h.testBit i) (p' := fun i => h'.testBit i) n (fun i hi w => ((hnew i hi).mp w).1)).2 b hbn hbh hbh'
      have hne' : ∃ i, i < n ∧ h'.testBit i = true := by
        refine Classical.byContradiction fun hno => ?_
        have hneg : ∀ i, i < n → 0 ≤ -(fr i * (q * U) + fs i * 1) := by
          intro i hi
          by_cases w : h.testBit i = true
          · have : fr i * (q * U) + fs i * 1 < 0 := Classical.byContradiction fun z => hno ⟨i, hi, (hnew i hi).mpr ⟨w, z⟩⟩
            omega
          · rw [(lnF_on hv hS (q * U) hi).2 w]; omega
        have t := sm_term (g := fun i => -(fr i * (q * U) + fs i * 1)) hbn hneg
        rw [sm_neg, hrow.1] at t
        have := Int.mul_nonneg (show 0 ≤ D by omega) hx.1
        omega
      obtain ⟨hh, D2, fr2, fs2, dr2, ds2, cc, st2, re2, fr3, fs3, dr3, ds3, lu2, bf2, bl2, ba2, sc2, fR2, fS2, e2, z1, z2, z3, z4, z5⟩ := ih F1 (by omega) h' (k + 1) st1 re1 fr1 fs1 dr1 ds1 lu1 bf1 bl1 ba1 sc1 fR1 fS1 n32 (fun i hi w => hsub i hi ((hnew i hi).mp w).1) hne' (by omega) (by omega) (fun i hi w z => hout i hi w ((hnew i hi).mp z).1) (by
        intro D' fr' fs' dr' ds' hS' i hi qm w
        have hlt := let_go hv hA hB hS hS' hnew hbn hbf i hi
        have hD' := hS'.1
        have hold : dr i * (q * U) + ds i * 1 ≤ σ i * D := by
          by_cases z : h.testBit i = true
          · have hneg : fr i * (q * U) + fs i * 1 < 0 := Classical.byContradiction fun y => w ((hnew i hi).mpr ⟨z, y⟩)
            have v := hv i hi
            have a := (lnF_on hv hS (q * U) hi).1 z
            have := mul_np (show 0 ≤ nv i 0 by omega) (Int.le_of_lt hneg)
            omega
          · exact hrel D fr fs dr ds hS i hi qm z
        have m1 := Int.mul_le_mul_of_nonneg_right hold (show 0 ≤ D' by omega)
        have e1 : σ i * D * D' = σ i * D' * D := Int.mul_right_comm _ _ _
        refine Int.le_of_mul_le_mul_right (a := D) ?_ hD
        omega)
      exact ⟨hh, D2, fr2, fs2, dr2, ds2, cc, st2, re2, fr3, fs3, dr3, ds3, lu2, bf2, bl2, ba2, sc2, fR2, fS2, iter_st hstep e2, z1, z2, z3, z4, z5⟩
theorem comeTo_z (hn : n ≤ 5) (hF : 10 < F) (hv : NvOk n nv) (hA : 0 ≤ A ∧ A ≤ 2) (hB : 0 ≤ B ∧ B ≤ 2) (J : JOk n nv g c y s u pit) (hσ : ∀ i, i < n → 0 ≤ σ i ∧ σ i ≤ 150000000) {se : Nat → Int64} (hse : ∀ i, i < n → se i = zL (σ i)) {q U : Int} (hq : 0 ≤ q ∧ q ≤ 300) (hU : 0 < U ∧ U ≤ 299269) (hm : m < 32) (hne : ∃ i, i < n ∧ m.testBit i = true) (st0 : Nat → Int32) (re0 fr0 fs0 dr0 ds0 : Nat → Int64) (lu0 : Int64) (bf0 bl0 ba0 sc0 : Nat → Int64) (fR0 fS0 : Int64) :
    ∃ (hh : Nat) (D : Int) (fr fs dr ds : Nat → Int) (st1 : Nat → Int32) (re1 fr1 fs1 dr1 ds1 : Nat → Int64) (lu1 : Int64) (bf1 bl1 ba1 sc1 : Nat → Int64) (fR1 fS1 : Int64), f_F_comeTo F (zI q) se (zL U) (zI (m : Int)) st0 re0 fr0 fs0 dr0 ds0 lu0 bf0 bl0 ba0 sc0 fR0 fS0 g pit (zI (n : Int)) (zI A) (zI B) = some (st1, re1, fr1, fs1, dr1, ds1, lu1, bf1, bl1, ba1, sc1, fR1, fS1) ∧
        LnF n nv A B hh σ D fr fs dr ds ∧ D ≤ 299269 ∧ SOk n D fr fs dr ds lu1 fr1 fs1 dr1 ds1 ∧ FSt n nv A B m (fun i => σ i * D) (D * (q * U)) (fun i => fr i * (q * U) + fs i * 1) (fun i => dr i * (q * U) + ds i * 1) ∧ ∃ i, i < n ∧ m.testBit i = true ∧ dr i * (q * U) + ds i * 1 = σ i * D + nv i 0 * (fr i * (q * U) + fs i * 1) := by
  have h5 := sel5 (fun i => m.testBit i) n
  obtain ⟨hh, D2, fr2, fs2, dr2, ds2, cc, st2, re2, fr3, fs3, dr3, ds3, lu2, bf2, bl2, ba2, sc2, fR2, fS2, e2, z1, z2, z3, z4, z5⟩ := come_loop (m := m) hn hF hv hA hB J hσ hse hq hU 5 F (by omega) m 0 st0 re0 fr0 fs0 dr0 ds0 lu0 bf0 bl0 ba0 sc0 fR0 fS0 hm (fun i _ w => w) hne (by omega) (by omega) (fun i _ w => w) (fun D fr fs dr ds _ i _ w z => absurd w z)
  refine ⟨hh, D2, fr2, fs2, dr2, ds2, st2, re2, fr3, fs3, dr3, ds3, lu2, bf2, bl2, ba2, sc2, fR2, fS2, ?_, z1, z2, z3, z4, z5⟩
  unfold f_F_comeTo
  rw [show iter (un15 (fb_F_comeTo_7 F (zI q) se (zL U) g pit (zI (n : Int)) (zI A) (zI B))) F (zI (m : Int), (0 : Int32), st0, re0, fr0, fs0, dr0, ds0, lu0, bf0, bl0, ba0, sc0, fR0, fS0) = _ from e2]
  simp only [bd14, Option.bind_some]
  by_cases q : cc = 0
  · rw [if_pos q]
  · rw [if_neg q]
end OPS25
