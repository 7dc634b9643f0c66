/-! GROWTH AS IT IS: each step keeps all -/
section STEPS
variable {n : Nat} {nv : Nat → Nat → Int} {A B : Int} {m : Nat} {md : Nat → Int} {P Q : Int} {L : List (Int × Nat × Int × Int)}
theorem dueL_mem {w : Int} {i : Nat} (h : i ∈ dueL n nv A B md w) : i < n ∧ md i = w ∧ due n nv A B md i = true := by
  obtain ⟨a, b⟩ := mem_sel h
  simp at b
  exact ⟨a, b.1, b.2⟩
theorem sm_cap {f : Nat → Int} {c : Int} : ∀ {k : Nat}, (∀ i, i < k → f i ≤ c) → sm f k ≤ (k : Int) * c
  | 0, _ => by simp [sm]
  | k + 1, h => by
    have a := sm_cap (k := k) (fun i hi => h i (by omega))
    have b := h k (by omega)
    rw [sm_s, show ((k + 1 : Nat) : Int) = (k : Int) + 1 by omega, Int.add_mul, Int.one_mul]; omega
/-- no load is above what all bolts bear -/
theorem load_le (hn : n ≤ 5) (hv : NvOk n nv) (hm : Mds n nv m md) {D : Int} {fr fs dr ds : Nat → Int} (hS : Lns n nv A B md D fr fs dr ds) (hQ : 0 < Q) (hN : Near n nv md D fr fs dr ds P Q) (hU : ∀ i, i < n → md i = 2 → fr i * P + fs i * Q ≤ nv i 4 * (D * Q)) : P ≤ 300 * Q := by
  have hDQ := Int.mul_pos hS.1 hQ
  have c := sm_cap (f := fun i => fr i * P + fs i * Q) (c := 60 * (D * Q)) (k := n) (fun i hi => by
    obtain ⟨n0, n1, n2⟩ := hN i hi
    have v := hv i hi
    have b := hm.bd i hi
    by_cases m1 : md i = 1
    · have a := (n1 m1).2
      have := Int.mul_le_mul_of_nonneg_right (show nv i 2 ≤ 60 by omega) (show 0 ≤ D * Q by omega)
      omega
    · by_cases m2 : md i = 2
      · have a := hU i hi m2
        have := Int.mul_le_mul_of_nonneg_right (show nv i 4 ≤ 60 by omega) (show 0 ≤ D * Q by omega)
        omega
      · have z := hS.2.1 i hi (by unfold kW; rw [if_neg m1, if_neg m2])
        rw [z.1, z.2, Int.zero_mul, Int.zero_mul]; omega)
  rw [(hS.row P Q).1] at c
  have c2 : (n : Int) * (60 * (D * Q)) ≤ 5 * (60 * (D * Q)) := Int.mul_le_mul_of_nonneg_right (by omega) (by omega)
  refine Int.le_of_mul_le_mul_left ?_ hS.1
  have : D * (300 * Q) = 300 * (D * Q) := by ac_rfl
  omega
/-- what is next: a load, and all that it needs -/
theorem BOk.next (hn : n ≤ 5) (hv : NvOk n nv) (hA : 0 ≤ A ∧ A ≤ 2) (hB : 0 ≤ B ∧ B ≤ 2) (h : BOk n nv A B m md P Q L) (hU : Und n nv A B md P Q) :
    ∃ P' Q', nxt n nv A B md = (P', Q') ∧ Nxt n nv A B md P' Q' ∧ LOk P' Q' ∧ P * Q' ≤ P' * Q ∧ 0 < P' ∧ (∃ i, i < n ∧ due n nv A B md i = true) ∧ ((∃ i, i < n ∧ md i = 2 ∧ due n nv A B md i = true) → KOk P' Q') ∧
      BOk n nv A B m (rai n nv A B md) P' Q' (L ++ evs 0 P' Q' (dueL n nv A B md 0) ++ evs 1 P' Q' (dueL n nv A B md 1)) ∧ Und n nv A B (rai n nv A B md) P' Q' := by
  obtain ⟨hE, hm, hs, hN, hc, h0⟩ := h
  obtain ⟨D, fr, fs, dr, ds, sO, sU, hS, hD2, hsU, hsU2, hsO, hsO2, hX⟩ := nx_ex hn hv hA hB hm.bd hs
  obtain ⟨t, t1, -, t2, t3, t4, t5, t6, t7, t8⟩ := red_ok (o := sO) hsU
  have hGeo := geo_nv hv hA hB
  have hkk := fun i hi => (kW_bd (md := md) hv i hi).1
  generalize (red sO sU).1 = P' at *
  generalize (red sO sU).2 = Q' at *
  have hXX := hX
  obtain ⟨-, -, hx⟩ := hX
  obtain ⟨xle, i, i1, i2, i3⟩ := hx D fr fs dr ds hS
  have hNN := hN D fr fs dr ds hS
  have hUU := hU D fr fs dr ds hS
  obtain ⟨-, -, hP0, hQ0⟩ : True ∧ True ∧ 0 ≤ P ∧ 0 < Q := ⟨trivial, trivial, hE.1.1, hE.1.2.2.1⟩
  have c := hm.bd i i1
  -- nobody is due before P / Q
  have hpast : P * dun md true fr dr i ≤ dov nv md D fs ds i * Q := by
    obtain ⟨n0, n1, n2⟩ := hNN i i1
    unfold dun at i2 ⊢
    unfold dov
    by_cases m0 : md i = 0
    · rw [if_pos m0, if_pos m0]; exact till_iff.mpr (n0 m0)
    · rw [if_neg m0] at i2
      rw [if_neg m0, if_neg m0]
      by_cases m1 : md i = 1
      · rw [if_pos m1, if_pos m1]; exact till_iff.mpr (n1 m1).2
      · rw [if_neg m1] at i2
        rw [if_neg m1, if_neg m1]
        by_cases m2 : md i = 2 ∧ true = true
        · rw [if_pos m2]; exact till_iff.mpr (hUU i i1 m2.1)
        · rw [if_neg m2] at i2; omega
  have hle : P * Q' ≤ P' * Q := by
    have e : P' * dun md true fr dr i = dov nv md D fs ds i * Q' := i3
    refine Int.le_of_mul_le_mul_right (a := dun md true fr dr i) ?_ i2
    have a1 := Int.mul_le_mul_of_nonneg_right hpast (show 0 ≤ Q' by omega)
    have e1 : P * Q' * dun md true fr dr i = P * dun md true fr dr i * Q' := Int.mul_right_comm _ _ _
    have e2 : P' * Q * dun md true fr dr i = P' * dun md true fr dr i * Q := Int.mul_right_comm _ _ _
    have e3 : dov nv md D fs ds i * Q * Q' = dov nv md D fs ds i * Q' * Q := Int.mul_right_comm _ _ _
    rw [e1, e2, e]; omega
  have hPp : 0 < P' := by
    by_cases q : P = 0
    · obtain ⟨k, k1, k2⟩ := h0 q
      have z := (start_near hv hA hB k1 (Lns.congr hS (fun i hi => (k2 i hi).symm))).1 i i1
      have v := hv i i1
      have hD := hS.1
      have hdo : 0 < dov nv md D fs ds i := by
        unfold dov
        have ek := k2 i i1
        unfold mdS at ek
        by_cases b : m.testBit i = true
        · rw [if_pos b] at ek
          by_cases e : nv i 1 = k
          · rw [if_pos e] at ek
            rw [if_neg (by omega), if_pos ek, z.1]
            have := Int.mul_pos (show 0 < nv i 2 by omega) hD
            omega
          · rw [if_neg e] at ek
            rw [if_pos ek, z.2]
            have : k < nv i 1 := by
              rcases k1 with ⟨-, w⟩ | ⟨-, w⟩
              · rw [w i i1] at b; cases b
              · have := w i i1 b; omega
            have := Int.mul_lt_mul_of_pos_right this hD
            omega
        · rw [if_neg b] at ek
          unfold dun at i2
          by_cases q : nv i 5 = 0
          · rw [if_pos q] at ek
            rw [if_neg (by omega), if_neg (by omega), if_neg (by omega)] at i2; omega
          · rw [if_neg q] at ek
            rw [if_neg (by omega), if_neg (by omega), if_neg (by omega)] at i2; omega
      have a := Int.mul_pos hdo t4
      refine Int.not_le.mp fun w => ?_
      have := Int.mul_nonneg (show 0 ≤ -P' by omega) (show 0 ≤ dun md true fr dr i by omega)
      rw [Int.neg_mul] at this
      omega
    · refine Int.not_le.mp fun w => ?_
      have a1 := Int.mul_nonneg (show 0 ≤ -P' by omega) (show 0 ≤ Q by omega)
      rw [Int.neg_mul] at a1
      have a2 := Int.mul_pos (show 0 < P by omega) t4
      omega
  have hsO0 : 0 ≤ sO := by
    rw [t2]; exact Int.le_of_lt (Int.mul_pos t1 hPp)
  have hL' : LOk P' Q' := ⟨by omega, by have := (t8 hsO0).2; omega, t4, by omega, t6⟩
  have hdue : due n nv A B md i = true := by
    rw [← due_eq hv hA hB hS hXX hsU t7.symm i1]
    refine decide_eq_true ⟨i2, ?_⟩
    have := (fr_eq (a := dun md true fr dr i) (b := dov nv md D fs ds i) hsU t4 t7.symm).2.mpr i3
    omega
  have htill : Till n nv md D fr fs dr ds P' Q' := by
    intro j hj hp
    have e : dun md false fr dr j = dun md true fr dr j := by
      unfold dun at hp ⊢
      by_cases m0 : md j = 0
      · rw [if_pos m0, if_pos m0]
      · rw [if_neg m0, if_neg m0]
        by_cases m1 : md j = 1
        · rw [if_pos m1, if_pos m1]
        · rw [if_neg m0, if_neg m1, if_neg (by simp)] at hp; omega
    rw [e] at hp ⊢
    exact xle j hj hp
  have hgo := (hNN.go hv hA hB hS hQ0 t4 hle htill).1
  have hstep : Step n nv md (rai n nv A B md) D fr fs dr ds P' Q' := by
    have st := due_step (n := n) (nv := nv) (md := md) (br := true) (D := D) (fr := fr) (fs := fs) (dr := dr) (ds := ds) (sO := P') (sU := Q') (fun i hi => (hm.bd i hi).1)
    intro j hj
    rw [← rai_eq hv hA hB hS hXX t4 rfl hj]
    exact st j hj
  have hcnt := rai_cnt (A := A) (B := B) hm
  have hmr := rai_mds (A := A) (B := B) hm
  obtain ⟨bi, hbi, hbm⟩ := hs
  have hbr : ∃ i, i < n ∧ (rai n nv A B md i = 1 ∨ rai n nv A B md i = 2) := ⟨bi, hbi, by
    rcases rai_cs (A := A) (B := B) hm hbi with ⟨e, -⟩ | ⟨-, e1, e2⟩ <;> omega⟩
  have hund : ∀ i, i < n → md i = 2 → fr i * P' + fs i * Q' ≤ nv i 4 * (D * Q') := fun j hj m2 => by
    have hf := Sol.fpos hGeo hkk hS j hj ((kW_pos hv hj).mpr (Or.inr m2))
    have ed : dun md true fr dr j = fr j := by unfold dun; rw [if_neg (by omega), if_neg (by omega), if_pos ⟨m2, rfl⟩]
    have eo : dov nv md D fs ds j = nv j 4 * D - fs j := by unfold dov; rw [if_neg (by omega), if_neg (by omega)]
    have := xle j hj (by rw [ed]; exact hf)
    rw [ed, eo] at this
    exact till_iff.mp this
  refine ⟨P', Q', nxt_eq hS hXX, hXX, hL', hle, hPp, ⟨i, i1, hdue⟩, ?_, ⟨?_, hmr, hbr, fun D' fr' fs' dr' ds' hS' => (hgo.up hv hA hB hS hS' t4 hstep).1, ?_, fun e => by omega⟩, ?_⟩
  · rintro ⟨j, hj, j2, j3⟩
    refine ⟨?_, load_le hn hv hm hS t4 hgo hund⟩
    rw [← due_eq hv hA hB hS hXX t4 rfl hj] at j3
    obtain ⟨q1, q2⟩ := of_decide_eq_true j3
    have ed : dun md true fr dr j = fr j := by unfold dun; rw [if_neg (by omega), if_neg (by omega), if_pos ⟨j2, rfl⟩]
    rw [ed] at q1 q2
    have hle2 := Sol.fle hGeo hkk hS j hj
    have e2 : P'.natAbs * (fr j).natAbs = (dov nv md D fs ds j).natAbs * Q'.natAbs := by rw [← Int.natAbs_mul, ← Int.natAbs_mul, q2]
    have c1 : Nat.Coprime Q'.natAbs P'.natAbs := by rw [Nat.coprime_comm]; exact t6
    have hdv : Q'.natAbs ∣ (fr j).natAbs := c1.dvd_of_dvd_mul_left ⟨(dov nv md D fs ds j).natAbs, by rw [e2, Nat.mul_comm]⟩
    have := Nat.le_of_dvd (by omega) hdv
    omega
  · rw [List.append_assoc]
    refine hE.add hL' hle ?_ fun e he => ?_
    · rw [List.length_append, evs_len, evs_len]; omega
    · rcases List.mem_append.mp he with q | q
      · obtain ⟨a1, a2, a3⟩ := mem_evs q
        exact ⟨Or.inl a1, (dueL_mem a2).1, a3⟩
      · obtain ⟨a1, a2, a3⟩ := mem_evs q
        exact ⟨Or.inr a1, (dueL_mem a2).1, a3⟩
  · rw [List.length_append, List.length_append, evs_len, evs_len]; omega
  · intro D' fr' fs' dr' ds' hS' j hj hj2
    have u := ((hgo.up hv hA hB hS hS' t4 hstep).2 j hj).1
    refine (sc_le hS.1 hS'.1 u).mp ?_
    have v := hv j hj
    rcases hstep j hj with e | ⟨e1, e2, -⟩ | ⟨e1, e2, e3⟩
    · exact hund j hj (by omega)
    · omega
    · rw [e3]
      exact Int.mul_le_mul_of_nonneg_right (by omega) (Int.le_of_lt (Int.mul_pos hS.1 t4))
/-- a bolt breaks -/
theorem BOk.gone (hn : n ≤ 5) (hv : NvOk n nv) (hA : 0 ≤ A ∧ A ≤ 2) (hB : 0 ≤ B ∧ B ≤ 2) (h : BOk n nv A B m md P Q L) (hP : 0 < P) (hK : KOk P Q) {b : Nat} (hb : b < n) (hb2 : md b = 2) :
    m.testBit b = true ∧ L.length < 15 ∧ EOk n nv (clr m b) P Q (L ++ [(2, b, P, Q)]) ∧ (¬ clr m b = 0 → BOk n nv A B (clr m b) (stw n nv A B (clr m b) P Q) P Q (L ++ [(2, b, P, Q)] ++ evs 0 P Q (rsd md (stw n nv A B (clr m b) P Q) 0 n) ++ evs 1 P Q (rsd md (stw n nv A B (clr m b) P Q) 1 n)) ∧
      (∃ D fr fs dr ds, At n nv A B (clr m b) (stw n nv A B (clr m b) P Q) D fr fs dr ds P Q) ∧ ∀ i, i < n → (clr m b).testBit i = true → md i ≤ stw n nv A B (clr m b) P Q i) := by
  obtain ⟨hE, hm, hs, hN, hc, h0⟩ := h
  have tb := hm.test hb (by omega)
  have hpos : 1 ≤ mes3 md n := mes3_pos hb (by omega)
  have hl : L.length < 15 := by omega
  have hE' := hE.break_ hn hK tb hl
  refine ⟨tb, hl, hE', fun hne => ?_⟩
  have h32 := hE.2.2.1
  obtain ⟨j, hj⟩ := some_bit hne
  have hjn := (hE'.2.1 j hj).1
  obtain ⟨hP0, hP2, hQ0, hQ2, hg⟩ := hE.1
  obtain ⟨mdx, D', fr', fs', dr', ds', hat⟩ := at_ex (m := clr m b) (P := P) (Q := Q) hn hv hA hB hE'.2.2.1 ⟨j, hjn, hj⟩ (by omega) (by omega) hQ0 (by omega)
  obtain ⟨-, hat⟩ := stw_at hv hA hB hP hQ0 hat
  generalize stw n nv A B (clr m b) P Q = mw at *
  obtain ⟨D, fr, fs, dr, ds, -, -, hS, -⟩ := nx_ex hn hv hA hB hm.bd hs
  have hNN := hN D fr fs dr ds hS
  have hfb : 0 < fr b * P + fs b * Q := by
    have a := (hNN b hb).2.2 hb2
    have v := hv b hb
    have := Int.mul_pos (show 0 < nv b 2 by omega) (Int.mul_pos hS.1 hQ0)
    omega
  have hrise := At.rises hv hA hB hP hQ0 hm hS hNN hat (fun i hi => (clr_sub h32 (by omega) i hi).1) b hb (by
    cases q : (clr m b).testBit b with
    | false => rfl
    | true => exact absurd rfl (clr_sub h32 (by omega) b q).2) hfb
  have hmw : Mds n nv (clr m b) mw := ⟨hat.2.2.1, hat.2.2.2.1⟩
  have hSw := hat.1
  have hbear : ∃ i, i < n ∧ (mw i = 1 ∨ mw i = 2) := by
    obtain ⟨i, hi, hk⟩ := hSw.some (fun i hi => (kW_bd (md := mw) hv i hi).1)
    exact ⟨i, hi, (kW_pos hv hi).mp hk⟩
  have hcnt : (rsd md mw 0 n).length + (rsd md mw 1 n).length + (sel (fun i => decide (i = b)) n).length + mes3 mw n ≤ mes3 md n := by
    refine cnt_mes fun i hi => ?_
    unfold c1
    have v := hm.bd i hi
    by_cases e : i = b
    · subst e
      have e3 : ¬ mw i ≤ 2 := fun w => by
        have := hmw.test hi w
        exact absurd rfl (clr_sub h32 (by omega) i this).2
      rw [if_neg (by simp; omega), if_neg (by simp; omega), if_pos (by simp)]; omega
    · rw [if_neg (show ¬ decide (i = b) = true by simp [e])]
      cases t : (clr m b).testBit i with
      | true =>
        have a := hrise i hi t
        have c := hmw.1 i hi t
        by_cases q0 : md i ≤ 0 ∧ 0 < mw i ∧ mw i ≤ 2
        · rw [if_pos (by simp; omega)]
          by_cases q1 : md i ≤ 1 ∧ 1 < mw i ∧ mw i ≤ 2
          · rw [if_pos (by simp; omega)]; omega
          · rw [if_neg (by simp; omega)]; omega
        · rw [if_neg (by simp; omega)]
          by_cases q1 : md i ≤ 1 ∧ 1 < mw i ∧ mw i ≤ 2
          · rw [if_pos (by simp; omega)]; omega
          · rw [if_neg (by simp; omega)]; omega
      | false =>
        have hmi : ¬ m.testBit i = true := fun w => by
          have := (clr_test h32 (by omega) (show i < 5 by omega)).mpr ⟨w, e⟩
          rw [t] at this; cases this
        have a := hm.2 i hi (by simpa using hmi)
        have c := hmw.2 i hi t
        rw [← a] at c
        have : 2 < md i := by
          by_cases q : nv i 5 = 0
          · rw [if_pos q] at a; omega
          · rw [if_neg q] at a; omega
        rw [if_neg (by simp; omega), if_neg (by simp; omega)]; omega
  have hone : 1 ≤ (sel (fun i => decide (i = b)) n).length := sel_pos hb (by simp)
  have rs : ∀ w i, i ∈ rsd md mw w n → i < n := fun w i hi => (mem_sel hi).1
  refine ⟨⟨?_, hmw, hbear, fun D2 fr2 fs2 dr2 ds2 hS2 => Near.sc hv hA hB hSw hS2 hat.2.2.2.2.1, ?_, fun e => by omega⟩, ⟨D', fr', fs', dr', ds', hat⟩, hrise⟩
  · rw [List.append_assoc]
    refine hE'.add hE.1 (Int.le_refl _) ?_ fun e he => ?_
    · rw [List.length_append, List.length_append, evs_len, evs_len]
      show L.length + 1 + _ ≤ 15
      omega
    · rcases List.mem_append.mp he with q | q
      · obtain ⟨a1, a2, a3⟩ := mem_evs q
        exact ⟨Or.inl a1, rs _ _ a2, a3⟩
      · obtain ⟨a1, a2, a3⟩ := mem_evs q
        exact ⟨Or.inr a1, rs _ _ a2, a3⟩
  · rw [List.length_append, List.length_append, List.length_append, evs_len, evs_len]
    show L.length + 1 + _ + _ + _ ≤ 15
    omega
def popc (m : Nat) (n : Nat) : Nat := mes3 (fun i => if m.testBit i = true then 2 else 3) n
theorem popc_clr (hn : n ≤ 5) (hm : m < 32) {b : Nat} (hb : b < n) (hb2 : m.testBit b = true) : popc (clr m b) n + 1 ≤ popc m n := by
  have h := cnt_mes (p := fun i => decide (i = b)) (q := fun _ => false) (r := fun _ => false) (md := fun i => if m.testBit i = true then 2 else 3) (md' := fun i => if (clr m b).testBit i = true then 2 else 3) (n := n) (fun i hi => by
    have ct := clr_test hm (show b < 5 by omega) (show i < 5 by omega)
    unfold c1
    by_cases e : i = b
    · subst e
      have h1 : ¬ (clr m i).testBit i = true := fun w => (ct.mp w).2 rfl
      rw [if_pos (by simp), if_neg (by simp), if_neg h1, if_pos hb2]; simp
    · by_cases q : m.testBit i = true
      · rw [if_neg (by simp [e]), if_neg (by simp), if_pos (ct.mpr ⟨q, e⟩), if_pos q]; simp
      · rw [if_neg (by simp [e]), if_neg (by simp), if_neg (fun w => q (ct.mp w).1), if_neg q]; simp)
  have h2 := sel_pos (p := fun i => decide (i = b)) (n := n) hb (by simp)
  unfold popc
  omega
theorem popc_pos {i : Nat} (hi : i < n) (h : m.testBit i = true) : 1 ≤ popc m n := mes3_pos (i := i) hi (by rw [if_pos h]; omega)
theorem popc_le : popc m n ≤ n := by
  have : ∀ k, popc m k ≤ k := by
    intro k
    induction k with
    | zero => exact Nat.le_refl _
    | succ k ih =>
      show mes3 _ k + (3 - (if m.testBit k = true then (2 : Int) else 3)).toNat ≤ k + 1
      have : mes3 (fun i => if m.testBit i = true then (2 : Int) else 3) k ≤ k := ih
      by_cases q : m.testBit k = true
      · rw [if_pos q]; omega
      · rw [if_neg q]; omega
  exact this n
theorem wors_cs (md : Nat → Int) (P Q : Int) : wors n nv A B md P Q = -1 ∨ (0 ≤ wors n nv A B md P Q ∧ (wors n nv A B md P Q).toNat < n ∧ md (wors n nv A B md P Q).toNat = 2) := by
  unfold wors
  rcases wst_bd (fun i => decide (md i = 2 ∧ 0 < (ln n nv A B md).2.1 i * P + (ln n nv A B md).2.2.1 i * Q ∧ nv i 4 * (ln n nv A B md).1 * Q ≤ (ln n nv A B md).2.1 i * P + (ln n nv A B md).2.2.1 i * Q)) (fun i => (ln n nv A B md).2.1 i * P + (ln n nv A B md).2.2.1 i * Q) (fun i => nv i 4) n with h | ⟨h1, h2, h3⟩
  · exact Or.inl h
  · right
    have := of_decide_eq_true h3
    exact ⟨h1, by omega, this.1⟩
theorem wst_none {p : Nat → Bool} {f u : Nat → Int} : ∀ k, wst p f u k = -1 → ∀ i, i < k → p i = false := by
  intro k
  induction k with
  | zero => intro _ i hi; omega
  | succ k ih =>
    intro h i hi
    simp only [wst] at h
    by_cases q : p k = true ∧ (wst p f u k < 0 ∨ f (wst p f u k).toNat * u k < f k * u (wst p f u k).toNat)
    · rw [if_pos q] at h; omega
    · rw [if_neg q] at h
      by_cases e : i = k
      · subst e
        cases w : p i with
        | false => rfl
        | true => exact absurd ⟨w, Or.inl (by omega)⟩ q
      · exact ih h i (by omega)
theorem wors_und (hv : NvOk n nv) (hA : 0 ≤ A ∧ A ≤ 2) (hB : 0 ≤ B ∧ B ≤ 2) (hQ : 0 < Q) (h : wors n nv A B md P Q = -1) : Und n nv A B md P Q := by
  intro D fr fs dr ds hS i hi h2
  rw [← wors_eq hv hA hB hS] at h
  have a := wst_none n h i hi
  have v := hv i hi
  have := Int.mul_pos (show 0 < nv i 4 by omega) (Int.mul_pos hS.1 hQ)
  refine Int.not_lt.mp fun q => ?_
  have : decide (md i = 2 ∧ 0 < fr i * P + fs i * Q ∧ nv i 4 * D * Q ≤ fr i * P + fs i * Q) = true := decide_eq_true ⟨h2, by omega, by rw [Int.mul_assoc]; omega⟩
  rw [this] at a; cases a
theorem brk_ok (hn : n ≤ 5) (hv : NvOk n nv) (hA : 0 ≤ A ∧ A ≤ 2) (hB : 0 ≤ B ∧ B ≤ 2) (hP : 0 < P) : ∀ (k : Nat) (b : Int) (m : Nat) (md : Nat → Int) (L : List (Int × Nat × Int × Int)), BOk n nv A B m md P Q L → (b = -1 → Und n nv A B md P Q) → (b = -1 ∨ (0 ≤ b ∧ b.toNat < n ∧ md b.toNat = 2)) → (0 ≤ b → KOk P Q) → popc m n ≤ k →
    EOk n nv (brk n nv A B P Q k b m md L).1 P Q (brk n nv A B P Q k b m md L).2.2 ∧ (¬ (brk n nv A B P Q k b m md L).1 = 0 → BOk n nv A B (brk n nv A B P Q k b m md L).1 (brk n nv A B P Q k b m md L).2.1 P Q (brk n nv A B P Q k b m md L).2.2 ∧ Und n nv A B (brk n nv A B P Q k b m md L).2.1 P Q) ∧
      (∃ L', (brk n nv A B P Q k b m md L).2.2 = L ++ L' ∧ ∀ e ∈ L', e.2.2 = (P, Q)) ∧ (0 ≤ b → L.length < (brk n nv A B P Q k b m md L).2.2.length) := by
  intro k
  induction k with
  | zero =>
    intro b m md L h hu hb hK hp
    obtain ⟨i, hi, hi2⟩ := h.2.2.1
    have := popc_pos hi (h.2.1.test hi (by omega))
    omega
  | succ k ih =>
    intro b m md L h hu hb hK hp
    simp only [brk]
    by_cases hneg : b < 0
    · rw [if_pos hneg]
      exact ⟨h.1, fun _ => ⟨h, hu (by omega)⟩, ⟨[], by simp, by simp⟩, fun w => by omega⟩
    · rw [if_neg hneg]
      obtain ⟨b0, b1, b2⟩ := hb.resolve_left (by omega)
      generalize b.toNat = c at *
      obtain ⟨g1, g2, g3, g4⟩ := h.gone hn hv hA hB hP (hK b0) b1 b2
      by_cases hz : clr m c = 0
      · rw [if_pos hz]
        refine ⟨?_, fun w => absurd rfl w, ⟨_, rfl, fun e he => ?_⟩, fun _ => by rw [List.length_append]; exact Nat.lt_succ_self _⟩
        · rw [hz] at g3; exact g3
        · have : e = (2, c, P, Q) := by simpa using he
          subst this; rfl
      · rw [if_neg hz]
        obtain ⟨g5, g6, g7⟩ := g4 hz
        have pc := popc_clr hn h.1.2.2.1 b1 g1
        obtain ⟨r1, r2, ⟨L', r3, r4⟩, -⟩ := ih (wors n nv A B (stw n nv A B (clr m c) P Q) P Q) _ _ _ g5 (wors_und hv hA hB h.1.1.2.2.1) (wors_cs _ _ _) (fun _ => hK b0) (by omega)
        refine ⟨r1, r2, ⟨[(2, c, P, Q)] ++ evs 0 P Q (rsd md (stw n nv A B (clr m c) P Q) 0 n) ++ evs 1 P Q (rsd md (stw n nv A B (clr m c) P Q) 1 n) ++ L', by rw [r3]; simp [List.append_assoc], fun e he => ?_⟩, fun _ => ?_⟩
        · rcases List.mem_append.mp he with q | q
          · rcases List.mem_append.mp q with q | q
            · rcases List.mem_append.mp q with q | q
              · have : e = (2, c, P, Q) := by simpa using q
                subst this; rfl
              · exact (mem_evs q).2.2
            · exact (mem_evs q).2.2
          · exact r4 e q
        · rw [r3]
          simp only [List.length_append]
          show L.length < L.length + 1 + _ + _ + _
          omega
def GOk (n : Nat) (nv : Nat → Nat → Int) (A B : Int) (s : Gs) : Prop := BOk n nv A B s.1 s.2.1 s.2.2.1 s.2.2.2.1 s.2.2.2.2 ∧ Und n nv A B s.2.1 s.2.2.1 s.2.2.2.1
theorem fst1_cs (p : Nat → Bool) (n : Nat) : fst1 p n = -1 ∨ (0 ≤ fst1 p n ∧ (fst1 p n).toNat < n ∧ p (fst1 p n).toNat = true) := by
  induction n with
  | zero => exact Or.inl rfl
  | succ n ih =>
    simp only [fst1]
    by_cases q : fst1 p n = -1
    · rw [if_pos q]
      by_cases q2 : p n = true
      · rw [if_pos q2]; exact Or.inr ⟨by omega, by omega, by simpa using q2⟩
      · rw [if_neg q2]; exact Or.inl rfl
    · rw [if_neg q]
      have := ih.resolve_left q
      exact Or.inr ⟨this.1, by omega, this.2.2⟩
theorem fst1_none {p : Nat → Bool} : ∀ k, fst1 p k = -1 → ∀ i, i < k → p i = false := by
  intro k
  induction k with
  | zero => intro _ i hi; omega
  | succ k ih =>
    intro h i hi
    simp only [fst1] at h
    by_cases q : fst1 p k = -1
    · rw [if_pos q] at h
      by_cases q2 : p k = true
      · rw [if_pos q2] at h; omega
      · by_cases e : i = k
        · subst e; simpa using q2
        · exact ih q i (by omega)
    · rw [if_neg q] at h; exact absurd h q
theorem gst_ok (hn : n ≤ 5) (hv : NvOk n nv) (hA : 0 ≤ A ∧ A ≤ 2) (hB : 0 ≤ B ∧ B ≤ 2) {s : Gs} (h : GOk n nv A B s) (hs : ¬ s.1 = 0) :
    EOk n nv (gst n nv A B s).1 (gst n nv A B s).2.2.1 (gst n nv A B s).2.2.2.1 (gst n nv A B s).2.2.2.2 ∧ (¬ (gst n nv A B s).1 = 0 → GOk n nv A B (gst n nv A B s)) ∧ ((gst n nv A B s).2.2.1, (gst n nv A B s).2.2.2.1) = nxt n nv A B s.2.1 ∧
      s.2.2.1 * (gst n nv A B s).2.2.2.1 ≤ (gst n nv A B s).2.2.1 * s.2.2.2.1 ∧ 0 < (gst n nv A B s).2.2.1 ∧
      (∃ L', (gst n nv A B s).2.2.2.2 = s.2.2.2.2 ++ L' ∧ ∀ e ∈ L', e.2.2 = ((gst n nv A B s).2.2.1, (gst n nv A B s).2.2.2.1)) ∧ s.2.2.2.2.length < (gst n nv A B s).2.2.2.2.length := by
  obtain ⟨m, md, P, Q, L⟩ := s
  obtain ⟨h, hu⟩ := h
  dsimp only at h hu hs
  obtain ⟨P', Q', e1, e2, e3, e4, e5, ⟨i, i1, i2⟩, eK, e6, e7⟩ := h.next hn hv hA hB hu
  have hb := fst1_cs (fun i => decide (md i = 2) && due n nv A B md i) n
  have hb' := fst1_none (p := fun i => decide (md i = 2) && due n nv A B md i) n
  have hpc : popc m n ≤ 5 := by have := popc_le (m := m) (n := n); omega
  unfold gst
  dsimp only
  rw [if_neg hs, e1]
  dsimp only
  generalize fst1 (fun i => decide (md i = 2) && due n nv A B md i) n = b at *
  obtain ⟨r1, r2, ⟨L', r3, r4⟩, r5⟩ := brk_ok hn hv hA hB e5 5 b m (rai n nv A B md) _ e6 (fun _ => e7) (by
    rcases hb with q | ⟨q1, q2, q3⟩
    · exact Or.inl q
    · refine Or.inr ⟨q1, q2, ?_⟩
      simp at q3
      unfold rai
      rw [if_neg (by omega)]; exact q3.1) (fun q => by
    obtain ⟨q1, q2, q3⟩ := hb.resolve_left (by omega)
    simp at q3
    exact eK ⟨_, q2, q3.1, q3.2⟩) hpc
  refine ⟨r1, fun w => r2 w, rfl, e4, e5, ⟨evs 0 P' Q' (dueL n nv A B md 0) ++ evs 1 P' Q' (dueL n nv A B md 1) ++ L', by rw [r3]; simp only [List.append_assoc], fun e he => ?_⟩, ?_⟩
  · rcases List.mem_append.mp he with q | q
    · rcases List.mem_append.mp q with q | q
      · exact (mem_evs q).2.2
      · exact (mem_evs q).2.2
    · exact r4 e q
  · rcases hb with q | ⟨q1, q2, q3⟩
    · have hc := h.2.1.bd i i1
      have h01 : md i = 0 ∨ md i = 1 := by
        have z := hb' q i i1
        rw [i2] at z
        have : ¬ md i = 2 := by simpa using z
        have : md i ≤ 2 := by
          refine Classical.byContradiction fun w => ?_
          obtain ⟨D, fr, fs, dr, ds, -, -, hS, -⟩ := nx_ex hn hv hA hB h.2.1.bd h.2.2.1
          rw [← due_eq hv hA hB hS e2 e3.2.2.1 rfl i1] at i2
          have i2 := of_decide_eq_true i2
          have : dun md true fr dr i = 0 := by unfold dun; rw [if_neg (by omega), if_neg (by omega), if_neg (by omega)]
          omega
        omega
      have hlen : 1 ≤ (dueL n nv A B md 0).length + (dueL n nv A B md 1).length := by
        rcases h01 with w | w
        · have := sel_pos (p := fun i => decide (md i = 0) && due n nv A B md i) i1 (by simp [w, i2])
          unfold dueL; omega
        · have := sel_pos (p := fun i => decide (md i = 1) && due n nv A B md i) i1 (by simp [w, i2])
          unfold dueL; omega
      rw [r3]
      simp only [List.length_append, evs_len]
      omega
    · have := r5 q1
      simp only [List.length_append, evs_len] at this
      omega
theorem lst_ex (hn : n ≤ 5) (hv : NvOk n nv) (hm : m < 32) : ∃ k, Lst n nv m k := by
  obtain ⟨k, -, h⟩ := least_z (F := 21) (c := fun i => zI (nv i 1)) hn (by omega) hv (fun _ _ => rfl) hm
  exact ⟨k, h⟩
theorem lst0_ok (hn : n ≤ 5) (hv : NvOk n nv) (hm : m < 32) : Lst n nv m (lst0 n nv m) := Classical.epsilon_spec (p := fun k : Int => Lst n nv m k) (lst_ex hn hv hm)
theorem snd0_test (i : Nat) : (snd0 n nv).testBit i = true ↔ i < n ∧ nv i 5 = 0 := by
  unfold snd0; rw [msk_test]; simp
theorem gs0_ok (hn : n ≤ 5) (hv : NvOk n nv) (hA : 0 ≤ A ∧ A ≤ 2) (hB : 0 ≤ B ∧ B ≤ 2) : EOk n nv (gs0 n nv).1 (gs0 n nv).2.2.1 (gs0 n nv).2.2.2.1 (gs0 n nv).2.2.2.2 ∧ (¬ (gs0 n nv).1 = 0 → GOk n nv A B (gs0 n nv) ∧ 0 < (gs0 n nv).2.2.2.2.length) := by
  have h32 : snd0 n nv < 32 := msk_32 _ hn
  have hk := lst0_ok hn hv h32
  unfold gs0
  dsimp only
  generalize lst0 n nv (snd0 n nv) = k at *
  have hmd : Mds n nv (snd0 n nv) (mdS nv (snd0 n nv) k) := by
    refine ⟨fun i hi b => ?_, fun i hi b => ?_⟩
    · unfold mdS; rw [if_pos b]
      by_cases q : nv i 1 = k
      · rw [if_pos q]; omega
      · rw [if_neg q]; omega
    · unfold mdS; rw [if_neg (by rw [b]; decide)]
  have h2 : ∀ i, ¬ mdS nv (snd0 n nv) k i = 2 := fun i => by
    unfold mdS
    by_cases b : (snd0 n nv).testBit i = true
    · rw [if_pos b]
      by_cases q : nv i 1 = k
      · rw [if_pos q]; omega
      · rw [if_neg q]; omega
    · rw [if_neg b]
      by_cases q : nv i 5 = 0
      · rw [if_pos q]; omega
      · rw [if_neg q]; omega
  have hcnt := cnt_mes (p := fun i => decide (mdS nv (snd0 n nv) k i = 1)) (q := fun _ => false) (r := fun _ => false) (md := fun _ => 0) (md' := mdS nv (snd0 n nv) k) (n := n) (fun i hi => by
    unfold c1
    have := hmd.bd i hi
    rw [if_neg (show ¬ false = true by decide)]
    by_cases q : mdS nv (snd0 n nv) k i = 1
    · rw [if_pos (by simp [q])]; omega
    · rw [if_neg (by simp [q])]; omega)
  have h15 := mes3_le (md := fun _ => (0 : Int)) (n := n) (fun _ _ => Int.le_refl 0)
  have hL0 : LOk 0 1 := ⟨by omega, by omega, by omega, by omega, rfl⟩
  have hE0 : EOk n nv (snd0 n nv) 0 1 [] := ⟨hL0, fun i hi => (snd0_test i).mp hi, h32, rfl, by simp, by simp, fun L1 e L2 h => by simp at h⟩
  have hE := hE0.add hL0 (Int.le_refl _) (L' := evs 0 0 1 (sel (fun i => decide (mdS nv (snd0 n nv) k i = 1)) n)) (by rw [evs_len]; show 0 + _ ≤ 15; omega) (fun e he => by
    obtain ⟨a1, a2, a3⟩ := mem_evs he
    exact ⟨Or.inl a1, (mem_sel a2).1, a3⟩)
  rw [List.nil_append] at hE
  refine ⟨hE, fun hne => ?_⟩
  obtain ⟨j, hj⟩ := some_bit hne
  have hj2 := (snd0_test j).mp hj
  obtain ⟨l, l1, l2⟩ : ∃ l, l < n ∧ mdS nv (snd0 n nv) k l = 1 := by
    rcases hk with ⟨-, q⟩ | ⟨⟨l, l1, l2, l3⟩, -⟩
    · rw [q j hj2.1] at hj; cases hj
    · exact ⟨l, l1, by unfold mdS; rw [if_pos l2, if_pos l3.symm]⟩
  refine ⟨⟨⟨hE, hmd, ⟨l, l1, Or.inl l2⟩, fun D fr fs dr ds hS => (start_near hv hA hB hk hS).2, ?_, fun _ => ⟨k, hk, fun _ _ => rfl⟩⟩, fun D fr fs dr ds _ i _ e => absurd e (h2 i)⟩, ?_⟩
  · dsimp only
    rw [evs_len]; omega
  · rw [evs_len]
    have := sel_pos (p := fun i => decide (mdS nv (snd0 n nv) k i = 1)) l1 (by simp [l2])
    omega
theorem gs_ok (hn : n ≤ 5) (hv : NvOk n nv) (hA : 0 ≤ A ∧ A ≤ 2) (hB : 0 ≤ B ∧ B ≤ 2) : ∀ k, EOk n nv (gs n nv A B k).1 (gs n nv A B k).2.2.1 (gs n nv A B k).2.2.2.1 (gs n nv A B k).2.2.2.2 ∧ (¬ (gs n nv A B k).1 = 0 → GOk n nv A B (gs n nv A B k) ∧ k < (gs n nv A B k).2.2.2.2.length) := by
  intro k
  induction k with
  | zero => exact gs0_ok hn hv hA hB
  | succ k ih =>
    obtain ⟨h1, h2⟩ := ih
    show EOk n nv (gst n nv A B (gs n nv A B k)).1 _ _ _ ∧ _
    by_cases q : (gs n nv A B k).1 = 0
    · have e : gst n nv A B (gs n nv A B k) = gs n nv A B k := if_pos q
      have e2 : gs n nv A B (k + 1) = gs n nv A B k := e
      rw [e, e2]
      exact ⟨h1, fun w => absurd q w⟩
    · obtain ⟨g1, g2⟩ := h2 q
      obtain ⟨r1, r2, -, -, -, -, r3⟩ := gst_ok hn hv hA hB g1 q
      exact ⟨r1, fun w => ⟨r2 w, by
        show k + 1 < (gst n nv A B (gs n nv A B k)).2.2.2.2.length
        omega⟩⟩
theorem gs_end (hn : n ≤ 5) (hv : NvOk n nv) (hA : 0 ≤ A ∧ A ≤ 2) (hB : 0 ≤ B ∧ B ≤ 2) : (gs n nv A B 15).1 = 0 := by
  refine Classical.byContradiction fun q => ?_
  obtain ⟨h1, h2⟩ := gs_ok hn hv hA hB 15
  have := (h2 q).2
  have := h1.2.2.2.2.1
  omega
theorem gs_stay {k : Nat} (h : (gs n nv A B k).1 = 0) : ∀ j, gs n nv A B (k + j) = gs n nv A B k := by
  intro j
  induction j with
  | zero => rfl
  | succ j ih =>
    show gst n nv A B (gs n nv A B (k + j)) = _
    rw [ih]
    exact if_pos h
theorem gs_fin (hn : n ≤ 5) (hv : NvOk n nv) (hA : 0 ≤ A ∧ A ≤ 2) (hB : 0 ≤ B ∧ B ≤ 2) {k : Nat} (h : (gs n nv A B k).1 = 0) : gs n nv A B k = gs n nv A B 15 := by
  rcases Nat.le_total k 15 with q | q
  · have := gs_stay h (15 - k)
    rw [show k + (15 - k) = 15 by omega] at this
    exact this.symm
  · have := gs_stay (gs_end hn hv hA hB) (k - 15)
    rw [show 15 + (k - 15) = k by omega] at this
    exact this
end STEPS
