/-! THE NEXT LOAD, who is due, who is the worst: whatever lines tell them -/
section NEXT
variable {n : Nat} {nv : Nat → Nat → Int} {A B : Int} {md md' : Nat → Int} {D D' : Int} {fr fs dr ds fr' fs' dr' ds' : Nat → Int} {P Q P' Q' sO sU : Int} {m : Nat}
theorem dun_sc (hv : NvOk n nv) (hA : 0 ≤ A ∧ A ≤ 2) (hB : 0 ≤ B ∧ B ≤ 2) (br : Bool) (h : Lns n nv A B md D fr fs dr ds) (h' : Lns n nv A B md D' fr' fs' dr' ds') : ∀ i, i < n → dun md br fr' dr' i * D = dun md br fr dr i * D' ∧ dov nv md D' fs' ds' i * D = dov nv md D fs ds i * D' := by
  intro i hi
  obtain ⟨u1, u2, u3, u4⟩ := Sol.unique (geo_nv hv hA hB) (fun i hi => (kW_bd (md := md) hv i hi).1) h h' i hi
  have e : ∀ (t x x' : Int), x' * D = x * D' → (t * D' - x') * D = (t * D - x) * D' := fun t x x' e => by
    rw [Int.sub_mul, Int.sub_mul, e, Int.mul_assoc, Int.mul_assoc, Int.mul_comm D' D]
  unfold dun dov
  by_cases m0 : md i = 0
  · rw [if_pos m0, if_pos m0, if_pos m0, if_pos m0]
    exact ⟨u2, e _ _ _ u4⟩
  · rw [if_neg m0, if_neg m0, if_neg m0, if_neg m0]
    by_cases m1 : md i = 1
    · rw [if_pos m1, if_pos m1, if_pos m1, if_pos m1]
      exact ⟨u1, e _ _ _ u3⟩
    · rw [if_neg m1, if_neg m1, if_neg m1, if_neg m1]
      refine ⟨?_, e _ _ _ u3⟩
      by_cases m2 : md i = 2 ∧ br = true
      · rw [if_pos m2, if_pos m2]; exact u1
      · rw [if_neg m2, if_neg m2, Int.zero_mul, Int.zero_mul]
/-- the next load, as a shortened fraction -/
def Nxt (n : Nat) (nv : Nat → Nat → Int) (A B : Int) (md : Nat → Int) (P Q : Int) : Prop :=
  0 < Q ∧ Int.gcd P Q = 1 ∧ ∀ D fr fs dr ds, Lns n nv A B md D fr fs dr ds → (∀ i, i < n → 0 < dun md true fr dr i → P * dun md true fr dr i ≤ dov nv md D fs ds i * Q) ∧ ∃ i, i < n ∧ 0 < dun md true fr dr i ∧ P * dun md true fr dr i = dov nv md D fs ds i * Q
theorem sc_pos {a a' D D' : Int} (hD : 0 < D) (hD' : 0 < D') (e : a' * D = a * D') : 0 < a ↔ 0 < a' := by
  have := sc_le (t := 0) (Q := 0) hD hD' e
  rw [Int.zero_mul, Int.zero_mul] at this
  omega
theorem sc_nle {a a' b b' D D' P Q : Int} (hD : 0 < D) (hD' : 0 < D') (ea : a' * D = a * D') (eb : b' * D = b * D') : P * a ≤ b * Q ↔ P * a' ≤ b' * Q := by
  have e1 : (P * a' ) * D = (P * a) * D' := by rw [Int.mul_assoc, ea, Int.mul_assoc]
  have e2 : (b' * Q) * D = (b * Q) * D' := by rw [Int.mul_right_comm, eb, Int.mul_right_comm]
  have e3 : (P * a' - b' * Q) * D = (P * a - b * Q) * D' := by rw [Int.sub_mul, Int.sub_mul, e1, e2]
  have := sc_pos hD hD' e3
  omega
theorem sc_neq {a a' b b' D D' P Q : Int} (hD : 0 < D) (hD' : 0 < D') (ea : a' * D = a * D') (eb : b' * D = b * D') : P * a = b * Q ↔ P * a' = b' * Q := by
  have h1 := sc_nle (P := P) (Q := Q) hD hD' ea eb
  have h2 := sc_nle (P := -P) (Q := -Q) hD hD' ea eb
  rw [Int.neg_mul, Int.neg_mul, Int.mul_neg, Int.mul_neg] at h2
  omega
theorem fr_eq {a b sO sU P Q : Int} (hU : 0 < sU) (hQ : 0 < Q) (e : sO * Q = P * sU) : (sO * a ≤ b * sU ↔ P * a ≤ b * Q) ∧ (sO * a = b * sU ↔ P * a = b * Q) := by
  have k1 : ∀ a b : Int, sO * a ≤ b * sU ↔ P * a ≤ b * Q := fun a b => by
    have e1 : sO * a * Q = P * a * sU := by rw [Int.mul_right_comm, e, Int.mul_right_comm]
    have e2 : b * sU * Q = b * Q * sU := Int.mul_right_comm _ _ _
    constructor
    · intro h
      refine Int.le_of_mul_le_mul_right (a := sU) ?_ hU
      have := Int.mul_le_mul_of_nonneg_right h (show 0 ≤ Q by omega)
      omega
    · intro h
      refine Int.le_of_mul_le_mul_right (a := Q) ?_ hQ
      have := Int.mul_le_mul_of_nonneg_right h (show 0 ≤ sU by omega)
      omega
  refine ⟨k1 a b, ?_⟩
  have h1 := k1 a b
  have h2 := k1 (-a) (-b)
  rw [Int.mul_neg, Int.mul_neg, Int.neg_mul, Int.neg_mul] at h2
  omega
theorem nxt_of (hv : NvOk n nv) (hA : 0 ≤ A ∧ A ≤ 2) (hB : 0 ≤ B ∧ B ≤ 2) (hS : Lns n nv A B md D fr fs dr ds) (hU : 0 < sU) (hle : ∀ i, i < n → 0 < dun md true fr dr i → sO * dun md true fr dr i ≤ dov nv md D fs ds i * sU) (hex : ∃ i, i < n ∧ 0 < dun md true fr dr i ∧ sO * dun md true fr dr i = dov nv md D fs ds i * sU) : Nxt n nv A B md (red sO sU).1 (red sO sU).2 := by
  obtain ⟨t, t1, t0, t2, t3, t4, t5, t6, t7, -⟩ := red_ok (o := sO) hU
  have e : sO * (red sO sU).2 = (red sO sU).1 * sU := t7.symm
  refine ⟨t4, t6, fun D' fr' fs' dr' ds' hS' => ⟨fun i hi hp => ?_, ?_⟩⟩
  · obtain ⟨a, b⟩ := dun_sc hv hA hB true hS hS' i hi
    have p := (sc_pos hS.1 hS'.1 a).mpr hp
    exact (sc_nle hS.1 hS'.1 a b).mp ((fr_eq hU t4 e).1.mp (hle i hi p))
  · obtain ⟨i, hi, p, q⟩ := hex
    obtain ⟨a, b⟩ := dun_sc hv hA hB true hS hS' i hi
    exact ⟨i, hi, (sc_pos hS.1 hS'.1 a).mp p, (sc_neq hS.1 hS'.1 a b).mp ((fr_eq hU t4 e).2.mp q)⟩
theorem nxt_le {a b P Q P' Q' : Int} (ha : 0 < a) (hQ' : 0 < Q') (hQ : 0 < Q) (e : P * a = b * Q) (h : P' * a ≤ b * Q') : P' * Q ≤ P * Q' := by
  refine Int.le_of_mul_le_mul_right (a := a) ?_ ha
  have h1 := Int.mul_le_mul_of_nonneg_right h (show 0 ≤ Q by omega)
  have e1 : P' * Q * a = P' * a * Q := Int.mul_right_comm _ _ _
  have e2 : P * Q' * a = P * a * Q' := Int.mul_right_comm _ _ _
  have e3 : b * Q' * Q = b * Q * Q' := Int.mul_right_comm _ _ _
  rw [e1, e2, e]
  omega
theorem Nxt.one (hS : Lns n nv A B md D fr fs dr ds) (h : Nxt n nv A B md P Q) (h' : Nxt n nv A B md P' Q') : P' = P ∧ Q' = Q := by
  obtain ⟨q1, g1, k⟩ := h
  obtain ⟨q2, g2, k'⟩ := h'
  obtain ⟨l1, i, i1, i2, i3⟩ := k _ _ _ _ _ hS
  obtain ⟨l2, j, j1, j2, j3⟩ := k' _ _ _ _ _ hS
  have a := nxt_le i2 q2 q1 i3 (l2 i i1 i2)
  have b := nxt_le j2 q1 q2 j3 (l1 j j1 j2)
  have := cop_eq q2 q1 g2 g1 (by omega)
  exact this
noncomputable def nxt (n : Nat) (nv : Nat → Nat → Int) (A B : Int) (md : Nat → Int) : Int × Int := Classical.epsilon fun p : Int × Int => Nxt n nv A B md p.1 p.2
theorem nxt_eq (hS : Lns n nv A B md D fr fs dr ds) (h : Nxt n nv A B md P Q) : nxt n nv A B md = (P, Q) := by
  have hs : Nxt n nv A B md (nxt n nv A B md).1 (nxt n nv A B md).2 := Classical.epsilon_spec (p := fun p : Int × Int => Nxt n nv A B md p.1 p.2) ⟨(P, Q), h⟩
  have := Nxt.one hS h hs
  exact Prod.ext this.1 this.2
noncomputable def ln (n : Nat) (nv : Nat → Nat → Int) (A B : Int) (md : Nat → Int) : Int × (Nat → Int) × (Nat → Int) × (Nat → Int) × (Nat → Int) := Classical.epsilon fun z : Int × (Nat → Int) × (Nat → Int) × (Nat → Int) × (Nat → Int) => Lns n nv A B md z.1 z.2.1 z.2.2.1 z.2.2.2.1 z.2.2.2.2
theorem ln_ok (h : Lns n nv A B md D fr fs dr ds) : Lns n nv A B md (ln n nv A B md).1 (ln n nv A B md).2.1 (ln n nv A B md).2.2.1 (ln n nv A B md).2.2.2.1 (ln n nv A B md).2.2.2.2 :=
  Classical.epsilon_spec (p := fun z : Int × (Nat → Int) × (Nat → Int) × (Nat → Int) × (Nat → Int) => Lns n nv A B md z.1 z.2.1 z.2.2.1 z.2.2.2.1 z.2.2.2.2) ⟨(D, fr, fs, dr, ds), h⟩
noncomputable def due (n : Nat) (nv : Nat → Nat → Int) (A B : Int) (md : Nat → Int) (i : Nat) : Bool := IsDue nv md true (ln n nv A B md).1 (ln n nv A B md).2.1 (ln n nv A B md).2.2.1 (ln n nv A B md).2.2.2.1 (ln n nv A B md).2.2.2.2 (nxt n nv A B md).1 (nxt n nv A B md).2 i
theorem due_eq (hv : NvOk n nv) (hA : 0 ≤ A ∧ A ≤ 2) (hB : 0 ≤ B ∧ B ≤ 2) (hS : Lns n nv A B md D fr fs dr ds) (hN : Nxt n nv A B md P Q) (hU : 0 < sU) (e : sO * Q = P * sU) {i : Nat} (hi : i < n) : IsDue nv md true D fr fs dr ds sO sU i = due n nv A B md i := by
  have hl := ln_ok hS
  unfold due
  rw [nxt_eq hS hN]
  obtain ⟨a, b⟩ := dun_sc hv hA hB true hS hl i hi
  unfold IsDue
  have p := sc_pos hS.1 hl.1 a
  have q := sc_neq (P := P) (Q := Q) hS.1 hl.1 a b
  have r := (fr_eq (a := dun md true fr dr i) (b := dov nv md D fs ds i) hU hN.1 e).2
  have k : (0 < dun md true fr dr i ∧ dov nv md D fs ds i * sU = sO * dun md true fr dr i) ↔ (0 < dun md true (ln n nv A B md).2.1 (ln n nv A B md).2.2.2.1 i ∧ dov nv md (ln n nv A B md).1 (ln n nv A B md).2.2.1 (ln n nv A B md).2.2.2.2 i * Q = P * dun md true (ln n nv A B md).2.1 (ln n nv A B md).2.2.2.1 i) :=
    ⟨fun w => ⟨p.mp w.1, (q.mp (r.mp w.2.symm)).symm⟩, fun w => ⟨p.mpr w.1, (r.mpr (q.mpr w.2.symm)).symm⟩⟩
  exact decide_eq_decide.mpr k
/-- ways past the next load -/
noncomputable def rai (n : Nat) (nv : Nat → Nat → Int) (A B : Int) (md : Nat → Int) (i : Nat) : Int := if due n nv A B md i = true ∧ md i < 2 then md i + 1 else md i
theorem rai_eq (hv : NvOk n nv) (hA : 0 ≤ A ∧ A ≤ 2) (hB : 0 ≤ B ∧ B ≤ 2) (hS : Lns n nv A B md D fr fs dr ds) (hN : Nxt n nv A B md P Q) (hU : 0 < sU) (e : sO * Q = P * sU) {i : Nat} (hi : i < n) : upW nv md true D fr fs dr ds sO sU i = rai n nv A B md i := by
  unfold upW rai
  rw [due_eq hv hA hB hS hN hU e hi]
noncomputable def stw (n : Nat) (nv : Nat → Nat → Int) (A B : Int) (m : Nat) (P Q : Int) : Nat → Int := Classical.epsilon fun md : Nat → Int => ∃ D fr fs dr ds, At n nv A B m md D fr fs dr ds P Q
theorem stw_at (hv : NvOk n nv) (hA : 0 ≤ A ∧ A ≤ 2) (hB : 0 ≤ B ∧ B ≤ 2) (hP : 0 < P) (hQ : 0 < Q) (h : At n nv A B m md D fr fs dr ds P Q) : (∀ i, i < n → stw n nv A B m P Q i = md i) ∧ At n nv A B m (stw n nv A B m P Q) D fr fs dr ds P Q := by
  obtain ⟨D', fr', fs', dr', ds', h'⟩ : ∃ D fr fs dr ds, At n nv A B m (stw n nv A B m P Q) D fr fs dr ds P Q := Classical.epsilon_spec (p := fun md : Nat → Int => ∃ D fr fs dr ds, At n nv A B m md D fr fs dr ds P Q) ⟨md, D, fr, fs, dr, ds, h⟩
  have e := h.one hv hA hB hP hQ h'
  exact ⟨e, h.congr e⟩
theorem wst_sc {p p' : Nat → Bool} {f f' u : Nat → Int} (hD : 0 < D) (hD' : 0 < D') : ∀ k, k ≤ n → (∀ i, i < n → p' i = p i) → (∀ i, i < n → f' i * D = f i * D') → wst p' f' u k = wst p f u k
  | 0, _, _, _ => rfl
  | k + 1, hk, hp, hf => by
    have ih := wst_sc hD hD' k (by omega) hp hf (u := u)
    have bd := wst_bd p f u k
    simp only [wst]
    rw [ih, hp k (by omega)]
    generalize wst p f u k = b at *
    have key : ¬ b < 0 → (f' b.toNat * u k < f' k * u b.toNat ↔ f b.toNat * u k < f k * u b.toNat) := fun hb => by
      have e1 := hf k (by omega)
      have e2 := hf b.toNat (by omega)
      have e3 : (f' k * u b.toNat - f' b.toNat * u k) * D = (f k * u b.toNat - f b.toNat * u k) * D' := by
        rw [Int.sub_mul, Int.sub_mul, Int.mul_right_comm, e1, Int.mul_right_comm (f' _), e2, Int.mul_right_comm (f k), Int.mul_right_comm (f _) (u k)]
      have := sc_pos hD hD' e3
      omega
    by_cases hb : b < 0
    · simp [hb]
    · simp only [hb, false_or, key hb]
noncomputable def wors (n : Nat) (nv : Nat → Nat → Int) (A B : Int) (md : Nat → Int) (P Q : Int) : Int :=
  wst (fun i => decide (md i = 2 ∧ 0 < (ln n nv A B md).2.1 i * P + (ln n nv A B md).2.2.1 i * Q ∧ nv i 4 * (ln n nv A B md).1 * Q ≤ (ln n nv A B md).2.1 i * P + (ln n nv A B md).2.2.1 i * Q)) (fun i => (ln n nv A B md).2.1 i * P + (ln n nv A B md).2.2.1 i * Q) (fun i => nv i 4) n
theorem lin_sc (hv : NvOk n nv) (hA : 0 ≤ A ∧ A ≤ 2) (hB : 0 ≤ B ∧ B ≤ 2) (h : Lns n nv A B md D fr fs dr ds) (h' : Lns n nv A B md D' fr' fs' dr' ds') (P Q : Int) {i : Nat} (hi : i < n) : (fr' i * P + fs' i * Q) * D = (fr i * P + fs i * Q) * D' ∧ (dr' i * P + ds' i * Q) * D = (dr i * P + ds i * Q) * D' := by
  obtain ⟨u1, u2, u3, u4⟩ := Sol.unique (geo_nv hv hA hB) (fun i hi => (kW_bd (md := md) hv i hi).1) h h' i hi
  refine ⟨?_, ?_⟩
  · rw [Int.add_mul, Int.add_mul, Int.mul_right_comm, u1, Int.mul_right_comm (fs' i), u3, Int.mul_right_comm (fr i), Int.mul_right_comm (fs i)]
  · rw [Int.add_mul, Int.add_mul, Int.mul_right_comm, u2, Int.mul_right_comm (ds' i), u4, Int.mul_right_comm (dr i), Int.mul_right_comm (ds i)]
theorem Near.sc (hv : NvOk n nv) (hA : 0 ≤ A ∧ A ≤ 2) (hB : 0 ≤ B ∧ B ≤ 2) (h : Lns n nv A B md D fr fs dr ds) (h' : Lns n nv A B md D' fr' fs' dr' ds') (hN : Near n nv md D fr fs dr ds P Q) : Near n nv md D' fr' fs' dr' ds' P Q := fun i hi => by
  obtain ⟨a, b⟩ := lin_sc hv hA hB h h' P Q hi
  obtain ⟨n0, n1, n2⟩ := hN i hi
  have z := sc_ge (t := 0) (Q := Q) h.1 h'.1 a
  rw [Int.zero_mul, Int.zero_mul] at z
  exact ⟨fun e => (sc_le h.1 h'.1 b).mp (n0 e), fun e => ⟨z.mp (n1 e).1, (sc_le h.1 h'.1 a).mp (n1 e).2⟩, fun e => (sc_ge h.1 h'.1 a).mp (n2 e)⟩
theorem wors_eq (hv : NvOk n nv) (hA : 0 ≤ A ∧ A ≤ 2) (hB : 0 ≤ B ∧ B ≤ 2) (hS : Lns n nv A B md D fr fs dr ds) (P Q : Int) : wst (fun i => decide (md i = 2 ∧ 0 < fr i * P + fs i * Q ∧ nv i 4 * D * Q ≤ fr i * P + fs i * Q)) (fun i => fr i * P + fs i * Q) (fun i => nv i 4) n = wors n nv A B md P Q := by
  have hl := ln_ok hS
  refine wst_sc (n := n) hl.1 hS.1 n (Nat.le_refl _) (fun i hi => ?_) (fun i hi => (lin_sc hv hA hB hl hS P Q hi).1)
  have e := (lin_sc hv hA hB hl hS P Q hi).1
  have p := sc_pos hl.1 hS.1 e
  have q := sc_ge (t := nv i 4) (Q := Q) hl.1 hS.1 e
  rw [← Int.mul_assoc, ← Int.mul_assoc] at q
  exact decide_eq_decide.mpr ⟨fun w => ⟨w.1, p.mpr w.2.1, q.mpr w.2.2⟩, fun w => ⟨w.1, p.mp w.2.1, q.mp w.2.2⟩⟩
/-! there are such ones -/
theorem jok_self (n : Nat) (nv : Nat → Nat → Int) : JOk n nv (fun i => zI (nv i 0)) (fun i => zI (nv i 1)) (fun i => zI (nv i 2)) (fun i => zI (nv i 3)) (fun i => zI (nv i 4)) (fun i => zI (nv i 6)) := ⟨fun _ _ => rfl, fun _ _ => rfl, fun _ _ => rfl, fun _ _ => rfl, fun _ _ => rfl, fun _ _ => rfl⟩
theorem at_ex (hn : n ≤ 5) (hv : NvOk n nv) (hA : 0 ≤ A ∧ A ≤ 2) (hB : 0 ≤ B ∧ B ≤ 2) (hm : m < 32) (hm1 : ∃ i, i < n ∧ m.testBit i = true) (hP : 0 ≤ P) (hP2 : P ≤ 40000000000) (hQ : 0 < Q) (hQ2 : Q ≤ 40000000000) : ∃ (md : Nat → Int) (D : Int) (fr fs dr ds : Nat → Int), At n nv A B m md D fr fs dr ds P Q := by
  have h := settle_z (F := 21) (o := fun i => zI (nv i 5)) hn (by omega) hv hA hB (jok_self n nv) (fun _ _ => rfl) hm hm1 hP hP2 hQ hQ2 (fun _ => 0) (fun _ => 0) (fun _ => 0) 0 0 (fun _ => 0) (fun _ => 0) (fun _ => 0) (fun _ => 0) (fun _ => 0) (fun _ => 0) 0 (fun _ => 0) (fun _ => 0) (fun _ => 0) (fun _ => 0) 0 0
  obtain ⟨way', dO, dU, sO', sU', st, re, fr', fs', dr', ds', un, bf, bl, ba, sc, fR, fS, md, D, fr, fs, dr, ds, -, h, -⟩ := h
  exact ⟨md, D, fr, fs, dr, ds, h⟩
theorem nx_ex (hn : n ≤ 5) (hv : NvOk n nv) (hA : 0 ≤ A ∧ A ≤ 2) (hB : 0 ≤ B ∧ B ≤ 2) (hmd : ∀ i, i < n → 0 ≤ md i ∧ md i ≤ 4) (hs : ∃ i, i < n ∧ (md i = 1 ∨ md i = 2)) :
    ∃ (D : Int) (fr fs dr ds : Nat → Int) (sO sU : Int), Lns n nv A B md D fr fs dr ds ∧ D ≤ 299269 ∧ 0 < sU ∧ sU ≤ 25 * 299269 ∧ -(400 * 299269) ≤ sO ∧ sO ≤ 400 * 299269 ∧ Nxt n nv A B md (red sO sU).1 (red sO sU).2 := by
  have h := seek_z (F := 21) (way := fun i => zI (md i)) hn (by omega) hv hA hB (jok_self n nv) (fun i hi => ⟨rfl, hmd i hi⟩) true hs (fun _ => 0) (fun _ => 0) 0 0 (fun _ => 0) (fun _ => 0) (fun _ => 0) (fun _ => 0) (fun _ => 0) (fun _ => 0) 0 (fun _ => 0) (fun _ => 0) (fun _ => 0) (fun _ => 0) 0 0
  obtain ⟨D, fr, fs, dr, ds, sO, sU, dO, dU, sO', st, re, fr', fs', dr', ds', bf, bl, ba, sc, fR, fS, -, hS, hD2, -, -, -, -, -, hd, hsU, hsO⟩ := h
  obtain ⟨i, hi, hi2⟩ := hs
  have hp : 0 < dun md true fr dr i := by
    have := Sol.fpos (geo_nv hv hA hB) (fun i hi => (kW_bd (md := md) hv i hi).1) hS i hi ((kW_pos hv hi).mpr hi2)
    unfold dun
    rcases hi2 with e | e
    · rw [if_neg (by omega), if_pos e]; exact this
    · rw [if_neg (by omega), if_neg (by omega), if_pos ⟨e, rfl⟩]; exact this
  have h0 : 0 < sU := by
    have a := hd.2.1
    refine Classical.byContradiction fun q => ?_
    have := hd.2.2.1 (by omega) i hi
    omega
  obtain ⟨⟨j, j1, j2, j3, j4⟩, hle⟩ := hd.2.2.2 h0
  exact ⟨D, fr, fs, dr, ds, sO, sU, hS, hD2, h0, hsU, (hsO h0).1, (hsO h0).2, nxt_of hv hA hB hS h0 hle ⟨j, j1, j2, by rw [j3, j4]⟩⟩
end NEXT
