/-! ONE STATE: lines of one set of ways, states of one set of bolts, at one load -/
abbrev Lns (n : Nat) (nv : Nat → Nat → Int) (A B : Int) (md : Nat → Int) (D : Int) (fr fs dr ds : Nat → Int) : Prop := Sol n (fun i => nv i 6) A B (kW nv md) (rW nv md) D fr fs dr ds
theorem sc_le {f f' D D' t Q : Int} (hD : 0 < D) (hD' : 0 < D') (e : f' * D = f * D') : f ≤ t * (D * Q) ↔ f' ≤ t * (D' * Q) := by
  have e1 : t * (D * Q) * D' = t * (D' * Q) * D := by ac_rfl
  constructor
  · intro h
    refine Int.le_of_mul_le_mul_right ?_ hD
    have := Int.mul_le_mul_of_nonneg_right h (show 0 ≤ D' by omega)
    omega
  · intro h
    refine Int.le_of_mul_le_mul_right ?_ hD'
    have := Int.mul_le_mul_of_nonneg_right h (show 0 ≤ D by omega)
    omega
theorem sc_ge {f f' D D' t Q : Int} (hD : 0 < D) (hD' : 0 < D') (e : f' * D = f * D') : t * (D * Q) ≤ f ↔ t * (D' * Q) ≤ f' := by
  have e1 : t * (D * Q) * D' = t * (D' * Q) * D := by ac_rfl
  constructor
  · intro h
    refine Int.le_of_mul_le_mul_right ?_ hD
    have := Int.mul_le_mul_of_nonneg_right h (show 0 ≤ D' by omega)
    omega
  · intro h
    refine Int.le_of_mul_le_mul_right ?_ hD'
    have := Int.mul_le_mul_of_nonneg_right h (show 0 ≤ D by omega)
    omega
section SAME
variable {n : Nat} {nv : Nat → Nat → Int} {A B : Int} {md md' : Nat → Int} {D D' : Int} {fr fs dr ds fr' fs' dr' ds' : Nat → Int} {P Q : Int} {E E' N : Int} {f d f' d' : Nat → Int} {live live' : Nat → Prop} {m m' : Nat}
theorem Stt.scale {t : Int} (ht : 0 < t) (h : Stt n nv A B live E N f d) : Stt n nv A B live (E * t) (N * t) (fun i => f i * t) (fun i => d i * t) := by
  obtain ⟨hE, ⟨h1, h2⟩, h3, h4⟩ := h
  refine ⟨Int.mul_pos hE ht, ⟨by rw [sm_mul, h1], fun i hi => ?_⟩, fun i hi hl => ?_, fun i hi hl => by dsimp only; rw [h4 i hi hl, Int.zero_mul]⟩
  · dsimp only
    rw [h2 i hi, sm_mul]
    grind
  · dsimp only
    have ht0 : 0 ≤ t := by omega
    rcases h3 i hi hl with ⟨a, b⟩ | ⟨a, b, c⟩ | ⟨a, b⟩
    · left
      refine ⟨?_, by rw [b, Int.zero_mul]⟩
      have := Int.mul_le_mul_of_nonneg_right a ht0
      rwa [Int.mul_assoc] at this
    · right; left
      refine ⟨Int.mul_pos a ht, ?_, by rw [c]; grind⟩
      have := Int.mul_le_mul_of_nonneg_right b ht0
      rwa [Int.mul_assoc] at this
    · right; right
      refine ⟨?_, by rw [b]; grind⟩
      have := Int.mul_lt_mul_of_pos_right a ht
      rwa [Int.mul_assoc] at this
theorem Stt.to (h : Stt n nv A B live E N f d) (hl : ∀ i, i < n → (live i ↔ live' i)) : Stt n nv A B live' E N f d :=
  ⟨h.1, h.2.1, fun i hi q => h.2.2.1 i hi ((hl i hi).mpr q), fun i hi q => h.2.2.2 i hi (fun w => q ((hl i hi).mp w))⟩
theorem Lst.unique {k k' : Int} (h : Lst n nv m k) (h' : Lst n nv m k') : k = k' := by
  rcases h with ⟨a, b⟩ | ⟨⟨j, j1, j2, j3⟩, b⟩ <;> rcases h' with ⟨c, e⟩ | ⟨⟨l, l1, l2, l3⟩, e⟩
  · omega
  · rw [b l l1] at l2; cases l2
  · rw [e j j1] at j2; cases j2
  · have := b l l1 l2
    have := e j j1 j2
    omega
/-- the state of the bolts told by bits at a load: forces f, slips d in parts of E -/
def SAt (n : Nat) (nv : Nat → Nat → Int) (A B : Int) (m : Nat) (P Q E : Int) (f d : Nat → Int) : Prop :=
  (∃ N, N * Q = P * E ∧ Stt n nv A B (fun i => m.testBit i = true) E N f d) ∧ (P = 0 → ∃ k, Lst n nv m k ∧ ∀ i, i < n → f i = 0 ∧ d i = k * E)
theorem SAt.unique (hv : NvOk n nv) (hA : 0 ≤ A ∧ A ≤ 2) (hB : 0 ≤ B ∧ B ≤ 2) (hP : 0 ≤ P) (hQ : 0 < Q) (h : SAt n nv A B m P Q E f d) (h' : SAt n nv A B m P Q E' f' d') : ∀ i, i < n → f' i * E = f i * E' ∧ d' i * E = d i * E' := by
  obtain ⟨⟨N, hN, hS⟩, h0⟩ := h
  obtain ⟨⟨N', hN', hS'⟩, h0'⟩ := h'
  intro i hi
  by_cases q : P = 0
  · obtain ⟨k, k1, k2⟩ := h0 q
    obtain ⟨k', k1', k2'⟩ := h0' q
    obtain ⟨a, b⟩ := k2 i hi
    obtain ⟨c, e⟩ := k2' i hi
    rw [a, b, c, e, k1.unique k1']
    exact ⟨by rw [Int.zero_mul, Int.zero_mul], by ac_rfl⟩
  · have hE := hS.1
    have hE' := hS'.1
    have hNp : 0 < N := by
      refine Int.not_le.mp fun hle => ?_
      have a := Int.mul_nonneg (show 0 ≤ -N by omega) (show 0 ≤ Q by omega)
      have b := Int.mul_pos (show 0 < P by omega) hE
      rw [Int.neg_mul] at a
      omega
    have eN : N * E' = N' * E := by
      refine Int.eq_of_mul_eq_mul_right (show Q ≠ 0 by omega) ?_
      have a : N * E' * Q = N * Q * E' := by ac_rfl
      have b : N' * E * Q = N' * Q * E := by ac_rfl
      rw [a, b, hN, hN']; ac_rfl
    have s1 := hS.scale hE'
    have s2 := hS'.scale hE
    rw [Int.mul_comm E' E, ← eN] at s2
    exact s1.unique hv hA hB s2 (Int.mul_pos hNp hE') i hi
theorem SAt.broken (hv : NvOk n nv) (hA : 0 ≤ A ∧ A ≤ 2) (hB : 0 ≤ B ∧ B ≤ 2) (hQ : 0 < Q) (h : SAt n nv A B m P Q E f d) (h' : SAt n nv A B m' P Q E' f' d') (hsub : ∀ i, m'.testBit i = true → m.testBit i = true) (b : Nat) (hb : b < n) (hbo : m'.testBit b = false) (hfb : 0 < f b) : ∀ i, i < n → d i * E' < d' i * E := by
  obtain ⟨⟨N, hN, hS⟩, h0⟩ := h
  obtain ⟨⟨N', hN', hS'⟩, h0'⟩ := h'
  have hE := hS.1
  have hE' := hS'.1
  have eN : N * E' = N' * E := by
    refine Int.eq_of_mul_eq_mul_right (show Q ≠ 0 by omega) ?_
    have a : N * E' * Q = N * Q * E' := by ac_rfl
    have b : N' * E * Q = N' * Q * E := by ac_rfl
    rw [a, b, hN, hN']; ac_rfl
  have s1 := hS.scale hE'
  have s2 := hS'.scale hE
  rw [Int.mul_comm E' E, ← eN] at s2
  exact s1.broken hv hA hB s2 hsub b hb (by rw [hbo]; decide) (Int.mul_pos hfb hE')
theorem kW_congr {i : Nat} (e : md' i = md i) : kW nv md' i = kW nv md i := by unfold kW; rw [e]
theorem rW_congr {i : Nat} (e : md' i = md i) : rW nv md' i = rW nv md i := by unfold rW; rw [e]
theorem Lns.congr (h : Lns n nv A B md D fr fs dr ds) (e : ∀ i, i < n → md' i = md i) : Lns n nv A B md' D fr fs dr ds :=
  ⟨h.1, fun i hi q => h.2.1 i hi (by rw [← kW_congr (e i hi)]; exact q), fun i hi q => by rw [kW_congr (e i hi), rW_congr (e i hi)]; exact h.2.2.1 i hi (by rw [← kW_congr (e i hi)]; exact q), h.2.2.2⟩
theorem Near.congr (h : Near n nv md D fr fs dr ds P Q) (e : ∀ i, i < n → md' i = md i) : Near n nv md' D fr fs dr ds P Q := fun i hi => by rw [e i hi]; exact h i hi
theorem Strict.congr (h : Strict n nv md D fr fs dr ds P Q) (e : ∀ i, i < n → md' i = md i) : Strict n nv md' D fr fs dr ds P Q := fun i hi => by rw [e i hi]; exact h i hi
theorem At.congr (h : At n nv A B m md D fr fs dr ds P Q) (e : ∀ i, i < n → md' i = md i) : At n nv A B m md' D fr fs dr ds P Q := by
  obtain ⟨h1, h2, h3, h4, h5, h6, h7⟩ := h
  exact ⟨Lns.congr h1 e, h2, fun i hi q => by rw [e i hi]; exact h3 i hi q, fun i hi q => by rw [e i hi]; exact h4 i hi q, h5.congr e, fun q => (h6 q).congr e, fun q => by
    obtain ⟨k, k1, k2⟩ := h7 q
    exact ⟨k, k1, fun i hi => by rw [e i hi]; exact k2 i hi⟩⟩
/-- ways fit to the bits of those that are left -/
def Mds (n : Nat) (nv : Nat → Nat → Int) (m : Nat) (md : Nat → Int) : Prop := (∀ i, i < n → m.testBit i = true → 0 ≤ md i ∧ md i ≤ 2) ∧ ∀ i, i < n → m.testBit i = false → md i = if nv i 5 = 0 then 3 else 4
theorem Mds.bd (h : Mds n nv m md) : ∀ i, i < n → 0 ≤ md i ∧ md i ≤ 4 := fun i hi => by
  cases b : m.testBit i with
  | true => have := h.1 i hi b; omega
  | false =>
    have := h.2 i hi b
    by_cases q : nv i 5 = 0
    · rw [if_pos q] at this; omega
    · rw [if_neg q] at this; omega
theorem Mds.lv (h : Mds n nv m md) : ∀ i, i < n → (liv md i ↔ m.testBit i = true) := fun i hi => by
  unfold liv
  cases b : m.testBit i with
  | true => have := h.1 i hi b; simp; omega
  | false =>
    have := h.2 i hi b
    by_cases q : nv i 5 = 0
    · rw [if_pos q] at this; simp; omega
    · rw [if_neg q] at this; simp; omega
theorem Mds.test (h : Mds n nv m md) {i : Nat} (hi : i < n) (q : md i ≤ 2) : m.testBit i = true := ((h.lv i hi).mp ⟨(h.bd i hi).1, q⟩)
theorem Near.sat (hv : NvOk n nv) (hm : Mds n nv m md) (hS : Lns n nv A B md D fr fs dr ds) (hQ : 0 < Q) (h : Near n nv md D fr fs dr ds P Q) (h0 : P = 0 → ∃ k, Lst n nv m k ∧ ∀ i, i < n → fr i * P + fs i * Q = 0 ∧ dr i * P + ds i * Q = k * (D * Q)) :
    SAt n nv A B m P Q (D * Q) (fun i => fr i * P + fs i * Q) (fun i => dr i * P + ds i * Q) :=
  ⟨⟨D * P, by ac_rfl, (Near.stt hv (fun i hi => (hm.bd i hi).1) hS hQ h).to hm.lv⟩, h0⟩
theorem At.sat (hv : NvOk n nv) (hA : 0 ≤ A ∧ A ≤ 2) (hB : 0 ≤ B ∧ B ≤ 2) (hQ : 0 < Q) (h : At n nv A B m md D fr fs dr ds P Q) : SAt n nv A B m P Q (D * Q) (fun i => fr i * P + fs i * Q) (fun i => dr i * P + ds i * Q) := by
  obtain ⟨h1, h2, h3, h4, h5, h6, h7⟩ := h
  refine h5.sat hv ⟨h3, h4⟩ h1 hQ fun q => ?_
  obtain ⟨k, k1, k2⟩ := h7 q
  have := (start_near hv hA hB k1 (Lns.congr h1 (fun i hi => (k2 i hi).symm))).1
  exact ⟨k, k1, fun i hi => by rw [q, (this i hi).1, (this i hi).2]; exact ⟨by rw [Int.mul_zero, Int.zero_mul]; rfl, by rw [Int.mul_zero, Int.zero_add, Int.mul_assoc]⟩⟩
theorem mul_can {a b c e : Int} (hc : 0 < c) (h : a * (b * c) = e) {x y : Int} (h2 : e = x * (y * c)) : a * b = x * y := by
  refine Int.eq_of_mul_eq_mul_right (show c ≠ 0 by omega) ?_
  rw [Int.mul_assoc, Int.mul_assoc, h, h2]
/-- strict ways are one -/
theorem At.one (hv : NvOk n nv) (hA : 0 ≤ A ∧ A ≤ 2) (hB : 0 ≤ B ∧ B ≤ 2) (hP : 0 < P) (hQ : 0 < Q) (h : At n nv A B m md D fr fs dr ds P Q) (h' : At n nv A B m md' D' fr' fs' dr' ds' P Q) : ∀ i, i < n → md' i = md i := by
  intro i hi
  have u := (h.sat hv hA hB hQ).unique hv hA hB (by omega) hQ (h'.sat hv hA hB hQ) i hi
  have uf := mul_can hQ u.1 rfl
  obtain ⟨a1, -, a3, a4, -, a6, -⟩ := h
  obtain ⟨b1, -, b3, b4, -, b6, -⟩ := h'
  have hD := a1.1
  have hD' := b1.1
  cases b : m.testBit i with
  | false => rw [a4 i hi b, b4 i hi b]
  | true =>
    have c1 := a3 i hi b
    have c2 := b3 i hi b
    obtain ⟨s0, s1, s2⟩ := a6 hP i hi
    obtain ⟨t0, t1, t2⟩ := b6 hP i hi
    have z0 : md i = 0 → fr i * P + fs i * Q = 0 := fun e => by
      have := a1.2.1 i hi (by unfold kW; rw [if_neg (by omega), if_neg (by omega)])
      rw [this.1, this.2]; simp
    have z0' : md' i = 0 → fr' i * P + fs' i * Q = 0 := fun e => by
      have := b1.2.1 i hi (by unfold kW; rw [if_neg (by omega), if_neg (by omega)])
      rw [this.1, this.2]; simp
    have l0 := sc_le (t := 0) (Q := Q) hD hD' uf
    rw [Int.zero_mul, Int.zero_mul] at l0
    have ly := sc_le (t := nv i 2) (Q := Q) hD hD' uf
    have v := hv i hi
    have y1 := Int.mul_pos (show 0 < nv i 2 by omega) (Int.mul_pos hD hQ)
    have y2 := Int.mul_pos (show 0 < nv i 2 by omega) (Int.mul_pos hD' hQ)
    have cs : md i = 0 ∨ md i = 1 ∨ md i = 2 := by omega
    have cs' : md' i = 0 ∨ md' i = 1 ∨ md' i = 2 := by omega
    rcases cs with e | e | e <;> rcases cs' with e' | e' | e'
    · omega
    · have := z0 e; have := t1 e'; omega
    · have := z0 e; have := t2 e'; omega
    · have := z0' e'; have := s1 e; omega
    · omega
    · have := s1 e; have := t2 e'; omega
    · have := z0' e'; have := s2 e; omega
    · have := s2 e; have := t1 e'; omega
    · omega
/-- who is left bears no less when another one breaks: ways never fall -/
theorem At.rises (hv : NvOk n nv) (hA : 0 ≤ A ∧ A ≤ 2) (hB : 0 ≤ B ∧ B ≤ 2) (hP : 0 < P) (hQ : 0 < Q) (hm : Mds n nv m md) (hS : Lns n nv A B md D fr fs dr ds) (h : Near n nv md D fr fs dr ds P Q) (h' : At n nv A B m' md' D' fr' fs' dr' ds' P Q) (hsub : ∀ i, m'.testBit i = true → m.testBit i = true) (b : Nat) (hb : b < n) (hbo : m'.testBit b = false) (hfb : 0 < fr b * P + fs b * Q) : ∀ i, i < n → m'.testBit i = true → md i ≤ md' i := by
  intro i hi ti
  have u := (h.sat hv hm hS hQ (fun e => by omega)).broken hv hA hB hQ (h'.sat hv hA hB hQ) hsub b hb hbo hfb i hi
  have uf : (dr i * P + ds i * Q) * D' < (dr' i * P + ds' i * Q) * D := by
    refine Int.lt_of_mul_lt_mul_right (a := Q) ?_ (by omega)
    rw [Int.mul_assoc, Int.mul_assoc]; exact u
  obtain ⟨b1, -, b3, b4, -, b6, -⟩ := h'
  have hD := hS.1
  have hD' := b1.1
  obtain ⟨s0, s1, s2⟩ := h i hi
  obtain ⟨t0, t1, t2⟩ := b6 hP i hi
  have c1 := hm.1 i hi (hsub i ti)
  have c2 := b3 i hi ti
  have v := hv i hi
  -- a bound t that d keeps from below is passed by d'
  have up : ∀ t : Int, t * (D * Q) ≤ dr i * P + ds i * Q → t * (D' * Q) < dr' i * P + ds' i * Q := fun t ht => by
    refine Int.lt_of_mul_lt_mul_right (a := D) ?_ (by omega)
    have a := Int.mul_le_mul_of_nonneg_right ht (show 0 ≤ D' by omega)
    have e : t * (D * Q) * D' = t * (D' * Q) * D := by ac_rfl
    omega
  have line1 : md i = 1 → dr i * P + ds i * Q = nv i 0 * (fr i * P + fs i * Q) + nv i 1 * (D * Q) := fun e => by
    have ek : kW nv md i = nv i 0 := if_pos e
    have er : rW nv md i = nv i 1 := if_neg (by omega)
    have l := hS.2.2.1 i hi (by rw [ek]; omega)
    rw [l.1, l.2, ek, er]; grind
  have line2 : md i = 2 → dr i * P + ds i * Q = nv i 3 * (fr i * P + fs i * Q) + (nv i 1 + (nv i 0 - nv i 3) * nv i 2) * (D * Q) := fun e => by
    have ek : kW nv md i = nv i 3 := by unfold kW; rw [if_neg (by omega), if_pos e]
    have er : rW nv md i = nv i 1 + (nv i 0 - nv i 3) * nv i 2 := if_pos e
    have l := hS.2.2.1 i hi (by rw [ek]; omega)
    rw [l.1, l.2, ek, er]; grind
  have line1' : md' i = 1 → dr' i * P + ds' i * Q = nv i 0 * (fr' i * P + fs' i * Q) + nv i 1 * (D' * Q) := fun e => by
    have ek : kW nv md' i = nv i 0 := if_pos e
    have er : rW nv md' i = nv i 1 := if_neg (by omega)
    have l := b1.2.2.1 i hi (by rw [ek]; omega)
    rw [l.1, l.2, ek, er]; grind
  by_cases e0 : md i = 0
  · omega
  by_cases e1 : md i = 1
  · have a := Int.mul_nonneg (show 0 ≤ nv i 0 by omega) (s1 e1).1
    have l := line1 e1
    have p := up (nv i 1) (by omega)
    refine Int.not_lt.mp fun q => ?_
    have := t0 (by omega)
    omega
  · have e2 : md i = 2 := by omega
    have a := Int.mul_le_mul_of_nonneg_left (s2 e2) (show 0 ≤ nv i 3 by omega)
    have l := line2 e2
    have p := up (nv i 1 + nv i 0 * nv i 2) (by
      have : (nv i 1 + nv i 0 * nv i 2) * (D * Q) = nv i 3 * (nv i 2 * (D * Q)) + (nv i 1 + (nv i 0 - nv i 3) * nv i 2) * (D * Q) := by grind
      omega)
    have yp := Int.mul_nonneg (show 0 ≤ nv i 0 by omega) (Int.mul_nonneg (show 0 ≤ nv i 2 by omega) (show 0 ≤ D' * Q from Int.le_of_lt (Int.mul_pos hD' hQ)))
    have ep : (nv i 1 + nv i 0 * nv i 2) * (D' * Q) = nv i 1 * (D' * Q) + nv i 0 * (nv i 2 * (D' * Q)) := by rw [Int.add_mul, Int.mul_assoc (nv i 0)]
    refine Int.not_lt.mp fun q => ?_
    have cs : md' i = 0 ∨ md' i = 1 := by omega
    rcases cs with q0 | q1
    · have := t0 q0; omega
    · have l' := line1' q1
      have g' := Int.mul_le_mul_of_nonneg_left (t1 q1).2 (show 0 ≤ nv i 0 by omega)
      omega
end SAME
