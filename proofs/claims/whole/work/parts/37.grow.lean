/-! GROWTH: from a load to the next one -/
theorem go_ge {a b t P Q x y : Int} (hQ : 0 < Q) (hy : 0 < y) (ha : 0 ≤ a) (hl : P * y ≤ x * Q) (h : t * Q ≤ a * P + b * Q) : t * y ≤ a * x + b * y := by
  have e1 : t * Q * y ≤ (a * P + b * Q) * y := Int.mul_le_mul_of_nonneg_right h (by omega)
  have e2 : a * (P * y) ≤ a * (x * Q) := Int.mul_le_mul_of_nonneg_left hl ha
  refine Int.le_of_mul_le_mul_right ?_ hQ
  have e3 : (a * x + b * y) * Q = a * (x * Q) + b * Q * y := by rw [Int.add_mul, Int.mul_assoc, Int.mul_right_comm b]
  have e4 : (a * P + b * Q) * y = a * (P * y) + b * Q * y := by rw [Int.add_mul, Int.mul_assoc]
  rw [e3, Int.mul_right_comm t]
  omega
theorem go_gt {a b t P Q x y : Int} (hQ : 0 < Q) (hy : 0 < y) (ha : 0 < a) (hl : P * y < x * Q) (h : t * Q ≤ a * P + b * Q) : t * y < a * x + b * y := by
  have e1 : t * Q * y ≤ (a * P + b * Q) * y := Int.mul_le_mul_of_nonneg_right h (by omega)
  have e2 : a * (P * y) < a * (x * Q) := Int.mul_lt_mul_of_pos_left hl ha
  refine Int.lt_of_mul_lt_mul_right (a := Q) ?_ (by omega)
  have e3 : (a * x + b * y) * Q = a * (x * Q) + b * Q * y := by rw [Int.add_mul, Int.mul_assoc, Int.mul_right_comm b]
  have e4 : (a * P + b * Q) * y = a * (P * y) + b * Q * y := by rw [Int.add_mul, Int.mul_assoc]
  rw [e3, Int.mul_right_comm t]
  omega
theorem swap3 (t D D' y : Int) : t * (D' * y) * D = t * (D * y) * D' := by ac_rfl
section GROW
variable {n : Nat} {nv : Nat → Nat → Int} {A B : Int} {md md' : Nat → Int} {D D' : Int} {fr fs dr ds fr' fs' dr' ds' : Nat → Int} {P Q x y : Int}
def Strict (n : Nat) (nv : Nat → Nat → Int) (md : Nat → Int) (D : Int) (fr fs dr ds : Nat → Int) (P Q : Int) : Prop := ∀ i, i < n →
  (md i = 0 → dr i * P + ds i * Q ≤ nv i 1 * (D * Q)) ∧ (md i = 1 → 0 < fr i * P + fs i * Q ∧ fr i * P + fs i * Q ≤ nv i 2 * (D * Q)) ∧ (md i = 2 → nv i 2 * (D * Q) < fr i * P + fs i * Q)
theorem Strict.near (h : Strict n nv md D fr fs dr ds P Q) : Near n nv md D fr fs dr ds P Q := fun i hi => by
  obtain ⟨h0, h1, h2⟩ := h i hi
  exact ⟨h0, fun e => by have := h1 e; omega, fun e => by have := h2 e; omega⟩
/-- nothing is due before a load -/
def Till (n : Nat) (nv : Nat → Nat → Int) (md : Nat → Int) (D : Int) (fr fs dr ds : Nat → Int) (x y : Int) : Prop := ∀ i, i < n → 0 < dun md false fr dr i → x * dun md false fr dr i ≤ dov nv md D fs ds i * y
theorem till_iff {a b c D x y : Int} : x * a ≤ (c * D - b) * y ↔ a * x + b * y ≤ c * (D * y) := by
  rw [Int.sub_mul, Int.mul_assoc, Int.mul_comm x a]; omega
theorem till_eq {a b c D x y : Int} : (c * D - b) * y = x * a ↔ a * x + b * y = c * (D * y) := by
  rw [Int.sub_mul, Int.mul_assoc, Int.mul_comm x a]; omega
theorem Near.go (hv : NvOk n nv) (hA : 0 ≤ A ∧ A ≤ 2) (hB : 0 ≤ B ∧ B ≤ 2) (hS : Sol n (fun i => nv i 6) A B (kW nv md) (rW nv md) D fr fs dr ds) (hQ : 0 < Q) (hy : 0 < y) (h : Near n nv md D fr fs dr ds P Q) (hl : P * y ≤ x * Q) (ht : Till n nv md D fr fs dr ds x y) :
    Near n nv md D fr fs dr ds x y ∧ (P * y < x * Q → Strict n nv md D fr fs dr ds x y) := by
  have hG := geo_nv hv hA hB
  have hk := fun i hi => (kW_bd (md := md) hv i hi).1
  have one : ∀ i, i < n → (md i = 0 → dr i * x + ds i * y ≤ nv i 1 * (D * y)) ∧ (md i = 1 → 0 ≤ fr i * x + fs i * y ∧ fr i * x + fs i * y ≤ nv i 2 * (D * y) ∧ (P * y < x * Q → 0 < fr i * x + fs i * y)) ∧ (md i = 2 → nv i 2 * (D * y) ≤ fr i * x + fs i * y ∧ (P * y < x * Q → nv i 2 * (D * y) < fr i * x + fs i * y)) := by
    intro i hi
    obtain ⟨h0, h1, h2⟩ := h i hi
    have t := ht i hi
    refine ⟨fun e => ?_, fun e => ?_, fun e => ?_⟩
    · have e1 : dun md false fr dr i = dr i := if_pos e
      have e2 : dov nv md D fs ds i = nv i 1 * D - ds i := if_pos e
      rw [e1, e2] at t
      exact till_iff.mp (t (hS.pos hG hk i hi))
    · have hf := hS.fpos hG hk i hi ((kW_pos hv hi).mpr (Or.inl e))
      have e1 : dun md false fr dr i = fr i := by unfold dun; rw [if_neg (by omega), if_pos e]
      have e2 : dov nv md D fs ds i = nv i 2 * D - fs i := by unfold dov; rw [if_neg (by omega), if_pos e]
      rw [e1, e2] at t
      have hlo : 0 * Q ≤ fr i * P + fs i * Q := by rw [Int.zero_mul]; exact (h1 e).1
      refine ⟨?_, till_iff.mp (t hf), fun hlt => ?_⟩
      · have := go_ge hQ hy (by omega) hl hlo
        rwa [Int.zero_mul] at this
      · have := go_gt hQ hy hf hlt hlo
        rwa [Int.zero_mul] at this
    · have hf := hS.fpos hG hk i hi ((kW_pos hv hi).mpr (Or.inr e))
      have hlo : nv i 2 * D * Q ≤ fr i * P + fs i * Q := by rw [Int.mul_assoc]; exact h2 e
      refine ⟨?_, fun hlt => ?_⟩
      · have := go_ge hQ hy (by omega) hl hlo
        rwa [Int.mul_assoc] at this
      · have := go_gt hQ hy hf hlt hlo
        rwa [Int.mul_assoc] at this
  exact ⟨fun i hi => ⟨(one i hi).1, fun e => ⟨((one i hi).2.1 e).1, ((one i hi).2.1 e).2.1⟩, fun e => ((one i hi).2.2 e).1⟩,
    fun hlt i hi => ⟨(one i hi).1, fun e => ⟨((one i hi).2.1 e).2.2 hlt, ((one i hi).2.1 e).2.1⟩, fun e => ((one i hi).2.2 e).2 hlt⟩⟩
/-- what a bolt does at a load at which it is due -/
def Step (n : Nat) (nv : Nat → Nat → Int) (md md' : Nat → Int) (D : Int) (fr fs dr ds : Nat → Int) (x y : Int) : Prop := ∀ i, i < n →
  md' i = md i ∨ (md i = 0 ∧ md' i = 1 ∧ dr i * x + ds i * y = nv i 1 * (D * y)) ∨ (md i = 1 ∧ md' i = 2 ∧ fr i * x + fs i * y = nv i 2 * (D * y))
theorem Near.up (hv : NvOk n nv) (hA : 0 ≤ A ∧ A ≤ 2) (hB : 0 ≤ B ∧ B ≤ 2) (hS : Sol n (fun i => nv i 6) A B (kW nv md) (rW nv md) D fr fs dr ds) (hS' : Sol n (fun i => nv i 6) A B (kW nv md') (rW nv md') D' fr' fs' dr' ds') (hy : 0 < y)
    (h : Near n nv md D fr fs dr ds x y) (hu : Step n nv md md' D fr fs dr ds x y) :
    Near n nv md' D' fr' fs' dr' ds' x y ∧ ∀ i, i < n → (fr' i * x + fs' i * y) * D = (fr i * x + fs i * y) * D' ∧ (dr' i * x + ds' i * y) * D = (dr i * x + ds i * y) * D' := by
  have hG := geo_nv hv hA hB
  have hk' := fun i hi => (kW_bd (md := md') hv i hi).1
  have hD := hS.1
  have hD' := hS'.1
  have hR := hS.row x y
  have hR' := hS'.row x y
  have hz := lin_zero (k := kW nv md') (g := fun i => (fr' i * x + fs' i * y) * D - (fr i * x + fs i * y) * D') (e := fun i => (dr' i * x + ds' i * y) * D - (dr i * x + ds i * y) * D') hG hk' (hS'.some hk')
    (fun i hi e0 => by
      have z' := hS'.2.1 i hi e0
      have hm := hu i hi
      have hn : ¬ (md' i = 1 ∨ md' i = 2) := fun q => by have := (kW_pos hv hi).mpr q; omega
      have e1 : md' i = md i := by omega
      have z := hS.2.1 i hi (by have := kW_bd (md := md) hv i hi; have := (kW_pos (md := md) hv hi); rw [← e1] at this; omega)
      show (fr' i * x + fs' i * y) * D - (fr i * x + fs i * y) * D' = 0
      rw [z'.1, z'.2, z.1, z.2]; simp)
    (fun i hi hp => by
      have l' := hS'.2.2.1 i hi hp
      have hE : dr' i * x + ds' i * y = kW nv md' i * (fr' i * x + fs' i * y) + rW nv md' i * (D' * y) := by
        rw [l'.1, l'.2, Int.add_mul, Int.mul_add, ← Int.mul_assoc, ← Int.mul_assoc, ← Int.mul_assoc]; omega
      show (dr' i * x + ds' i * y) * D - (dr i * x + ds i * y) * D' = kW nv md' i * ((fr' i * x + fs' i * y) * D - (fr i * x + fs i * y) * D')
      have main : dr i * x + ds i * y = kW nv md' i * (fr i * x + fs i * y) + rW nv md' i * (D * y) := by
        rcases hu i hi with e | ⟨e1, e2, e3⟩ | ⟨e1, e2, e3⟩
        · have ek : kW nv md' i = kW nv md i := by unfold kW; rw [e]
          have er : rW nv md' i = rW nv md i := by unfold rW; rw [e]
          rw [ek] at hp
          have l := hS.2.2.1 i hi hp
          rw [ek, er, l.1, l.2, Int.add_mul, Int.mul_add, ← Int.mul_assoc, ← Int.mul_assoc, ← Int.mul_assoc]; omega
        · have z := hS.2.1 i hi (by unfold kW; rw [if_neg (by omega), if_neg (by omega)])
          have er : rW nv md' i = nv i 1 := if_neg (by omega)
          rw [z.1, z.2, er, e3]; simp
        · have ek : kW nv md' i = nv i 3 := by unfold kW; rw [if_neg (by omega), if_pos e2]
          have er : rW nv md' i = nv i 1 + (nv i 0 - nv i 3) * nv i 2 := if_pos e2
          have ek1 : kW nv md i = nv i 0 := if_pos e1
          have er1 : rW nv md i = nv i 1 := if_neg (by omega)
          have l := hS.2.2.1 i hi ((kW_pos hv hi).mpr (Or.inl e1))
          have hF : dr i * x + ds i * y = nv i 0 * (fr i * x + fs i * y) + nv i 1 * (D * y) := by
            rw [l.1, l.2, ek1, er1, Int.add_mul, Int.mul_add, ← Int.mul_assoc, ← Int.mul_assoc, ← Int.mul_assoc]; omega
          rw [hF, ek, er, e3, Int.add_mul, Int.mul_assoc (nv i 0 - nv i 3), Int.sub_mul]; omega
      rw [hE, main, Int.add_mul, Int.add_mul, Int.mul_sub, Int.mul_assoc (kW nv md' i), Int.mul_assoc (kW nv md' i)]
      have := swap3 (rW nv md' i) D D' y
      omega)
    (by
      rw [sm_sub (fun i => (fr' i * x + fs' i * y) * D) (fun i => (fr i * x + fs i * y) * D'), sm_mul D (fun i => fr' i * x + fs' i * y), sm_mul D' (fun i => fr i * x + fs i * y), hR.1, hR'.1, Int.mul_right_comm D' x D, Int.mul_comm D' D, Int.mul_right_comm D D' x]; omega)
    (fun i hi => by
      have a := hR.2 i hi
      have b := hR'.2 i hi
      dsimp only at a b ⊢
      rw [a, b, sm_sub (fun i => (fr' i * x + fs' i * y) * D) (fun i => (fr i * x + fs i * y) * D'), sm_mul D (fun i => fr' i * x + fs' i * y), sm_mul D' (fun i => fr i * x + fs i * y)]
      generalize sm (fun i => fr' i * x + fs' i * y) (i + 1) = s'
      generalize sm (fun i => fr i * x + fs i * y) (i + 1) = s
      generalize dr' i * x + ds' i * y = p'
      generalize dr i * x + ds i * y = p
      have c : A * (D' * x) * D = A * (D * x) * D' := swap3 A D D' x
      generalize hX : A * (D' * x) = X at *
      generalize hY : A * (D * x) = Y at *
      have c2 : nv i 6 * (X * D) = nv i 6 * (Y * D') := by rw [c]
      generalize A + B = T
      rw [Int.add_mul p', Int.add_mul p, Int.mul_assoc (nv i 6), Int.mul_assoc (nv i 6), Int.sub_mul (T * s'), Int.sub_mul (T * s), Int.mul_sub T, Int.mul_sub (nv i 6), Int.mul_sub (nv i 6), Int.mul_sub (nv i 6), Int.mul_assoc T, Int.mul_assoc T]
      omega)
  have hq : ∀ i, i < n → (fr' i * x + fs' i * y) * D = (fr i * x + fs i * y) * D' ∧ (dr' i * x + ds' i * y) * D = (dr i * x + ds i * y) * D' := fun i hi => by
    obtain ⟨a, b⟩ := hz i hi
    omega
  refine ⟨fun i hi => ?_, hq⟩
  obtain ⟨qf, qd⟩ := hq i hi
  obtain ⟨h0, h1, h2⟩ := h i hi
  have le : ∀ {a a' t : Int}, a' * D = a * D' → a ≤ t * (D * y) → a' ≤ t * (D' * y) := fun {a a' t} e hl => by
    refine Int.le_of_mul_le_mul_right ?_ hD
    have := Int.mul_le_mul_of_nonneg_right hl (show 0 ≤ D' by omega)
    rw [e, swap3 t D D' y]
    exact this
  have ge : ∀ {a a' t : Int}, a' * D = a * D' → t * (D * y) ≤ a → t * (D' * y) ≤ a' := fun {a a' t} e hl => by
    refine Int.le_of_mul_le_mul_right ?_ hD
    have := Int.mul_le_mul_of_nonneg_right hl (show 0 ≤ D' by omega)
    rw [e, swap3 t D D' y]
    exact this
  have g0 : ∀ {a a' : Int}, a' * D = a * D' → 0 ≤ a → 0 ≤ a' := fun {a a'} e hl => by
    have := ge (t := 0) e (by omega)
    omega
  rcases hu i hi with e | ⟨e1, e2, e3⟩ | ⟨e1, e2, e3⟩
  · rw [e]
    exact ⟨fun q => le qd (h0 q), fun q => ⟨g0 qf (h1 q).1, le qf (h1 q).2⟩, fun q => ge qf (h2 q)⟩
  · refine ⟨fun q => by omega, fun _ => ?_, fun q => by omega⟩
    have z := hS.2.1 i hi (by unfold kW; rw [if_neg (by omega), if_neg (by omega)])
    have hf0 : fr i * x + fs i * y = 0 := by rw [z.1, z.2]; simp
    have v := hv i hi
    refine ⟨g0 qf (by omega), le qf ?_⟩
    rw [hf0]
    exact Int.mul_nonneg (by omega) (Int.mul_nonneg (by omega) (by omega))
  · exact ⟨fun q => by omega, fun q => by omega, fun _ => ge qf (by omega)⟩
end GROW
