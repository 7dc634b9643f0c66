/-! BUILDING the joint: clears, plates, pitch; a fair bolt -/
section OPS11
variable {n : Nat} {nv : Nat → Nat → Int} {A B : Int} {F : Nat} {g c y s u pit o now : Nat → Int32}
theorem min_z {v a b : Int} (h1 : -2147483648 ≤ v ∧ v ≤ 2147483647) (h2 : -2147483648 ≤ a ∧ a ≤ 2147483647) (h3 : -2147483648 ≤ b ∧ b ≤ 2147483647) : f_M_in (Int32.toInt64 (zI v)) (zL a) (zL b) = some (zI (b01 (a ≤ v ∧ v ≤ b))) := by
  rw [zI_l h1.1 h1.2]
  exact in_z ⟨by omega, by omega⟩ ⟨by omega, by omega⟩ ⟨by omega, by omega⟩
theorem op_clears {bn ju jl many mu ml : Int32} (hJt : Jt n nv A B) (J : JX n nv A B g c y s u o pit bn ju jl) (X : MX n nv A B now many mu ml) (kn th : Int32) :
    ∃ r : Int32, f_X_clears kn bn = some (r, (0 : Int32), (0 : Int32)) ∧ f_M_clears many th = some (r, (0 : Int32), (0 : Int32)) ∧ Jt 0 nv A B ∧ JX 0 nv A B g c y s u o pit 0 ju jl ∧ MX 0 nv A B now 0 mu ml := by
  obtain ⟨J1, ho, rfl, rfl, rfl⟩ := J
  obtain ⟨h, rfl, rfl, rfl⟩ := X
  obtain ⟨hn, hv, hA, hB⟩ := hJt
  refine ⟨_, rfl, rfl, ⟨by omega, fun i hi => absurd hi (Nat.not_lt_zero i), hA, hB⟩, ⟨⟨fun i hi => absurd hi (Nat.not_lt_zero i), fun i hi => absurd hi (Nat.not_lt_zero i), fun i hi => absurd hi (Nat.not_lt_zero i), fun i hi => absurd hi (Nat.not_lt_zero i), fun i hi => absurd hi (Nat.not_lt_zero i), fun i hi => absurd hi (Nat.not_lt_zero (i + 1))⟩, fun i hi => absurd hi (Nat.not_lt_zero i), rfl, rfl, rfl⟩, ⟨fun i hi => absurd hi (Nat.not_lt_zero i), rfl, rfl, rfl⟩⟩
theorem op_plates (hJt : Jt n nv A B) {bn ju jl many mu ml : Int32} (J : JX n nv A B g c y s u o pit bn ju jl) (X : MX n nv A B now many mu ml) (x1 x2 kn th : Int32) :
    ∃ (r kn' ju' jl' : Int32) (A' B' : Int), f_X_plates x1 x2 kn ju jl = some (r, kn', ju', jl') ∧ f_M_plates x1 x2 mu ml th = some (r, ju', jl', (0 : Int32)) ∧ Jt n nv A' B' ∧ JX n nv A' B' g c y s u o pit bn ju' jl' ∧ MX n nv A' B' now many ju' jl' ∧ (kn' = 0 ∨ kn' = kn ∧ A' = A ∧ B' = B) := by
  obtain ⟨a, rfl, ha⟩ := zI_all x1
  obtain ⟨b, rfl, hb⟩ := zI_all x2
  obtain ⟨J1, ho, rfl, rfl, rfl⟩ := J
  obtain ⟨h, rfl, rfl, rfl⟩ := X
  obtain ⟨hn, hv, hA, hB⟩ := hJt
  have w1 : f_X_within (zI a) (0 : Int32) (2 : Int32) = some (zI (b01 (0 ≤ a ∧ a ≤ 2))) := within_z (a := 0) (b := 2) ha (by omega) (by omega)
  have w2 : f_X_within (zI b) (0 : Int32) (2 : Int32) = some (zI (b01 (0 ≤ b ∧ b ≤ 2))) := within_z (a := 0) (b := 2) hb (by omega) (by omega)
  have m1 : f_M_in (Int32.toInt64 (zI a)) (0 : Int64) (2 : Int64) = some (zI (b01 (0 ≤ a ∧ a ≤ 2))) := min_z (a := 0) (b := 2) ha (by omega) (by omega)
  have m2 : f_M_in (Int32.toInt64 (zI b)) (0 : Int64) (2 : Int64) = some (zI (b01 (0 ≤ b ∧ b ≤ 2))) := min_z (a := 0) (b := 2) hb (by omega) (by omega)
  unfold f_X_plates f_M_plates
  rw [w1, m1, Option.bind_some, Option.bind_some]
  by_cases q1 : 0 ≤ a ∧ a ≤ 2
  rotate_left
  · rw [if_pos (b01_ne0.mpr q1), if_pos (b01_ne0.mpr q1)]
    exact ⟨_, kn, _, _, A, B, rfl, rfl, ⟨hn, hv, hA, hB⟩, ⟨J1, ho, rfl, rfl, rfl⟩, ⟨h, rfl, rfl, rfl⟩, Or.inr ⟨rfl, rfl, rfl⟩⟩
  rw [if_neg (fun z => (b01_ne0.mp z) q1), if_neg (fun z => (b01_ne0.mp z) q1), w2, m2, Option.bind_some, Option.bind_some]
  by_cases q2 : 0 ≤ b ∧ b ≤ 2
  rotate_left
  · rw [if_pos (b01_ne0.mpr q2), if_pos (b01_ne0.mpr q2)]
    exact ⟨_, kn, _, _, A, B, rfl, rfl, ⟨hn, hv, hA, hB⟩, ⟨J1, ho, rfl, rfl, rfl⟩, ⟨h, rfl, rfl, rfl⟩, Or.inr ⟨rfl, rfl, rfl⟩⟩
  rw [if_neg (fun z => (b01_ne0.mp z) q2), if_neg (fun z => (b01_ne0.mp z) q2)]
  by_cases e1 : a = A
  · rw [if_pos (show zI a = zI A by rw [e1]), if_pos (show zI a = zI A by rw [e1])]
    by_cases e2 : b = B
    · rw [if_pos (show zI b = zI B by rw [e2]), if_pos (show zI b = zI B by rw [e2])]
      exact ⟨_, kn, _, _, A, B, rfl, rfl, ⟨hn, hv, hA, hB⟩, ⟨J1, ho, rfl, rfl, rfl⟩, ⟨h, rfl, rfl, rfl⟩, Or.inr ⟨rfl, rfl, rfl⟩⟩
    · have ne : ¬ zI b = zI B := fun z => e2 ((zI_eq (by omega) (by omega) (by omega) (by omega)).mp z)
      rw [if_neg ne, if_neg ne]
      exact ⟨_, 0, zI a, zI b, a, b, rfl, rfl, ⟨hn, hv, q1, q2⟩, ⟨J1, ho, rfl, rfl, rfl⟩, ⟨h, rfl, rfl, rfl⟩, Or.inl rfl⟩
  · have ne : ¬ zI a = zI A := fun z => e1 ((zI_eq (by omega) (by omega) (by omega) (by omega)).mp z)
    rw [if_neg ne, if_neg ne]
    exact ⟨_, 0, zI a, zI b, a, b, rfl, rfl, ⟨hn, hv, q1, q2⟩, ⟨J1, ho, rfl, rfl, rfl⟩, ⟨h, rfl, rfl, rfl⟩, Or.inl rfl⟩
def nvSet (nv : Nat → Nat → Int) (k q : Nat) (v : Int) : Nat → Nat → Int := fun i p => if i = k ∧ p = q then v else nv i p
theorem op_pitch (hJt : Jt n nv A B) {bn ju jl many mu ml : Int32} (J : JX n nv A B g c y s u o pit bn ju jl) (X : MX n nv A B now many mu ml) (x1 x2 kn th : Int32) :
    ∃ (r kn' : Int32) (pit' now' : Nat → Int32) (nv' : Nat → Nat → Int), f_X_pitch x1 x2 kn pit bn = some (r, kn', pit') ∧ f_M_pitch x1 x2 now many th = some (r, now', (0 : Int32)) ∧ Jt n nv' A B ∧ JX n nv' A B g c y s u o pit' bn ju jl ∧ MX n nv' A B now' many mu ml ∧ (kn' = 0 ∨ kn' = kn ∧ nv' = nv) := by
  obtain ⟨i, rfl, hi⟩ := zI_all x1
  obtain ⟨b, rfl, hb⟩ := zI_all x2
  obtain ⟨J1, ho, rfl, rfl, rfl⟩ := J
  obtain ⟨h, rfl, rfl, rfl⟩ := X
  obtain ⟨hn, hv, hA, hB⟩ := hJt
  have w2 : f_X_within (zI b) (0 : Int32) (2 : Int32) = some (zI (b01 (0 ≤ b ∧ b ≤ 2))) := within_z (a := 0) (b := 2) hb (by omega) (by omega)
  have m2 : f_M_in (Int32.toInt64 (zI b)) (0 : Int64) (2 : Int64) = some (zI (b01 (0 ≤ b ∧ b ≤ 2))) := min_z (a := 0) (b := 2) hb (by omega) (by omega)
  have m1 : f_M_in (Int32.toInt64 (zI i)) (0 : Int64) (Int32.toInt64 (zI (n : Int) - (2 : Int32))) = some (zI (b01 (0 ≤ i ∧ i + 1 < n))) := by
    have e : zI (n : Int) - (2 : Int32) = zI ((n : Int) - 2) := by rw [i2, zI_sub]
    rw [e, zI_l (a := (n : Int) - 2) (by omega) (by omega)]
    refine (min_z (a := 0) (b := (n : Int) - 2) hi (by omega) (by omega)).trans ?_
    exact congrArg (fun x => some (zI x)) (b01_congr (by omega))
  unfold f_X_pitch f_M_pitch
  rw [hasGap_z hn hi, m1, Option.bind_some, Option.bind_some]
  by_cases q1 : 0 ≤ i ∧ i + 1 < n
  rotate_left
  · rw [if_pos (b01_ne0.mpr q1), if_pos (b01_ne0.mpr q1)]
    exact ⟨_, kn, pit, now, nv, rfl, rfl, ⟨hn, hv, hA, hB⟩, ⟨J1, ho, rfl, rfl, rfl⟩, ⟨h, rfl, rfl, rfl⟩, Or.inr ⟨rfl, rfl⟩⟩
  rw [if_neg (fun z => (b01_ne0.mp z) q1), if_neg (fun z => (b01_ne0.mp z) q1), w2, m2, Option.bind_some, Option.bind_some]
  by_cases q2 : 0 ≤ b ∧ b ≤ 2
  rotate_left
  · rw [if_pos (b01_ne0.mpr q2), if_pos (b01_ne0.mpr q2)]
    exact ⟨_, kn, pit, now, nv, rfl, rfl, ⟨hn, hv, hA, hB⟩, ⟨J1, ho, rfl, rfl, rfl⟩, ⟨h, rfl, rfl, rfl⟩, Or.inr ⟨rfl, rfl⟩⟩
  rw [if_neg (fun z => (b01_ne0.mp z) q2), if_neg (fun z => (b01_ne0.mp z) q2)]
  obtain ⟨k, rfl⟩ : ∃ k : Nat, i = (k : Int) := ⟨i.toNat, by omega⟩
  have hk : k + 1 < n := by omega
  obtain ⟨j1, j2, j3, j4, j5, j6⟩ := J1
  have ef : f_M_of (zI (k : Int)) (6 : Int32) now = some (zI (nv k 6)) := of_z hn h (i := k) (q := 6) (by omega) (by omega)
  have v := hv k (by omega)
  rw [ldA_z (f := pit) (j := k) (by omega) (by omega), ef, Option.bind_some, Option.bind_some, j6 k hk]
  by_cases e1 : b = nv k 6
  · rw [if_pos (show zI b = zI (nv k 6) by rw [e1]), if_pos (show zI (nv k 6) = zI b by rw [e1])]
    exact ⟨_, kn, pit, now, nv, rfl, rfl, ⟨hn, hv, hA, hB⟩, ⟨⟨j1, j2, j3, j4, j5, j6⟩, ho, rfl, rfl, rfl⟩, ⟨h, rfl, rfl, rfl⟩, Or.inr ⟨rfl, rfl⟩⟩
  · have ne : ¬ zI b = zI (nv k 6) := fun z => e1 ((zI_eq (by omega) (by omega) (by omega) (by omega)).mp z)
    have e7 : (7 : Int32) * zI (k : Int) + (6 : Int32) = zI ((7 * k + 6 : Nat) : Int) := by
      rw [zI_mul7, show (6 : Int32) = zI ((6 : Nat) : Int) from rfl, zI_addN]
    rw [if_neg ne, if_neg (fun z => ne z.symm), e7, stI_z (f := pit) (j := k) (by omega) (by omega), stI_z (f := now) (j := 7 * k + 6) (by omega) (by omega), Option.bind_some, Option.bind_some]
    have keep : ∀ i q, ¬ (i = k ∧ q = 6) → nvSet nv k 6 b i q = nv i q := fun i q z => if_neg z
    have new : nvSet nv k 6 b k 6 = b := if_pos ⟨rfl, rfl⟩
    refine ⟨_, 0, upd pit k (zI b), upd now (7 * k + 6) (zI b), nvSet nv k 6 b, rfl, rfl, ⟨hn, fun i hi => ?_, hA, hB⟩, ⟨⟨fun i hi => ?_, fun i hi => ?_, fun i hi => ?_, fun i hi => ?_, fun i hi => ?_, fun i hi => ?_⟩, fun i hi => ?_, rfl, rfl, rfl⟩, ⟨fun i hi q hq => ?_, rfl, rfl, rfl⟩, Or.inl rfl⟩
    · have w := hv i hi
      rw [keep i 0 (by omega), keep i 1 (by omega), keep i 2 (by omega), keep i 3 (by omega), keep i 4 (by omega), keep i 5 (by omega)]
      refine ⟨w.1, w.2.1, w.2.2.1, w.2.2.2.1, w.2.2.2.2.1, w.2.2.2.2.2.1, w.2.2.2.2.2.2.1, w.2.2.2.2.2.2.2.1, w.2.2.2.2.2.2.2.2.1, w.2.2.2.2.2.2.2.2.2.1, w.2.2.2.2.2.2.2.2.2.2.1, w.2.2.2.2.2.2.2.2.2.2.2.1, ?_⟩
      by_cases z : i = k
      · rw [z, new]; exact q2
      · rw [keep i 6 (by omega)]; omega
    · rw [keep i 0 (by omega)]; exact j1 i hi
    · rw [keep i 1 (by omega)]; exact j2 i hi
    · rw [keep i 2 (by omega)]; exact j3 i hi
    · rw [keep i 3 (by omega)]; exact j4 i hi
    · rw [keep i 4 (by omega)]; exact j5 i hi
    · rw [upd_at]
      by_cases z : i = k
      · rw [if_pos z, z, new]
      · rw [if_neg z, keep i 6 (by omega)]; exact j6 i hi
    · rw [keep i 5 (by omega)]; exact ho i hi
    · rw [upd_at]
      by_cases z : i = k ∧ q = 6
      · rw [if_pos (by omega), z.1, z.2, new]
      · rw [if_neg (by omega), keep i q z]; exact h i hi q hq
def Fair (a b c d e : Int) : Prop := 1 ≤ a ∧ a ≤ 5 ∧ 0 ≤ b ∧ b ≤ 9 ∧ 1 ≤ c ∧ c ≤ 30 ∧ a ≤ d ∧ d ≤ 9 ∧ c + 1 ≤ e ∧ e ≤ 60
theorem fair_z {a b c d e : Int} (ha : -2147483648 ≤ a ∧ a ≤ 2147483647) (hb : -2147483648 ≤ b ∧ b ≤ 2147483647) (hc : -2147483648 ≤ c ∧ c ≤ 2147483647) (hd : -2147483648 ≤ d ∧ d ≤ 2147483647) (he : -2147483648 ≤ e ∧ e ≤ 2147483647) :
    (f_X_fair (zI a) (zI b) (zI c) (zI d) (zI e) = some (1 : Int32) ∧ f_M_areRight (zI a) (zI b) (zI c) (zI d) (zI e) = some (1 : Int32) ∧ Fair a b c d e) ∨ (f_X_fair (zI a) (zI b) (zI c) (zI d) (zI e) = some (0 : Int32) ∧ f_M_areRight (zI a) (zI b) (zI c) (zI d) (zI e) = some (0 : Int32)) := by
  have w1 : f_X_within (zI a) (1 : Int32) (5 : Int32) = some (zI (b01 (1 ≤ a ∧ a ≤ 5))) := within_z (a := 1) (b := 5) ha (by omega) (by omega)
  have m1 : f_M_in (Int32.toInt64 (zI a)) (1 : Int64) (5 : Int64) = some (zI (b01 (1 ≤ a ∧ a ≤ 5))) := min_z (a := 1) (b := 5) ha (by omega) (by omega)
  have w2 : f_X_within (zI b) (0 : Int32) (9 : Int32) = some (zI (b01 (0 ≤ b ∧ b ≤ 9))) := within_z (a := 0) (b := 9) hb (by omega) (by omega)
  have m2 : f_M_in (Int32.toInt64 (zI b)) (0 : Int64) (9 : Int64) = some (zI (b01 (0 ≤ b ∧ b ≤ 9))) := min_z (a := 0) (b := 9) hb (by omega) (by omega)
  have w3 : f_X_within (zI c) (1 : Int32) (30 : Int32) = some (zI (b01 (1 ≤ c ∧ c ≤ 30))) := within_z (a := 1) (b := 30) hc (by omega) (by omega)
  have m3 : f_M_in (Int32.toInt64 (zI c)) (1 : Int64) (30 : Int64) = some (zI (b01 (1 ≤ c ∧ c ≤ 30))) := min_z (a := 1) (b := 30) hc (by omega) (by omega)
  have w4 : f_X_within (zI d) (zI a) (9 : Int32) = some (zI (b01 (a ≤ d ∧ d ≤ 9))) := within_z (a := a) (b := 9) hd ha (by omega)
  have m4 : f_M_in (Int32.toInt64 (zI d)) (Int32.toInt64 (zI a)) (9 : Int64) = some (zI (b01 (a ≤ d ∧ d ≤ 9))) := by
    rw [zI_l (a := a) ha.1 ha.2]; exact min_z (a := a) (b := 9) hd ha (by omega)
  unfold f_X_fair f_M_areRight
  rw [w1, m1, Option.bind_some, Option.bind_some]
  by_cases q1 : 1 ≤ a ∧ a ≤ 5
  rotate_left
  · rw [if_pos (b01_ne0.mpr q1), if_pos (b01_ne0.mpr q1)]; exact Or.inr ⟨rfl, rfl⟩
  rw [if_neg (fun z => (b01_ne0.mp z) q1), if_neg (fun z => (b01_ne0.mp z) q1), w2, m2, Option.bind_some, Option.bind_some]
  by_cases q2 : 0 ≤ b ∧ b ≤ 9
  rotate_left
  · rw [if_pos (b01_ne0.mpr q2), if_pos (b01_ne0.mpr q2)]; exact Or.inr ⟨rfl, rfl⟩
  rw [if_neg (fun z => (b01_ne0.mp z) q2), if_neg (fun z => (b01_ne0.mp z) q2), w3, m3, Option.bind_some, Option.bind_some]
  by_cases q3 : 1 ≤ c ∧ c ≤ 30
  rotate_left
  · rw [if_pos (b01_ne0.mpr q3), if_pos (b01_ne0.mpr q3)]; exact Or.inr ⟨rfl, rfl⟩
  rw [if_neg (fun z => (b01_ne0.mp z) q3), if_neg (fun z => (b01_ne0.mp z) q3), w4, m4, Option.bind_some, Option.bind_some]
  by_cases q4 : a ≤ d ∧ d ≤ 9
  rotate_left
  · rw [if_pos (b01_ne0.mpr q4), if_pos (b01_ne0.mpr q4)]; exact Or.inr ⟨rfl, rfl⟩
  have ec : zI c + (1 : Int32) = zI (c + 1) := by rw [i1, zI_add]
  have w5 : f_X_within (zI e) (zI (c + 1)) (60 : Int32) = some (zI (b01 (c + 1 ≤ e ∧ e ≤ 60))) := within_z (a := c + 1) (b := 60) he (by omega) (by omega)
  have m5 : f_M_in (Int32.toInt64 (zI e)) (Int32.toInt64 (zI (c + 1))) (60 : Int64) = some (zI (b01 (c + 1 ≤ e ∧ e ≤ 60))) := by
    rw [zI_l (a := c + 1) (by omega) (by omega)]; exact min_z (a := c + 1) (b := 60) he (by omega) (by omega)
  rw [if_neg (fun z => (b01_ne0.mp z) q4), if_neg (fun z => (b01_ne0.mp z) q4), ec, w5, m5, Option.bind_some]
  by_cases q5 : c + 1 ≤ e ∧ e ≤ 60
  rotate_left
  · rw [if_pos (b01_ne0.mpr q5)]; exact Or.inr ⟨rfl, rfl⟩
  rw [if_neg (fun z => (b01_ne0.mp z) q5)]
  exact Or.inl ⟨rfl, rfl, q1.1, q1.2, q2.1, q2.2, q3.1, q3.2, q4.1, q4.2, q5.1, q5.2⟩
end OPS11
