/-! TEXT: end -/
section OPS16
variable {F : Nat}
/-- the value of a byte read with a sign -/
def sgb (v : Int) : Int := if v < 128 then v else v - 256
/-- the class's signs (0 to 255) and the model's bytes, m of them -/
def TX (m : Nat) (sg : Nat → Int32) (sz : Int32) (tx : Nat → Int32) (ty : Int32) : Prop := m ≤ 80 ∧ sz = zI (m : Int) ∧ ty = zI (m : Int) ∧ ∀ q, q < m → ∃ v : Int, (0 ≤ v ∧ v ≤ 255) ∧ sg q = zI v ∧ tx q = zI (sgb v)
theorem op_end {m : Nat} {sg : Nat → Int32} {sz : Int32} {tx : Nat → Int32} {ty : Int32} (hT : TX m sg sz tx ty) (x1 th : Int32) :
    ∃ (r : Int32) (m' : Nat) (sz' : Int32), f_X_end x1 sz = some (r, sz') ∧ f_M_end x1 ty th = some (r, sz', (0 : Int32)) ∧ TX m' sg sz' tx sz' := by
  obtain ⟨hm, rfl, rfl, ht⟩ := hT
  obtain ⟨i, rfl, hi⟩ := zI_all x1
  have em : f_M_in (Int32.toInt64 (zI i)) (0 : Int64) (Int32.toInt64 (zI (m : Int))) = some (zI (b01 (0 ≤ i ∧ i ≤ m))) := by
    rw [zI_l (a := (m : Int)) (by omega) (by omega)]
    exact min_z (a := 0) (b := (m : Int)) hi (by omega) (by omega)
  have ec : f_T_cut (zI i) (zI (m : Int)) = if 0 ≤ i ∧ i ≤ m then some ((1 : Int32), zI i) else some ((0 : Int32), zI (m : Int)) := by
    unfold f_T_cut
    by_cases q : i < 0
    · rw [if_pos (show zI i < (0 : Int32) from (zI_lt (a := i) (b := 0) (by omega) (by omega) (by omega) (by omega)).mpr q), if_neg (by omega)]
    · rw [if_neg (show ¬ zI i < (0 : Int32) from fun z => q ((zI_lt (a := i) (b := 0) (by omega) (by omega) (by omega) (by omega)).mp z))]
      by_cases w : i ≤ m
      · rw [if_pos ((zI_le (by omega) (by omega) (by omega) (by omega)).mpr w), if_pos ⟨by omega, w⟩]
      · rw [if_neg (fun z => w ((zI_le (by omega) (by omega) (by omega) (by omega)).mp z)), if_neg (fun z => w z.2)]
  unfold f_X_end f_M_end
  rw [em, Option.bind_some, ec]
  by_cases q : 0 ≤ i ∧ i ≤ m
  · rw [if_pos q, if_neg (fun z => (b01_ne0.mp z) q)]
    exact ⟨1, i.toNat, zI i, rfl, rfl, by omega, by rw [Int.toNat_of_nonneg q.1], by rw [Int.toNat_of_nonneg q.1], fun k hk => ht k (by omega)⟩
  · rw [if_neg q, if_pos (b01_ne0.mpr q)]
    exact ⟨0, m, zI (m : Int), rfl, rfl, hm, rfl, rfl, ht⟩
end OPS16
