/-! BUILDING the joint: takes -/
section OPS13
variable {n : Nat} {nv : Nat → Nat → Int} {A B : Int} {F : Nat} {g c y s u pit o now : Nat → Int32}
theorem set_keep {k q0 i q : Nat} {b : Int} (z : ¬ (i = k ∧ q = q0)) : nvSet nv k q0 b i q = nv i q := if_neg z
theorem set_new {k q0 : Nat} {b : Int} : nvSet nv k q0 b k q0 = b := if_pos ⟨rfl, rfl⟩
theorem set5_ok (hv : NvOk n nv) {k : Nat} {b : Int} (hb : 0 ≤ b ∧ b ≤ 1) : NvOk n (nvSet nv k 5 b) := by
  intro i hi
  have w := hv i hi
  rw [set_keep (nv := nv) (k := k) (q0 := 5) (b := b) (i := i) (q := 0) (by omega), set_keep (nv := nv) (k := k) (q0 := 5) (b := b) (i := i) (q := 1) (by omega), set_keep (nv := nv) (k := k) (q0 := 5) (b := b) (i := i) (q := 2) (by omega), set_keep (nv := nv) (k := k) (q0 := 5) (b := b) (i := i) (q := 3) (by omega), set_keep (nv := nv) (k := k) (q0 := 5) (b := b) (i := i) (q := 4) (by omega), set_keep (nv := nv) (k := k) (q0 := 5) (b := b) (i := i) (q := 6) (by omega)]
  by_cases z : i = k
  · rw [z, set_new]; rw [z] at w; omega
  · rw [set_keep (nv := nv) (k := k) (q0 := 5) (b := b) (i := i) (q := 5) (by omega)]; omega
theorem op_takes (hJt : Jt n nv A B) (hF : 300 < F) {bn ju jl many mu ml : Int32} (J : JX n nv A B g c y s u o pit bn ju jl) (X : MX n nv A B now many mu ml) (x1 x2 kn th : Int32) (hx : x2 = 0 ∨ x2 = 1) :
    ∃ (r kn' : Int32) (o' now' : Nat → Int32) (nv' : Nat → Nat → Int), f_X_takes F x1 x2 kn o bn = some (r, kn', o') ∧ f_M_takes F x1 x2 now many th = some (r, now', (0 : Int32)) ∧ Jt n nv' A B ∧ JX n nv' A B g c y s u o' pit bn ju jl ∧ MX n nv' A B now' many mu ml ∧ (kn' = 0 ∨ kn' = kn ∧ nv' = nv) := by
  obtain ⟨i, rfl, hi⟩ := zI_all x1
  obtain ⟨b, rfl, hb⟩ : ∃ b : Int, x2 = zI b ∧ 0 ≤ b ∧ b ≤ 1 := by
    rcases hx with rfl | rfl
    · exact ⟨0, rfl, by omega, by omega⟩
    · exact ⟨1, rfl, by omega, by omega⟩
  clear hx
  obtain ⟨J1, ho, rfl, rfl, rfl⟩ := J
  obtain ⟨h, rfl, rfl, rfl⟩ := X
  obtain ⟨hn, hv, hA, hB⟩ := hJt
  unfold f_X_takes f_M_takes
  rw [has_z hn hi, isBolt_z hn hi, Option.bind_some, Option.bind_some]
  by_cases q1 : 0 ≤ i ∧ i < n
  rotate_left
  · rw [if_pos (b01_ne0.mpr q1), if_pos (b01_ne0.mpr q1)]
    exact ⟨_, kn, o, now, nv, rfl, rfl, ⟨hn, hv, hA, hB⟩, ⟨J1, ho, rfl, rfl, rfl⟩, ⟨h, rfl, rfl, rfl⟩, Or.inr ⟨rfl, rfl⟩⟩
  rw [if_neg (fun z => (b01_ne0.mp z) q1), if_neg (fun z => (b01_ne0.mp z) q1)]
  obtain ⟨k, rfl⟩ : ∃ k : Nat, i = (k : Int) := ⟨i.toNat, by omega⟩
  have hk : k < n := by omega
  obtain ⟨j1, j2, j3, j4, j5, j6⟩ := J1
  have ef : f_M_of (zI (k : Int)) (5 : Int32) now = some (zI (nv k 5)) := of_z hn h (i := k) (q := 5) (by omega) (by omega)
  have v := hv k hk
  rw [ldA_z (f := o) (j := k) (by omega) (by omega), ef, Option.bind_some, Option.bind_some, ho k hk]
  have h0 : zI b = (0 : Int32) ↔ b = 0 := by
    rw [i0]; exact zI_eq (by omega) (by omega) (by omega) (by omega)
  have mid : (if zI b = (0 : Int32) then fj_M_takes_30 F (zI (k : Int)) (zI b) (zI (nv k 5)) (0 : Int32) now (zI (n : Int)) (0 : Int32) else fj_M_takes_30 F (zI (k : Int)) (zI b) (zI (nv k 5)) (1 : Int32) now (zI (n : Int)) (0 : Int32)) = fj_M_takes_30 F (zI (k : Int)) (zI b) (zI (nv k 5)) (zI b) now (zI (n : Int)) (0 : Int32) := by
    by_cases z : b = 0
    · rw [if_pos (h0.mpr z), z]; rfl
    · rw [if_neg (fun w => z (h0.mp w)), show b = 1 by omega]; rfl
  rw [mid]
  unfold fj_M_takes_30
  by_cases e1 : nv k 5 = b
  · rw [if_pos (show zI (nv k 5) = zI b by rw [e1]), if_pos (show zI (nv k 5) = zI b by rw [e1])]
    exact ⟨_, kn, o, now, nv, rfl, rfl, ⟨hn, hv, hA, hB⟩, ⟨⟨j1, j2, j3, j4, j5, j6⟩, ho, rfl, rfl, rfl⟩, ⟨h, rfl, rfl, rfl⟩, Or.inr ⟨rfl, rfl⟩⟩
  have ne : ¬ zI (nv k 5) = zI b := fun z => e1 ((zI_eq (by omega) (by omega) (by omega) (by omega)).mp z)
  have e7 : (7 : Int32) * zI (k : Int) + (5 : Int32) = zI ((7 * k + 5 : Nat) : Int) := e7q k 5
  have hz : stZ o 5 (zI (k : Int)) (zI b) = some (upd o k (zI b)) := stZ_z (by omega) (by omega) (by
    rcases (by omega : b = 0 ∨ b = 1) with rfl | rfl
    · rfl
    · rfl)
  have hv' : NvOk n (nvSet nv k 5 b) := set5_ok hv (by omega)
  have ho' : ∀ i, i < n → upd o k (zI b) i = zI (nvSet nv k 5 b i 5) := by
    intro i hi
    rw [upd_at]
    by_cases z : i = k
    · rw [if_pos z, z, set_new]
    · rw [if_neg z, set_keep (by omega)]; exact ho i hi
  have h' : ∀ i, i < n → ∀ q, q < 7 → upd now (7 * k + 5) (zI b) (7 * i + q) = zI (nvSet nv k 5 b i q) := by
    intro i hi q hq
    rw [upd_at]
    by_cases z : i = k ∧ q = 5
    · rw [if_pos (by omega), z.1, z.2, set_new]
    · rw [if_neg (by omega), set_keep z]; exact h i hi q hq
  have mid2 : (if zI b = (0 : Int32) then (stI now 35 (((7 : Int32) * zI (k : Int)) + (5 : Int32)) (0 : Int32)).bind fun M_now_55 => (f_M_soundMany F M_now_55 (zI (n : Int))).bind fun r_57 => some (r_57, M_now_55, (0 : Int32)) else (stI now 35 (((7 : Int32) * zI (k : Int)) + (5 : Int32)) (1 : Int32)).bind fun M_now_55 => (f_M_soundMany F M_now_55 (zI (n : Int))).bind fun r_57 => some (r_57, M_now_55, (0 : Int32))) = (stI now 35 (((7 : Int32) * zI (k : Int)) + (5 : Int32)) (zI b)).bind fun M_now_55 => (f_M_soundMany F M_now_55 (zI (n : Int))).bind fun r_57 => some (r_57, M_now_55, (0 : Int32)) := by
    by_cases z : b = 0
    · rw [if_pos (h0.mpr z), z]; rfl
    · rw [if_neg (fun w => z (h0.mp w)), show b = 1 by omega]; rfl
  have hs : f_J_soundBits F (upd o k (zI b)) (zI (n : Int)) = some (zI ((msk (fun i => decide (nvSet nv k 5 b i 5 = 0)) n : Nat) : Int)) := sound_z (F := F) hn (by omega) hv' ho'
  have h32 : msk (fun i => decide (nvSet nv k 5 b i 5 = 0)) n < 32 := msk_32 _ hn
  rw [if_neg ne, if_neg ne, mid2, hz, Option.bind_some, hs, Option.bind_some, bits_count _ h32, Option.bind_some, e7, stI_z (f := now) (j := 7 * k + 5) (by omega) (by omega), Option.bind_some, soundMany_z (F := F) hn (by omega) hv' h', Option.bind_some, sel_msk hn]
  exact ⟨_, 0, upd o k (zI b), upd now (7 * k + 5) (zI b), nvSet nv k 5 b, rfl, rfl, ⟨hn, hv', hA, hB⟩, ⟨⟨fun i hi => (j1 i hi).trans (by rw [set_keep (by omega)]), fun i hi => (j2 i hi).trans (by rw [set_keep (by omega)]), fun i hi => (j3 i hi).trans (by rw [set_keep (by omega)]), fun i hi => (j4 i hi).trans (by rw [set_keep (by omega)]), fun i hi => (j5 i hi).trans (by rw [set_keep (by omega)]), fun i hi => (j6 i hi).trans (by rw [set_keep (by omega)])⟩, ho', rfl, rfl, rfl⟩, ⟨h', rfl, rfl, rfl⟩, Or.inl rfl⟩
end OPS13
