/-! THE MODEL'S DETERMINANTS -/
def clr (m c : Nat) : Nat := if m.testBit c then m - 2 ^ c else m
theorem bit_test : ∀ m : Nat, m < 32 → ∀ c : Nat, c < 5 → ((zI (m : Int) >>> (zI (c : Int) &&& 31)) &&& (1 : Int32) = 0 ↔ m.testBit c = false) := by decide +kernel
theorem bit_clr : ∀ m : Nat, m < 32 → ∀ c : Nat, c < 5 → m.testBit c = true → zI (m : Int) &&& (((1 : Int32) <<< (zI (c : Int) &&& 31)) ^^^ (-1 : Int32)) = zI ((clr m c : Nat) : Int) := by decide +kernel
theorem clr_lt : ∀ m : Nat, m < 32 → ∀ c : Nat, c < 5 → clr m c < 32 := by decide +kernel
/-- the sum over columns, with its sign -/
def dl (rec : Nat → Int) (row : Nat → Int) (m : Nat) : Nat → Int × Int
  | 0 => (0, 1)
  | c + 1 => if m.testBit c then ((dl rec row m c).1 + (dl rec row m c).2 * row c * rec (clr m c), - (dl rec row m c).2) else dl rec row m c
def detM (b : Nat) (X : Nat → Nat → Int) : Nat → Nat → Nat → Int
  | 0, _, _ => 0
  | k + 1, r, m => if r = b then 1 else (dl (detM b X k (r + 1)) (X r) m b).1
theorem dl_sign (rec : Nat → Int) (row : Nat → Int) (m : Nat) : ∀ c, (dl rec row m c).2 = 1 ∨ (dl rec row m c).2 = -1
  | 0 => Or.inl rfl
  | c + 1 => by
    unfold dl
    by_cases h : m.testBit c
    · rw [if_pos h]
      rcases dl_sign rec row m c with q | q <;> simp [q]
    · rw [if_neg h]; exact dl_sign rec row m c
set_option maxHeartbeats 4000000 in
theorem det_spec {F b : Nat} (hF : 10 < F) (hb : b ≤ 5) {mat : Nat → Int64} {X : Nat → Nat → Int} {rep byc : Int} (hrep : -1 ≤ rep ∧ rep ≤ 5) (hby : 0 ≤ byc ∧ byc ≤ 6)
    (hX : ∀ r, r < b → ∀ c, c < b → mat (7 * r + (if (c : Int) = rep then byc.toNat else c)) = zL (X r c) ∧ -4611686018427387904 ≤ X r c ∧ X r c ≤ 4611686018427387904) :
    ∀ (k r m : Nat), r ≤ b → b < r + k → m < 32 → f_M_determinant F k (zI (b : Int)) mat (zI (r : Int)) (zI (m : Int)) (zI rep) (zI byc) = some (zL (detM b X k r m)) := by
  intro k
  induction k with
  | zero => intro r m h1 h2; omega
  | succ k ih =>
    intro r m hr hk hm
    unfold f_M_determinant detM fd_M_determinant
    by_cases hrb : r = b
    · rw [if_pos hrb, if_pos (by rw [hrb])]; rfl
    · rw [if_neg hrb, if_neg (by rw [zI_eq (by omega) (by omega) (by omega) (by omega)]; omega)]
      have loop := iter_for (body := un3 (fb_M_determinant_19 (fun x1 x2 x3 x4 => f_M_determinant F k (zI (b : Int)) mat x1 x2 x3 x4) (zI (r : Int)) (zI (m : Int)) (zI rep) (zI byc) (zI (b : Int)) mat)) (F := F) (s := ((0 : Int64), (1 : Int32), (0 : Int32)))
        (fun c s => s = (zL (dl (detM b X k (r + 1)) (X r) m c).1, zI (dl (detM b X k (r + 1)) (X r) m c).2, zI (c : Int)))
        (fun q => q = zL (dl (detM b X k (r + 1)) (X r) m b).1) b (by omega) rfl ?_ ?_
      · obtain ⟨q, e, rfl⟩ := loop
        rw [e]; rfl
      · rintro c s hc rfl
        simp only [un3, fb_M_determinant_19]
        rw [if_neg (by rw [zI_le (by omega) (by omega) (by omega) (by omega)]; omega)]
        have hbt := bit_test m hm c (by omega)
        have hsg := dl_sign (detM b X k (r + 1)) (X r) m c
        by_cases ht : m.testBit c = true
        · have hne : ¬ ((zI (m : Int) >>> (zI (c : Int) &&& 31)) &&& (1 : Int32)) = 0 := fun q => by rw [hbt] at q; rw [ht] at q; cases q
          rw [if_neg hne]
          obtain ⟨x1, x2, x3⟩ := hX r (by omega) c hc
          have key : ∀ s2 : Int, 0 ≤ s2 → s2 ≤ 6 → (s2.toNat = if (c : Int) = rep then byc.toNat else c) → fj_M_determinant_55 (fun x1 x2 x3 x4 => f_M_determinant F k (zI (b : Int)) mat x1 x2 x3 x4) (zI (r : Int)) (zI (m : Int)) (zI rep) (zI byc) (zL (dl (detM b X k (r + 1)) (X r) m c).1) (zI (dl (detM b X k (r + 1)) (X r) m c).2) (zI (c : Int)) (zI (r : Int)) (zI s2) mat =
              some (.inl (zL (dl (detM b X k (r + 1)) (X r) m (c + 1)).1, zI (dl (detM b X k (r + 1)) (X r) m (c + 1)).2, zI ((c + 1 : Nat) : Int))) := by
            intro s2 h0 h6 hs2
            have hidx : (7 : Int32) * zI (r : Int) + zI s2 = zI ((7 * r + s2.toNat : Nat) : Int) := by
              rw [show (7 : Int32) = zI 7 from rfl, zI_mul, zI_add]
              congr 1
              omega
            unfold fj_M_determinant_55 f_M_cell
            rw [hidx, ldA_z (by omega) (by omega), Option.bind_some, Option.bind_some, hs2, x1]
            have e1 : (dl (detM b X k (r + 1)) (X r) m (c + 1)).1 = (dl (detM b X k (r + 1)) (X r) m c).1 + (dl (detM b X k (r + 1)) (X r) m c).2 * X r c * detM b X k (r + 1) (clr m c) := by
              simp only [dl, if_pos ht]
            have e2 : (dl (detM b X k (r + 1)) (X r) m (c + 1)).2 = - (dl (detM b X k (r + 1)) (X r) m c).2 := by
              simp only [dl, if_pos ht]
            rw [e1, e2]
            by_cases hz : zL (X r c) = (0 : Int64)
            · rw [if_pos hz]
              have : X r c = 0 := (zL_eq (by omega) (by omega) (by omega) (by omega)).mp hz
              simp only [fj_M_determinant_97, fj_M_determinant_102, nm, zI_neg, zI_1, this, Int.mul_zero, Int.zero_mul, Int.add_zero]
            · rw [if_neg hz, zI_1, bit_clr m hm c (by omega) ht]
              dsimp only
              rw [ih (r + 1) (clr m c) (by omega) (by omega) (clr_lt m hm c (by omega)), Option.bind_some]
              have hl : (zI (dl (detM b X k (r + 1)) (X r) m c).2).toInt64 = zL (dl (detM b X k (r + 1)) (X r) m c).2 := zI_l (by omega) (by omega)
              simp only [fj_M_determinant_97, fj_M_determinant_102, nm, zI_neg, zI_1, hl, zL_mul, zL_add]
          by_cases hcr : (c : Int) = rep
          · rw [if_pos (by rw [hcr])]
            exact ⟨_, key byc hby.1 hby.2 (by rw [if_pos hcr]), rfl⟩
          · rw [if_neg (by rw [zI_eq (by omega) (by omega) (by omega) (by omega)]; exact hcr)]
            exact ⟨_, key (c : Int) (by omega) (by omega) (by rw [if_neg hcr]; omega), rfl⟩
        · have ht' : m.testBit c = false := by simpa using ht
          rw [if_pos (hbt.mpr ht')]
          simp only [fj_M_determinant_102, nm, zI_1]
          refine ⟨_, rfl, ?_⟩
          have e0 : dl (detM b X k (r + 1)) (X r) m (c + 1) = dl (detM b X k (r + 1)) (X r) m c := by
            simp only [dl, if_neg ht]
          rw [e0]
      · rintro s rfl
        refine ⟨_, ?_, rfl⟩
        simp only [un3, fb_M_determinant_19]
        rw [if_pos (Int32.le_refl _)]
/-! Cramer's rule for the row's matrix: T and g along, v on the right -/
def Hm (b : Nat) (T g : Nat → Int) (r c : Nat) : Int := if r + 1 = b then 1 else (if c ≤ r then T r else 0) + (if c = r then g r else 0) - (if c = r + 1 then g (r + 1) else 0)
def Hr (b : Nat) (T g v : Nat → Int) (j r c : Nat) : Int := if c = j then v r else Hm b T g r c
/-- the determinant by the numbers of the elimination -/
def eB (T g : Nat → Int) : Nat → Int × Int
  | 0 => (1, 1)
  | r + 1 => (g r * (eB T g r).1 + T r * (eB T g r).2, g (r + 1) * (eB T g r).2 + (g r * (eB T g r).1 + T r * (eB T g r).2))
def dD (b : Nat) (T g : Nat → Int) : Int := detM b (Hm b T g) 6 0 (2 ^ b - 1)
def dN (b : Nat) (T g v : Nat → Int) (j : Nat) : Int := detM b (Hr b T g v j) 6 0 (2 ^ b - 1)
theorem dD_1 (T g : Nat → Int) : dD 1 T g = (eB T g 0).2 := by
  simp [dD, detM, dl, Hm, eB, Nat.testBit, clr]
theorem dD_2 (T g : Nat → Int) : dD 2 T g = (eB T g 1).2 := by
  simp [dD, detM, dl, Hm, eB, Nat.testBit, clr]
  grind
theorem dD_3 (T g : Nat → Int) : dD 3 T g = (eB T g 2).2 := by
  simp [dD, detM, dl, Hm, eB, Nat.testBit, clr]
  grind
theorem dD_4 (T g : Nat → Int) : dD 4 T g = (eB T g 3).2 := by
  simp [dD, detM, dl, Hm, eB, Nat.testBit, clr]
  grind
