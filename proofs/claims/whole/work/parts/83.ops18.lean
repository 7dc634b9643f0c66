/-! TEXT: numbers are read -/
section OPS18
variable {F m : Nat} {sg tx : Nat → Int32}
theorem sgb_and : ∀ k : Nat, k < 256 → zI (sgb (k : Int)) &&& (255 : Int32) = zI (k : Int) := by decide +kernel
theorem digitAt_in (hm : m ≤ 80) {a : Nat} (ha : a < m) {v : Int} (hv : 0 ≤ v ∧ v ≤ 255) (e : sg a = zI v) : f_T_digitAt (zI (a : Int)) sg (zI (m : Int)) = some (zI (if 48 ≤ v ∧ v ≤ 57 then v - 48 else -1)) := by
  have hld : ldA sg 80 (zI (a : Int)) = some (zI v) := by rw [ldA_z (f := sg) (by omega) (by omega), e]
  unfold f_T_digitAt
  rw [if_neg (show ¬ zI (a : Int) < (0 : Int32) from fun z => absurd ((zI_lt (a := (a : Int)) (b := 0) (by omega) (by omega) (by omega) (by omega)).mp z) (by omega)), if_neg (by rw [zI_le (by omega) (by omega) (by omega) (by omega)]; omega), if_pos (show zI (a : Int) < (80 : Int32) from (zI_lt (a := (a : Int)) (b := 80) (by omega) (by omega) (by omega) (by omega)).mpr (by omega)), hld]
  simp only [Option.bind_some]
  by_cases q : v < 48
  · rw [if_pos (show zI v < (48 : Int32) from (zI_lt (a := v) (b := 48) (by omega) (by omega) (by omega) (by omega)).mpr q), if_neg (by omega)]; rfl
  · rw [if_neg (show ¬ zI v < (48 : Int32) from fun z => q ((zI_lt (a := v) (b := 48) (by omega) (by omega) (by omega) (by omega)).mp z))]
    by_cases w : 57 < v
    · rw [if_pos (show (57 : Int32) < zI v from (zI_lt (a := 57) (b := v) (by omega) (by omega) (by omega) (by omega)).mpr w), if_neg (by omega)]; rfl
    · rw [if_neg (show ¬ (57 : Int32) < zI v from fun z => w ((zI_lt (a := 57) (b := v) (by omega) (by omega) (by omega) (by omega)).mp z)), if_pos (by omega), show (48 : Int32) = zI 48 from rfl, zI_sub]
theorem digitAt_out {a : Nat} (hm : m ≤ 80) (ha : m ≤ a) (ha2 : a < 1000) : f_T_digitAt (zI (a : Int)) sg (zI (m : Int)) = some (zI (-1)) := by
  unfold f_T_digitAt
  rw [if_neg (show ¬ zI (a : Int) < (0 : Int32) from fun z => absurd ((zI_lt (a := (a : Int)) (b := 0) (by omega) (by omega) (by omega) (by omega)).mp z) (by omega)), if_pos (by rw [zI_le (by omega) (by omega) (by omega) (by omega)]; omega)]
  rfl
theorem here_in (hm : m ≤ 80) {a : Nat} (ha : a < m) {v : Int} (hv : 0 ≤ v ∧ v ≤ 255) (e : tx a = zI (sgb v)) : f_M_here tx (zI (m : Int)) (zI (a : Int)) = some (zI v) := by
  obtain ⟨k, rfl⟩ : ∃ k : Nat, v = (k : Int) := ⟨v.toNat, by omega⟩
  unfold f_M_here
  rw [if_neg (by rw [zI_le (by omega) (by omega) (by omega) (by omega)]; omega), ldA_z (f := tx) (by omega) (by omega), Option.bind_some, e, sgb_and k (by omega)]
theorem here_out {a : Nat} (hm : m ≤ 80) (ha : m ≤ a) (ha2 : a < 1000) : f_M_here tx (zI (m : Int)) (zI (a : Int)) = some (zI (-1)) := by
  unfold f_M_here
  rw [if_pos (by rw [zI_le (by omega) (by omega) (by omega) (by omega)]; omega)]
  rfl
theorem mfault_z (x : Int32) : f_M_fault x (-1 : Int32) = some x := by
  unfold f_M_fault
  rw [if_pos rfl]
/-- the sign there: a digit for both, or for none -/
theorem sign_z (ht : Px m sg tx) (hm : m ≤ 80) {a : Nat} (ha : a ≤ m) :
    (∃ w : Int, (0 ≤ w ∧ w ≤ 9) ∧ a < m ∧ f_T_digitAt (zI (a : Int)) sg (zI (m : Int)) = some (zI w) ∧ f_M_here tx (zI (m : Int)) (zI (a : Int)) = some (zI (w + 48))) ∨
    (f_T_digitAt (zI (a : Int)) sg (zI (m : Int)) = some (zI (-1)) ∧ ∃ h : Int, f_M_here tx (zI (m : Int)) (zI (a : Int)) = some (zI h) ∧ (-1 ≤ h ∧ h ≤ 255) ∧ ¬ (48 ≤ h ∧ h ≤ 57)) := by
  by_cases q : a < m
  · obtain ⟨v, hv, e1, e2⟩ := ht a q
    have d1 := digitAt_in hm q hv e1
    have d2 := here_in hm q hv e2
    by_cases w : 48 ≤ v ∧ v ≤ 57
    · rw [if_pos w] at d1
      exact Or.inl ⟨v - 48, by omega, q, d1, by rw [d2]; congr 2; omega⟩
    · rw [if_neg w] at d1
      exact Or.inr ⟨d1, v, d2, by omega, w⟩
  · exact Or.inr ⟨digitAt_out hm (by omega) (by omega), -1, here_out hm (by omega) (by omega), by omega, by omega⟩
theorem e10 (v w : Int) : (10 : Int32) * zI v + zI w = zI (10 * v + w) := by rw [show (10 : Int32) = zI 10 from rfl, zI_mul, zI_add]
theorem rn_step (ht : Px m sg tx) (hm : m ≤ 80) {d k a : Nat} {v : Int} (hk : k < d) (hd : d ≤ 2) (ha : a ≤ m) :
    (∃ w : Int, (0 ≤ w ∧ w ≤ 9) ∧ a < m ∧ un4 (fb_T_readNumber_6 (zI (d : Int)) sg (zI (m : Int))) (zI v, zI (k : Int), zI (a : Int), (-1 : Int32)) = some (.inl (zI (10 * v + w), zI ((k + 1 : Nat) : Int), zI ((a + 1 : Nat) : Int), (-1 : Int32))) ∧
      un4 (fb_M_digits_6 (zI (d : Int)) tx (zI (m : Int))) (zI v, zI (k : Int), zI (a : Int), (-1 : Int32)) = some (.inl (zI (10 * v + w), zI ((k + 1 : Nat) : Int), zI ((a + 1 : Nat) : Int), (-1 : Int32)))) ∨
    (un4 (fb_T_readNumber_6 (zI (d : Int)) sg (zI (m : Int))) (zI v, zI (k : Int), zI (a : Int), (-1 : Int32)) = some (.inl (zI v, zI ((k + 1 : Nat) : Int), zI (a : Int), zI (a : Int))) ∧
      un4 (fb_M_digits_6 (zI (d : Int)) tx (zI (m : Int))) (zI v, zI (k : Int), zI (a : Int), (-1 : Int32)) = some (.inl (zI v, zI ((k + 1 : Nat) : Int), zI ((a + 1 : Nat) : Int), zI (a : Int)))) := by
  have hlt : ¬ zI (d : Int) ≤ zI (k : Int) := by rw [zI_le (by omega) (by omega) (by omega) (by omega)]; omega
  have hn1 : ¬ (0 : Int32) ≤ (-1 : Int32) := by decide
  rcases sign_z ht hm ha with ⟨w, hw, hlm, e1, e2⟩ | ⟨e1, h, e2, hh, hno⟩
  · left
    refine ⟨w, hw, hlm, ?_, ?_⟩
    · dsimp only [un4]
      unfold fb_T_readNumber_6
      rw [if_neg hlt, if_neg hn1, e1, Option.bind_some, if_pos (show (0 : Int32) ≤ zI w from (zI_le (a := 0) (b := w) (by omega) (by omega) (by omega) (by omega)).mpr hw.1)]
      simp only [fj_T_readNumber_65, nm, zI_1, e10]
    · have ei : f_M_in (Int32.toInt64 (zI (w + 48))) (48 : Int64) (57 : Int64) = some (zI (b01 (48 ≤ w + 48 ∧ w + 48 ≤ 57))) := min_z (a := 48) (b := 57) (by omega) (by omega) (by omega)
      dsimp only [un4]
      unfold fb_M_digits_6
      rw [if_neg hlt, if_pos rfl, e2]
      simp only [Option.bind_some]
      rw [ei, Option.bind_some, if_neg (fun z => (b01_ne0.mp z) (by omega))]
      have es : zI (10 * v + (w + 48)) - (48 : Int32) = zI (10 * v + w) := by rw [show (48 : Int32) = zI 48 from rfl, zI_sub]; congr 1; omega
      simp only [fj_M_digits_63, nm, zI_1, e10, es]
  · right
    refine ⟨?_, ?_⟩
    · dsimp only [un4]
      unfold fb_T_readNumber_6
      rw [if_neg hlt, if_neg hn1, e1, Option.bind_some, if_neg (show ¬ (0 : Int32) ≤ zI (-1) by decide)]
      simp only [fj_T_readNumber_65, nm, zI_1]
    · have ei : f_M_in (Int32.toInt64 (zI h)) (48 : Int64) (57 : Int64) = some (zI (b01 (48 ≤ h ∧ h ≤ 57))) := min_z (a := 48) (b := 57) (by omega) (by omega) (by omega)
      dsimp only [un4]
      unfold fb_M_digits_6
      rw [if_neg hlt, if_pos rfl, e2]
      simp only [Option.bind_some]
      rw [ei, Option.bind_some, if_pos (b01_ne0.mpr hno), mfault_z, Option.bind_some]
      simp only [fj_M_digits_63, nm, zI_1]
theorem fz_ne {f : Nat} (hf : f ≤ 80) : ¬ zI (f : Int) = (-1 : Int32) := fun z => absurd ((zI_eq (a := (f : Int)) (b := -1) (by omega) (by omega) (by omega) (by omega)).mp (z.trans im1)) (by omega)
theorem fz_le {f : Nat} (hf : f ≤ 80) : (0 : Int32) ≤ zI (f : Int) := (zI_le (a := 0) (b := (f : Int)) (by omega) (by omega) (by omega) (by omega)).mpr (by omega)
theorem rn_stop {f : Nat} (hf : f ≤ 80) (l1 v k nx sz : Int32) : un4 (fb_T_readNumber_6 l1 sg sz) (v, k, nx, zI (f : Int)) = some (.inr (v, nx, zI (f : Int))) := by
  dsimp only [un4]
  unfold fb_T_readNumber_6
  by_cases q : l1 ≤ k
  · rw [if_pos q]
  · rw [if_neg q, if_pos (fz_le hf)]
theorem dg_stop {f : Nat} (hf : f ≤ 80) (l1 v k nx sz : Int32) : un4 (fb_M_digits_6 l1 tx sz) (v, k, nx, zI (f : Int)) = some (.inr (v, nx, zI (f : Int))) := by
  dsimp only [un4]
  unfold fb_M_digits_6
  by_cases q : l1 ≤ k
  · rw [if_pos q]
  · rw [if_neg q, if_neg (fz_ne hf)]
theorem rn_end (d : Nat) (v nx w sz : Int32) : un4 (fb_T_readNumber_6 (zI (d : Int)) sg sz) (v, zI (d : Int), nx, w) = some (.inr (v, nx, w)) := by
  dsimp only [un4]
  unfold fb_T_readNumber_6
  rw [if_pos (Int32.le_refl _)]
theorem dg_end (d : Nat) (v nx w sz : Int32) : un4 (fb_M_digits_6 (zI (d : Int)) tx sz) (v, zI (d : Int), nx, w) = some (.inr (v, nx, w)) := by
  dsimp only [un4]
  unfold fb_M_digits_6
  rw [if_pos (Int32.le_refl _)]
theorem rn_bad (hF : 10 < F) {f : Nat} (hf : f ≤ 80) (l1 l2 l3 sz nx : Int32) : f_T_readNumber F l1 l2 l3 sg sz nx (zI (f : Int)) = some (l2, nx, zI (f : Int)) := by
  obtain ⟨F, rfl⟩ : ∃ k, F = k + 1 := ⟨F - 1, by omega⟩
  unfold f_T_readNumber
  rw [iter_en (rn_stop hf l1 0 0 nx sz)]
  simp only [bd3, Option.bind_some]
  unfold fj_T_readNumber_71
  rw [if_pos (fz_le hf), if_pos (fz_le hf)]
theorem dg_bad (hF : 10 < F) {f : Nat} (hf : f ≤ 80) (l1 l2 l3 sz nx : Int32) : f_M_digits F l1 l2 l3 tx sz nx (zI (f : Int)) = some ((0 : Int32), nx, zI (f : Int)) := by
  obtain ⟨F, rfl⟩ : ∃ k, F = k + 1 := ⟨F - 1, by omega⟩
  unfold f_M_digits
  rw [iter_en (dg_stop hf l1 0 0 nx sz)]
  simp only [bd3, Option.bind_some]
  unfold fj_M_digits_79
  rw [if_neg (fz_ne hf)]
/-- the loops over one or two digits -/
theorem rn_loop (ht : Px m sg tx) (hm : m ≤ 80) (hF : 10 < F) {d a : Nat} (hd : d = 1 ∨ d = 2) (ha : a ≤ m) :
    (∃ v : Int, (0 ≤ v ∧ v ≤ 99) ∧ a + d ≤ m ∧ iter (un4 (fb_T_readNumber_6 (zI (d : Int)) sg (zI (m : Int)))) F ((0 : Int32), (0 : Int32), zI (a : Int), (-1 : Int32)) = some (zI v, zI ((a + d : Nat) : Int), (-1 : Int32)) ∧
      iter (un4 (fb_M_digits_6 (zI (d : Int)) tx (zI (m : Int)))) F ((0 : Int32), (0 : Int32), zI (a : Int), (-1 : Int32)) = some (zI v, zI ((a + d : Nat) : Int), (-1 : Int32))) ∨
    (∃ (f : Nat) (r nx r' nx' : Int32), f ≤ m ∧ iter (un4 (fb_T_readNumber_6 (zI (d : Int)) sg (zI (m : Int)))) F ((0 : Int32), (0 : Int32), zI (a : Int), (-1 : Int32)) = some (r, nx, zI (f : Int)) ∧
      iter (un4 (fb_M_digits_6 (zI (d : Int)) tx (zI (m : Int)))) F ((0 : Int32), (0 : Int32), zI (a : Int), (-1 : Int32)) = some (r', nx', zI (f : Int))) := by
  obtain ⟨F, rfl⟩ : ∃ k, F = k + 3 := ⟨F - 3, by omega⟩
  rcases rn_step ht hm (d := d) (k := 0) (a := a) (v := 0) (by omega) (by omega) ha with ⟨w, hw, hlm, e1, e2⟩ | ⟨e1, e2⟩
  · rcases hd with rfl | rfl
    · left
      refine ⟨10 * 0 + w, by omega, by omega, iter_st (F := F + 2) e1 (iter_en (F := F + 1) (rn_end 1 _ _ _ _)), iter_st (F := F + 2) e2 (iter_en (F := F + 1) (dg_end 1 _ _ _ _))⟩
    · rcases rn_step ht hm (d := 2) (k := 1) (a := a + 1) (v := 10 * 0 + w) (by omega) (by omega) (by omega) with ⟨w2, hw2, hlm2, g1, g2⟩ | ⟨g1, g2⟩
      · left
        refine ⟨10 * (10 * 0 + w) + w2, by omega, by omega, iter_st (F := F + 2) e1 (iter_st (F := F + 1) g1 (iter_en (F := F) (rn_end 2 _ _ _ _))), iter_st (F := F + 2) e2 (iter_st (F := F + 1) g2 (iter_en (F := F) (dg_end 2 _ _ _ _)))⟩
      · right
        exact ⟨a + 1, _, _, _, _, by omega, iter_st (F := F + 2) e1 (iter_st (F := F + 1) g1 (iter_en (F := F) (rn_end 2 _ _ _ _))), iter_st (F := F + 2) e2 (iter_st (F := F + 1) g2 (iter_en (F := F) (dg_end 2 _ _ _ _)))⟩
  · right
    exact ⟨a, _, _, _, _, ha, iter_st (F := F + 2) e1 (iter_en (F := F + 1) (rn_stop (by omega) _ _ _ _ _)), iter_st (F := F + 2) e2 (iter_en (F := F + 1) (dg_stop (by omega) _ _ _ _ _))⟩
/-- a number: both read it, or both find one fault -/
theorem rn_z (ht : Px m sg tx) (hm : m ≤ 80) (hF : 10 < F) {d a : Nat} (hd : d = 1 ∨ d = 2) (ha : a ≤ m) {lo hi : Int} (hlo : 0 ≤ lo ∧ lo ≤ 100) (hhi : 0 ≤ hi ∧ hi ≤ 100) :
    (∃ v : Int, (lo ≤ v ∧ v ≤ hi) ∧ a + d ≤ m ∧ f_T_readNumber F (zI (d : Int)) (zI lo) (zI hi) sg (zI (m : Int)) (zI (a : Int)) (-1 : Int32) = some (zI v, zI ((a + d : Nat) : Int), (-1 : Int32)) ∧
      f_M_digits F (zI (d : Int)) (zI lo) (zI hi) tx (zI (m : Int)) (zI (a : Int)) (-1 : Int32) = some (zI v, zI ((a + d : Nat) : Int), (-1 : Int32))) ∨
    (∃ (f : Nat) (r nx r' nx' : Int32), f ≤ m ∧ f_T_readNumber F (zI (d : Int)) (zI lo) (zI hi) sg (zI (m : Int)) (zI (a : Int)) (-1 : Int32) = some (r, nx, zI (f : Int)) ∧
      f_M_digits F (zI (d : Int)) (zI lo) (zI hi) tx (zI (m : Int)) (zI (a : Int)) (-1 : Int32) = some (r', nx', zI (f : Int))) := by
  rcases rn_loop ht hm hF hd ha with ⟨v, hv, hlm, e1, e2⟩ | ⟨f, r, nx, r', nx', hf, e1, e2⟩
  · have w1 : f_X_within (zI v) (zI lo) (zI hi) = some (zI (b01 (lo ≤ v ∧ v ≤ hi))) := within_z (a := lo) (b := hi) (by omega) (by omega) (by omega)
    have m1 : f_M_in (Int32.toInt64 (zI v)) (Int32.toInt64 (zI lo)) (Int32.toInt64 (zI hi)) = some (zI (b01 (lo ≤ v ∧ v ≤ hi))) := by
      rw [zI_l (a := lo) (by omega) (by omega), zI_l (a := hi) (by omega) (by omega)]
      exact min_z (a := lo) (b := hi) (by omega) (by omega) (by omega)
    have hn1 : ¬ (0 : Int32) ≤ (-1 : Int32) := by decide
    by_cases q : lo ≤ v ∧ v ≤ hi
    · left
      refine ⟨v, q, hlm, ?_, ?_⟩
      · unfold f_T_readNumber
        rw [e1]
        simp only [bd3, Option.bind_some]
        unfold fj_T_readNumber_71
        rw [if_neg hn1, w1, Option.bind_some, if_neg (fun z => (b01_ne0.mp z) q), if_neg hn1]
      · unfold f_M_digits
        rw [e2]
        simp only [bd3, Option.bind_some]
        unfold fj_M_digits_79
        rw [if_pos rfl, m1, Option.bind_some, if_neg (fun z => (b01_ne0.mp z) q)]
    · right
      have es : zI ((a + d : Nat) : Int) - (1 : Int32) = zI ((a + d - 1 : Nat) : Int) := by rw [i1, zI_sub]; congr 1; omega
      refine ⟨a + d - 1, zI lo, zI ((a + d : Nat) : Int), zI v, zI ((a + d : Nat) : Int), by omega, ?_, ?_⟩
      · unfold f_T_readNumber
        rw [e1]
        simp only [bd3, Option.bind_some]
        unfold fj_T_readNumber_71
        rw [if_neg hn1, w1, Option.bind_some, if_pos (b01_ne0.mpr q), es]
        simp only [nm]
        rw [if_pos (fz_le (by omega))]
      · unfold f_M_digits
        rw [e2]
        simp only [bd3, Option.bind_some]
        unfold fj_M_digits_79
        rw [if_pos rfl, m1, Option.bind_some, if_pos (b01_ne0.mpr q), es, mfault_z, Option.bind_some]
  · right
    refine ⟨f, zI lo, nx, r', nx', hf, ?_, ?_⟩
    · unfold f_T_readNumber
      rw [e1]
      simp only [bd3, Option.bind_some]
      unfold fj_T_readNumber_71
      rw [if_pos (fz_le (by omega)), if_pos (fz_le (by omega))]
    · unfold f_M_digits
      rw [e2]
      simp only [bd3, Option.bind_some]
      unfold fj_M_digits_79
      rw [if_neg (fz_ne (by omega))]
end OPS18
