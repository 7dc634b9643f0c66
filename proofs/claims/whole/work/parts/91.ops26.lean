/-! AS LOAD FALLS: the model tries who bears; falls -/
section OPS26
variable {n : Nat} {nv : Nat → Nat → Int} {A B : Int} {F : Nat} {g c y s u pit o now : Nat → Int32} {m : Nat} {σ : Nat → Int}
def mdF (m b : Nat) (i : Nat) : Int := if m.testBit i = true then (if b.testBit i = true then 1 else 0) else 3
theorem mdF_bd (m b i : Nat) : 0 ≤ mdF m b i ∧ mdF m b i ≤ 3 := by
  unfold mdF
  by_cases q : m.testBit i = true
  · rw [if_pos q]
    by_cases w : b.testBit i = true
    · rw [if_pos w]; omega
    · rw [if_neg w]; omega
  · rw [if_neg q]; omega
theorem kM_mdF {m b : Nat} (hb : ∀ i, i < n → b.testBit i = true → m.testBit i = true) : ∀ i, i < n → kF nv b i = kM nv (mdF m b) i := by
  intro i hi
  unfold kF kM mdF
  by_cases w : b.testBit i = true
  · rw [if_pos w, if_pos (hb i hi w), if_pos w, if_pos rfl]
  · rw [if_neg w]
    by_cases q : m.testBit i = true
    · rw [if_pos q, if_neg w, if_neg (by omega), if_neg (by omega)]
    · rw [if_neg q, if_neg (by omega), if_neg (by omega)]
theorem Sol.kcongr {w : Nat → Int} {k k' r : Nat → Int} {D : Int} {fr fs dr ds : Nat → Int} (e : ∀ i, i < n → k' i = k i) (h : Sol n w A B k r D fr fs dr ds) : Sol n w A B k' r D fr fs dr ds :=
  ⟨h.1, fun i hi q => h.2.1 i hi (by rw [← e i hi]; exact q), fun i hi q => by rw [e i hi] at q ⊢; exact h.2.2.1 i hi q, h.2.2.2⟩
theorem lvm_live {mo : Nat → Int32} (hn : n ≤ 5) (hL : Lvm n m mo) {i : Nat} (hi : i < n) : f_M_isLive (zI (i : Int)) mo = some (if m.testBit i = true then 1 else 0) := by
  obtain ⟨x, e, x0, x3, hx⟩ := hL i hi
  unfold f_M_isLive
  rw [ldA_z (f := mo) (j := i) (by omega) (by omega), Option.bind_some, e]
  by_cases q : m.testBit i = true
  · have : x ≠ 3 := fun w => by have := hx.mp w; rw [q] at this; cases this
    rw [if_neg (show ¬ zI x = (3 : Int32) from fun z => absurd ((zI_eq (a := x) (b := 3) (by omega) (by omega) (by omega) (by omega)).mp z) (by omega)), if_pos q]
  · have : x = 3 := hx.mpr (by simpa using q)
    rw [if_pos (show zI x = (3 : Int32) by rw [this]; rfl), if_neg q]
theorem bit_val {b : Nat} (hb : b < 32) {j : Nat} (hj : j < 5) : ((zI (b : Int) >>> (zI (j : Int) &&& 31)) &&& (1 : Int32)) = zI (if b.testBit j = true then 1 else 0) := by
  by_cases q : b.testBit j = true
  · rw [if_pos q]; exact (bit_one b hb j hj).mpr q
  · rw [if_neg q]; exact (bit_no b hb j hj).mpr (by simpa using q)
theorem solveFalling_z (hn : n ≤ 5) (hF : 40 < F) (hv : NvOk n nv) (hA : 0 ≤ A ∧ A ≤ 2) (hB : 0 ≤ B ∧ B ≤ 2) (h : ∀ i, i < n → ∀ q, q < 7 → now (7 * i + q) = zI (nv i q)) {b : Nat} (hb : b < 32) (hbm : ∀ i, i < n → b.testBit i = true → m.testBit i = true) (hne : ∃ i, i < n ∧ b.testBit i = true) (hσ : ∀ i, i < n → 0 ≤ σ i ∧ σ i ≤ 150000000) {so : Nat → Int64} (hso : ∀ i, i < n → so i = zL (σ i)) {mo : Nat → Int32} (hL : Lvm n m mo) (uu : Int64) (sl mb ss sb off : Nat → Int64) (be : Nat → Int32) (bs : Int32) (ma : Nat → Int64) :
    ∃ (mo1 : Nat → Int32) (uu1 : Int64) (sl1 mb1 ss1 sb1 of1 : Nat → Int64) (be1 : Nat → Int32) (bs1 : Int32) (ma1 : Nat → Int64) (D : Int) (fr fs dr ds : Nat → Int), f_M_solveFalling F (zI (b : Int)) now (zI (n : Int)) (zI A) (zI B) mo uu sl mb ss sb off be bs ma so = some (mo1, uu1, sl1, mb1, ss1, sb1, of1, be1, bs1, ma1) ∧ (∀ i, i < n → mo1 i = zI (mdF m b i)) ∧ Lvm n m mo1 ∧ LnF n nv A B b σ D fr fs dr ds ∧ D ≤ 299269 ∧ SOk n D fr fs dr ds uu1 sl1 mb1 ss1 sb1 := by
  have loop := iter_for (body := un3 (fb_M_solveFalling_2 (zI (b : Int)) (zI (n : Int)) so)) (F := F) (s := ((0 : Int32), mo, off))
    (fun j z => ∃ (mo' : Nat → Int32) (of' : Nat → Int64), z = (zI (j : Int), mo', of') ∧ (∀ i, i < j → mo' i = zI (mdF m b i) ∧ of' i = zL (σ i)) ∧ ∀ i, j ≤ i → mo' i = mo i)
    (fun z => ∃ (mo' : Nat → Int32) (of' : Nat → Int64), z = (mo', of') ∧ ∀ i, i < n → mo' i = zI (mdF m b i) ∧ of' i = zL (σ i)) n (by omega) ⟨mo, off, rfl, fun i hi => absurd hi (Nat.not_lt_zero i), fun i _ => rfl⟩ ?_ ?_
  · obtain ⟨z, e, mo', of', rfl, hz⟩ := loop
    obtain ⟨D, fr, fs, dr, ds, s1, b1, ss1, sb1, be1, bs1, mat1, es, hS, hD2, g1, g2, g3, g4⟩ := solveBy_z (n := n) hn (F := F) hF (geo_nv hv hA hB) hv h (md := mdF m b) (mode := mo') (off := of') (rr := σ) (fun i hi => ⟨(hz i hi).1, (mdF_bd m b i).1, (mdF_bd m b i).2⟩) (fun i hi => (hz i hi).2) (fun i hi => by have := hσ i hi; omega) (by
      obtain ⟨i, hi, q⟩ := hne
      exact ⟨i, hi, by rw [← kM_mdF hbm i hi]; exact (kF_pos hv hi).mpr q⟩) uu sl mb ss sb be bs ma
    refine ⟨mo', zL D, s1, b1, ss1, sb1, of', be1, bs1, mat1, D, fr, fs, dr, ds, ?_, fun i hi => (hz i hi).1, fun i hi => ⟨mdF m b i, (hz i hi).1, (mdF_bd m b i).1, (mdF_bd m b i).2, ?_⟩, hS.kcongr (kM_mdF hbm), hD2, rfl, g1, g2, g3, g4⟩
    · unfold f_M_solveFalling
      rw [e]
      simp only [bd2, Option.bind_some]
      rw [es]
      rfl
    · unfold mdF
      by_cases q : m.testBit i = true
      · rw [if_pos q, q]
        refine ⟨fun w => ?_, fun w => by cases w⟩
        by_cases x : b.testBit i = true
        · rw [if_pos x] at w; omega
        · rw [if_neg x] at w; omega
      · rw [if_neg q]
        exact ⟨fun _ => by simpa using q, fun _ => rfl⟩
  · rintro j z hj ⟨mo', of', rfl, hz, hk⟩
    have hl : f_M_isLive (zI (j : Int)) mo' = some (if m.testBit j = true then 1 else 0) := by
      have a := lvm_live hn hL hj
      unfold f_M_isLive at a ⊢
      rw [ldA_z (f := mo) (j := j) (by omega) (by omega)] at a
      rw [ldA_z (f := mo') (j := j) (by omega) (by omega), hk j (Nat.le_refl j)]
      exact a
    have fin : ∀ mo2 : Nat → Int32, (∀ i, i < j + 1 → mo2 i = zI (mdF m b i)) → (∀ i, j + 1 ≤ i → mo2 i = mo i) → ∃ s', fj_M_solveFalling_29 (zI (j : Int)) mo2 of' so = some (.inl s') ∧ ∃ (mo' : Nat → Int32) (of' : Nat → Int64), s' = (zI ((j + 1 : Nat) : Int), mo', of') ∧ (∀ i, i < j + 1 → mo' i = zI (mdF m b i) ∧ of' i = zL (σ i)) ∧ ∀ i, j + 1 ≤ i → mo' i = mo i := by
      intro mo2 h1 h2
      unfold fj_M_solveFalling_29
      rw [ldA_z (f := so) (j := j) (by omega) (by omega), Option.bind_some, stL_z (f := of') (j := j) (by omega) (by omega), Option.bind_some, hso j hj]
      simp only [nm, zI_1]
      refine ⟨_, rfl, _, _, rfl, fun i hi => ⟨h1 i hi, ?_⟩, h2⟩
      rw [updL_at]
      by_cases x : i = j
      · rw [if_pos x, x]
      · rw [if_neg x]; exact (hz i (by omega)).2
    dsimp only [un3]
    unfold fb_M_solveFalling_2
    rw [if_neg (by rw [zI_le (by omega) (by omega) (by omega) (by omega)]; omega), hl, Option.bind_some]
    by_cases q : m.testBit j = true
    · rw [if_pos q, if_neg (show ¬ (1 : Int32) = 0 by decide), bit_val hb (by omega), stI_z (f := mo') (j := j) (by omega) (by omega), Option.bind_some]
      refine fin _ (fun i hi => ?_) (fun i hi => ?_)
      · rw [upd_at]
        by_cases x : i = j
        · rw [if_pos x, x]; unfold mdF; rw [if_pos q]
        · rw [if_neg x]; exact (hz i (by omega)).1
      · rw [upd_at, if_neg (by omega)]; exact hk i (by omega)
    · rw [if_neg q, if_pos rfl]
      refine fin _ (fun i hi => ?_) (fun i hi => hk i (by omega))
      by_cases x : i = j
      · rw [x, hk j (Nat.le_refl j)]
        obtain ⟨v, e, v0, v3, hx⟩ := hL j hj
        rw [e, hx.mpr (by simpa using q)]
        unfold mdF
        rw [if_neg q]
      · exact (hz i (by omega)).1
  · rintro z ⟨mo', of', rfl, hz, hk⟩
    dsimp only [un3]
    unfold fb_M_solveFalling_2
    rw [if_pos (Int32.le_refl _)]
    exact ⟨_, rfl, mo', of', rfl, hz⟩
/-- those told, and none other, bear -/
def GoodF (n : Nat) (nv : Nat → Nat → Int) (A B : Int) (m : Nat) (σ : Nat → Int) (x : Int) (b : Nat) : Prop :=
  (∀ i, i < n → b.testBit i = true → m.testBit i = true) ∧ ∀ D fr fs dr ds, LnF n nv A B b σ D fr fs dr ds → ∀ i, i < n → m.testBit i = true → (b.testBit i = true → 0 < fr i * x + fs i * 1) ∧ (¬ b.testBit i = true → dr i * x + ds i * 1 ≤ σ i * D)
theorem fallen_z {D : Int} {fr fs dr ds : Nat → Int} {uu1 : Int64} {sl1 mb1 ss1 sb1 : Nat → Int64} (hn : n ≤ 5) (hO : SOk n D fr fs dr ds uu1 sl1 mb1 ss1 sb1) {q : Int} (hq : 0 ≤ q ∧ q ≤ 300) (U : Int) {i : Nat} (hi : i < n) : f_M_fallenForce (zI (i : Int)) (zI q) sl1 mb1 (zL U) = some (zL (fr i * (q * U) + fs i * 1)) ∧ f_M_fallenSlip (zI (i : Int)) (zI q) ss1 sb1 (zL U) = some (zL (dr i * (q * U) + ds i * 1)) := by
  obtain ⟨o1, o2, o3, o4, o5⟩ := hO
  constructor
  · unfold f_M_fallenForce
    rw [ldA_z (by omega) (by omega), Option.bind_some, ldA_z (by omega) (by omega), Option.bind_some, o2 i hi, o3 i hi, zI_l (a := q) (by omega) (by omega), zL_mul, zL_mul, zL_add, Int.mul_one, Int.mul_assoc]
  · unfold f_M_fallenSlip
    rw [ldA_z (by omega) (by omega), Option.bind_some, ldA_z (by omega) (by omega), Option.bind_some, o4 i hi, o5 i hi, zI_l (a := q) (by omega) (by omega), zL_mul, zL_mul, zL_add, Int.mul_one, Int.mul_assoc]
theorem isFallen_z (hn : n ≤ 5) (hF : 40 < F) (hv : NvOk n nv) (hA : 0 ≤ A ∧ A ≤ 2) (hB : 0 ≤ B ∧ B ≤ 2) (h : ∀ i, i < n → ∀ q, q < 7 → now (7 * i + q) = zI (nv i q)) {b : Nat} (hb : b < 32) (hne : ∃ i, i < n ∧ b.testBit i = true) (hσ : ∀ i, i < n → 0 ≤ σ i ∧ σ i ≤ 150000000) {so : Nat → Int64} (hso : ∀ i, i < n → so i = zL (σ i)) {q U : Int} (hq : 0 ≤ q ∧ q ≤ 300) (hU : 0 < U ∧ U ≤ 299269) {mo : Nat → Int32} (hL : Lvm n m mo) (uu : Int64) (sl mb ss sb off : Nat → Int64) (be : Nat → Int32) (bs : Int32) (ma : Nat → Int64) :
    ∃ (r : Int32) (mo1 : Nat → Int32) (uu1 : Int64) (sl1 mb1 ss1 sb1 of1 : Nat → Int64) (be1 : Nat → Int32) (bs1 : Int32) (ma1 : Nat → Int64), f_M_isFallen F (zI (b : Int)) (zI q) now (zI (n : Int)) (zI A) (zI B) mo uu sl mb ss sb off be bs ma so (zL U) = some (r, mo1, uu1, sl1, mb1, ss1, sb1, of1, be1, bs1, ma1) ∧ Lvm n m mo1 ∧
      ((r = 0 ∧ ¬ GoodF n nv A B m σ (q * U) b) ∨ (r = 1 ∧ ∃ (D : Int) (fr fs dr ds : Nat → Int), LnF n nv A B b σ D fr fs dr ds ∧ D ≤ 299269 ∧ SOk n D fr fs dr ds uu1 sl1 mb1 ss1 sb1 ∧ FSt n nv A B m (fun i => σ i * D) (D * (q * U)) (fun i => fr i * (q * U) + fs i * 1) (fun i => dr i * (q * U) + ds i * 1))) := by
  have hx := mul_bd hq.1 (show 0 ≤ U by omega) hq.2 hU.2
  obtain ⟨r1, e1, hr1⟩ := iter_up (body := fb_M_isFallen_2 (zI (b : Int)) (zI (n : Int)) mo) (fun k z => z = zI (k : Int) ∧ ∀ i, i < k → b.testBit i = true → m.testBit i = true) (fun r => (r = 1 ∧ ∀ i, i < n → b.testBit i = true → m.testBit i = true) ∨ (r = 0 ∧ ∃ i, i < n ∧ b.testBit i = true ∧ ¬ m.testBit i = true)) n (by
    rintro k z hk ⟨rfl, hz⟩
    unfold fb_M_isFallen_2
    rw [if_neg (by rw [zI_le (by omega) (by omega) (by omega) (by omega)]; omega)]
    have hbk := bit_one b hb k (by omega)
    by_cases w : b.testBit k = true
    · rw [if_pos (hbk.mpr w), lvm_live hn hL hk, Option.bind_some]
      by_cases v : m.testBit k = true
      · rw [if_pos v, if_neg (show ¬ (1 : Int32) = 0 by decide)]
        simp only [fj_M_isFallen_29, nm, zI_1]
        refine Or.inl ⟨_, rfl, rfl, fun i hi x => ?_⟩
        by_cases t : i = k
        · rw [t]; exact v
        · exact hz i (by omega) x
      · rw [if_neg v, if_pos rfl]
        exact Or.inr ⟨_, rfl, Or.inr ⟨rfl, k, hk, w, v⟩⟩
    · rw [if_neg (fun x => w (hbk.mp x))]
      simp only [fj_M_isFallen_29, nm, zI_1]
      refine Or.inl ⟨_, rfl, rfl, fun i hi x => ?_⟩
      by_cases t : i = k
      · rw [t] at x; exact absurd x w
      · exact hz i (by omega) x) (by
    rintro z ⟨rfl, hz⟩
    unfold fb_M_isFallen_2
    rw [if_pos (Int32.le_refl _)]
    exact ⟨_, rfl, Or.inl ⟨rfl, hz⟩⟩) n 0 F (0 : Int32) (by omega) (by omega) ⟨rfl, fun i hi => absurd hi (Nat.not_lt_zero i)⟩
  unfold f_M_isFallen
  rw [e1, Option.bind_some]
  rcases hr1 with ⟨rfl, hbm⟩ | ⟨rfl, i, hi, x1, x2⟩
  rotate_left
  · rw [if_pos rfl]
    exact ⟨_, _, _, _, _, _, _, _, _, _, _, rfl, hL, Or.inl ⟨rfl, fun z => x2 (z.1 i hi x1)⟩⟩
  rw [if_neg (by decide)]
  obtain ⟨mo1, uu1, sl1, mb1, ss1, sb1, of1, be1, bs1, ma1, D, fr, fs, dr, ds, es, hmo, hL1, hS, hD2, hO⟩ := solveFalling_z (F := F) hn hF hv hA hB h hb hbm hne hσ hso hL uu sl mb ss sb off be bs ma
  have hD := hS.1
  have hbd := lnF_bd hn hv hA hB hσ hS
  obtain ⟨r2, e2, hr2⟩ := iter_up (body := fb_M_isFallen_42 (zI q) (zI (n : Int)) mo1 uu1 sl1 mb1 ss1 sb1 so (zL U)) (fun k z => z = zI (k : Int) ∧ ∀ i, i < k → m.testBit i = true → (b.testBit i = true → 0 < fr i * (q * U) + fs i * 1) ∧ (¬ b.testBit i = true → dr i * (q * U) + ds i * 1 ≤ σ i * D)) (fun r => (r = 2 ∧ ∀ i, i < n → m.testBit i = true → (b.testBit i = true → 0 < fr i * (q * U) + fs i * 1) ∧ (¬ b.testBit i = true → dr i * (q * U) + ds i * 1 ≤ σ i * D)) ∨ ((r = 0 ∨ r = 1) ∧ ∃ i, i < n ∧ m.testBit i = true ∧ ¬ ((b.testBit i = true → 0 < fr i * (q * U) + fs i * 1) ∧ (¬ b.testBit i = true → dr i * (q * U) + ds i * 1 ≤ σ i * D)))) n (by
    rintro k z hk ⟨rfl, hz⟩
    have bk := hbd k hk
    have sk := hσ k hk
    have q1 := mul_bd bk.1 hx.1 (show fr k ≤ 299269 by omega) hx.2
    have q2 := mul_bd (show 0 ≤ dr k by omega) hx.1 (show dr k ≤ 25 * 299269 by omega) hx.2
    have q3 := mul_bd sk.1 (show 0 ≤ D by omega) sk.2 hD2
    obtain ⟨ff, fd⟩ := fallen_z hn hO hq U hk
    unfold fb_M_isFallen_42
    rw [if_neg (by rw [zI_le (by omega) (by omega) (by omega) (by omega)]; omega), lvm_live hn hL1 hk, Option.bind_some]
    have next : ((b.testBit k = true → 0 < fr k * (q * U) + fs k * 1) ∧ (¬ b.testBit k = true → dr k * (q * U) + ds k * 1 ≤ σ k * D) ∨ ¬ m.testBit k = true) → ∀ i, i < k + 1 → m.testBit i = true → (b.testBit i = true → 0 < fr i * (q * U) + fs i * 1) ∧ (¬ b.testBit i = true → dr i * (q * U) + ds i * 1 ≤ σ i * D) := by
      intro hh i hi x
      by_cases t : i = k
      · subst t
        rcases hh with hh | hh
        · exact hh
        · exact absurd x hh
      · exact hz i (by omega) x
    by_cases v : m.testBit k = true
    · rw [if_pos v, if_neg (show ¬ (1 : Int32) = 0 by decide), ldA_z (f := mo1) (j := k) (by omega) (by omega), Option.bind_some, hmo k hk]
      by_cases w : b.testBit k = true
      · rw [show mdF m b k = 1 by unfold mdF; rw [if_pos v, if_pos w], if_pos (show zI 1 = (1 : Int32) from rfl), ff, Option.bind_some]
        by_cases x : 0 < fr k * (q * U) + fs k * 1
        · rw [if_pos (show (0 : Int64) < zL (fr k * (q * U) + fs k * 1) from (zL_lt (a := 0) (b := fr k * (q * U) + fs k * 1) (by omega) (by omega) (by omega) (by omega)).mpr x)]
          simp only [fj_M_isFallen_108, nm, zI_1]
          exact Or.inl ⟨_, rfl, rfl, next (Or.inl ⟨fun _ => x, fun z => absurd w z⟩)⟩
        · rw [if_neg (show ¬ (0 : Int64) < zL (fr k * (q * U) + fs k * 1) from fun z => x ((zL_lt (a := 0) (b := fr k * (q * U) + fs k * 1) (by omega) (by omega) (by omega) (by omega)).mp z))]
          exact Or.inr ⟨_, rfl, Or.inr ⟨Or.inl rfl, k, hk, v, fun z => x (z.1 w)⟩⟩
      · rw [show mdF m b k = 0 by unfold mdF; rw [if_pos v, if_neg w], if_neg (show ¬ zI 0 = (1 : Int32) by decide), fd, Option.bind_some, ldA_z (f := so) (j := k) (by omega) (by omega), Option.bind_some, hso k hk, hO.1, zL_mul]
        by_cases x : dr k * (q * U) + ds k * 1 ≤ σ k * D
        · rw [if_pos ((zL_le (by omega) (by omega) (by omega) (by omega)).mpr x)]
          simp only [fj_M_isFallen_108, nm, zI_1]
          exact Or.inl ⟨_, rfl, rfl, next (Or.inl ⟨fun z => absurd z w, fun _ => x⟩)⟩
        · rw [if_neg (fun z => x ((zL_le (by omega) (by omega) (by omega) (by omega)).mp z))]
          exact Or.inr ⟨_, rfl, Or.inr ⟨Or.inr rfl, k, hk, v, fun z => x (z.2 w)⟩⟩
    · rw [if_neg v, if_pos rfl]
      simp only [fj_M_isFallen_108, nm, zI_1]
      exact Or.inl ⟨_, rfl, rfl, next (Or.inr v)⟩) (by
    rintro z ⟨rfl, hz⟩
    unfold fb_M_isFallen_42
    rw [if_pos (Int32.le_refl _)]
    exact ⟨_, rfl, Or.inl ⟨rfl, hz⟩⟩) n 0 F (0 : Int32) (by omega) (by omega) ⟨rfl, fun i hi => absurd hi (Nat.not_lt_zero i)⟩
  rw [es]
  simp only [bd10, Option.bind_some]
  rw [e2, Option.bind_some]
  rcases hr2 with ⟨rfl, hz⟩ | ⟨hr, i, hi, x1, x2⟩
  · rw [if_neg (by decide), if_neg (by decide)]
    refine ⟨_, _, _, _, _, _, _, _, _, _, _, rfl, hL1, Or.inr ⟨rfl, D, fr, fs, dr, ds, hS, hD2, hO, hS.row (q * U) 1, fun i hi x => ?_, fun i hi x => (lnF_on hv hS (q * U) hi).2 (fun z => x (hbm i hi z))⟩⟩
    have on := lnF_on hv hS (q * U) hi
    by_cases w : b.testBit i = true
    · exact Or.inl ⟨(hz i hi x).1 w, on.1 w⟩
    · exact Or.inr ⟨on.2 w, (hz i hi x).2 w⟩
  · have hng : ¬ GoodF n nv A B m σ (q * U) b := fun z => x2 (z.2 D fr fs dr ds hS i hi x1)
    rcases hr with rfl | rfl
    · rw [if_pos rfl]
      exact ⟨_, _, _, _, _, _, _, _, _, _, _, rfl, hL1, Or.inl ⟨rfl, hng⟩⟩
    · rw [if_neg (by decide), if_pos rfl]
      exact ⟨_, _, _, _, _, _, _, _, _, _, _, rfl, hL1, Or.inl ⟨rfl, hng⟩⟩
theorem bit_in {b : Nat} (h0 : ¬ b = 0) (h : b < 2 ^ n) : ∃ i, i < n ∧ b.testBit i = true := by
  obtain ⟨i, hi⟩ := some_bit h0
  refine ⟨i, Nat.lt_of_not_le fun w => ?_, hi⟩
  have : b < 2 ^ i := Nat.lt_of_lt_of_le h (Nat.pow_le_pow_right (by omega) w)
  rw [Nat.testBit_lt_two_pow this] at hi
  cases hi
theorem falls_loop (hn : n ≤ 5) (hF : 40 < F) (hv : NvOk n nv) (hA : 0 ≤ A ∧ A ≤ 2) (hB : 0 ≤ B ∧ B ≤ 2) (h : ∀ i, i < n → ∀ q, q < 7 → now (7 * i + q) = zI (nv i q)) (hσ : ∀ i, i < n → 0 ≤ σ i ∧ σ i ≤ 150000000) {so : Nat → Int64} (hso : ∀ i, i < n → so i = zL (σ i)) {q U : Int} (hq : 0 ≤ q ∧ q ≤ 300) (hU : 0 < U ∧ U ≤ 299269) {H : Nat} (hH : H < 2 ^ n) (hg : GoodF n nv A B m σ (q * U) H) :
    ∀ (j F1 : Nat), j < F1 → ∀ (b : Nat), b + j = H → 0 < b → ∀ (mo : Nat → Int32) (uu : Int64) (sl mb ss sb off : Nat → Int64) (be : Nat → Int32) (bs : Int32) (ma : Nat → Int64), Lvm n m mo →
      ∃ (mo1 : Nat → Int32) (uu1 : Int64) (sl1 mb1 ss1 sb1 of1 : Nat → Int64) (be1 : Nat → Int32) (bs1 : Int32) (ma1 : Nat → Int64) (bb : Nat) (D : Int) (fr fs dr ds : Nat → Int), iter (un11 (fb_M_falls_80 F (zI q) now (zI (n : Int)) (zI A) (zI B) so (zL U))) F1 (zI (b : Int), mo, uu, sl, mb, ss, sb, off, be, bs, ma) = some (mo1, uu1, sl1, mb1, ss1, sb1, of1, be1, bs1, ma1) ∧ LnF n nv A B bb σ D fr fs dr ds ∧ D ≤ 299269 ∧ SOk n D fr fs dr ds uu1 sl1 mb1 ss1 sb1 ∧ FSt n nv A B m (fun i => σ i * D) (D * (q * U)) (fun i => fr i * (q * U) + fs i * 1) (fun i => dr i * (q * U) + ds i * 1) := by
  have h32 : H < 32 := Nat.lt_of_lt_of_le hH (Nat.pow_le_pow_right (n := 2) (by omega) hn)
  intro j
  induction j with
  | zero => ?_
  | succ j ih => ?_
  all_goals
    intro F1 h1 b hbj hb0 mo uu sl mb ss sb off be bs ma hL
    obtain ⟨F1, rfl⟩ : ∃ x, F1 = x + 1 := ⟨F1 - 1, by omega⟩
    obtain ⟨r, mo1, uu1, sl1, mb1, ss1, sb1, of1, be1, bs1, ma1, e, hL1, hr⟩ := isFallen_z (F := F) hn hF hv hA hB h (b := b) (by omega) (bit_in (by omega) (by omega)) hσ hso hq hU hL uu sl mb ss sb off be bs ma
    rcases hr with ⟨rfl, hng⟩ | ⟨rfl, D, fr, fs, dr, ds, z1, z2, z3, z4⟩
    rotate_left
    · refine ⟨mo1, uu1, sl1, mb1, ss1, sb1, of1, be1, bs1, ma1, b, D, fr, fs, dr, ds, iter_en ?_, z1, z2, z3, z4⟩
      dsimp only [un11]
      unfold fb_M_falls_80
      rw [e]
      simp only [bd11, Option.bind_some]
      rw [if_neg (show ¬ (1 : Int32) = 0 by decide)]
  · exact absurd hg (by rw [← hbj]; exact hng)
  · have hstep : un11 (fb_M_falls_80 F (zI q) now (zI (n : Int)) (zI A) (zI B) so (zL U)) (zI (b : Int), mo, uu, sl, mb, ss, sb, off, be, bs, ma) = some (.inl (zI ((b + 1 : Nat) : Int), mo1, uu1, sl1, mb1, ss1, sb1, of1, be1, bs1, ma1)) := by
      dsimp only [un11]
      unfold fb_M_falls_80
      rw [e]
      simp only [bd11, Option.bind_some]
      rw [if_pos trivial]
      simp only [nm, zI_1]
    obtain ⟨mo2, uu2, sl2, mb2, ss2, sb2, of2, be2, bs2, ma2, bb, D, fr, fs, dr, ds, e2, z⟩ := ih F1 (by omega) (b + 1) (by omega) (by omega) mo1 uu1 sl1 mb1 ss1 sb1 of1 be1 bs1 ma1 hL1
    exact ⟨mo2, uu2, sl2, mb2, ss2, sb2, of2, be2, bs2, ma2, bb, D, fr, fs, dr, ds, iter_st hstep e2, z⟩
theorem leastSet_z (hn : n ≤ 5) (hF : 10 < F) (hσ : ∀ i, i < n → 0 ≤ σ i ∧ σ i ≤ 150000000) {so : Nat → Int64} (hso : ∀ i, i < n → so i = zL (σ i)) {mo : Nat → Int32} (hL : Lvm n m mo) (hne : ∃ i, i < n ∧ m.testBit i = true) :
    ∃ j, j < n ∧ m.testBit j = true ∧ f_M_leastSet F (zI (n : Int)) mo so = some (zL (σ j)) ∧ ∀ i, i < n → m.testBit i = true → σ j ≤ σ i := by
  have loop := iter_for (body := un2 (fb_M_leastSet_6 (zI (n : Int)) mo so)) (F := F) (s := ((9223372036854775807 : Int64), (0 : Int32)))
    (fun k z => ∃ v : Int, z = (zL v, zI (k : Int)) ∧ ((v = 9223372036854775807 ∧ ∀ i, i < k → ¬ m.testBit i = true) ∨ (∃ j, j < k ∧ m.testBit j = true ∧ v = σ j ∧ ∀ i, i < k → m.testBit i = true → σ j ≤ σ i)))
    (fun z => ∃ v : Int, z = zL v ∧ ((v = 9223372036854775807 ∧ ∀ i, i < n → ¬ m.testBit i = true) ∨ (∃ j, j < n ∧ m.testBit j = true ∧ v = σ j ∧ ∀ i, i < n → m.testBit i = true → σ j ≤ σ i))) n (by omega) ⟨9223372036854775807, rfl, Or.inl ⟨rfl, fun i hi => absurd hi (Nat.not_lt_zero i)⟩⟩ ?_ ?_
  · obtain ⟨z, e, v, rfl, hz⟩ := loop
    rcases hz with ⟨-, hno⟩ | ⟨j, j1, j2, rfl, j4⟩
    · obtain ⟨i, hi, q⟩ := hne
      exact absurd q (hno i hi)
    · refine ⟨j, j1, j2, ?_, j4⟩
      unfold f_M_leastSet
      rw [e, Option.bind_some]
  · rintro k z hk ⟨v, rfl, hz⟩
    have sk := hσ k hk
    dsimp only [un2]
    unfold fb_M_leastSet_6
    rw [if_neg (by rw [zI_le (by omega) (by omega) (by omega) (by omega)]; omega), lvm_live hn hL hk, Option.bind_some]
    by_cases q : m.testBit k = true
    · rw [if_pos q, if_neg (show ¬ (1 : Int32) = 0 by decide), ldA_z (f := so) (j := k) (by omega) (by omega), Option.bind_some, hso k hk]
      simp only [nm]
      rcases hz with ⟨rfl, hno⟩ | ⟨j, j1, j2, rfl, j4⟩
      · rw [if_pos ((zL_lt (a := σ k) (b := 9223372036854775807) (by omega) (by omega) (by omega) (by omega)).mpr (by omega))]
        simp only [fj_M_leastSet_33, nm, zI_1]
        refine ⟨_, rfl, σ k, rfl, Or.inr ⟨k, by omega, q, rfl, fun i hi w => ?_⟩⟩
        by_cases x : i = k
        · rw [x]; exact Int.le_refl _
        · exact absurd w (hno i (by omega))
      · have sj := hσ j (by omega)
        by_cases w : σ k < σ j
        · rw [if_pos ((zL_lt (by omega) (by omega) (by omega) (by omega)).mpr w)]
          simp only [fj_M_leastSet_33, nm, zI_1]
          refine ⟨_, rfl, σ k, rfl, Or.inr ⟨k, by omega, q, rfl, fun i hi w => ?_⟩⟩
          by_cases x : i = k
          · rw [x]; exact Int.le_refl _
          · have := j4 i (by omega) w; omega
        · rw [if_neg (fun z => w ((zL_lt (by omega) (by omega) (by omega) (by omega)).mp z))]
          simp only [fj_M_leastSet_33, nm, zI_1]
          refine ⟨_, rfl, σ j, rfl, Or.inr ⟨j, by omega, j2, rfl, fun i hi x => ?_⟩⟩
          by_cases y : i = k
          · rw [y]; omega
          · exact j4 i (by omega) x
    · rw [if_neg q, if_pos rfl]
      simp only [fj_M_leastSet_33, nm, zI_1]
      refine ⟨_, rfl, v, rfl, ?_⟩
      rcases hz with ⟨h1, hno⟩ | ⟨j, j1, j2, j3, j4⟩
      · refine Or.inl ⟨h1, fun i hi w => ?_⟩
        by_cases x : i = k
        · rw [x] at w; exact q w
        · exact hno i (by omega) w
      · refine Or.inr ⟨j, by omega, j2, j3, fun i hi w => ?_⟩
        by_cases x : i = k
        · rw [x] at w; exact absurd w q
        · exact j4 i (by omega) w
  · rintro z ⟨v, rfl, hz⟩
    dsimp only [un2]
    unfold fb_M_leastSet_6
    rw [if_pos (Int32.le_refl _)]
    exact ⟨_, rfl, v, rfl, hz⟩
end OPS26
