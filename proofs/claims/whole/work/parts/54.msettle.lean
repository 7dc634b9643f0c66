/-! THE MODEL SETTLES: all ways are tried -/
def pw (m : Nat) : Nat → Nat
  | 0 => 1
  | j + 1 => if m.testBit j = true then pw m j * 3 else pw m j
theorem pw_pos (m : Nat) : ∀ j, 1 ≤ pw m j
  | 0 => Nat.le_refl _
  | j + 1 => by
    have := pw_pos m j
    simp only [pw]
    by_cases q : m.testBit j = true
    · rw [if_pos q]; omega
    · rw [if_neg q]; exact this
theorem pw_le (m : Nat) : ∀ j, pw m j ≤ 3 ^ j
  | 0 => Nat.le_refl _
  | j + 1 => by
    have := pw_le m j
    simp only [pw]
    rw [Nat.pow_succ]
    by_cases q : m.testBit j = true
    · rw [if_pos q]; omega
    · rw [if_neg q]; omega
theorem pw_dvd {m j : Nat} (hj : m.testBit j = true) : ∀ d, ∃ c, pw m (j + 1 + d) = pw m j * (3 * c)
  | 0 => ⟨1, by show pw m (j + 1) = _; simp only [pw]; rw [if_pos hj]⟩
  | d + 1 => by
    obtain ⟨c, hc⟩ := pw_dvd hj d
    show ∃ c, pw m (j + 1 + d + 1) = _
    simp only [pw]
    by_cases q : m.testBit (j + 1 + d) = true
    · rw [if_pos q, hc]; exact ⟨c * 3, by rw [Nat.mul_assoc, Nat.mul_assoc]⟩
    · rw [if_neg q]; exact ⟨c, hc⟩
theorem code_ex {m : Nat} {md : Nat → Int} : ∀ n : Nat, (∀ i, i < n → m.testBit i = true → 0 ≤ md i ∧ md i ≤ 2) → ∃ w, w < pw m n ∧ ∀ i, i < n → m.testBit i = true → ((w / pw m i % 3 : Nat) : Int) = md i
  | 0, _ => ⟨0, pw_pos m 0, fun i hi => absurd hi (by omega)⟩
  | n + 1, h => by
    obtain ⟨w, w1, w2⟩ := code_ex n (fun i hi => h i (by omega))
    by_cases q : m.testBit n = true
    · have hb := h n (by omega) q
      have hp := pw_pos m n
      have e1 : pw m (n + 1) = pw m n * 3 := by simp only [pw]; rw [if_pos q]
      have eq : (w + pw m n * (md n).toNat) / pw m n = (md n).toNat := by
        rw [Nat.add_mul_div_left _ _ (by omega), Nat.div_eq_of_lt w1, Nat.zero_add]
      refine ⟨w + pw m n * (md n).toNat, ?_, fun i hi hl => ?_⟩
      · rw [e1]
        have : pw m n * (md n).toNat ≤ pw m n * 2 := Nat.mul_le_mul_left _ (by omega)
        omega
      · by_cases e : i = n
        · subst e
          rw [eq, Nat.mod_eq_of_lt (by omega)]; omega
        · obtain ⟨c, hc⟩ := pw_dvd hl (n - (i + 1))
          rw [show i + 1 + (n - (i + 1)) = n by omega] at hc
          have hpi := pw_pos m i
          have ea : w + pw m n * (md n).toNat = w + pw m i * (3 * (c * (md n).toNat)) := by rw [hc]; congr 1; ac_rfl
          rw [ea, Nat.add_mul_div_left _ _ (by omega), Nat.add_mul_mod_self_left]
          exact w2 i (by omega) hl
    · have e1 : pw m (n + 1) = pw m n := by simp only [pw]; rw [if_neg q]
      refine ⟨w, by rw [e1]; exact w1, fun i hi hl => ?_⟩
      by_cases e : i = n
      · subst e; exact absurd hl q
      · exact w2 i (by omega) hl
theorem code_zero {m w : Nat} : ∀ n : Nat, w < pw m n → (∀ i, i < n → m.testBit i = true → w / pw m i % 3 = 0) → w = 0
  | 0, h, _ => by simp only [pw] at h; omega
  | n + 1, h, h0 => by
    by_cases q : m.testBit n = true
    · have e1 : pw m (n + 1) = pw m n * 3 := by simp only [pw]; rw [if_pos q]
      rw [e1] at h
      have h3 : w / pw m n < 3 := Nat.div_lt_of_lt_mul h
      have hz := h0 n (by omega) q
      rw [Nat.mod_eq_of_lt h3] at hz
      have hp := pw_pos m n
      exact code_zero n (by
        refine Nat.lt_of_not_le fun hle => ?_
        have := Nat.div_pos hle (by omega)
        omega) (fun i hi => h0 i (by omega))
    · have e1 : pw m (n + 1) = pw m n := by simp only [pw]; rw [if_neg q]
      rw [e1] at h
      exact code_zero n h (fun i hi => h0 i (by omega))
theorem rm3_z : ∀ k : Nat, k < 244 → rmI (zI (k : Int)) (3 : Int32) = some (zI ((k % 3 : Nat) : Int)) := by decide +kernel
theorem dv3_z : ∀ k : Nat, k < 244 → dvI (zI (k : Int)) (3 : Int32) = some (zI ((k / 3 : Nat) : Int)) := by decide +kernel
/-- the ways that a number tells -/
def xd (nv : Nat → Nat → Int) (m w : Nat) (i : Nat) : Int := if m.testBit i = true then ((w / pw m i % 3 : Nat) : Int) else if nv i 5 = 0 then 3 else 4
theorem xd_mds (n : Nat) (nv : Nat → Nat → Int) (m w : Nat) : Mds n nv m (xd nv m w) := by
  refine ⟨fun i hi b => ?_, fun i hi b => ?_⟩
  · unfold xd; rw [if_pos b]; omega
  · unfold xd; rw [if_neg (by rw [b]; decide)]
section MSETTLE
variable {n : Nat} {nv : Nat → Nat → Int} {A B : Int} {now mode : Nat → Int32} {md : Nat → Int} {F : Nat} {m : Nat} {P Q : Int}
theorem Strict.sc {D D' : Int} {fr fs dr ds fr' fs' dr' ds' : Nat → Int} (hv : NvOk n nv) (hA : 0 ≤ A ∧ A ≤ 2) (hB : 0 ≤ B ∧ B ≤ 2) (h : Lns n nv A B md D fr fs dr ds) (h' : Lns n nv A B md D' fr' fs' dr' ds') (hN : Strict n nv md D fr fs dr ds P Q) : Strict n nv md D' fr' fs' dr' ds' P Q := fun i hi => by
  obtain ⟨a, b⟩ := lin_sc hv hA hB h h' P Q hi
  obtain ⟨n0, n1, n2⟩ := hN i hi
  exact ⟨fun e => (sc_le h.1 h'.1 b).mp (n0 e), fun e => ⟨(sc_pos h.1 h'.1 a).mp (n1 e).1, (sc_le h.1 h'.1 a).mp (n1 e).2⟩, fun e => by
    have := sc_le (t := nv i 2) (Q := Q) h.1 h'.1 a
    have := n2 e
    omega⟩
/-- the modes tell who is live -/
def Lvm (n : Nat) (m : Nat) (mode : Nat → Int32) : Prop := ∀ i, i < n → ∃ x : Int, mode i = zI x ∧ 0 ≤ x ∧ x ≤ 3 ∧ (x = 3 ↔ m.testBit i = false)
theorem Mds.lvm (h : Mds n nv m md) (hm : ∀ i, i < n → mode i = zI (m3 md i)) : Lvm n m mode := fun i hi => by
  have b := h.bd i hi
  refine ⟨m3 md i, hm i hi, (m3_bd b.1).1, (m3_bd b.1).2, ?_⟩
  have l := h.lv i hi
  unfold liv at l
  unfold m3
  by_cases q : md i ≤ 2
  · rw [if_pos q]
    have : m.testBit i = true := l.mp ⟨b.1, q⟩
    rw [this]; simp; omega
  · rw [if_neg q]
    have : ¬ m.testBit i = true := fun w => q (l.mpr w).2
    simp; simpa using this
theorem Lvm.live (hn : n ≤ 5) (h : Lvm n m mode) {i : Nat} (hi : i < n) : f_M_isLive (zI (i : Int)) mode = some (zI (if m.testBit i = true then 1 else 0)) := by
  obtain ⟨x, x1, x2, x3, x4⟩ := h i hi
  unfold f_M_isLive
  rw [ldA_z (by omega) (by omega), Option.bind_some, x1]
  by_cases q : m.testBit i = true
  · rw [if_pos q, if_neg (by rw [i3, zI_eq (by omega) (by omega) (by omega) (by omega), x4, q]; decide)]; rfl
  · have : x = 3 := x4.mpr (by simpa using q)
    rw [if_neg q, if_pos (by rw [this]; rfl)]; rfl
theorem ways_z (hn : n ≤ 5) (hF : 10 < F) (h : Lvm n m mode) : iter (un2 (fb_M_settle_4 (zI (n : Int)) mode)) F ((1 : Int32), (0 : Int32)) = some (zI (pw m n : Int)) := by
  have loop := iter_for (body := un2 (fb_M_settle_4 (zI (n : Int)) mode)) (F := F) (s := ((1 : Int32), (0 : Int32))) (fun i z => z = (zI (pw m i : Int), zI (i : Int))) (fun q => q = zI (pw m n : Int)) n (by omega) rfl ?_ ?_
  · obtain ⟨q, e, rfl⟩ := loop
    exact e
  · rintro i z hi rfl
    dsimp only [un2]
    unfold fb_M_settle_4
    rw [if_neg (by rw [zI_le (by omega) (by omega) (by omega) (by omega)]; omega), h.live hn hi, Option.bind_some]
    by_cases q : m.testBit i = true
    · rw [if_pos q, if_neg (by decide)]
      simp only [fj_M_settle_26, nm, zI_1]
      refine ⟨_, rfl, ?_⟩
      rw [i3, zI_mul]
      simp only [pw]
      rw [if_pos q]; rfl
    · rw [if_neg q, if_pos (show zI 0 = 0 from rfl)]
      simp only [fj_M_settle_26, nm, zI_1]
      refine ⟨_, rfl, ?_⟩
      rw [i1, zI_mul, Int.mul_one]
      simp only [pw]
      rw [if_neg q]
  · rintro z rfl
    refine ⟨_, ?_, rfl⟩
    dsimp only [un2]
    unfold fb_M_settle_4
    rw [if_pos (by rw [zI_le (by omega) (by omega) (by omega) (by omega)]; omega)]
theorem digits_z (hn : n ≤ 5) (hF : 10 < F) (h : Lvm n m mode) {w : Nat} (hw : w < 244) :
    ∃ mode', iter (un3 (fb_M_settle_53 (zI (n : Int)))) F (zI (w : Int), (0 : Int32), mode) = some mode' ∧ ∀ i, i < n → mode' i = zI (m3 (xd nv m w) i) := by
  have loop := iter_for (body := un3 (fb_M_settle_53 (zI (n : Int)))) (F := F) (s := (zI (w : Int), (0 : Int32), mode)) (fun i z => ∃ f, z = (zI ((w / pw m i : Nat) : Int), zI (i : Int), f) ∧ (∀ j, j < i → f j = zI (m3 (xd nv m w) j)) ∧ ∀ j, i ≤ j → f j = mode j) (fun q => ∀ j, j < n → q j = zI (m3 (xd nv m w) j)) n (by omega) ⟨mode, by show _ = (zI ((w / 1 : Nat) : Int), _); rw [Nat.div_one]; rfl, fun j hj => absurd hj (by omega), fun _ _ => rfl⟩ ?_ ?_
  · obtain ⟨q, e, h⟩ := loop
    exact ⟨q, e, h⟩
  · rintro i z hi ⟨f, rfl, h1, h2⟩
    obtain ⟨x, x1, x2, x3, x4⟩ := h i hi
    have hlt : w / pw m i < 244 := Nat.lt_of_le_of_lt (Nat.div_le_self ..) hw
    have hf : Lvm n m f := fun j hj => by
      by_cases q : j < i
      · obtain ⟨y, y1, y2, y3, y4⟩ := ((xd_mds n nv m w).lvm (mode := fun i => zI (m3 (xd nv m w) i)) (fun _ _ => rfl)) j hj
        exact ⟨y, by rw [h1 j q]; exact y1, y2, y3, y4⟩
      · obtain ⟨y, y1, y2, y3, y4⟩ := h j hj
        exact ⟨y, by rw [h2 j (by omega)]; exact y1, y2, y3, y4⟩
    dsimp only [un3]
    unfold fb_M_settle_53
    rw [if_neg (by rw [zI_le (by omega) (by omega) (by omega) (by omega)]; omega), hf.live hn hi, Option.bind_some]
    by_cases q : m.testBit i = true
    · rw [if_pos q, if_neg (by decide), rm3_z _ hlt, Option.bind_some, stI_z (by omega) (by omega), Option.bind_some, dv3_z _ hlt, Option.bind_some]
      simp only [fj_M_settle_91, nm, zI_1]
      have e : m3 (xd nv m w) i = ((w / pw m i % 3 : Nat) : Int) := by
        have : xd nv m w i = ((w / pw m i % 3 : Nat) : Int) := if_pos q
        unfold m3
        rw [this, if_pos (by omega)]
      refine ⟨_, rfl, upd f i (zI ((w / pw m i % 3 : Nat) : Int)), ?_, fun j hj => ?_, fun j hj => ?_⟩
      · have : pw m (i + 1) = pw m i * 3 := by simp only [pw]; rw [if_pos q]
        rw [this, Nat.div_div_eq_div_mul]
      · rw [upd_at]
        by_cases e2 : j = i
        · subst e2; rw [if_pos rfl, e]
        · rw [if_neg e2]; exact h1 j (by omega)
      · rw [upd_at, if_neg (by omega)]; exact h2 j (by omega)
    · rw [if_neg q, if_pos (show zI 0 = 0 from rfl)]
      simp only [fj_M_settle_91, nm, zI_1]
      refine ⟨_, rfl, f, ?_, fun j hj => ?_, fun j hj => h2 j (by omega)⟩
      · have : pw m (i + 1) = pw m i := by simp only [pw]; rw [if_neg q]
        rw [this]
      · by_cases e2 : j = i
        · subst e2
          have : x = 3 := x4.mpr (by simpa using q)
          rw [h2 j (by omega), x1, this]
          unfold m3 xd
          rw [if_neg q]
          by_cases q2 : nv j 5 = 0
          · rw [if_pos q2]; rfl
          · rw [if_neg q2]; rfl
        · exact h1 j (by omega)
  · rintro z ⟨f, rfl, h1, h2⟩
    refine ⟨f, ?_, h1⟩
    dsimp only [un3]
    unfold fb_M_settle_53
    rw [if_pos (by rw [zI_le (by omega) (by omega) (by omega) (by omega)]; omega)]
end MSETTLE
