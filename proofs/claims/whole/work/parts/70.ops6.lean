/-! THE CALLS AT A LOAD: work -/
section OPS6
variable {n : Nat} {nv : Nat → Nat → Int} {A B : Int} {F : Nat} {g c y s u pit o now : Nat → Int32}
def bwk (nv : Nat → Nat → Int) (D : Int) (f : Nat → Int) (i : Nat) : Int := if f i ≤ nv i 2 * D then nv i 0 * (f i * f i) else nv i 0 * (nv i 2 * D * (nv i 2 * D)) + nv i 3 * (f i * f i - nv i 2 * D * (nv i 2 * D))
def pwk (nv : Nat → Nat → Int) (A B : Int) (n : Nat) (T : Int) (f : Nat → Int) (i : Nat) : Int := if i + 1 < n then nv i 6 * (A * ((T - sm f (i + 1)) * (T - sm f (i + 1))) + B * (sm f (i + 1) * sm f (i + 1))) else 0
theorem sq_sc {a a' D D' : Int} (e : a' * D = a * D') (t : Int) : t * (a' * a') * (D * D) = t * (a * a) * (D' * D') := by
  have h1 : t * (a' * a') * (D * D) = t * ((a' * D) * (a' * D)) := by ac_rfl
  rw [h1, e]; ac_rfl
theorem bwk_sc {D D' : Int} {f f' : Nat → Int} (hD : 0 < D) (hD' : 0 < D') {i : Nat} (e : f' i * D = f i * D') : bwk nv D' f' i * (D * D) = bwk nv D f i * (D' * D') := by
  have hc := sc_le1 (t := nv i 2) hD hD' e
  unfold bwk
  by_cases q : f i ≤ nv i 2 * D
  · rw [if_pos q, if_pos (hc.mp q)]
    exact sq_sc e _
  · rw [if_neg q, if_neg (fun w => q (hc.mpr w))]
    have ey : nv i 2 * D' * D = nv i 2 * D * D' := by ac_rfl
    have h1 := sq_sc ey (nv i 0)
    have h2 := sq_sc e (nv i 3)
    have h3 := sq_sc ey (nv i 3)
    rw [Int.add_mul, Int.add_mul, Int.mul_sub, Int.mul_sub, Int.sub_mul, Int.sub_mul, h1, h2, h3]
theorem pwk_sc {T T' D D' : Int} {f f' : Nat → Int} (eT : T' * D = T * D') {i : Nat} (hi : i < n) (e : ∀ i, i < n → f' i * D = f i * D') : pwk nv A B n T' f' i * (D * D) = pwk nv A B n T f i * (D' * D') := by
  have es := sm_sc (k := i + 1) e (by omega)
  unfold pwk
  by_cases q : i + 1 < n
  · rw [if_pos q, if_pos q]
    have e2 : (T' - sm f' (i + 1)) * D = (T - sm f (i + 1)) * D' := by rw [Int.sub_mul, Int.sub_mul, eT, es]
    have h1 := sq_sc e2 A
    have h2 := sq_sc es B
    rw [Int.mul_assoc, Int.mul_assoc (nv i 6), Int.add_mul, Int.add_mul, h1, h2]
  · rw [if_neg q, if_neg q, Int.zero_mul, Int.zero_mul]
theorem bwk_bd (hv : NvOk n nv) {D : Int} (hD : 0 < D ∧ D ≤ 299269) {f : Nat → Int} (h : ∀ i, i < n → 0 ≤ f i ∧ f i ≤ 299269 * 300) {i : Nat} (hi : i < n) : 0 ≤ bwk nv D f i ∧ bwk nv D f i ≤ 100000000000000000 := by
  have v := hv i hi
  have hf := h i hi
  have s1 := mul_bd hf.1 hf.1 hf.2 hf.2
  have y1 := mul_bd (show 0 ≤ nv i 2 by omega) (show 0 ≤ D by omega) (show nv i 2 ≤ 30 by omega) hD.2
  have s2 := mul_bd y1.1 y1.1 y1.2 y1.2
  unfold bwk
  by_cases q : f i ≤ nv i 2 * D
  · rw [if_pos q]
    have := mul_bd (show 0 ≤ nv i 0 by omega) s1.1 (show nv i 0 ≤ 5 by omega) s1.2
    omega
  · rw [if_neg q]
    have a := mul_bd (show 0 ≤ nv i 0 by omega) s2.1 (show nv i 0 ≤ 5 by omega) s2.2
    have hge : nv i 2 * D * (nv i 2 * D) ≤ f i * f i := Int.mul_le_mul (by omega) (by omega) y1.1 hf.1
    have b := mul_bd (show 0 ≤ nv i 3 by omega) (show 0 ≤ f i * f i - nv i 2 * D * (nv i 2 * D) by omega) (show nv i 3 ≤ 9 by omega) (show f i * f i - nv i 2 * D * (nv i 2 * D) ≤ 299269 * 300 * (299269 * 300) by omega)
    omega
theorem pwk_bd (hv : NvOk n nv) (hA : 0 ≤ A ∧ A ≤ 2) (hB : 0 ≤ B ∧ B ≤ 2) {T : Int} (hT : 0 ≤ T ∧ T ≤ 299269 * 300) {f : Nat → Int} (h : ∀ i, i < n → 0 ≤ f i) (hs : sm f n = T) {i : Nat} (hi : i < n) : 0 ≤ pwk nv A B n T f i ∧ pwk nv A B n T f i ≤ 100000000000000000 := by
  have v := hv i hi
  unfold pwk
  by_cases q : i + 1 < n
  · rw [if_pos q]
    have b0 := sm_nonneg (f := f) (k := i + 1) (fun j hj => h j (by omega))
    have b1 : sm f (i + 1) ≤ T := by rw [← hs]; exact sm_mono (by omega) (fun j _ hj => h j hj)
    generalize sm f (i + 1) = b at *
    have s1 := mul_bd b0 b0 (show b ≤ 299269 * 300 by omega) (show b ≤ 299269 * 300 by omega)
    have s2 := mul_bd (show 0 ≤ T - b by omega) (show 0 ≤ T - b by omega) (show T - b ≤ 299269 * 300 by omega) (show T - b ≤ 299269 * 300 by omega)
    have s3 := mul_bd hA.1 s2.1 hA.2 s2.2
    have s4 := mul_bd hB.1 s1.1 hB.2 s1.2
    have s5 := mul_bd (show 0 ≤ nv i 6 by omega) (show 0 ≤ A * ((T - b) * (T - b)) + B * (b * b) by omega) (show nv i 6 ≤ 2 by omega) (show A * ((T - b) * (T - b)) + B * (b * b) ≤ 2 * (299269 * 300 * (299269 * 300)) + 2 * (299269 * 300 * (299269 * 300)) by omega)
    omega
  · rw [if_neg q]; omega
theorem work_z (hn : n ≤ 5) (hF : 40 < F) (hv : NvOk n nv) (J : JOk n nv g c y s u pit) (hA : 0 ≤ A ∧ A ≤ 2) (hB : 0 ≤ B ∧ B ≤ 2) {p : Int} (hp : 0 ≤ p ∧ p ≤ 300) {D : Int} {f d : Nat → Int} {lu : Int64} {fr fs dr ds : Nat → Int64} (FA : FAt n p D f d lu fr fs dr ds) :
    iter (un3 (fb_X_work_33 F (zI p) fr fs (zL D) g y s pit (zI (n : Int)) (zI A) (zI B))) F ((0 : Int64), (0 : Int64), (0 : Int32)) = some (zL (sm (bwk nv D f) n), zL (sm (pwk nv A B n (p * D) f) n)) := by
  obtain ⟨a1, a2, a3, a4⟩ := FA
  have q1 := mul_bd (show 0 ≤ D by omega) hp.1 a3 hp.2
  have loop := iter_for (body := un3 (fb_X_work_33 F (zI p) fr fs (zL D) g y s pit (zI (n : Int)) (zI A) (zI B))) (F := F) (s := ((0 : Int64), (0 : Int64), (0 : Int32))) (fun k z => z = (zL (sm (bwk nv D f) k), zL (sm (pwk nv A B n (p * D) f) k), zI (k : Int))) (fun q => q = (zL (sm (bwk nv D f) n), zL (sm (pwk nv A B n (p * D) f) n))) n (by omega) rfl ?_ ?_
  · obtain ⟨q, e, rfl⟩ := loop
    exact e
  · rintro k z hk rfl
    have v := hv k hk
    obtain ⟨f1, -, f3, -⟩ := a4 k hk
    have y1 := mul_bd (show 0 ≤ nv k 2 by omega) (show 0 ≤ D by omega) (show nv k 2 ≤ 30 by omega) a3
    have LI := fun (f : Nat → Int32) => ldA_z (f := f) (j := k) (n := 5) (by omega) (by omega)
    have hb : f_X_boltWork (zI (k : Int)) (zI p) fr fs (zL D) g y s = some (zL (bwk nv D f k)) := by
      unfold f_X_boltWork bwk
      simp only [LI, Option.bind_some, nm, J.1 k hk, J.2.2.1 k hk, J.2.2.2.1 k hk]
      rw [zI_l (a := p) (by omega) (by omega), show (1 : Int64) = zL 1 from rfl, f1, Option.bind_some, zI_l (a := nv k 2) (by omega) (by omega), zI_l (a := nv k 0) (by omega) (by omega), zI_l (a := nv k 3) (by omega) (by omega), zL_mul]
      by_cases w : f k ≤ nv k 2 * D
      · rw [if_neg (by rw [zL_lt (by omega) (by omega) (by omega) (by omega)]; omega), if_pos w, zL_mul, zL_mul, Int.mul_assoc]
      · rw [if_pos (by rw [zL_lt (by omega) (by omega) (by omega) (by omega)]; omega), if_neg w]
        simp only [zL_mul, zL_sub, zL_add]
        rw [Int.mul_assoc (nv k 0) (nv k 2 * D)]
    have hpw : f_X_plateWork F (zI (k : Int)) (zI p) fr fs (zL D) pit (zI (n : Int)) (zI A) (zI B) = some (zL (pwk nv A B n (p * D) f k)) := by
      unfold f_X_plateWork pwk
      rw [hasGap_z hn (by omega), Option.bind_some]
      by_cases w : k + 1 < n
      · rw [if_neg (fun z => (b01_ne0.mp z) (by omega)), if_pos w, zI_l (a := p) (by omega) (by omega), borne_z (F := F) hn (by omega) (fun i hi => (a4 i hi).1) hk, Option.bind_some]
        simp only [nm, LI, Option.bind_some, J.2.2.2.2.2 k w]
        rw [zI_l (a := nv k 6) (by omega) (by omega), zI_l (a := A) (by omega) (by omega), zI_l (a := B) (by omega) (by omega)]
        simp only [zL_mul, zL_sub, zL_add]
        rw [Int.mul_assoc A, Int.mul_assoc B]
      · rw [if_pos (b01_ne0.mpr (by omega)), if_neg w]; rfl
    dsimp only [un3]
    unfold fb_X_work_33
    rw [if_neg (by rw [zI_le (by omega) (by omega) (by omega) (by omega)]; omega), hb, Option.bind_some]
    simp only [nm]
    rw [hpw, Option.bind_some, zL_add, zL_add, zI_1]
    exact ⟨_, rfl, rfl⟩
  · rintro z rfl
    dsimp only [un3]
    unfold fb_X_work_33
    rw [if_pos (by rw [zI_le (by omega) (by omega) (by omega) (by omega)]; omega)]
    exact ⟨_, rfl, rfl⟩
theorem mwork_z (hn : n ≤ 5) (hF : 40 < F) (hv : NvOk n nv) (h : ∀ i, i < n → ∀ q, q < 7 → now (7 * i + q) = zI (nv i q)) (hA : 0 ≤ A ∧ A ≤ 2) (hB : 0 ≤ B ∧ B ≤ 2) {p : Int} (hp : 0 ≤ p ∧ p ≤ 300) {D : Int} {f d : Nat → Int} {uu : Int64} {sl mb ss sb : Nat → Int64} {lO lU : Int64} (FM : FMt n p D f d uu sl mb ss sb lO lU) :
    iter (un3 (fb_M_work_46 F (zI p) (zL D) now (zI (n : Int)) (zI A) (zI B) sl mb lO lU)) F ((0 : Int64), (0 : Int64), (0 : Int32)) = some (zL (sm (bwk nv D f) n), zL (sm (pwk nv A B n (p * D) f) n)) := by
  obtain ⟨a1, a2, a3, a4⟩ := FM
  have q1 := mul_bd (show 0 ≤ D by omega) hp.1 a3 hp.2
  have loop := iter_for (body := un3 (fb_M_work_46 F (zI p) (zL D) now (zI (n : Int)) (zI A) (zI B) sl mb lO lU)) (F := F) (s := ((0 : Int64), (0 : Int64), (0 : Int32))) (fun k z => z = (zL (sm (bwk nv D f) k), zL (sm (pwk nv A B n (p * D) f) k), zI (k : Int))) (fun q => q = (zL (sm (bwk nv D f) n), zL (sm (pwk nv A B n (p * D) f) n))) n (by omega) rfl ?_ ?_
  · obtain ⟨q, e, rfl⟩ := loop
    exact e
  · rintro k z hk rfl
    have v := hv k hk
    obtain ⟨f1, -, f3, -⟩ := a4 k hk
    have y1 := mul_bd (show 0 ≤ nv k 2 by omega) (show 0 ≤ D by omega) (show nv k 2 ≤ 30 by omega) a3
    have OF := fun {q : Nat} (hq : q < 7) => of_z hn h hk hq
    have fin : ∀ x : Int, x = bwk nv D f k → ∃ s', fj_M_work_141 F (zI p) (zL D) (zL (sm (pwk nv A B n (p * D) f) k)) (zI (k : Int)) (zL (sm (bwk nv D f) k)) (zL x) now (zI (n : Int)) (zI A) (zI B) sl mb lO lU = some (.inl s') ∧ s' = (zL (sm (bwk nv D f) (k + 1)), zL (sm (pwk nv A B n (p * D) f) (k + 1)), zI ((k + 1 : Nat) : Int)) := by
      rintro x rfl
      unfold fj_M_work_141
      simp only [nm, zL_add]
      rw [show zI (n : Int) - (1 : Int32) = zI ((n : Int) - 1) by rw [i1, zI_sub]]
      by_cases w : k + 1 < n
      · rw [if_neg (by rw [zI_eq (by omega) (by omega) (by omega) (by omega)]; omega), show (6 : Int32) = zI ((6 : Nat) : Int) from rfl, OF (by omega), Option.bind_some, mborne_z (F := F) hn (by omega) (fun i hi => (a4 i hi).1) hk, Option.bind_some]
        unfold f_M_square
        simp only [Option.bind_some, fj_M_work_211, nm, zI_1]
        rw [zI_l (a := p) (by omega) (by omega), zI_l (a := nv k 6) (by omega) (by omega), zI_l (a := A) (by omega) (by omega), zI_l (a := B) (by omega) (by omega)]
        simp only [zL_mul, zL_sub, zL_add]
        refine ⟨_, rfl, ?_⟩
        have e : sm (pwk nv A B n (p * D) f) (k + 1) = sm (pwk nv A B n (p * D) f) k + nv k 6 * (A * ((p * D - sm f (k + 1)) * (p * D - sm f (k + 1))) + B * (sm f (k + 1) * sm f (k + 1))) := by
          rw [sm_s (pwk nv A B n (p * D) f)]
          congr 1
          exact if_pos w
        rw [e]; rfl
      · rw [if_pos (by rw [show (k : Int) = (n : Int) - 1 by omega])]
        simp only [fj_M_work_211, nm, zI_1]
        refine ⟨_, rfl, ?_⟩
        have e : sm (pwk nv A B n (p * D) f) (k + 1) = sm (pwk nv A B n (p * D) f) k := by
          rw [sm_s (pwk nv A B n (p * D) f), show pwk nv A B n (p * D) f k = 0 from if_neg w, Int.add_zero]
        rw [e]; rfl
    dsimp only [un3]
    unfold fb_M_work_46
    rw [if_neg (by rw [zI_le (by omega) (by omega) (by omega) (by omega)]; omega), f1, Option.bind_some, show (2 : Int32) = zI ((2 : Nat) : Int) from rfl, OF (by omega), Option.bind_some]
    simp only [nm]
    rw [zI_l (a := nv k 2) (by omega) (by omega), zL_mul]
    unfold f_M_square
    by_cases w : f k ≤ nv k 2 * D
    · rw [if_pos (by rw [zL_le (by omega) (by omega) (by omega) (by omega)]; exact w), show (0 : Int32) = zI ((0 : Nat) : Int) from rfl, OF (by omega), Option.bind_some, Option.bind_some, zI_l (a := nv k 0) (by omega) (by omega), zL_mul, zL_mul]
      exact fin _ (by unfold bwk; rw [if_pos w])
    · rw [if_neg (by rw [zL_le (by omega) (by omega) (by omega) (by omega)]; exact w), show (0 : Int32) = zI ((0 : Nat) : Int) from rfl, OF (by omega), show (3 : Int32) = zI ((3 : Nat) : Int) from rfl, OF (by omega)]
      simp only [Option.bind_some]
      rw [zI_l (a := nv k 0) (by omega) (by omega), zI_l (a := nv k 3) (by omega) (by omega)]
      simp only [zL_mul, zL_sub, zL_add]
      exact fin _ (by unfold bwk; rw [if_neg w])
  · rintro z rfl
    dsimp only [un3]
    unfold fb_M_work_46
    rw [if_pos (by rw [zI_le (by omega) (by omega) (by omega) (by omega)]; omega)]
    exact ⟨_, rfl, rfl⟩
theorem op_work (hJt : Jt n nv A B) (hF : 300 < F) {bn ju jl many mu ml : Int32} (J : JX n nv A B g c y s u o pit bn ju jl) (X : MX n nv A B now many mu ml) (x1 : Int32) (way0 wb0 : Nat → Int32) (kn0 tot0 : Int32) (kd0 wh0 : Nat → Int32) (ov0 un0 : Nat → Int64) (eO0 eU0 : Int64) (dO0 dU0 : Nat → Int64) (sO0 sU0 : Int64) (st0 : Nat → Int32) (re0 fr0 fs0 dr0 ds0 : Nat → Int64) (lu0 : Int64) (bf0 bl0 ba0 sc0 : Nat → Int64) (fR0 fS0 : Int64) (hK : KnG n nv A B kn0 tot0 kd0 wh0 ov0 un0 eO0 eU0) (mo0 : Nat → Int32) (uu0 : Int64) (sl0 mb0 ss0 sb0 of0 : Nat → Int64) (be0 : Nat → Int32) (bs0 : Int32) (ma0 : Nat → Int64) (lO0 lU0 : Int64) (mt0 : Int32) (mk0 mw0 : Nat → Int32) (mv0 mn0 : Nat → Int64) (ha0 : Nat → Int32) (nO0 nU0 : Int64) (me0 fe0 : Nat → Int32) (aO0 aU0 bO0 bU0 : Nat → Int64) (hf : ∀ i, i < 5 → fe0 i = 0) (nu : Nat → Int64) (sz : Int32) (row : Nat → Int64) (rm th : Int32) (hR : RowEq nu sz row rm) :
    ∃ (r : Int32) (way1 wb1 : Nat → Int32) (kn1 tot1 : Int32) (kd1 wh1 : Nat → Int32) (ov1 un1 : Nat → Int64) (eO1 eU1 : Int64) (dO1 dU1 : Nat → Int64) (sO1 sU1 : Int64) (st1 : Nat → Int32) (re1 fr1 fs1 dr1 ds1 : Nat → Int64) (lu1 : Int64) (bf1 bl1 ba1 sc1 : Nat → Int64) (fR1 fS1 : Int64) (nu1 : Nat → Int64) (sz1 : Int32) (mo1 : Nat → Int32) (uu1 : Int64) (sl1 mb1 ss1 sb1 of1 : Nat → Int64) (be1 : Nat → Int32) (bs1 : Int32) (ma1 : Nat → Int64) (lO1 lU1 : Int64) (mt1 : Int32) (mk1 mw1 : Nat → Int32) (mv1 mn1 : Nat → Int64) (ha1 : Nat → Int32) (nO1 nU1 : Int64) (me1 fe1 : Nat → Int32) (aO1 aU1 bO1 bU1 : Nat → Int64) (row1 : Nat → Int64) (rm1 : Int32), f_X_work F x1 way0 wb0 kn0 tot0 kd0 wh0 ov0 un0 eO0 eU0 dO0 dU0 sO0 sU0 st0 re0 fr0 fs0 dr0 ds0 lu0 bf0 bl0 ba0 sc0 fR0 fS0 g c y s u o pit bn ju jl nu sz = some (r, way1, wb1, kn1, tot1, kd1, wh1, ov1, un1, eO1, eU1, dO1, dU1, sO1, sU1, st1, re1, fr1, fs1, dr1, ds1, lu1, bf1, bl1, ba1, sc1, fR1, fS1, nu1, sz1) ∧ f_M_work F x1 now many mu ml row rm th mo0 uu0 sl0 mb0 ss0 sb0 of0 be0 bs0 ma0 lO0 lU0 mt0 mk0 mw0 mv0 mn0 ha0 nO0 nU0 me0 fe0 aO0 aU0 bO0 bU0 = some (r, row1, rm1, (0 : Int32), mo1, uu1, sl1, mb1, ss1, sb1, of1, be1, bs1, ma1, lO1, lU1, mt1, mk1, mw1, mv1, mn1, ha1, nO1, nU1, me1, fe1, aO1, aU1, bO1, bU1) ∧
      KnG n nv A B kn1 tot1 kd1 wh1 ov1 un1 eO1 eU1 ∧ (∀ i, i < 5 → fe1 i = 0) ∧ RowEq nu1 sz1 row1 rm1 := by
  obtain ⟨p, rfl, hp1, hp2⟩ := zI_all x1
  have hJt' := hJt
  obtain ⟨hn, hv, hA, hB⟩ := hJt'
  obtain ⟨J1, ho, rfl, rfl, rfl⟩ := J
  obtain ⟨h, rfl, rfl, rfl⟩ := X
  obtain ⟨r, way1, wb1, kn1, tot1, kd1, wh1, ov1, un1, eO1, eU1, dO1, dU1, sO1, sU1, st1, re1, fr1, fs1, dr1, ds1, lu1, bf1, bl1, ba1, sc1, fR1, fS1, e, hK1, hc⟩ := both_come hJt hF ⟨J1, ho, rfl, rfl, rfl⟩ ⟨h, rfl, rfl, rfl⟩ (p := p) ⟨hp1, hp2⟩ (0 < n) way0 wb0 kn0 tot0 kd0 wh0 ov0 un0 eO0 eU0 dO0 dU0 sO0 sU0 st0 re0 fr0 fs0 dr0 ds0 lu0 bf0 bl0 ba0 sc0 fR0 fS0 hK mo0 uu0 sl0 mb0 ss0 sb0 of0 be0 bs0 ma0 lO0 lU0 mt0 mk0 mw0 mv0 mn0 ha0 nO0 nU0 me0 fe0 aO0 aU0 bO0 bU0 hf
  unfold f_X_work f_M_work
  rw [if_bolts hn (fun q => fj_X_work_17 F (zI p) (zI p) q way0 wb0 kn0 tot0 kd0 wh0 ov0 un0 eO0 eU0 dO0 dU0 sO0 sU0 st0 re0 fr0 fs0 dr0 ds0 lu0 bf0 bl0 ba0 sc0 fR0 fS0 g c y s u o pit (zI (n : Int)) (zI A) (zI B) nu sz)]
  unfold fj_X_work_17
  rw [e]
  simp only [bd28, Option.bind_some]
  rcases hc with ⟨hr, hno⟩ | ⟨hyes, hkn, hEv, heO, heU, r', mo1, uu1, sl1, mb1, ss1, sb1, of1, be1, bs1, ma1, lO1, lU1, mt1, mk1, mw1, mv1, mn1, ha1, nO1, nU1, me1, fe1, aO1, aU1, bO1, bU1, em, hf1, hc⟩
  · rw [hr, if_neg (by decide)]
    refine ⟨_, way1, wb1, kn1, tot1, kd1, wh1, ov1, un1, eO1, eU1, dO1, dU1, sO1, sU1, st1, re1, fr1, fs1, dr1, ds1, lu1, bf1, bl1, ba1, sc1, fR1, fS1, nu, sz, mo0, uu0, sl0, mb0, ss0, sb0, of0, be0, bs0, ma0, lO0, lU0, mt0, mk0, mw0, mv0, mn0, ha0, nO0, nU0, me0, fe0, aO0, aU0, bO0, bU0, row, rm, rfl, ?_, hK1, hf, hR⟩
    by_cases w : 0 < n
    · rw [if_neg (fun z => (if_many hn).mp z w), misLoad_z ⟨hp1, hp2⟩, Option.bind_some, if_pos (b01_ne0.mpr (fun z => hno ⟨z.1, z.2, w⟩))]; rfl
    · rw [if_pos ((if_many hn).mpr w)]; rfl
  · rw [if_neg (fun z => (if_many hn).mp z hyes.2.2), misLoad_z ⟨hp1, hp2⟩, Option.bind_some, if_neg (fun z => (b01_ne0.mp z) ⟨hyes.1, hyes.2.1⟩), em]
    simp only [bd27, Option.bind_some]
    rcases hc with ⟨hr, hr', hpk, hla, hall⟩ | ⟨hr, hr', hpk, hlO, hlU, D, f, d, D', f', d', md', FA, FM, hsc, hsat, hsat', hmds, hmo, hcl, hml⟩
    · rw [hr, hr', if_neg (by decide), if_pos rfl]
      exact ⟨_, way1, wb1, kn1, tot1, kd1, wh1, ov1, un1, eO1, eU1, dO1, dU1, sO1, sU1, st1, re1, fr1, fs1, dr1, ds1, lu1, bf1, bl1, ba1, sc1, fR1, fS1, nu, sz, mo1, uu1, sl1, mb1, ss1, sb1, of1, be1, bs1, ma1, lO1, lU1, mt1, mk1, mw1, mv1, mn1, ha1, nO1, nU1, me1, fe1, aO1, aU1, bO1, bU1, row, rm, rfl, rfl, hK1, hf1, hR⟩
    · have hw := work_z (F := F) hn (by omega) hv J1 hA hB ⟨hyes.1, hyes.2.1⟩ FA
      have hmw := mwork_z (F := F) hn (by omega) hv h hA hB ⟨hyes.1, hyes.2.1⟩ FM
      have nn := sat_nn hv rfl hsat
      have nn' := sat_nn hv rfl hsat'
      obtain ⟨a1, a2, a3, a4⟩ := FA
      obtain ⟨b1, b2, b3, b4⟩ := FM
      have q1 := mul_bd (show 0 ≤ D by omega) hyes.1 a3 hyes.2.1
      have q2 := mul_bd (show 0 ≤ D' by omega) hyes.1 b3 hyes.2.1
      have w1 := sm_bd (f := bwk nv D f) (n := n) (fun i hi => bwk_bd hv ⟨a2, a3⟩ (fun j hj => by have := nn.1 j hj; omega) hi) (Nat.le_refl _)
      have w2 := sm_bd (f := bwk nv D' f') (n := n) (fun i hi => bwk_bd hv ⟨b2, b3⟩ (fun j hj => by have := nn'.1 j hj; omega) hi) (Nat.le_refl _)
      have w3 := sm_bd (f := pwk nv A B n (p * D) f) (n := n) (fun i hi => pwk_bd hv hA hB (by rw [Int.mul_comm p]; omega) (fun j hj => (nn.1 j hj).1) (by rw [nn.2, Int.mul_comm]) hi) (Nat.le_refl _)
      have w4 := sm_bd (f := pwk nv A B n (p * D') f') (n := n) (fun i hi => pwk_bd hv hA hB (by rw [Int.mul_comm p]; omega) (fun j hj => (nn'.1 j hj).1) (by rw [nn'.2, Int.mul_comm]) hi) (Nat.le_refl _)
      have c1 : (n : Int) * 100000000000000000 ≤ 5 * 100000000000000000 := Int.mul_le_mul_of_nonneg_right (by omega) (by omega)
      have hs1 := sm_sc (n := n) (k := n) (f := bwk nv D f) (f' := bwk nv D' f') (D := D * D) (D' := D' * D') (fun i hi => bwk_sc a2 b2 (hsc i hi).1) (Nat.le_refl _)
      have hs2 := sm_sc (n := n) (k := n) (f := pwk nv A B n (p * D) f) (f' := pwk nv A B n (p * D') f') (D := D * D) (D' := D' * D') (fun i hi => pwk_sc (by ac_rfl) hi (fun j hj => (hsc j hj).1)) (Nat.le_refl _)
      have u1 := mul_bd (show 0 ≤ D by omega) (show 0 ≤ D by omega) a3 a3
      have u2 := mul_bd (show 0 ≤ D' by omega) (show 0 ≤ D' by omega) b3 b3
      have u3 := Int.mul_pos a2 a2
      have u4 := Int.mul_pos b2 b2
      generalize sm (bwk nv D f) n = t1 at *
      generalize sm (bwk nv D' f') n = t2 at *
      generalize sm (pwk nv A B n (p * D) f) n = t3 at *
      generalize sm (pwk nv A B n (p * D') f') n = t4 at *
      obtain ⟨nu1, sz1, e1, R1⟩ := fraction_z (F := F) (by omega) (RowC.nil nu) (by show 0 + 2 ≤ 8; omega) (o := t1) (u := D * D) (by omega) (by omega) u3 (by omega)
      obtain ⟨nu2, sz2, e2, R2⟩ := fraction_z (F := F) (by omega) R1 (by show 2 + 2 ≤ 8; omega) (o := t3) (u := D * D) (by omega) (by omega) u3 (by omega)
      obtain ⟨row1, rm1, e3, R3⟩ := tellFraction_z (F := F) (by omega) (RowC.nil row) (by show 0 + 2 ≤ 64; omega) (o := t2) (u := D' * D') (by omega) (by omega) u4 (by omega)
      obtain ⟨row2, rm2, e4, R4⟩ := tellFraction_z (F := F) (by omega) R3 (by show 2 + 2 ≤ 64; omega) (o := t4) (u := D' * D') (by omega) (by omega) u4 (by omega)
      rw [hr, hr', if_pos (show zI 0 = 0 from rfl), if_neg (show ¬ (1 : Int32) = 0 by decide), a1, hw, b1, Option.bind_some, hmw]
      unfold f_M_square
      simp only [bd2, Option.bind_some, nm, zL_mul]
      rw [e1, e3]
      simp only [Option.bind_some]
      rw [e2, e4]
      simp only [Option.bind_some]
      refine ⟨_, way1, wb1, kn1, tot1, kd1, wh1, ov1, un1, eO1, eU1, dO1, dU1, sO1, sU1, st1, re1, fr1, fs1, dr1, ds1, zL D, bf1, bl1, ba1, sc1, fR1, fS1, nu2, sz2, mo1, uu1, sl1, mb1, ss1, sb1, of1, be1, bs1, ma1, lO1, lU1, mt1, mk1, mw1, mv1, mn1, ha1, nO1, nU1, me1, fe1, aO1, aU1, bO1, bU1, row2, rm2, rfl, rfl, hK1, hf1, [] ++ fra t1 (D * D) ++ fra t3 (D * D), by show 4 ≤ 8; omega, R2, ?_⟩
      rw [fra_eq (o := t1) (o' := t2) u3 u4 hs1, fra_eq (o := t3) (o' := t4) u3 u4 hs2]
      exact R4
end OPS6
