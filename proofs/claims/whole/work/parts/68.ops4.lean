/-! THE CALLS AT A LOAD: hardest, margin -/
section OPS4
variable {n : Nat} {nv : Nat → Nat → Int} {A B : Int} {F : Nat} {g c y s u pit o now : Nat → Int32}
/-- the first of the first k with the greatest f -/
def hrd (f : Nat → Int) : Nat → Nat
  | 0 => 0
  | k + 1 => if f (hrd f k) < f k then k else hrd f k
theorem hrd_1 (f : Nat → Int) : hrd f 1 = 0 := by
  show (if f (hrd f 0) < f 0 then 0 else hrd f 0) = 0
  split <;> rfl
theorem hrd_lt (f : Nat → Int) : ∀ k, hrd f k = 0 ∨ hrd f k < k
  | 0 => Or.inl rfl
  | k + 1 => by
    simp only [hrd]
    by_cases q : f (hrd f k) < f k
    · rw [if_pos q]; omega
    · rw [if_neg q]
      have := hrd_lt f k
      omega
theorem hrd_sc {f f' : Nat → Int} {D D' : Int} {n : Nat} (hD : 0 < D) (hD' : 0 < D') (h0 : 0 < n) (h : ∀ i, i < n → f' i * D = f i * D') : ∀ k, k ≤ n → hrd f' k = hrd f k
  | 0, _ => rfl
  | k + 1, hk => by
    have ih := hrd_sc hD hD' h0 h k (by omega)
    have b := hrd_lt f k
    simp only [hrd]
    rw [ih]
    have e1 := h k (by omega)
    have e2 := h (hrd f k) (by omega)
    have e3 : (f' k - f' (hrd f k)) * D = (f k - f (hrd f k)) * D' := by rw [Int.sub_mul, Int.sub_mul, e1, e2]
    have := sc_pos hD hD' e3
    by_cases q : f (hrd f k) < f k
    · rw [if_pos q, if_pos (by omega)]
    · rw [if_neg q, if_neg (by omega)]
theorem bits_count : ∀ m : Nat, m < 32 → f_JI_bitCount (zI (m : Int)) = some (zI ((sel (fun i => m.testBit i) 5).length : Int)) := by decide +kernel
theorem sel_more {p : Nat → Bool} {n : Nat} (h : ∀ i, n ≤ i → p i = false) : ∀ k, sel p (n + k) = sel p n
  | 0 => rfl
  | k + 1 => by
    show (if p (n + k) = true then _ else _) = _
    rw [if_neg (by rw [h (n + k) (by omega)]; decide)]
    exact sel_more h k
theorem sel_msk {p : Nat → Bool} {n : Nat} (hn : n ≤ 5) : (sel (fun i => (msk p n).testBit i) 5).length = (sel p n).length := by
  have e := sel_more (p := fun i => (msk p n).testBit i) (n := n) (fun i hi => by rw [msk_test]; simp; omega) (5 - n)
  rw [show n + (5 - n) = 5 by omega] at e
  rw [e]
  exact congrArg List.length (sel_congr fun i hi => by rw [msk_test]; simp [hi])
theorem dvL_z {a b : Int} (h1 : -9223372036854775808 ≤ a) (h2 : a ≤ 9223372036854775807) (h3 : 0 < b) (h4 : b ≤ 9223372036854775807) : dvL (zL a) (zL b) = some (zL (a.tdiv b)) := by
  unfold dvL
  rw [if_neg (by rw [l0z, zL_eq (by omega) h4 (by omega) (by omega)]; omega), zL_div h1 h2 (by omega) h4]
theorem tdiv_nat {a b : Int} (ha : 0 ≤ a) (hb : 0 ≤ b) : a.tdiv b = ((a.toNat / b.toNat : Nat) : Int) := by
  rw [Int.tdiv_eq_ediv_of_nonneg ha, Int.natCast_ediv, Int.toNat_of_nonneg ha, Int.toNat_of_nonneg hb]
theorem tdiv_sc {a b x z : Int} (ha : 0 ≤ a) (hb : 0 < b) (hx : 0 ≤ x) (hz : 0 < z) (e : a * z = x * b) : a.tdiv b = x.tdiv z := by
  rw [tdiv_nat ha (by omega), tdiv_nat hx (by omega)]
  have e2 : a.toNat * z.toNat = x.toNat * b.toNat := by
    have : ((a.toNat * z.toNat : Nat) : Int) = ((x.toNat * b.toNat : Nat) : Int) := by
      rw [Int.natCast_mul, Int.natCast_mul, Int.toNat_of_nonneg ha, Int.toNat_of_nonneg (by omega : 0 ≤ z), Int.toNat_of_nonneg hx, Int.toNat_of_nonneg (by omega : 0 ≤ b)]
      exact e
    omega
  rw [← Nat.mul_div_mul_right a.toNat b.toNat (show 0 < z.toNat by omega), e2, Nat.mul_comm b.toNat, Nat.mul_div_mul_right x.toNat z.toNat (show 0 < b.toNat by omega)]
theorem hard_z (hn : n ≤ 5) (hF : 10 < F) (h0 : 0 < n) {p : Int} (hp : 0 ≤ p ∧ p ≤ 300) {D : Int} {f d : Nat → Int} {lu : Int64} {fr fs dr ds : Nat → Int64} (FA : FAt n p D f d lu fr fs dr ds) : iter (un2 (fb_X_hardest_32 (zI p) fr fs (zI (n : Int)))) F ((0 : Int32), (1 : Int32)) = some (zI (hrd f n : Int)) := by
  obtain ⟨a1, a2, a3, a4⟩ := FA
  have q1 := mul_bd (show 0 ≤ D by omega) hp.1 a3 hp.2
  have loop := iter_up (body := un2 (fb_X_hardest_32 (zI p) fr fs (zI (n : Int)))) (fun k z => 1 ≤ k ∧ z = (zI (hrd f k : Int), zI (k : Int))) (fun q => q = zI (hrd f n : Int)) n ?_ ?_ (n - 1) 1 F ((0 : Int32), (1 : Int32)) (by omega) (by omega) ⟨Nat.le_refl _, by rw [hrd_1]; rfl⟩
  · obtain ⟨q, e, rfl⟩ := loop
    exact e
  · rintro k z hk ⟨hk1, rfl⟩
    left
    have b := hrd_lt f k
    obtain ⟨f1, -, f3, -⟩ := a4 k hk
    obtain ⟨g1, -, g3, -⟩ := a4 (hrd f k) (by omega)
    dsimp only [un2]
    unfold fb_X_hardest_32
    rw [if_neg (by rw [zI_le (by omega) (by omega) (by omega) (by omega)]; omega), zI_l (by omega) (by omega), show (1 : Int64) = zL 1 from rfl, f1, Option.bind_some, g1, Option.bind_some]
    by_cases w : f (hrd f k) < f k
    · rw [if_neg (by rw [zL_le (by omega) (by omega) (by omega) (by omega)]; omega)]
      simp only [fj_X_hardest_80, nm, zI_1, hrd]
      rw [if_pos w]
      exact ⟨_, rfl, by omega, rfl⟩
    · rw [if_pos (by rw [zL_le (by omega) (by omega) (by omega) (by omega)]; omega)]
      simp only [fj_X_hardest_80, nm, zI_1, hrd]
      rw [if_neg w]
      exact ⟨_, rfl, by omega, rfl⟩
  · rintro z ⟨hk1, rfl⟩
    dsimp only [un2]
    unfold fb_X_hardest_32
    rw [if_pos (by rw [zI_le (by omega) (by omega) (by omega) (by omega)]; omega)]
    exact ⟨_, rfl, rfl⟩
theorem mhard_z (hn : n ≤ 5) (hF : 10 < F) (h0 : 0 < n) {p : Int} (hp : 0 ≤ p ∧ p ≤ 300) {D : Int} {f d : Nat → Int} {uu : Int64} {sl mb ss sb : Nat → Int64} {lO lU : Int64} (FM : FMt n p D f d uu sl mb ss sb lO lU) : iter (un3 (fb_M_hardest_39 (zI (n : Int)) sl mb lO lU)) F ((0 : Int32), (0 : Int32), (0 : Int32)) = some (zI (hrd f n : Int), zI ((sel (fun i => decide (0 < f i)) n).length : Int)) := by
  obtain ⟨a1, a2, a3, a4⟩ := FM
  have q1 := mul_bd (show 0 ≤ D by omega) hp.1 a3 hp.2
  have loop := iter_for (body := un3 (fb_M_hardest_39 (zI (n : Int)) sl mb lO lU)) (F := F) (s := ((0 : Int32), (0 : Int32), (0 : Int32))) (fun k z => z = (zI (hrd f k : Int), zI ((sel (fun i => decide (0 < f i)) k).length : Int), zI (k : Int))) (fun q => q = (zI (hrd f n : Int), zI ((sel (fun i => decide (0 < f i)) n).length : Int))) n (by omega) rfl ?_ ?_
  · obtain ⟨q, e, rfl⟩ := loop
    exact e
  · rintro k z hk rfl
    have b := hrd_lt f k
    obtain ⟨f1, -, f3, -⟩ := a4 k hk
    obtain ⟨g1, -, g3, -⟩ := a4 (hrd f k) (by omega)
    have fin : ∀ x : Nat, x = hrd f (k + 1) → ∃ s', fj_M_hardest_66 (zI (x : Int)) (zI ((sel (fun i => decide (0 < f i)) k).length : Int)) (zI (k : Int)) sl mb lO lU = some (.inl s') ∧ s' = (zI (hrd f (k + 1) : Int), zI ((sel (fun i => decide (0 < f i)) (k + 1)).length : Int), zI ((k + 1 : Nat) : Int)) := by
      rintro x rfl
      unfold fj_M_hardest_66
      rw [f1, Option.bind_some]
      by_cases w : 0 < f k
      · rw [if_neg (by rw [l0z, zL_le (by omega) (by omega) (by omega) (by omega)]; omega)]
        simp only [fj_M_hardest_83, nm, zI_1]
        refine ⟨_, rfl, ?_⟩
        rw [sel_s]; unfold c1
        rw [if_pos (by simp [w])]
      · rw [if_pos (by rw [l0z, zL_le (by omega) (by omega) (by omega) (by omega)]; omega)]
        have ez : ∀ x : Int, zI x + (0 : Int32) = zI x := fun x => by rw [i0, zI_add, Int.add_zero]
        simp only [fj_M_hardest_83, nm, zI_1, ez]
        refine ⟨_, rfl, ?_⟩
        rw [sel_s]; unfold c1
        rw [if_neg (by simp [w])]
        rfl
    dsimp only [un3]
    unfold fb_M_hardest_39
    rw [if_neg (by rw [zI_le (by omega) (by omega) (by omega) (by omega)]; omega), f1, Option.bind_some, g1, Option.bind_some]
    by_cases w : f (hrd f k) < f k
    · rw [if_neg (by rw [zL_le (by omega) (by omega) (by omega) (by omega)]; omega)]
      exact fin k (by simp only [hrd]; rw [if_pos w])
    · rw [if_pos (by rw [zL_le (by omega) (by omega) (by omega) (by omega)]; omega)]
      exact fin (hrd f k) (by simp only [hrd]; rw [if_neg w])
  · rintro z rfl
    dsimp only [un3]
    unfold fb_M_hardest_39
    rw [if_pos (by rw [zI_le (by omega) (by omega) (by omega) (by omega)]; omega)]
    exact ⟨_, rfl, rfl⟩
theorem op_hardest (hJt : Jt n nv A B) (hF : 300 < F) {bn ju jl many mu ml : Int32} (J : JX n nv A B g c y s u o pit bn ju jl) (X : MX n nv A B now many mu ml) (x1 : Int32) (way0 wb0 : Nat → Int32) (kn0 tot0 : Int32) (kd0 wh0 : Nat → Int32) (ov0 un0 : Nat → Int64) (eO0 eU0 : Int64) (dO0 dU0 : Nat → Int64) (sO0 sU0 : Int64) (st0 : Nat → Int32) (re0 fr0 fs0 dr0 ds0 : Nat → Int64) (lu0 : Int64) (bf0 bl0 ba0 sc0 : Nat → Int64) (fR0 fS0 : Int64) (hK : KnG n nv A B kn0 tot0 kd0 wh0 ov0 un0 eO0 eU0) (mo0 : Nat → Int32) (uu0 : Int64) (sl0 mb0 ss0 sb0 of0 : Nat → Int64) (be0 : Nat → Int32) (bs0 : Int32) (ma0 : Nat → Int64) (lO0 lU0 : Int64) (mt0 : Int32) (mk0 mw0 : Nat → Int32) (mv0 mn0 : Nat → Int64) (ha0 : Nat → Int32) (nO0 nU0 : Int64) (me0 fe0 : Nat → Int32) (aO0 aU0 bO0 bU0 : Nat → Int64) (hf : ∀ i, i < 5 → fe0 i = 0) (nu : Nat → Int64) (sz : Int32) (row : Nat → Int64) (rm th : Int32) (hR : RowEq nu sz row rm) :
    ∃ (r : Int32) (way1 wb1 : Nat → Int32) (kn1 tot1 : Int32) (kd1 wh1 : Nat → Int32) (ov1 un1 : Nat → Int64) (eO1 eU1 : Int64) (dO1 dU1 : Nat → Int64) (sO1 sU1 : Int64) (st1 : Nat → Int32) (re1 fr1 fs1 dr1 ds1 : Nat → Int64) (lu1 : Int64) (bf1 bl1 ba1 sc1 : Nat → Int64) (fR1 fS1 : Int64) (nu1 : Nat → Int64) (sz1 : Int32) (mo1 : Nat → Int32) (uu1 : Int64) (sl1 mb1 ss1 sb1 of1 : Nat → Int64) (be1 : Nat → Int32) (bs1 : Int32) (ma1 : Nat → Int64) (lO1 lU1 : Int64) (mt1 : Int32) (mk1 mw1 : Nat → Int32) (mv1 mn1 : Nat → Int64) (ha1 : Nat → Int32) (nO1 nU1 : Int64) (me1 fe1 : Nat → Int32) (aO1 aU1 bO1 bU1 : Nat → Int64) (row1 : Nat → Int64) (rm1 : Int32), f_X_hardest F x1 way0 wb0 kn0 tot0 kd0 wh0 ov0 un0 eO0 eU0 dO0 dU0 sO0 sU0 st0 re0 fr0 fs0 dr0 ds0 lu0 bf0 bl0 ba0 sc0 fR0 fS0 g c y s u o pit bn ju jl nu sz = some (r, way1, wb1, kn1, tot1, kd1, wh1, ov1, un1, eO1, eU1, dO1, dU1, sO1, sU1, st1, re1, fr1, fs1, dr1, ds1, lu1, bf1, bl1, ba1, sc1, fR1, fS1, nu1, sz1) ∧ f_M_hardest F x1 now many mu ml row rm th mo0 uu0 sl0 mb0 ss0 sb0 of0 be0 bs0 ma0 lO0 lU0 mt0 mk0 mw0 mv0 mn0 ha0 nO0 nU0 me0 fe0 aO0 aU0 bO0 bU0 = some (r, row1, rm1, (0 : Int32), mo1, uu1, sl1, mb1, ss1, sb1, of1, be1, bs1, ma1, lO1, lU1, mt1, mk1, mw1, mv1, mn1, ha1, nO1, nU1, me1, fe1, aO1, aU1, bO1, bU1) ∧
      KnG n nv A B kn1 tot1 kd1 wh1 ov1 un1 eO1 eU1 ∧ (∀ i, i < 5 → fe1 i = 0) ∧ RowEq nu1 sz1 row1 rm1 := by
  obtain ⟨p, rfl, hp1, hp2⟩ := zI_all x1
  have hJt' := hJt
  obtain ⟨hn, hv, hA, hB⟩ := hJt'
  obtain ⟨J1, ho, rfl, rfl, rfl⟩ := J
  obtain ⟨h, rfl, rfl, rfl⟩ := X
  obtain ⟨r, way1, wb1, kn1, tot1, kd1, wh1, ov1, un1, eO1, eU1, dO1, dU1, sO1, sU1, st1, re1, fr1, fs1, dr1, ds1, lu1, bf1, bl1, ba1, sc1, fR1, fS1, e, hK1, hc⟩ := both_come hJt hF ⟨J1, ho, rfl, rfl, rfl⟩ ⟨h, rfl, rfl, rfl⟩ (p := p) ⟨hp1, hp2⟩ (0 < n) way0 wb0 kn0 tot0 kd0 wh0 ov0 un0 eO0 eU0 dO0 dU0 sO0 sU0 st0 re0 fr0 fs0 dr0 ds0 lu0 bf0 bl0 ba0 sc0 fR0 fS0 hK mo0 uu0 sl0 mb0 ss0 sb0 of0 be0 bs0 ma0 lO0 lU0 mt0 mk0 mw0 mv0 mn0 ha0 nO0 nU0 me0 fe0 aO0 aU0 bO0 bU0 hf
  unfold f_X_hardest f_M_hardest
  rw [if_bolts hn (fun q => fj_X_hardest_17 F (zI p) (zI p) q way0 wb0 kn0 tot0 kd0 wh0 ov0 un0 eO0 eU0 dO0 dU0 sO0 sU0 st0 re0 fr0 fs0 dr0 ds0 lu0 bf0 bl0 ba0 sc0 fR0 fS0 g c y s u o pit (zI (n : Int)) (zI A) (zI B) nu sz)]
  unfold fj_X_hardest_17
  rw [e]
  simp only [bd28, Option.bind_some]
  rcases hc with ⟨hr, hno⟩ | ⟨hyes, hkn, hEv, heO, heU, r', mo1, uu1, sl1, mb1, ss1, sb1, of1, be1, bs1, ma1, lO1, lU1, mt1, mk1, mw1, mv1, mn1, ha1, nO1, nU1, me1, fe1, aO1, aU1, bO1, bU1, em, hf1, hc⟩
  · rw [hr, if_neg (by decide)]
    refine ⟨_, way1, wb1, kn1, tot1, kd1, wh1, ov1, un1, eO1, eU1, dO1, dU1, sO1, sU1, st1, re1, fr1, fs1, dr1, ds1, lu1, bf1, bl1, ba1, sc1, fR1, fS1, nu, sz, mo0, uu0, sl0, mb0, ss0, sb0, of0, be0, bs0, ma0, lO0, lU0, mt0, mk0, mw0, mv0, mn0, ha0, nO0, nU0, me0, fe0, aO0, aU0, bO0, bU0, row, rm, rfl, ?_, hK1, hf, hR⟩
    by_cases w : 0 < n
    · rw [if_neg (fun z => (if_many hn).mp z w), misLoad_z ⟨hp1, hp2⟩, Option.bind_some, if_pos (b01_ne0.mpr (fun z => hno ⟨z.1, z.2, w⟩))]; rfl
    · rw [if_pos ((if_many hn).mpr w)]; rfl
  · rw [if_neg (fun z => (if_many hn).mp z hyes.2.2), misLoad_z ⟨hp1, hp2⟩, Option.bind_some, if_neg (fun z => (b01_ne0.mp z) ⟨hyes.1, hyes.2.1⟩), em]
    simp only [bd27, Option.bind_some]
    rcases hc with ⟨hr, hr', hpk, hla, hall⟩ | ⟨hr, hr', hpk, hlO, hlU, D, f, d, D', f', d', md', FA, FM, hsc, hsat, hsat', hmds, hmo, hcl, hml⟩
    · rw [hr, hr', if_neg (by decide), if_pos rfl]
      exact ⟨_, way1, wb1, kn1, tot1, kd1, wh1, ov1, un1, eO1, eU1, dO1, dU1, sO1, sU1, st1, re1, fr1, fs1, dr1, ds1, lu1, bf1, bl1, ba1, sc1, fR1, fS1, nu, sz, mo1, uu1, sl1, mb1, ss1, sb1, of1, be1, bs1, ma1, lO1, lU1, mt1, mk1, mw1, mv1, mn1, ha1, nO1, nU1, me1, fe1, aO1, aU1, bO1, bU1, row, rm, rfl, rfl, hK1, hf1, hR⟩
    · have hha := hard_z (F := F) hn (by omega) hyes.2.2 ⟨hyes.1, hyes.2.1⟩ FA
      have hmh := mhard_z (F := F) hn (by omega) hyes.2.2 ⟨hyes.1, hyes.2.1⟩ FM
      have hbe := bear_z (F := F) hn (by omega) ⟨hyes.1, hyes.2.1⟩ FA
      obtain ⟨a1, a2, a3, a4⟩ := FA
      obtain ⟨b1, b2, b3, b4⟩ := FM
      have hb32 : msk (fun i => decide (0 < f i)) n < 32 := msk_32 _ hn
      have hcount := bits_count _ hb32
      rw [sel_msk hn] at hcount
      have ecnt : sel (fun i => decide (0 < f' i)) n = sel (fun i => decide (0 < f i)) n := sel_congr fun i hi => decide_eq_decide.mpr (sc_pos a2 b2 (hsc i hi).1).symm
      have ehrd : hrd f' n = hrd f n := hrd_sc a2 b2 hyes.2.2 (fun i hi => (hsc i hi).1) n (Nat.le_refl _)
      have bl := hrd_lt f n
      have h0n := hyes.2.2
      rw [ecnt, ehrd] at hmh
      have hbn : hrd f n < n := by omega
      obtain ⟨f1, f2, f3, f4⟩ := a4 _ hbn
      obtain ⟨g1, g2, g3, g4⟩ := b4 _ hbn
      have es := (hsc _ hbn).1
      have q1 := mul_bd (show 0 ≤ D by omega) hyes.1 a3 hyes.2.1
      have q2 := mul_bd (show 0 ≤ D' by omega) hyes.1 b3 hyes.2.1
      have hl5 := sel5 (fun i => decide (0 < f i)) n
      generalize hrd f n = b at *
      generalize (sel (fun i => decide (0 < f i)) n).length = ct at *
      rw [Int.mul_comm D p] at q1 f3
      rw [Int.mul_comm D' p] at q2 g3
      have hval : ∃ v : Int, (if zL (p * D) = (0 : Int64) then fj_X_hardest_145 F (zI p) (zI (b : Int)) (0 : Int64) way1 wb1 kn1 tot1 kd1 wh1 ov1 un1 eO1 eU1 dO1 dU1 sO1 sU1 st1 re1 fr1 fs1 dr1 ds1 (zL D) bf1 bl1 ba1 sc1 fR1 fS1 (zI (n : Int)) nu (0 : Int32) else (f_L_forceAt (zI (b : Int)) (zL p) (zL 1) fr1 fs1).bind fun r_138 => (dvL ((1000 : Int64) * r_138) (zL (p * D))).bind fun v_144 => fj_X_hardest_145 F (zI p) (zI (b : Int)) v_144 way1 wb1 kn1 tot1 kd1 wh1 ov1 un1 eO1 eU1 dO1 dU1 sO1 sU1 st1 re1 fr1 fs1 dr1 ds1 (zL D) bf1 bl1 ba1 sc1 fR1 fS1 (zI (n : Int)) nu (0 : Int32)) = fj_X_hardest_145 F (zI p) (zI (b : Int)) (zL v) way1 wb1 kn1 tot1 kd1 wh1 ov1 un1 eO1 eU1 dO1 dU1 sO1 sU1 st1 re1 fr1 fs1 dr1 ds1 (zL D) bf1 bl1 ba1 sc1 fR1 fS1 (zI (n : Int)) nu (0 : Int32) ∧ (if p = 0 then v = 0 else dvL ((1000 : Int64) * zL (f' b)) (zL (p * D')) = some (zL v)) := by
        by_cases w : p = 0
        · refine ⟨0, ?_, by rw [if_pos w]⟩
          rw [if_pos (by rw [w, Int.zero_mul]; rfl)]; rfl
        · have pD := Int.mul_pos (show 0 < p by omega) a2
          have pD' := Int.mul_pos (show 0 < p by omega) b2
          refine ⟨(1000 * f b).tdiv (p * D), ?_, ?_⟩
          · rw [if_neg (by rw [l0z, zL_eq (by omega) (by omega) (by omega) (by omega)]; omega), f1, Option.bind_some, show (1000 : Int64) = zL 1000 from rfl, zL_mul, dvL_z (by omega) (by omega) pD (by omega), Option.bind_some]
          · rw [if_neg w, show (1000 : Int64) = zL 1000 from rfl, zL_mul, dvL_z (by omega) (by omega) pD' (by omega)]
            rw [tdiv_sc (a := 1000 * f b) (b := p * D) (x := 1000 * f' b) (z := p * D') (by omega) pD (by omega) pD' (by
              have : 1000 * f' b * (p * D) = 1000 * p * (f' b * D) := by ac_rfl
              rw [this, es]; ac_rfl)]
      obtain ⟨v, hv1, hv2⟩ := hval
      obtain ⟨nu1, sz1, e1, R1⟩ := whole_z (RowC.nil nu) (by show 0 < 8; omega) v
      obtain ⟨nu2, sz2, e2, R2⟩ := whole_z R1 (by show 1 < 8; omega) (ct : Int)
      obtain ⟨row1, rm1, e3, R3⟩ := tell_z (RowC.nil row) (by show 0 < 64; omega) v
      obtain ⟨row2, rm2, e4, R4⟩ := tell_z R3 (by show 1 < 64; omega) (ct : Int)
      rw [hr, hr', if_pos (show (0 : Int32) ≤ zI 0 by decide), if_neg (show ¬ (1 : Int32) = 0 by decide), hha, Option.bind_some, hmh]
      simp only [bd2, Option.bind_some, nm]
      rw [zI_l (by omega) (by omega), a1, zL_mul, show (1 : Int64) = zL 1 from rfl, hv1]
      unfold fj_X_hardest_145
      rw [e1]
      simp only [bd2, Option.bind_some]
      rw [hbe, Option.bind_some, hcount, Option.bind_some, zI_l (a := (ct : Int)) (by omega) (by omega), e2]
      simp only [Option.bind_some]
      refine ⟨_, way1, wb1, kn1, tot1, kd1, wh1, ov1, un1, eO1, eU1, dO1, dU1, sO1, sU1, st1, re1, fr1, fs1, dr1, ds1, zL D, bf1, bl1, ba1, sc1, fR1, fS1, nu2, sz2, mo1, uu1, sl1, mb1, ss1, sb1, of1, be1, bs1, ma1, lO1, lU1, mt1, mk1, mw1, mv1, mn1, ha1, nO1, nU1, me1, fe1, aO1, aU1, bO1, bU1, row2, rm2, rfl, ?_, hK1, hf1, _, by show 2 ≤ 8; omega, R2, R4⟩
      by_cases w : p = 0
      · rw [if_pos w] at hv2
        rw [hv2] at e3
        rw [if_pos (by rw [w]; rfl), show (0 : Int64) = zL 0 from rfl, e3]
        simp only [Option.bind_some]
        rw [e4]
        rfl
      · rw [if_neg w] at hv2
        rw [if_neg (by rw [i0, zI_eq (by omega) (by omega) (by omega) (by omega)]; exact w), g1, Option.bind_some, b1, Option.bind_some, zL_mul, hv2, Option.bind_some, e3]
        simp only [Option.bind_some]
        rw [e4]
        rfl
end OPS4
