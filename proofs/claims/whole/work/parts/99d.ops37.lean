/-! WHAT WOULD BE: chance -/
section OPS37
variable {n : Nat} {nv : Nat → Nat → Int} {A B : Int} {F : Nat} {g c y s u pit o now : Nat → Int32} {cl : Nat → Int}
theorem ushr_16 (x : Int32) : ∃ w : Int, (0 ≤ w ∧ w ≤ 65535) ∧ ushrI x (16 : Int32) = zI w := by
  have h : ushrI x (16 : Int32) = Int32.ofBitVec (x.toBitVec >>> 16) := rfl
  have hb : (x.toBitVec >>> 16).toNat < 65536 := by
    rw [BitVec.toNat_ushiftRight, Nat.shiftRight_eq_div_pow]
    have := x.toBitVec.isLt
    omega
  have e : x.toBitVec >>> 16 = BitVec.ofNat 32 (x.toBitVec >>> 16).toNat := BitVec.eq_of_toNat_eq (by rw [BitVec.toNat_ofNat]; omega)
  refine ⟨((x.toBitVec >>> 16).toNat : Int), ⟨by omega, by omega⟩, ?_⟩
  rw [h, ← nI_z]
  generalize (x.toBitVec >>> 16).toNat = t at *
  rw [e]
  rfl
theorem draw_z (x : Int32) : ∃ v : Int, (0 ≤ v ∧ v ≤ 9) ∧ rmI (ushrI x (16 : Int32)) (10 : Int32) = some (zI v) := by
  obtain ⟨w, hw, e⟩ := ushr_16 x
  obtain ⟨f1, f2, f3, f4, -⟩ := tr_facts w (b := 10) (by omega)
  have := f4 hw.1
  refine ⟨w - w.tdiv 10 * 10, by omega, ?_⟩
  unfold rmI
  rw [e, show (10 : Int32) = zI 10 from rfl, if_neg (by rw [i0, zI_eq (by omega) (by omega) (by omega) (by omega)]; omega), zI_div (by omega) (by omega) (by omega) (by omega), zI_mul, zI_sub]
/-- both draw the same clears -/
theorem draws_z (hn : n ≤ 5) (hF : 10 < F) (hnow : ∀ i, i < n → ∀ q, q < 7 → q ≠ 1 → now (7 * i + q) = zI (nv i q)) (x : Int32) (cc : Nat → Int32) :
    ∃ (x1 : Int32) (cc1 now1 : Nat → Int32) (cl : Nat → Int), iter (un3 (fb_X_chance_66 (zI (n : Int)))) F (x, (0 : Int32), cc) = some (x1, cc1) ∧ iter (un3 (fb_M_chance_62 (zI (n : Int)))) F ((0 : Int32), now, x) = some (now1, x1) ∧ (∀ i, i < n → 0 ≤ cl i ∧ cl i ≤ 9) ∧ (∀ i, i < n → cc1 i = zI (cl i)) ∧ (∀ i, i < n → now1 (7 * i + 1) = zI (cl i)) ∧ ∀ i, i < n → ∀ q, q < 7 → q ≠ 1 → now1 (7 * i + q) = zI (nv i q) := by
  have go : ∀ (j F1 F2 : Nat), j < F1 → j < F2 → ∀ (k : Nat) (x : Int32) (cc now : Nat → Int32) (cl : Nat → Int), k + j = n → (∀ i, i < k → 0 ≤ cl i ∧ cl i ≤ 9) → (∀ i, i < k → cc i = zI (cl i)) → (∀ i, i < k → now (7 * i + 1) = zI (cl i)) → (∀ i, i < n → ∀ q, q < 7 → q ≠ 1 → now (7 * i + q) = zI (nv i q)) →
      ∃ (x1 : Int32) (cc1 now1 : Nat → Int32) (cl : Nat → Int), iter (un3 (fb_X_chance_66 (zI (n : Int)))) F1 (x, zI (k : Int), cc) = some (x1, cc1) ∧ iter (un3 (fb_M_chance_62 (zI (n : Int)))) F2 (zI (k : Int), now, x) = some (now1, x1) ∧ (∀ i, i < n → 0 ≤ cl i ∧ cl i ≤ 9) ∧ (∀ i, i < n → cc1 i = zI (cl i)) ∧ (∀ i, i < n → now1 (7 * i + 1) = zI (cl i)) ∧ ∀ i, i < n → ∀ q, q < 7 → q ≠ 1 → now1 (7 * i + q) = zI (nv i q) := by
    intro j
    induction j with
    | zero =>
      intro F1 F2 h1 h2 k x cc now cl hk a1 a2 a3 a4
      obtain ⟨F1, rfl⟩ : ∃ x, F1 = x + 1 := ⟨F1 - 1, by omega⟩
      obtain ⟨F2, rfl⟩ : ∃ x, F2 = x + 1 := ⟨F2 - 1, by omega⟩
      have hkn : k = n := by omega
      subst hkn
      refine ⟨x, cc, now, cl, iter_en ?_, iter_en ?_, a1, a2, a3, a4⟩
      · dsimp only [un3]
        unfold fb_X_chance_66
        rw [if_pos (Int32.le_refl _)]
      · dsimp only [un3]
        unfold fb_M_chance_62
        rw [if_pos (Int32.le_refl _)]
    | succ j ih =>
      intro F1 F2 h1 h2 k x cc now cl hk a1 a2 a3 a4
      obtain ⟨F1, rfl⟩ : ∃ x, F1 = x + 1 := ⟨F1 - 1, by omega⟩
      obtain ⟨F2, rfl⟩ : ∃ x, F2 = x + 1 := ⟨F2 - 1, by omega⟩
      have hle : ¬ zI (n : Int) ≤ zI (k : Int) := by rw [zI_le (by omega) (by omega) (by omega) (by omega)]; omega
      have e71 : (7 : Int32) * zI (k : Int) + (1 : Int32) = zI ((7 * k + 1 : Nat) : Int) := e7q k 1
      obtain ⟨v, hv, ev⟩ := draw_z (x * (1103515245 : Int32) + (12345 : Int32))
      have s1 : un3 (fb_X_chance_66 (zI (n : Int))) (x, zI (k : Int), cc) = some (.inl (x * (1103515245 : Int32) + (12345 : Int32), zI ((k + 1 : Nat) : Int), upd cc k (zI v))) := by
        dsimp only [un3]
        unfold fb_X_chance_66
        rw [if_neg hle]
        simp only [nm]
        rw [ev, Option.bind_some, stI_z (f := cc) (j := k) (by omega) (by omega), Option.bind_some, zI_1]
      have s2 : un3 (fb_M_chance_62 (zI (n : Int))) (zI (k : Int), now, x) = some (.inl (zI ((k + 1 : Nat) : Int), upd now (7 * k + 1) (zI v), x * (1103515245 : Int32) + (12345 : Int32))) := by
        dsimp only [un3]
        unfold fb_M_chance_62 f_M_draw
        rw [if_neg hle]
        simp only [nm]
        rw [ev]
        simp only [bd2, Option.bind_some]
        rw [e71, stI_z (f := now) (j := 7 * k + 1) (by omega) (by omega), Option.bind_some, zI_1]
      obtain ⟨x1, cc1, now1, cl1, z1, z2, z3⟩ := ih F1 F2 (by omega) (by omega) (k + 1) (x * (1103515245 : Int32) + (12345 : Int32)) (upd cc k (zI v)) (upd now (7 * k + 1) (zI v)) (fun i => if i = k then v else cl i) (by omega) (fun i hi => by
          by_cases w : i = k
          · rw [if_pos w]; exact hv
          · rw [if_neg w]; exact a1 i (by omega)) (fun i hi => by
          rw [upd_at]
          by_cases w : i = k
          · rw [if_pos w, if_pos w]
          · rw [if_neg w, if_neg w]; exact a2 i (by omega)) (fun i hi => by
          rw [upd_at]
          by_cases w : i = k
          · rw [if_pos (by omega), if_pos w]
          · rw [if_neg (by omega), if_neg w]; exact a3 i (by omega)) (fun i hi q hq hq1 => by rw [upd_at, if_neg (by omega)]; exact a4 i hi q hq hq1)
      exact ⟨x1, cc1, now1, cl1, iter_st s1 z1, iter_st s2 z2, z3⟩
  exact go n F F (by omega) (by omega) 0 x cc now (fun _ => 0) (by omega) (fun i hi => absurd hi (Nat.not_lt_zero i)) (fun i hi => absurd hi (Nat.not_lt_zero i)) (fun i hi => absurd hi (Nat.not_lt_zero i)) hnow
/-- the least load so far: the class's, the model's -/
def Tl (k : Nat) (co cu bo bu : Int64) : Prop :=
  (k = 0 ∧ co = zL 301 ∧ cu = zL 1 ∧ bu = 0) ∨ (0 < k ∧ ∃ O U : Int, co = zL O ∧ bo = zL O ∧ cu = zL U ∧ bu = zL U ∧ (0 ≤ O ∧ O ≤ 400 * 299269) ∧ (0 < U ∧ U ≤ 25 * 299269))
theorem Tl.step {k : Nat} {co cu bo bu : Int64} (h : Tl k co cu bo bu) {P Q : Int} (h1 : 0 ≤ P ∧ P ≤ 400 * 299269) (h2 : 0 < Q ∧ Q ≤ 25 * 299269) (h3 : P ≤ 300 * Q) :
    ∃ (r : Int32), f_G_comparePeak co cu (zL P) (zL Q) = some r ∧ ((bu = 0 ∧ ¬ (0 : Int32) ≤ r) ∨ (¬ bu = 0 ∧ f_M_against bo bu (zL P) (zL Q) = some r)) ∧ (((0 : Int32) ≤ r → Tl (k + 1) co cu bo bu) ∧ (¬ (0 : Int32) ≤ r → Tl (k + 1) (zL P) (zL Q) (zL P) (zL Q))) := by
  rcases h with ⟨-, rfl, rfl, rfl⟩ | ⟨hk, O, U, rfl, rfl, rfl, rfl, hO, hU⟩
  · have hc : cmpL P Q 301 1 = -1 := by
      unfold cmpL
      rw [if_neg (by omega), if_neg (by omega)]
    refine ⟨_, cpk_z h1 h2 (by omega) (by omega), ?_, ?_, ?_⟩
    · rw [hc]; exact Or.inl ⟨rfl, by decide⟩
    · rw [hc]; intro w; exact absurd w (by decide)
    · intro _; exact Or.inr ⟨by omega, P, Q, rfl, rfl, rfl, rfl, h1, h2⟩
  · have hne : ¬ zL U = (0 : Int64) := fun z => absurd ((zL_eq (a := U) (b := 0) (by omega) (by omega) (by omega) (by omega)).mp z) (by omega)
    exact ⟨_, cpk_z h1 h2 (by omega) hU, Or.inr ⟨hne, against_z h1 h2 (by omega) hU⟩, fun _ => Or.inr ⟨by omega, O, U, rfl, rfl, rfl, rfl, hO, hU⟩, fun _ => Or.inr ⟨by omega, P, Q, rfl, rfl, rfl, rfl, h1, h2⟩⟩
theorem chance_loop (hJt : Jt n nv A B) (hF : 300 < F) {bn ju jl many mu ml : Int32} (J : JX n nv A B g c y s u o pit bn ju jl) (hm1 : many = zI (n : Int)) (hm2 : mu = zI A) (hm3 : ml = zI B) {p : Int} (hp : 0 ≤ p ∧ p ≤ 300) {N : Nat} (hN : N ≤ 40) :
    ∀ (j F1 F2 : Nat), j < F1 → j < F2 → ∀ (k : Nat) (x e1 : Int32) (co cu bo bu : Int64) (cc now : Nat → Int32) (way0 wb0 : Nat → Int32) (kn0 tot0 : Int32) (kd0 wh0 : Nat → Int32) (ov0 un0 : Nat → Int64) (eO0 eU0 : Int64) (dO0 dU0 : Nat → Int64) (sO0 sU0 : Int64) (st0 : Nat → Int32) (re0 fr0 fs0 dr0 ds0 : Nat → Int64) (lu0 : Int64) (bf0 bl0 ba0 sc0 : Nat → Int64) (fR0 fS0 : Int64) (mo0 : Nat → Int32) (uu0 : Int64) (sl0 mb0 ss0 sb0 of0 : Nat → Int64) (be0 : Nat → Int32) (bs0 : Int32) (ma0 : Nat → Int64) (lO0 lU0 : Int64) (mt0 : Int32) (mk0 mw0 : Nat → Int32) (mv0 mn0 : Nat → Int64) (ha0 : Nat → Int32) (nO0 nU0 : Int64) (me0 fe0 : Nat → Int32) (aO0 aU0 bO0 bU0 : Nat → Int64), k + j = N → Tl k co cu bo bu → (∀ i, i < n → ∀ q, q < 7 → q ≠ 1 → now (7 * i + q) = zI (nv i q)) → (∀ i, i < 5 → fe0 i = 0) →
      ∃ (e2 x2 : Int32) (co1 cu1 bo1 bu1 : Int64) (cc1 now1 : Nat → Int32) (way1 wb1 : Nat → Int32) (kn1 tot1 : Int32) (kd1 wh1 : Nat → Int32) (ov1 un1 : Nat → Int64) (eO1 eU1 : Int64) (dO1 dU1 : Nat → Int64) (sO1 sU1 : Int64) (st1 : Nat → Int32) (re1 fr1 fs1 dr1 ds1 : Nat → Int64) (lu1 : Int64) (bf1 bl1 ba1 sc1 : Nat → Int64) (fR1 fS1 : Int64) (mo1 : Nat → Int32) (uu1 : Int64) (sl1 mb1 ss1 sb1 of1 : Nat → Int64) (be1 : Nat → Int32) (bs1 : Int32) (ma1 : Nat → Int64) (lO1 lU1 : Int64) (mt1 : Int32) (mk1 mw1 : Nat → Int32) (mv1 mn1 : Nat → Int64) (ha1 : Nat → Int32) (nO1 nU1 : Int64) (me1 fe1 : Nat → Int32) (aO1 aU1 bO1 bU1 : Nat → Int64), iter (un33 (fb_X_chance_57 F (zI (N : Int)) (zI p) bn g y s u o pit bn ju jl)) F1 (x, e1, co, cu, zI (k : Int), cc, way0, wb0, kn0, tot0, kd0, wh0, ov0, un0, eO0, eU0, dO0, dU0, sO0, sU0, st0, re0, fr0, fs0, dr0, ds0, lu0, bf0, bl0, ba0, sc0, fR0, fS0) = some (e2, co1, cu1, cc1, way1, wb1, kn1, tot1, kd1, wh1, ov1, un1, eO1, eU1, dO1, dU1, sO1, sU1, st1, re1, fr1, fs1, dr1, ds1, lu1, bf1, bl1, ba1, sc1, fR1, fS1) ∧ iter (un32 (fb_M_chance_53 F (zI (N : Int)) (zI p) many mu ml)) F2 (e1, zI (k : Int), now, mo0, uu0, sl0, mb0, ss0, sb0, of0, be0, bs0, ma0, lO0, lU0, mt0, mk0, mw0, mv0, mn0, ha0, nO0, nU0, me0, fe0, aO0, aU0, bO0, bU0, bo, bu, x) = some (e2, now1, mo1, uu1, sl1, mb1, ss1, sb1, of1, be1, bs1, ma1, lO1, lU1, mt1, mk1, mw1, mv1, mn1, ha1, nO1, nU1, me1, fe1, aO1, aU1, bO1, bU1, bo1, bu1, x2) ∧ Tl N co1 cu1 bo1 bu1 ∧ ∀ i, i < 5 → fe1 i = 0 := by
  have hn := hJt.1
  intro j
  induction j with
  | zero =>
    intro F1 F2 h1 h2 k x e1 co cu bo bu cc now way0 wb0 kn0 tot0 kd0 wh0 ov0 un0 eO0 eU0 dO0 dU0 sO0 sU0 st0 re0 fr0 fs0 dr0 ds0 lu0 bf0 bl0 ba0 sc0 fR0 fS0 mo0 uu0 sl0 mb0 ss0 sb0 of0 be0 bs0 ma0 lO0 lU0 mt0 mk0 mw0 mv0 mn0 ha0 nO0 nU0 me0 fe0 aO0 aU0 bO0 bU0 hk hT hnow hf
    obtain ⟨F1, rfl⟩ : ∃ x, F1 = x + 1 := ⟨F1 - 1, by omega⟩
    obtain ⟨F2, rfl⟩ : ∃ x, F2 = x + 1 := ⟨F2 - 1, by omega⟩
    have hkN : k = N := by omega
    subst hkN
    have s1 : un33 (fb_X_chance_57 F (zI (k : Int)) (zI p) bn g y s u o pit bn ju jl) (x, e1, co, cu, zI (k : Int), cc, way0, wb0, kn0, tot0, kd0, wh0, ov0, un0, eO0, eU0, dO0, dU0, sO0, sU0, st0, re0, fr0, fs0, dr0, ds0, lu0, bf0, bl0, ba0, sc0, fR0, fS0) = some (.inr (e1, co, cu, cc, way0, wb0, kn0, tot0, kd0, wh0, ov0, un0, eO0, eU0, dO0, dU0, sO0, sU0, st0, re0, fr0, fs0, dr0, ds0, lu0, bf0, bl0, ba0, sc0, fR0, fS0)) := by
      dsimp only [un33]
      unfold fb_X_chance_57
      rw [if_pos (Int32.le_refl _)]
    have s2 : un32 (fb_M_chance_53 F (zI (k : Int)) (zI p) many mu ml) (e1, zI (k : Int), now, mo0, uu0, sl0, mb0, ss0, sb0, of0, be0, bs0, ma0, lO0, lU0, mt0, mk0, mw0, mv0, mn0, ha0, nO0, nU0, me0, fe0, aO0, aU0, bO0, bU0, bo, bu, x) = some (.inr (e1, now, mo0, uu0, sl0, mb0, ss0, sb0, of0, be0, bs0, ma0, lO0, lU0, mt0, mk0, mw0, mv0, mn0, ha0, nO0, nU0, me0, fe0, aO0, aU0, bO0, bU0, bo, bu, x)) := by
      dsimp only [un32]
      unfold fb_M_chance_53
      rw [if_pos (Int32.le_refl _)]
    exact ⟨_, _, _, _, _, _, cc, now, way0, wb0, kn0, tot0, kd0, wh0, ov0, un0, eO0, eU0, dO0, dU0, sO0, sU0, st0, re0, fr0, fs0, dr0, ds0, lu0, bf0, bl0, ba0, sc0, fR0, fS0, mo0, uu0, sl0, mb0, ss0, sb0, of0, be0, bs0, ma0, lO0, lU0, mt0, mk0, mw0, mv0, mn0, ha0, nO0, nU0, me0, fe0, aO0, aU0, bO0, bU0, iter_en s1, iter_en s2, hT, hf⟩
  | succ j ih =>
    intro F1 F2 h1 h2 k x e1 co cu bo bu cc now way0 wb0 kn0 tot0 kd0 wh0 ov0 un0 eO0 eU0 dO0 dU0 sO0 sU0 st0 re0 fr0 fs0 dr0 ds0 lu0 bf0 bl0 ba0 sc0 fR0 fS0 mo0 uu0 sl0 mb0 ss0 sb0 of0 be0 bs0 ma0 lO0 lU0 mt0 mk0 mw0 mv0 mn0 ha0 nO0 nU0 me0 fe0 aO0 aU0 bO0 bU0 hk hT hnow hf
    obtain ⟨F1, rfl⟩ : ∃ x, F1 = x + 1 := ⟨F1 - 1, by omega⟩
    obtain ⟨F2, rfl⟩ : ∃ x, F2 = x + 1 := ⟨F2 - 1, by omega⟩
    have hle : ¬ zI (N : Int) ≤ zI (k : Int) := by rw [zI_le (by omega) (by omega) (by omega) (by omega)]; omega
    have hbn : bn = zI (n : Int) := J.2.2.1
    obtain ⟨x2, cc2, now2, cl, d1, d2, hcl, hc2, hn1, hn2⟩ := draws_z (F := F) hn (by omega) hnow x cc
    have d1 : iter (un3 (fb_X_chance_66 bn)) F (x, (0 : Int32), cc) = some (x2, cc2) := by rw [hbn]; exact d1
    have d2 : iter (un3 (fb_M_chance_62 many)) F ((0 : Int32), now, x) = some (now2, x2) := by rw [hm1]; exact d2
    have hJt2 : Jt n (nvC nv cl) A B := ⟨hn, nvC_ok hJt.2.1 hcl, hJt.2.2⟩
    have hJ2 : JX n (nvC nv cl) A B g cc2 y s u o pit bn ju jl := nvC_J J hc2
    have hM2 : MX n (nvC nv cl) A B now2 many mu ml := nvC_M hm1 hm2 hm3 hn2 hn1
    obtain ⟨wayw, wbw, knw, totw, kdw, whw, ovw, unw, eOw, eUw, dOw, dUw, sOw, sUw, stw, rew, frw, fsw, drw, dsw, luw, bfw, blw, baw, scw, fRw, fSw, mow, uuw, slw, mbw, ssw, sbw, ofw, bew, bsw, maw, lOw, lUw, mtw, mkw, mww, mvw, mnw, haw, nOw, nUw, mew, few, aOw, aUw, bOw, bUw, eg, em, k1, k2, k3, k4, hf2⟩ := both_guess hJt2 hF hJ2 hM2 way0 wb0 kn0 tot0 kd0 wh0 ov0 un0 eO0 eU0 dO0 dU0 sO0 sU0 st0 re0 fr0 fs0 dr0 ds0 lu0 bf0 bl0 ba0 sc0 fR0 fS0 mo0 uu0 sl0 mb0 ss0 sb0 of0 be0 bs0 ma0 lO0 lU0 mt0 mk0 mw0 mv0 mn0 ha0 nO0 nU0 me0 fe0 aO0 aU0 bO0 bU0 hf
    obtain ⟨c1, c2, c3⟩ := pk_bd hJt2
    generalize pkO n (nvC nv cl) A B = P at *
    generalize pkU n (nvC nv cl) A B = Q at *
    have t1 : f_G_comparePeak (zL p) (1 : Int64) (zL P) (zL Q) = some (zI (cmpL P Q p 1)) := cpk_z (o := p) (w := 1) c1 c2 (by omega) (by omega)
    have t2 : f_M_against (zL p) (1 : Int64) (zL P) (zL Q) = some (zI (cmpL P Q p 1)) := against_z (o := p) (w := 1) c1 c2 (by omega) (by omega)
    obtain ⟨r, r1, r2, r3, r4⟩ := hT.step c1 c2 c3
    -- behind the count of those that are enough
    have x134 : ∀ e3 : Int32, fj_X_chance_134 x2 e3 co cu (zI (k : Int)) cc2 wayw wbw knw totw kdw whw ovw unw eOw eUw dOw dUw sOw sUw stw rew frw fsw drw dsw luw bfw blw baw scw fRw fSw = if (0 : Int32) ≤ r then some (.inl (x2, e3, co, cu, zI ((k + 1 : Nat) : Int), cc2, wayw, wbw, knw, totw, kdw, whw, ovw, unw, eOw, eUw, dOw, dUw, sOw, sUw, stw, rew, frw, fsw, drw, dsw, luw, bfw, blw, baw, scw, fRw, fSw)) else some (.inl (x2, e3, zL P, zL Q, zI ((k + 1 : Nat) : Int), cc2, wayw, wbw, knw, totw, kdw, whw, ovw, unw, eOw, eUw, dOw, dUw, sOw, sUw, stw, rew, frw, fsw, drw, dsw, luw, bfw, blw, baw, scw, fRw, fSw)) := by
      intro e3
      unfold fj_X_chance_134
      rw [k1, k2, r1, Option.bind_some]
      simp only [fj_X_chance_166, nm, zI_1]
    have m116 : ∀ s1 : Int32, fj_M_chance_116 (zI (k : Int)) e1 s1 now2 mow uuw slw mbw ssw sbw ofw bew bsw maw lOw lUw mtw mkw mww mvw mnw haw nOw nUw mew few aOw aUw bOw bUw bo bu x2 = if (0 : Int32) ≤ r then some (.inl (e1 + s1, zI ((k + 1 : Nat) : Int), now2, mow, uuw, slw, mbw, ssw, sbw, ofw, bew, bsw, maw, lOw, lUw, mtw, mkw, mww, mvw, mnw, haw, nOw, nUw, mew, few, aOw, aUw, bOw, bUw, bo, bu, x2)) else some (.inl (e1 + s1, zI ((k + 1 : Nat) : Int), now2, mow, uuw, slw, mbw, ssw, sbw, ofw, bew, bsw, maw, lOw, lUw, mtw, mkw, mww, mvw, mnw, haw, nOw, nUw, mew, few, aOw, aUw, bOw, bUw, zL P, zL Q, x2)) := by
      intro s1
      unfold fj_M_chance_116
      simp only [nm]
      rcases r2 with ⟨w1, w2⟩ | ⟨w1, w2⟩
      · rw [if_pos w1, if_neg w2]
        simp only [fj_M_chance_146, fj_M_chance_162, nm, zI_1, k3, k4]
      · rw [if_neg w1, k3, k4, w2, Option.bind_some]
        by_cases v : (0 : Int32) ≤ r
        · rw [if_pos v, if_neg (Int32.not_lt.mpr v)]
          simp only [fj_M_chance_162, nm, zI_1]
        · rw [if_neg v, if_pos (Int32.not_le.mp v)]
          simp only [fj_M_chance_146, fj_M_chance_162, nm, zI_1]
    have ez : e1 + (0 : Int32) = e1 := by simp
    obtain ⟨e3, s1, s2⟩ : ∃ e3 : Int32, un33 (fb_X_chance_57 F (zI (N : Int)) (zI p) bn g y s u o pit bn ju jl) (x, e1, co, cu, zI (k : Int), cc, way0, wb0, kn0, tot0, kd0, wh0, ov0, un0, eO0, eU0, dO0, dU0, sO0, sU0, st0, re0, fr0, fs0, dr0, ds0, lu0, bf0, bl0, ba0, sc0, fR0, fS0) = (if (0 : Int32) ≤ r then some (.inl (x2, e3, co, cu, zI ((k + 1 : Nat) : Int), cc2, wayw, wbw, knw, totw, kdw, whw, ovw, unw, eOw, eUw, dOw, dUw, sOw, sUw, stw, rew, frw, fsw, drw, dsw, luw, bfw, blw, baw, scw, fRw, fSw)) else some (.inl (x2, e3, zL P, zL Q, zI ((k + 1 : Nat) : Int), cc2, wayw, wbw, knw, totw, kdw, whw, ovw, unw, eOw, eUw, dOw, dUw, sOw, sUw, stw, rew, frw, fsw, drw, dsw, luw, bfw, blw, baw, scw, fRw, fSw))) ∧ un32 (fb_M_chance_53 F (zI (N : Int)) (zI p) many mu ml) (e1, zI (k : Int), now, mo0, uu0, sl0, mb0, ss0, sb0, of0, be0, bs0, ma0, lO0, lU0, mt0, mk0, mw0, mv0, mn0, ha0, nO0, nU0, me0, fe0, aO0, aU0, bO0, bU0, bo, bu, x) = (if (0 : Int32) ≤ r then some (.inl (e3, zI ((k + 1 : Nat) : Int), now2, mow, uuw, slw, mbw, ssw, sbw, ofw, bew, bsw, maw, lOw, lUw, mtw, mkw, mww, mvw, mnw, haw, nOw, nUw, mew, few, aOw, aUw, bOw, bUw, bo, bu, x2)) else some (.inl (e3, zI ((k + 1 : Nat) : Int), now2, mow, uuw, slw, mbw, ssw, sbw, ofw, bew, bsw, maw, lOw, lUw, mtw, mkw, mww, mvw, mnw, haw, nOw, nUw, mew, few, aOw, aUw, bOw, bUw, zL P, zL Q, x2))) := by
      have a1 : ∀ R, (if zI (cmpL P Q p 1) < (0 : Int32) then fj_X_chance_134 x2 e1 co cu (zI (k : Int)) cc2 wayw wbw knw totw kdw whw ovw unw eOw eUw dOw dUw sOw sUw stw rew frw fsw drw dsw luw bfw blw baw scw fRw fSw else nm (e1 + (1 : Int32)) fun l5_131 => fj_X_chance_134 x2 l5_131 co cu (zI (k : Int)) cc2 wayw wbw knw totw kdw whw ovw unw eOw eUw dOw dUw sOw sUw stw rew frw fsw drw dsw luw bfw blw baw scw fRw fSw) = R → un33 (fb_X_chance_57 F (zI (N : Int)) (zI p) bn g y s u o pit bn ju jl) (x, e1, co, cu, zI (k : Int), cc, way0, wb0, kn0, tot0, kd0, wh0, ov0, un0, eO0, eU0, dO0, dU0, sO0, sU0, st0, re0, fr0, fs0, dr0, ds0, lu0, bf0, bl0, ba0, sc0, fR0, fS0) = R := by
        intro R hR
        dsimp only [un33]
        unfold fb_X_chance_57
        rw [if_neg hle, d1]
        simp only [bd2, Option.bind_some]
        rw [eg]
        simp only [bd27, Option.bind_some]
        rw [k1, k2, zI_l (a := p) (by omega) (by omega), t1, Option.bind_some, ← k1, ← k2]
        exact hR
      have a2 : ∀ R, (if zI (cmpL P Q p 1) < (0 : Int32) then fj_M_chance_116 (zI (k : Int)) e1 (0 : Int32) now2 mow uuw slw mbw ssw sbw ofw bew bsw maw lOw lUw mtw mkw mww mvw mnw haw nOw nUw mew few aOw aUw bOw bUw bo bu x2 else fj_M_chance_116 (zI (k : Int)) e1 (1 : Int32) now2 mow uuw slw mbw ssw sbw ofw bew bsw maw lOw lUw mtw mkw mww mvw mnw haw nOw nUw mew few aOw aUw bOw bUw bo bu x2) = R → un32 (fb_M_chance_53 F (zI (N : Int)) (zI p) many mu ml) (e1, zI (k : Int), now, mo0, uu0, sl0, mb0, ss0, sb0, of0, be0, bs0, ma0, lO0, lU0, mt0, mk0, mw0, mv0, mn0, ha0, nO0, nU0, me0, fe0, aO0, aU0, bO0, bU0, bo, bu, x) = R := by
        intro R hR
        dsimp only [un32]
        unfold fb_M_chance_53
        rw [if_neg hle, d2]
        simp only [bd2, Option.bind_some]
        rw [em]
        simp only [bd26, Option.bind_some]
        rw [k3, k4, zI_l (a := p) (by omega) (by omega), t2, Option.bind_some, ← k3, ← k4]
        exact hR
      by_cases w : zI (cmpL P Q p 1) < (0 : Int32)
      · exact ⟨e1, a1 _ (by rw [if_pos w, x134]), a2 _ (by rw [if_pos w, m116, ez])⟩
      · exact ⟨e1 + (1 : Int32), a1 _ (by rw [if_neg w]; simp only [nm]; rw [x134]), a2 _ (by rw [if_neg w, m116])⟩
    by_cases v : (0 : Int32) ≤ r
    · rw [if_pos v] at s1 s2
      obtain ⟨e4, x4, co1, cu1, bo1, bu1, cc1, now1, way1, wb1, kn1, tot1, kd1, wh1, ov1, un1, eO1, eU1, dO1, dU1, sO1, sU1, st1, re1, fr1, fs1, dr1, ds1, lu1, bf1, bl1, ba1, sc1, fR1, fS1, mo1, uu1, sl1, mb1, ss1, sb1, of1, be1, bs1, ma1, lO1, lU1, mt1, mk1, mw1, mv1, mn1, ha1, nO1, nU1, me1, fe1, aO1, aU1, bO1, bU1, z1, z2, z3, z4⟩ := ih F1 F2 (by omega) (by omega) (k + 1) x2 e3 co cu bo bu cc2 now2 wayw wbw knw totw kdw whw ovw unw eOw eUw dOw dUw sOw sUw stw rew frw fsw drw dsw luw bfw blw baw scw fRw fSw mow uuw slw mbw ssw sbw ofw bew bsw maw lOw lUw mtw mkw mww mvw mnw haw nOw nUw mew few aOw aUw bOw bUw (by omega) (r3 v) hn2 hf2
      exact ⟨e4, x4, co1, cu1, bo1, bu1, cc1, now1, way1, wb1, kn1, tot1, kd1, wh1, ov1, un1, eO1, eU1, dO1, dU1, sO1, sU1, st1, re1, fr1, fs1, dr1, ds1, lu1, bf1, bl1, ba1, sc1, fR1, fS1, mo1, uu1, sl1, mb1, ss1, sb1, of1, be1, bs1, ma1, lO1, lU1, mt1, mk1, mw1, mv1, mn1, ha1, nO1, nU1, me1, fe1, aO1, aU1, bO1, bU1, iter_st s1 z1, iter_st s2 z2, z3, z4⟩
    · rw [if_neg v] at s1 s2
      obtain ⟨e4, x4, co1, cu1, bo1, bu1, cc1, now1, way1, wb1, kn1, tot1, kd1, wh1, ov1, un1, eO1, eU1, dO1, dU1, sO1, sU1, st1, re1, fr1, fs1, dr1, ds1, lu1, bf1, bl1, ba1, sc1, fR1, fS1, mo1, uu1, sl1, mb1, ss1, sb1, of1, be1, bs1, ma1, lO1, lU1, mt1, mk1, mw1, mv1, mn1, ha1, nO1, nU1, me1, fe1, aO1, aU1, bO1, bU1, z1, z2, z3, z4⟩ := ih F1 F2 (by omega) (by omega) (k + 1) x2 e3 (zL P) (zL Q) (zL P) (zL Q) cc2 now2 wayw wbw knw totw kdw whw ovw unw eOw eUw dOw dUw sOw sUw stw rew frw fsw drw dsw luw bfw blw baw scw fRw fSw mow uuw slw mbw ssw sbw ofw bew bsw maw lOw lUw mtw mkw mww mvw mnw haw nOw nUw mew few aOw aUw bOw bUw (by omega) (r4 v) hn2 hf2
      exact ⟨e4, x4, co1, cu1, bo1, bu1, cc1, now1, way1, wb1, kn1, tot1, kd1, wh1, ov1, un1, eO1, eU1, dO1, dU1, sO1, sU1, st1, re1, fr1, fs1, dr1, ds1, lu1, bf1, bl1, ba1, sc1, fR1, fS1, mo1, uu1, sl1, mb1, ss1, sb1, of1, be1, bs1, ma1, lO1, lU1, mt1, mk1, mw1, mv1, mn1, ha1, nO1, nU1, me1, fe1, aO1, aU1, bO1, bU1, iter_st s1 z1, iter_st s2 z2, z3, z4⟩
theorem op_chance (hJt : Jt n nv A B) (hF : 300 < F) {bn ju jl many mu ml : Int32} (J : JX n nv A B g c y s u o pit bn ju jl) (X : MX n nv A B now many mu ml) (x1 x2 x3 : Int32) (mo0 : Nat → Int32) (uu0 : Int64) (sl0 mb0 ss0 sb0 of0 : Nat → Int64) (be0 : Nat → Int32) (bs0 : Int32) (ma0 : Nat → Int64) (lO0 lU0 : Int64) (mt0 : Int32) (mk0 mw0 : Nat → Int32) (mv0 mn0 : Nat → Int64) (ha0 : Nat → Int32) (nO0 nU0 : Int64) (me0 fe0 : Nat → Int32) (aO0 aU0 bO0 bU0 : Nat → Int64) (hf : ∀ i, i < 5 → fe0 i = 0) (g2 c2 y2 s2 u2 o2 p2 : Nat → Int32) (b2 a2 l2 : Int32) (wayq0 wbq0 : Nat → Int32) (knq0 totq0 : Int32) (kdq0 whq0 : Nat → Int32) (ovq0 unq0 : Nat → Int64) (eOq0 eUq0 : Int64) (dOq0 dUq0 : Nat → Int64) (sOq0 sUq0 : Int64) (stq0 : Nat → Int32) (req0 frq0 fsq0 drq0 dsq0 : Nat → Int64) (luq0 : Int64) (bfq0 blq0 baq0 scq0 : Nat → Int64) (fRq0 fSq0 : Int64) (as0 : Nat → Int32) (bo0 bu0 : Int64) (dr : Int32) (nu : Nat → Int64) (sz : Int32) (row : Nat → Int64) (rm th : Int32) (hR : RowEq nu sz row rm) :
    ∃ (r : Int32) (g3 c3 y3 s3 u3 o3 p3 : Nat → Int32) (b3 a3 l3 : Int32) (wayq1 wbq1 : Nat → Int32) (knq1 totq1 : Int32) (kdq1 whq1 : Nat → Int32) (ovq1 unq1 : Nat → Int64) (eOq1 eUq1 : Int64) (dOq1 dUq1 : Nat → Int64) (sOq1 sUq1 : Int64) (stq1 : Nat → Int32) (req1 frq1 fsq1 drq1 dsq1 : Nat → Int64) (luq1 : Int64) (bfq1 blq1 baq1 scq1 : Nat → Int64) (fRq1 fSq1 : Int64) (nu1 : Nat → Int64) (sz1 : Int32) (now1 : Nat → Int32) (mo1 : Nat → Int32) (uu1 : Int64) (sl1 mb1 ss1 sb1 of1 : Nat → Int64) (be1 : Nat → Int32) (bs1 : Int32) (ma1 : Nat → Int64) (lO1 lU1 : Int64) (mt1 : Int32) (mk1 mw1 : Nat → Int32) (mv1 mn1 : Nat → Int64) (ha1 : Nat → Int32) (nO1 nU1 : Int64) (me1 fe1 : Nat → Int32) (aO1 aU1 bO1 bU1 : Nat → Int64) (as1 : Nat → Int32) (bo1 bu1 : Int64) (dr1' : Int32) (row1 : Nat → Int64) (rm1 : Int32), f_X_chance F x1 x2 x3 g c y s u o pit bn ju jl g2 c2 y2 s2 u2 o2 p2 b2 a2 l2 wayq0 wbq0 knq0 totq0 kdq0 whq0 ovq0 unq0 eOq0 eUq0 dOq0 dUq0 sOq0 sUq0 stq0 req0 frq0 fsq0 drq0 dsq0 luq0 bfq0 blq0 baq0 scq0 fRq0 fSq0 nu sz = some (r, g3, c3, y3, s3, u3, o3, p3, b3, a3, l3, wayq1, wbq1, knq1, totq1, kdq1, whq1, ovq1, unq1, eOq1, eUq1, dOq1, dUq1, sOq1, sUq1, stq1, req1, frq1, fsq1, drq1, dsq1, luq1, bfq1, blq1, baq1, scq1, fRq1, fSq1, nu1, sz1) ∧ f_M_chance F x1 x2 x3 now many mu ml row rm th mo0 uu0 sl0 mb0 ss0 sb0 of0 be0 bs0 ma0 lO0 lU0 mt0 mk0 mw0 mv0 mn0 ha0 nO0 nU0 me0 fe0 aO0 aU0 bO0 bU0 as0 bo0 bu0 dr = some (r, now1, row1, rm1, (0 : Int32), mo1, uu1, sl1, mb1, ss1, sb1, of1, be1, bs1, ma1, lO1, lU1, mt1, mk1, mw1, mv1, mn1, ha1, nO1, nU1, me1, fe1, aO1, aU1, bO1, bU1, as1, bo1, bu1, dr1') ∧
      (∀ i, i < 5 → fe1 i = 0) ∧ MX n nv A B now1 many mu ml ∧ RowEq nu1 sz1 row1 rm1 := by
  obtain ⟨t, rfl, ht1, ht2⟩ := zI_all x2
  obtain ⟨p, rfl, hp1, hp2⟩ := zI_all x3
  have J0 := J
  have X0 := X
  have hn := hJt.1
  obtain ⟨J1, ho, rfl, rfl, rfl⟩ := J
  obtain ⟨h, rfl, rfl, rfl⟩ := X
  have fX := isLoad_z (p := p) ⟨hp1, hp2⟩
  have fM := misLoad_z (p := p) ⟨hp1, hp2⟩
  have w1 : f_X_within (zI t) (1 : Int32) (40 : Int32) = some (zI (b01 (1 ≤ t ∧ t ≤ 40))) := within_z (a := 1) (b := 40) ⟨ht1, ht2⟩ (by omega) (by omega)
  have m1 : f_M_in (Int32.toInt64 (zI t)) (1 : Int64) (40 : Int64) = some (zI (b01 (1 ≤ t ∧ t ≤ 40))) := min_z (a := 1) (b := 40) ⟨ht1, ht2⟩ (by omega) (by omega)
  by_cases q : (1 ≤ t ∧ t ≤ 40) ∧ (0 ≤ p ∧ p ≤ 300) ∧ 0 < n
  rotate_left
  · have hX : f_X_chance F x1 (zI t) (zI p) g c y s u o pit (zI (n : Int)) (zI A) (zI B) g2 c2 y2 s2 u2 o2 p2 b2 a2 l2 wayq0 wbq0 knq0 totq0 kdq0 whq0 ovq0 unq0 eOq0 eUq0 dOq0 dUq0 sOq0 sUq0 stq0 req0 frq0 fsq0 drq0 dsq0 luq0 bfq0 blq0 baq0 scq0 fRq0 fSq0 nu sz = some ((-1 : Int32), g2, c2, y2, s2, u2, o2, p2, b2, a2, l2, wayq0, wbq0, knq0, totq0, kdq0, whq0, ovq0, unq0, eOq0, eUq0, dOq0, dUq0, sOq0, sUq0, stq0, req0, frq0, fsq0, drq0, dsq0, luq0, bfq0, blq0, baq0, scq0, fRq0, fSq0, nu, sz) := by
      unfold f_X_chance
      rw [w1, Option.bind_some]
      by_cases a : 1 ≤ t ∧ t ≤ 40
      · rw [if_neg (fun z => (b01_ne0.mp z) a), fX, Option.bind_some]
        by_cases b : 0 ≤ p ∧ p ≤ 300
        · rw [if_neg (fun z => (b01_ne0.mp z) b), if_pos ((if_many hn).mpr (fun z => q ⟨a, b, z⟩))]
        · rw [if_pos (b01_ne0.mpr b)]
      · rw [if_pos (b01_ne0.mpr a)]
    have hM : f_M_chance F x1 (zI t) (zI p) now (zI (n : Int)) (zI A) (zI B) row rm th mo0 uu0 sl0 mb0 ss0 sb0 of0 be0 bs0 ma0 lO0 lU0 mt0 mk0 mw0 mv0 mn0 ha0 nO0 nU0 me0 fe0 aO0 aU0 bO0 bU0 as0 bo0 bu0 dr = some ((-1 : Int32), now, row, rm, (0 : Int32), mo0, uu0, sl0, mb0, ss0, sb0, of0, be0, bs0, ma0, lO0, lU0, mt0, mk0, mw0, mv0, mn0, ha0, nO0, nU0, me0, fe0, aO0, aU0, bO0, bU0, as0, bo0, bu0, dr) := by
      unfold f_M_chance
      by_cases z : 0 < n
      · rw [if_neg (fun w => (if_many hn).mp w z), m1, Option.bind_some]
        by_cases a : 1 ≤ t ∧ t ≤ 40
        · rw [if_neg (fun z => (b01_ne0.mp z) a), fM, Option.bind_some, if_pos (b01_ne0.mpr (fun b => q ⟨a, b, z⟩))]
        · rw [if_pos (b01_ne0.mpr a)]
      · rw [if_pos ((if_many hn).mpr z)]
    exact ⟨_, g2, c2, y2, s2, u2, o2, p2, b2, a2, l2, wayq0, wbq0, knq0, totq0, kdq0, whq0, ovq0, unq0, eOq0, eUq0, dOq0, dUq0, sOq0, sUq0, stq0, req0, frq0, fsq0, drq0, dsq0, luq0, bfq0, blq0, baq0, scq0, fRq0, fSq0, nu, sz, now, mo0, uu0, sl0, mb0, ss0, sb0, of0, be0, bs0, ma0, lO0, lU0, mt0, mk0, mw0, mv0, mn0, ha0, nO0, nU0, me0, fe0, aO0, aU0, bO0, bU0, as0, bo0, bu0, dr, row, rm, hX, hM, hf, X0, hR⟩
  obtain ⟨qa, qb, qc⟩ := q
  have hz : ¬ zI (n : Int) = (0 : Int32) := fun z => (if_many hn).mp z qc
  obtain ⟨N, rfl⟩ : ∃ N : Nat, t = (N : Int) := ⟨t.toNat, by omega⟩
  obtain ⟨g3, c3, y3, s3, u3, o3, p3, ec, J3, hall⟩ := copyAll_z (F := F) hJt (by omega) J0 g2 c2 y2 s2 u2 o2 p2 b2 a2 l2
  obtain ⟨as1, ea, has⟩ := layAside_z (F := F) (by omega) now as0
  obtain ⟨e2, x4, co1, cu1, bo1, bu1, cc1, nowx, wayq1, wbq1, knq1, totq1, kdq1, whq1, ovq1, unq1, eOq1, eUq1, dOq1, dUq1, sOq1, sUq1, stq1, req1, frq1, fsq1, drq1, dsq1, luq1, bfq1, blq1, baq1, scq1, fRq1, fSq1, mo1, uu1, sl1, mb1, ss1, sb1, of1, be1, bs1, ma1, lO1, lU1, mt1, mk1, mw1, mv1, mn1, ha1, nO1, nU1, me1, fe1, aO1, aU1, bO1, bU1, z1, z2, z3, z4⟩ := chance_loop hJt hF J3 rfl rfl rfl qb (N := N) (by omega) N F F (by omega) (by omega) 0 x1 (0 : Int32) (301 : Int64) (1 : Int64) bo0 (0 : Int64) c3 now wayq0 wbq0 knq0 totq0 kdq0 whq0 ovq0 unq0 eOq0 eUq0 dOq0 dUq0 sOq0 sUq0 stq0 req0 frq0 fsq0 drq0 dsq0 luq0 bfq0 blq0 baq0 scq0 fRq0 fSq0 mo0 uu0 sl0 mb0 ss0 sb0 of0 be0 bs0 ma0 lO0 lU0 mt0 mk0 mw0 mv0 mn0 ha0 nO0 nU0 me0 fe0 aO0 aU0 bO0 bU0 (by omega) (Or.inl ⟨rfl, rfl, rfl, rfl⟩) (fun i hi q hq _ => h i hi q hq) hf
  obtain ⟨now1, eb, hnb⟩ := comesBack_z (F := F) (by omega) nowx as1
  have hmx : MX n nv A B now1 (zI (n : Int)) (zI A) (zI B) := ⟨fun i hi q hq => by rw [hnb _ (by omega), has _ (by omega)]; exact h i hi q hq, rfl, rfl, rfl⟩
  rcases z3 with ⟨w, -⟩ | ⟨-, O, U, rfl, rfl, rfl, rfl, hO, hU⟩
  · omega
  obtain ⟨nu1, sz1, row1, rm1, t1, t2, t3⟩ := tell_load (F := F) (by omega) hO hU nu row
  have hX : f_X_chance F x1 (zI (N : Int)) (zI p) g c y s u o pit (zI (n : Int)) (zI A) (zI B) g2 c2 y2 s2 u2 o2 p2 b2 a2 l2 wayq0 wbq0 knq0 totq0 kdq0 whq0 ovq0 unq0 eOq0 eUq0 dOq0 dUq0 sOq0 sUq0 stq0 req0 frq0 fsq0 drq0 dsq0 luq0 bfq0 blq0 baq0 scq0 fRq0 fSq0 nu sz = some (e2, g3, cc1, y3, s3, u3, o3, p3, zI (n : Int), zI A, zI B, wayq1, wbq1, knq1, totq1, kdq1, whq1, ovq1, unq1, eOq1, eUq1, dOq1, dUq1, sOq1, sUq1, stq1, req1, frq1, fsq1, drq1, dsq1, luq1, bfq1, blq1, baq1, scq1, fRq1, fSq1, nu1, sz1) := by
    unfold f_X_chance
    rw [w1, Option.bind_some, if_neg (fun z => (b01_ne0.mp z) qa), fX, Option.bind_some, if_neg (fun z => (b01_ne0.mp z) qb), if_neg hz, ec]
    simp only [bd10, Option.bind_some]
    rw [show iter (un33 (fb_X_chance_57 F (zI (N : Int)) (zI p) (zI (n : Int)) g3 y3 s3 u3 o3 p3 (zI (n : Int)) (zI A) (zI B))) F (x1, (0 : Int32), (301 : Int64), (1 : Int64), (0 : Int32), c3, wayq0, wbq0, knq0, totq0, kdq0, whq0, ovq0, unq0, eOq0, eUq0, dOq0, dUq0, sOq0, sUq0, stq0, req0, frq0, fsq0, drq0, dsq0, luq0, bfq0, blq0, baq0, scq0, fRq0, fSq0) = _ from z1]
    simp only [bd31, Option.bind_some]
    rw [t1]
    rfl
  have hM : f_M_chance F x1 (zI (N : Int)) (zI p) now (zI (n : Int)) (zI A) (zI B) row rm th mo0 uu0 sl0 mb0 ss0 sb0 of0 be0 bs0 ma0 lO0 lU0 mt0 mk0 mw0 mv0 mn0 ha0 nO0 nU0 me0 fe0 aO0 aU0 bO0 bU0 as0 bo0 bu0 dr = some (e2, now1, row1, rm1, (0 : Int32), mo1, uu1, sl1, mb1, ss1, sb1, of1, be1, bs1, ma1, lO1, lU1, mt1, mk1, mw1, mv1, mn1, ha1, nO1, nU1, me1, fe1, aO1, aU1, bO1, bU1, as1, zL O, zL U, x4) := by
    unfold f_M_chance
    rw [if_neg hz, m1, Option.bind_some, if_neg (fun z => (b01_ne0.mp z) qa), fM, Option.bind_some, if_neg (fun z => (b01_ne0.mp z) qb), ea, Option.bind_some, show iter (un32 (fb_M_chance_53 F (zI (N : Int)) (zI p) (zI (n : Int)) (zI A) (zI B))) F ((0 : Int32), (0 : Int32), now, mo0, uu0, sl0, mb0, ss0, sb0, of0, be0, bs0, ma0, lO0, lU0, mt0, mk0, mw0, mv0, mn0, ha0, nO0, nU0, me0, fe0, aO0, aU0, bO0, bU0, bo0, (0 : Int64), x1) = _ from z2]
    simp only [bd31, Option.bind_some]
    rw [eb, Option.bind_some, t2]
    rfl
  exact ⟨_, g3, cc1, y3, s3, u3, o3, p3, _, _, _, wayq1, wbq1, knq1, totq1, kdq1, whq1, ovq1, unq1, eOq1, eUq1, dOq1, dUq1, sOq1, sUq1, stq1, req1, frq1, fsq1, drq1, dsq1, luq1, bfq1, blq1, baq1, scq1, fRq1, fSq1, nu1, sz1, now1, mo1, uu1, sl1, mb1, ss1, sb1, of1, be1, bs1, ma1, lO1, lU1, mt1, mk1, mw1, mv1, mn1, ha1, nO1, nU1, me1, fe1, aO1, aU1, bO1, bU1, as1, _, _, _, row1, rm1, hX, hM, z4, hmx, t3⟩
end OPS37
