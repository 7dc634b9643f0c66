/-! WHAT WOULD BE: arranges, all orders -/
section OPS40
variable {n : Nat} {nv : Nat → Nat → Int} {A B : Int} {F : Nat} {g c y s u pit o now : Nat → Int32}
/-- the best order so far, kept by both -/
def Bst (n k : Nat) (bt bm : Nat → Int32) : Prop := 0 < k → ∃ be : Nat → Nat, (∀ i, i < n → be i < 5) ∧ (∀ i, i < n → bt i = zI (be i : Int)) ∧ ∀ i, i < n → bm i = zI (be i : Int)
theorem arr_loop (h1n : 1 ≤ n) (hJt : Jt n nv A B) (hF : 300 < F) {bn ju jl many mu ml : Int32} (J : JX n nv A B g c y s u o pit bn ju jl) (hm1 : many = zI (n : Int)) (hm2 : mu = zI A) (hm3 : ml = zI B) {as1 : Nat → Int32} (has : ∀ i, i < n → ∀ q, q < 7 → as1 (7 * i + q) = zI (nv i q)) {p2 : Nat → Int32} (hp : ∀ i, i + 1 < n → p2 i = zI (nv i 6)) :
    ∀ (j F1 F2 : Nat), j + 1 < F1 → j + 1 < F2 → ∀ (k : Nat) (co cu bo bu : Int64) (se pl bt bm : Nat → Int32) (g2 c2 y2 s2 u2 o2 now : Nat → Int32) (way0 wb0 : Nat → Int32) (kn0 tot0 : Int32) (kd0 wh0 : Nat → Int32) (ov0 un0 : Nat → Int64) (eO0 eU0 : Int64) (dO0 dU0 : Nat → Int64) (sO0 sU0 : Int64) (st0 : Nat → Int32) (re0 fr0 fs0 dr0 ds0 : Nat → Int64) (lu0 : Int64) (bf0 bl0 ba0 sc0 : Nat → Int64) (fR0 fS0 : Int64) (mo0 : Nat → Int32) (uu0 : Int64) (sl0 mb0 ss0 sb0 of0 : Nat → Int64) (be0 : Nat → Int32) (bs0 : Int32) (ma0 : Nat → Int64) (lO0 lU0 : Int64) (mt0 : Int32) (mk0 mw0 : Nat → Int32) (mv0 mn0 : Nat → Int64) (ha0 : Nat → Int32) (nO0 nU0 : Int64) (me0 fe0 : Nat → Int32) (aO0 aU0 bO0 bU0 : Nat → Int64), k + j + 1 = (prm n).length → Tr k 0 co cu 0 bo bu → Bst n k bt bm → (∀ i, i < n → se i = zI (pat n k i : Int)) → (∀ i, i < n → pl i = zI (pat n k i : Int)) → (∀ i, i < n → now (7 * i + 6) = zI (nv i 6)) → (∀ i, i < 5 → fe0 i = 0) →
      ∃ (co1 cu1 bo1 bu1 : Int64) (se1 pl1 bt1 bm1 : Nat → Int32) (g3 c3 y3 s3 u3 o3 now1 : Nat → Int32) (way1 wb1 : Nat → Int32) (kn1 tot1 : Int32) (kd1 wh1 : Nat → Int32) (ov1 un1 : Nat → Int64) (eO1 eU1 : Int64) (dO1 dU1 : Nat → Int64) (sO1 sU1 : Int64) (st1 : Nat → Int32) (re1 fr1 fs1 dr1 ds1 : Nat → Int64) (lu1 : Int64) (bf1 bl1 ba1 sc1 : Nat → Int64) (fR1 fS1 : Int64) (mo1 : Nat → Int32) (uu1 : Int64) (sl1 mb1 ss1 sb1 of1 : Nat → Int64) (be1 : Nat → Int32) (bs1 : Int32) (ma1 : Nat → Int64) (lO1 lU1 : Int64) (mt1 : Int32) (mk1 mw1 : Nat → Int32) (mv1 mn1 : Nat → Int64) (ha1 : Nat → Int32) (nO1 nU1 : Int64) (me1 fe1 : Nat → Int32) (aO1 aU1 bO1 bU1 : Nat → Int64), iter (un39 (fb_X_arranges_61 F g c y s u o bn p2 bn ju jl)) F1 (co, cu, (1 : Int32), zI (k : Int), se, bt, g2, c2, y2, s2, u2, o2, way0, wb0, kn0, tot0, kd0, wh0, ov0, un0, eO0, eU0, dO0, dU0, sO0, sU0, st0, re0, fr0, fs0, dr0, ds0, lu0, bf0, bl0, ba0, sc0, fR0, fS0) = some (co1, cu1, se1, bt1, g3, c3, y3, s3, u3, o3, way1, wb1, kn1, tot1, kd1, wh1, ov1, un1, eO1, eU1, dO1, dU1, sO1, sU1, st1, re1, fr1, fs1, dr1, ds1, lu1, bf1, bl1, ba1, sc1, fR1, fS1) ∧ iter (un32 (fb_M_arranges_48 F many mu ml as1)) F2 ((1 : Int32), now, mo0, uu0, sl0, mb0, ss0, sb0, of0, be0, bs0, ma0, lO0, lU0, mt0, mk0, mw0, mv0, mn0, ha0, nO0, nU0, me0, fe0, aO0, aU0, bO0, bU0, bo, bu, pl, bm) = some (now1, mo1, uu1, sl1, mb1, ss1, sb1, of1, be1, bs1, ma1, lO1, lU1, mt1, mk1, mw1, mv1, mn1, ha1, nO1, nU1, me1, fe1, aO1, aU1, bO1, bU1, bo1, bu1, pl1, bm1) ∧ Tr (prm n).length 0 co1 cu1 0 bo1 bu1 ∧ Bst n (prm n).length bt1 bm1 ∧ ∀ i, i < 5 → fe1 i = 0 := by
  have hn := hJt.1
  obtain ⟨ch1, ch2, ch3, ch4, ch5, ch6⟩ := prm_ok h1n hn
  have hbn : bn = zI (n : Int) := J.2.2.1
  intro j
  induction j with
  | zero => ?_
  | succ j ih => ?_
  all_goals
    intro F1 F2 h1 h2 k co cu bo bu se pl bt bm g2 c2 y2 s2 u2 o2 now way0 wb0 kn0 tot0 kd0 wh0 ov0 un0 eO0 eU0 dO0 dU0 sO0 sU0 st0 re0 fr0 fs0 dr0 ds0 lu0 bf0 bl0 ba0 sc0 fR0 fS0 mo0 uu0 sl0 mb0 ss0 sb0 of0 be0 bs0 ma0 lO0 lU0 mt0 mk0 mw0 mv0 mn0 ha0 nO0 nU0 me0 fe0 aO0 aU0 bO0 bU0 hk hT hB hse hpl h6 hf
    obtain ⟨F1, rfl⟩ : ∃ x, F1 = x + 2 := ⟨F1 - 2, by omega⟩
    obtain ⟨F2, rfl⟩ : ∃ x, F2 = x + 2 := ⟨F2 - 2, by omega⟩
    have hlt : ¬ (120 : Int32) ≤ zI (k : Int) := fun z => absurd ((zI_le (a := 120) (b := (k : Int)) (by omega) (by omega) (by omega) (by omega)).mp z) (by omega)
    have hd := ch4 k (by omega)
    obtain ⟨g3, c3, y3, s3, u3, o3, es, hJ2⟩ := seat_z (F := F) hJt (by omega) J hd hse g2 c2 y2 s2 u2 o2 hp
    obtain ⟨now2, en, hn2⟩ := mseat_z (F := F) hn (by omega) hd hpl has h6
    have en : iter (un2 (fb_M_arranges_54 F many as1 pl)) F ((0 : Int32), now) = some now2 := by rw [hm1]; exact en
    have hJt2 : Jt n (nvP nv (pat n k)) A B := ⟨hn, nvP_ok hJt.2.1 hd, hJt.2.2⟩
    have hM2 : MX n (nvP nv (pat n k)) A B now2 many mu ml := ⟨hn2, hm1, hm2, hm3⟩
    have h62 : ∀ i, i < n → now2 (7 * i + 6) = zI (nv i 6) := fun i hi => by rw [hn2 i hi 6 (by omega), nvP_6]
    obtain ⟨wayw, wbw, knw, totw, kdw, whw, ovw, unw, eOw, eUw, dOw, dUw, sOw, sUw, stw, rew, frw, fsw, drw, dsw, luw, bfw, blw, baw, scw, fRw, fSw, mow, uuw, slw, mbw, ssw, sbw, ofw, bew, bsw, maw, lOw, lUw, mtw, mkw, mww, mvw, mnw, haw, nOw, nUw, mew, few, aOw, aUw, bOw, bUw, eg, em, k1, k2, k3, k4, hf2⟩ := both_guess hJt2 hF hJ2 hM2 way0 wb0 kn0 tot0 kd0 wh0 ov0 un0 eO0 eU0 dO0 dU0 sO0 sU0 st0 re0 fr0 fs0 dr0 ds0 lu0 bf0 bl0 ba0 sc0 fR0 fS0 mo0 uu0 sl0 mb0 ss0 sb0 of0 be0 bs0 ma0 lO0 lU0 mt0 mk0 mw0 mv0 mn0 ha0 nO0 nU0 me0 fe0 aO0 aU0 bO0 bU0 hf
    obtain ⟨c1, c2', c3'⟩ := pk_bd hJt2
    generalize pkO n (nvP nv (pat n k)) A B = P at *
    generalize pkU n (nvP nv (pat n k)) A B = Q at *
    obtain ⟨r, rm, bo', bu', t1, t2, t3⟩ := hT.step c1 c2' 0
    obtain ⟨bt', bm', kb1, kb2, kb3, kb4⟩ := keepBest_z (F := F) hn (by omega) hse hpl bt bm
    have kb1 : cpI se bt 5 5 (0 : Int32) (0 : Int32) bn = some bt' := by rw [hbn]; exact kb1
    have kb2 : iter (un2 (fb_M_arranges_121 many pl)) F ((0 : Int32), bm) = some bm' := by rw [hm1]; exact kb2
    obtain ⟨rn, se', pl', x1, x2, x3⟩ : ∃ (rn : Int32) (se' pl' : Nat → Int32), f_X_nextSeats F se bn = some (rn, se') ∧ f_M_nextPlaces F many pl = some (rn, pl') ∧ ((rn = 0 ∧ nxf (pat n k) n = none) ∨ (rn = 1 ∧ ∃ d', nxf (pat n k) n = some d' ∧ (∀ i, i < n → se' i = zI (d' i : Int)) ∧ ∀ i, i < n → pl' i = zI (d' i : Int))) := by
      rw [hbn, hm1]
      rcases next_z (F := F) h1n hn (by omega) hse hpl (fun i hi => by have := hd i hi; omega) with ⟨w1, w2, w3⟩ | ⟨d', a1, a2, w1, w2, w3, w4, w5⟩
      · exact ⟨0, se, pl, w2, w3, Or.inl ⟨rfl, w1⟩⟩
      · exact ⟨1, a1, a2, w2, w3, Or.inr ⟨rfl, d', w1, w4, w5⟩⟩
    obtain ⟨co2, cu2, bt2, bm2, s1, s2', hT2, hB2⟩ : ∃ (co2 cu2 : Int64) (bt2 bm2 : Nat → Int32), un39 (fb_X_arranges_61 F g c y s u o bn p2 bn ju jl) (co, cu, (1 : Int32), zI (k : Int), se, bt, g2, c2, y2, s2, u2, o2, way0, wb0, kn0, tot0, kd0, wh0, ov0, un0, eO0, eU0, dO0, dU0, sO0, sU0, st0, re0, fr0, fs0, dr0, ds0, lu0, bf0, bl0, ba0, sc0, fR0, fS0) = some (.inl (co2, cu2, rn, zI ((k + 1 : Nat) : Int), se', bt2, g3, c3, y3, s3, u3, o3, wayw, wbw, knw, totw, kdw, whw, ovw, unw, eOw, eUw, dOw, dUw, sOw, sUw, stw, rew, frw, fsw, drw, dsw, luw, bfw, blw, baw, scw, fRw, fSw)) ∧ un32 (fb_M_arranges_48 F many mu ml as1) ((1 : Int32), now, mo0, uu0, sl0, mb0, ss0, sb0, of0, be0, bs0, ma0, lO0, lU0, mt0, mk0, mw0, mv0, mn0, ha0, nO0, nU0, me0, fe0, aO0, aU0, bO0, bU0, bo, bu, pl, bm) = some (.inl (rn, now2, mow, uuw, slw, mbw, ssw, sbw, ofw, bew, bsw, maw, lOw, lUw, mtw, mkw, mww, mvw, mnw, haw, nOw, nUw, mew, few, aOw, aUw, bOw, bUw, bo', bu', pl', bm2)) ∧ Tr (k + 1) 0 co2 cu2 0 bo' bu' ∧ Bst n (k + 1) bt2 bm2 := by
      have a1 : ∀ R, (if r ≤ (0 : Int32) then fj_X_arranges_129 F co cu (zI (k : Int)) se bt bn g3 c3 y3 s3 u3 o3 wayw wbw knw totw kdw whw ovw unw eOw eUw dOw dUw sOw sUw stw rew frw fsw drw dsw luw bfw blw baw scw fRw fSw else (cpI se bt 5 5 (0 : Int32) (0 : Int32) bn).bind fun b => fj_X_arranges_129 F eOw eUw (zI (k : Int)) se b bn g3 c3 y3 s3 u3 o3 wayw wbw knw totw kdw whw ovw unw eOw eUw dOw dUw sOw sUw stw rew frw fsw drw dsw luw bfw blw baw scw fRw fSw) = R → un39 (fb_X_arranges_61 F g c y s u o bn p2 bn ju jl) (co, cu, (1 : Int32), zI (k : Int), se, bt, g2, c2, y2, s2, u2, o2, way0, wb0, kn0, tot0, kd0, wh0, ov0, un0, eO0, eU0, dO0, dU0, sO0, sU0, st0, re0, fr0, fs0, dr0, ds0, lu0, bf0, bl0, ba0, sc0, fR0, fS0) = R := by
        intro R hR
        dsimp only [un39]
        unfold fb_X_arranges_61
        rw [if_neg hlt, if_neg (show ¬ (1 : Int32) = 0 by decide), es]
        simp only [bd6, Option.bind_some]
        rw [eg]
        simp only [bd27, Option.bind_some]
        rw [k1, k2, t1, Option.bind_some, ← k1, ← k2]
        exact hR
      have a2 : ∀ R, (if rm = (0 : Int32) then fj_M_arranges_147 F now2 many mow uuw slw mbw ssw sbw ofw bew bsw maw lOw lUw mtw mkw mww mvw mnw haw nOw nUw mew few aOw aUw bOw bUw bo' bu' pl bm else (iter (un2 (fb_M_arranges_121 many pl)) F ((0 : Int32), bm)).bind fun b => fj_M_arranges_147 F now2 many mow uuw slw mbw ssw sbw ofw bew bsw maw lOw lUw mtw mkw mww mvw mnw haw nOw nUw mew few aOw aUw bOw bUw bo' bu' pl b) = R → un32 (fb_M_arranges_48 F many mu ml as1) ((1 : Int32), now, mo0, uu0, sl0, mb0, ss0, sb0, of0, be0, bs0, ma0, lO0, lU0, mt0, mk0, mw0, mv0, mn0, ha0, nO0, nU0, me0, fe0, aO0, aU0, bO0, bU0, bo, bu, pl, bm) = R := by
        intro R hR
        dsimp only [un32]
        unfold fb_M_arranges_48
        rw [if_neg (show ¬ (1 : Int32) = 0 by decide), en, Option.bind_some, em]
        simp only [bd26, Option.bind_some]
        rw [k3, k4, t2]
        simp only [bd3, Option.bind_some]
        rw [← k3, ← k4]
        exact hR
      have b1 : ∀ co cu bt, fj_X_arranges_129 F co cu (zI (k : Int)) se bt bn g3 c3 y3 s3 u3 o3 wayw wbw knw totw kdw whw ovw unw eOw eUw dOw dUw sOw sUw stw rew frw fsw drw dsw luw bfw blw baw scw fRw fSw = some (.inl (co, cu, rn, zI ((k + 1 : Nat) : Int), se', bt, g3, c3, y3, s3, u3, o3, wayw, wbw, knw, totw, kdw, whw, ovw, unw, eOw, eUw, dOw, dUw, sOw, sUw, stw, rew, frw, fsw, drw, dsw, luw, bfw, blw, baw, scw, fRw, fSw)) := by
        intro co cu bt
        unfold fj_X_arranges_129
        rw [x1]
        simp only [bd2, Option.bind_some, nm, zI_1]
      have b2 : ∀ bm, fj_M_arranges_147 F now2 many mow uuw slw mbw ssw sbw ofw bew bsw maw lOw lUw mtw mkw mww mvw mnw haw nOw nUw mew few aOw aUw bOw bUw bo' bu' pl bm = some (.inl (rn, now2, mow, uuw, slw, mbw, ssw, sbw, ofw, bew, bsw, maw, lOw, lUw, mtw, mkw, mww, mvw, mnw, haw, nOw, nUw, mew, few, aOw, aUw, bOw, bUw, bo', bu', pl', bm)) := by
        intro bm
        unfold fj_M_arranges_147
        rw [x2]
        rfl
      rcases t3 with ⟨w1, w2, w3⟩ | ⟨w1, w2, w3⟩
      · refine ⟨co, cu, bt, bm, a1 _ (by rw [if_pos w1, b1]), a2 _ (by rw [if_pos w2, b2]), w3, fun _ => ?_⟩
        refine hB (Nat.pos_of_ne_zero fun z => ?_)
        rcases hT with ⟨-, rfl, rfl, rfl⟩ | ⟨z2, -⟩
        · have hc : f_G_comparePeak (zL (-1)) (zL 1) (zL P) (zL Q) = some (zI (cmpL P Q (-1) 1)) := cpk_z c1 c2' (by omega) (by omega)
          rw [t1] at hc
          have hr : r = zI (cmpL P Q (-1) 1) := Option.some.inj hc
          have : cmpL P Q (-1) 1 = 1 := by unfold cmpL; rw [if_pos (by omega)]
          rw [hr, this] at w1
          exact absurd w1 (by decide)
        · omega
      · refine ⟨zL P, zL Q, bt', bm', a1 _ (by rw [if_neg w1, kb1, Option.bind_some, k1, k2, ← k1, ← k2, b1]), a2 _ (by rw [if_neg w2, kb2, Option.bind_some, b2]), w3, fun _ => ⟨pat n k, fun i hi => by have := hd i hi; omega, kb3, kb4⟩⟩
  · have hkl : k = (prm n).length - 1 := by omega
    rcases x3 with ⟨rfl, -⟩ | ⟨-, d', w, -⟩
    rotate_left
    · rw [hkl] at w
      rw [w] at ch6
      cases ch6
    have e1 : un39 (fb_X_arranges_61 F g c y s u o bn p2 bn ju jl) (co2, cu2, (0 : Int32), zI ((k + 1 : Nat) : Int), se', bt2, g3, c3, y3, s3, u3, o3, wayw, wbw, knw, totw, kdw, whw, ovw, unw, eOw, eUw, dOw, dUw, sOw, sUw, stw, rew, frw, fsw, drw, dsw, luw, bfw, blw, baw, scw, fRw, fSw) = some (.inr (co2, cu2, se', bt2, g3, c3, y3, s3, u3, o3, wayw, wbw, knw, totw, kdw, whw, ovw, unw, eOw, eUw, dOw, dUw, sOw, sUw, stw, rew, frw, fsw, drw, dsw, luw, bfw, blw, baw, scw, fRw, fSw)) := by
      dsimp only [un39]
      unfold fb_X_arranges_61
      by_cases v : (120 : Int32) ≤ zI ((k + 1 : Nat) : Int)
      · rw [if_pos v]
      · rw [if_neg v, if_pos rfl]
    have e2 : un32 (fb_M_arranges_48 F many mu ml as1) ((0 : Int32), now2, mow, uuw, slw, mbw, ssw, sbw, ofw, bew, bsw, maw, lOw, lUw, mtw, mkw, mww, mvw, mnw, haw, nOw, nUw, mew, few, aOw, aUw, bOw, bUw, bo', bu', pl', bm2) = some (.inr (now2, mow, uuw, slw, mbw, ssw, sbw, ofw, bew, bsw, maw, lOw, lUw, mtw, mkw, mww, mvw, mnw, haw, nOw, nUw, mew, few, aOw, aUw, bOw, bUw, bo', bu', pl', bm2)) := by
      dsimp only [un32]
      unfold fb_M_arranges_48
      rw [if_pos rfl]
    have hlen : k + 1 = (prm n).length := by omega
    rw [hlen] at hT2 hB2
    exact ⟨co2, cu2, bo', bu', se', pl', bt2, bm2, g3, c3, y3, s3, u3, o3, now2, wayw, wbw, knw, totw, kdw, whw, ovw, unw, eOw, eUw, dOw, dUw, sOw, sUw, stw, rew, frw, fsw, drw, dsw, luw, bfw, blw, baw, scw, fRw, fSw, mow, uuw, slw, mbw, ssw, sbw, ofw, bew, bsw, maw, lOw, lUw, mtw, mkw, mww, mvw, mnw, haw, nOw, nUw, mew, few, aOw, aUw, bOw, bUw, iter_st s1 (iter_en e1), iter_st s2' (iter_en e2), hT2, hB2, hf2⟩
  · have hkl : k < (prm n).length - 1 := by omega
    have hch := ch5 k hkl
    rcases x3 with ⟨-, w⟩ | ⟨rfl, d', w, w1, w2⟩
    · rw [w] at hch
      cases hch
    rw [w] at hch
    have hdd := range_map (Option.some.inj hch)
    obtain ⟨co1, cu1, bo1, bu1, se1, pl1, bt1, bm1, g4, c4, y4, s4, u4, o4, now1, way1, wb1, kn1, tot1, kd1, wh1, ov1, un1, eO1, eU1, dO1, dU1, sO1, sU1, st1, re1, fr1, fs1, dr1, ds1, lu1, bf1, bl1, ba1, sc1, fR1, fS1, mo1, uu1, sl1, mb1, ss1, sb1, of1, be1, bs1, ma1, lO1, lU1, mt1, mk1, mw1, mv1, mn1, ha1, nO1, nU1, me1, fe1, aO1, aU1, bO1, bU1, z1, z2, z3⟩ := ih (F1 + 1) (F2 + 1) (by omega) (by omega) (k + 1) co2 cu2 bo' bu' se' pl' bt2 bm2 g3 c3 y3 s3 u3 o3 now2 wayw wbw knw totw kdw whw ovw unw eOw eUw dOw dUw sOw sUw stw rew frw fsw drw dsw luw bfw blw baw scw fRw fSw mow uuw slw mbw ssw sbw ofw bew bsw maw lOw lUw mtw mkw mww mvw mnw haw nOw nUw mew few aOw aUw bOw bUw (by omega) hT2 hB2 (fun i hi => by rw [w1 i hi, hdd i hi]) (fun i hi => by rw [w2 i hi, hdd i hi]) h62 hf2
    exact ⟨co1, cu1, bo1, bu1, se1, pl1, bt1, bm1, g4, c4, y4, s4, u4, o4, now1, way1, wb1, kn1, tot1, kd1, wh1, ov1, un1, eO1, eU1, dO1, dU1, sO1, sU1, st1, re1, fr1, fs1, dr1, ds1, lu1, bf1, bl1, ba1, sc1, fR1, fS1, mo1, uu1, sl1, mb1, ss1, sb1, of1, be1, bs1, ma1, lO1, lU1, mt1, mk1, mw1, mv1, mn1, ha1, nO1, nU1, me1, fe1, aO1, aU1, bO1, bU1, iter_st s1 z1, iter_st s2' z2, z3⟩
theorem op_arranges (hJt : Jt n nv A B) (hF : 300 < F) {bn ju jl many mu ml : Int32} (J : JX n nv A B g c y s u o pit bn ju jl) (X : MX n nv A B now many mu ml) (mo0 : Nat → Int32) (uu0 : Int64) (sl0 mb0 ss0 sb0 of0 : Nat → Int64) (be0 : Nat → Int32) (bs0 : Int32) (ma0 : Nat → Int64) (lO0 lU0 : Int64) (mt0 : Int32) (mk0 mw0 : Nat → Int32) (mv0 mn0 : Nat → Int64) (ha0 : Nat → Int32) (nO0 nU0 : Int64) (me0 fe0 : Nat → Int32) (aO0 aU0 bO0 bU0 : Nat → Int64) (hf : ∀ i, i < 5 → fe0 i = 0) (se0 bt0' : Nat → Int32) (g2 c2 y2 s2 u2 o2 p2 : Nat → Int32) (b2 a2 l2 : Int32) (wayq0 wbq0 : Nat → Int32) (knq0 totq0 : Int32) (kdq0 whq0 : Nat → Int32) (ovq0 unq0 : Nat → Int64) (eOq0 eUq0 : Int64) (dOq0 dUq0 : Nat → Int64) (sOq0 sUq0 : Int64) (stq0 : Nat → Int32) (req0 frq0 fsq0 drq0 dsq0 : Nat → Int64) (luq0 : Int64) (bfq0 blq0 baq0 scq0 : Nat → Int64) (fRq0 fSq0 : Int64) (as0 : Nat → Int32) (bo0 bu0 : Int64) (pl0 bm0 : Nat → Int32) (nu : Nat → Int64) (sz : Int32) (row : Nat → Int64) (rm th : Int32) (hR : RowEq nu sz row rm) :
    ∃ (r : Int32) (se1 bt1' : Nat → Int32) (g3 c3 y3 s3 u3 o3 p3 : Nat → Int32) (b3 a3 l3 : Int32) (wayq1 wbq1 : Nat → Int32) (knq1 totq1 : Int32) (kdq1 whq1 : Nat → Int32) (ovq1 unq1 : Nat → Int64) (eOq1 eUq1 : Int64) (dOq1 dUq1 : Nat → Int64) (sOq1 sUq1 : Int64) (stq1 : Nat → Int32) (req1 frq1 fsq1 drq1 dsq1 : Nat → Int64) (luq1 : Int64) (bfq1 blq1 baq1 scq1 : Nat → Int64) (fRq1 fSq1 : Int64) (nu1 : Nat → Int64) (sz1 : Int32) (now1 : Nat → Int32) (mo1 : Nat → Int32) (uu1 : Int64) (sl1 mb1 ss1 sb1 of1 : Nat → Int64) (be1 : Nat → Int32) (bs1 : Int32) (ma1 : Nat → Int64) (lO1 lU1 : Int64) (mt1 : Int32) (mk1 mw1 : Nat → Int32) (mv1 mn1 : Nat → Int64) (ha1 : Nat → Int32) (nO1 nU1 : Int64) (me1 fe1 : Nat → Int32) (aO1 aU1 bO1 bU1 : Nat → Int64) (as1 : Nat → Int32) (bo1 bu1 : Int64) (pl1 bm1 : Nat → Int32) (row1 : Nat → Int64) (rm1 : Int32), f_X_arranges F se0 bt0' g c y s u o pit bn ju jl g2 c2 y2 s2 u2 o2 p2 b2 a2 l2 wayq0 wbq0 knq0 totq0 kdq0 whq0 ovq0 unq0 eOq0 eUq0 dOq0 dUq0 sOq0 sUq0 stq0 req0 frq0 fsq0 drq0 dsq0 luq0 bfq0 blq0 baq0 scq0 fRq0 fSq0 nu sz = some (r, se1, bt1', g3, c3, y3, s3, u3, o3, p3, b3, a3, l3, wayq1, wbq1, knq1, totq1, kdq1, whq1, ovq1, unq1, eOq1, eUq1, dOq1, dUq1, sOq1, sUq1, stq1, req1, frq1, fsq1, drq1, dsq1, luq1, bfq1, blq1, baq1, scq1, fRq1, fSq1, nu1, sz1) ∧ f_M_arranges F now many mu ml row rm th mo0 uu0 sl0 mb0 ss0 sb0 of0 be0 bs0 ma0 lO0 lU0 mt0 mk0 mw0 mv0 mn0 ha0 nO0 nU0 me0 fe0 aO0 aU0 bO0 bU0 as0 bo0 bu0 pl0 bm0 = some (r, now1, row1, rm1, (0 : Int32), mo1, uu1, sl1, mb1, ss1, sb1, of1, be1, bs1, ma1, lO1, lU1, mt1, mk1, mw1, mv1, mn1, ha1, nO1, nU1, me1, fe1, aO1, aU1, bO1, bU1, as1, bo1, bu1, pl1, bm1) ∧
      (∀ i, i < 5 → fe1 i = 0) ∧ MX n nv A B now1 many mu ml ∧ RowEq nu1 sz1 row1 rm1 := by
  have J0 := J
  have X0 := X
  have hn := hJt.1
  obtain ⟨J1, ho, rfl, rfl, rfl⟩ := J
  obtain ⟨h, rfl, rfl, rfl⟩ := X
  by_cases q0 : 0 < n
  rotate_left
  · have hz : zI (n : Int) = (0 : Int32) := (if_many hn).mpr q0
    have hX : f_X_arranges F se0 bt0' g c y s u o pit (zI (n : Int)) (zI A) (zI B) g2 c2 y2 s2 u2 o2 p2 b2 a2 l2 wayq0 wbq0 knq0 totq0 kdq0 whq0 ovq0 unq0 eOq0 eUq0 dOq0 dUq0 sOq0 sUq0 stq0 req0 frq0 fsq0 drq0 dsq0 luq0 bfq0 blq0 baq0 scq0 fRq0 fSq0 nu sz = some ((-1 : Int32), se0, bt0', g2, c2, y2, s2, u2, o2, p2, b2, a2, l2, wayq0, wbq0, knq0, totq0, kdq0, whq0, ovq0, unq0, eOq0, eUq0, dOq0, dUq0, sOq0, sUq0, stq0, req0, frq0, fsq0, drq0, dsq0, luq0, bfq0, blq0, baq0, scq0, fRq0, fSq0, nu, sz) := by
      unfold f_X_arranges
      rw [if_pos hz]
    have hM : f_M_arranges F now (zI (n : Int)) (zI A) (zI B) row rm th mo0 uu0 sl0 mb0 ss0 sb0 of0 be0 bs0 ma0 lO0 lU0 mt0 mk0 mw0 mv0 mn0 ha0 nO0 nU0 me0 fe0 aO0 aU0 bO0 bU0 as0 bo0 bu0 pl0 bm0 = some ((-1 : Int32), now, row, rm, (0 : Int32), mo0, uu0, sl0, mb0, ss0, sb0, of0, be0, bs0, ma0, lO0, lU0, mt0, mk0, mw0, mv0, mn0, ha0, nO0, nU0, me0, fe0, aO0, aU0, bO0, bU0, as0, bo0, bu0, pl0, bm0) := by
      unfold f_M_arranges
      rw [if_pos hz]
    exact ⟨_, se0, bt0', g2, c2, y2, s2, u2, o2, p2, b2, a2, l2, wayq0, wbq0, knq0, totq0, kdq0, whq0, ovq0, unq0, eOq0, eUq0, dOq0, dUq0, sOq0, sUq0, stq0, req0, frq0, fsq0, drq0, dsq0, luq0, bfq0, blq0, baq0, scq0, fRq0, fSq0, nu, sz, now, mo0, uu0, sl0, mb0, ss0, sb0, of0, be0, bs0, ma0, lO0, lU0, mt0, mk0, mw0, mv0, mn0, ha0, nO0, nU0, me0, fe0, aO0, aU0, bO0, bU0, as0, bo0, bu0, pl0, bm0, row, rm, hX, hM, hf, X0, hR⟩
  have hz : ¬ zI (n : Int) = (0 : Int32) := fun z => (if_many hn).mp z q0
  obtain ⟨ch1, ch2, ch3, ch4, -, -⟩ := prm_ok q0 hn
  obtain ⟨g3, c3, y3, s3, u3, o3, p3, ec, J3, hall⟩ := copyAll_z (F := F) hJt (by omega) J0 g2 c2 y2 s2 u2 o2 p2 b2 a2 l2
  obtain ⟨as1, ea, has⟩ := layAside_z (F := F) (by omega) now as0
  obtain ⟨se2, pl2, ef1, ef2, hs2, hp2⟩ := first_z (F := F) hn (by omega) se0 pl0
  obtain ⟨co1, cu1, bo1, bu1, se1, pl1, bt1, bm1, g4, c4, y4, s4, u4, o4, nowx, wayq1, wbq1, knq1, totq1, kdq1, whq1, ovq1, unq1, eOq1, eUq1, dOq1, dUq1, sOq1, sUq1, stq1, req1, frq1, fsq1, drq1, dsq1, luq1, bfq1, blq1, baq1, scq1, fRq1, fSq1, mo1, uu1, sl1, mb1, ss1, sb1, of1, be1, bs1, ma1, lO1, lU1, mt1, mk1, mw1, mv1, mn1, ha1, nO1, nU1, me1, fe1, aO1, aU1, bO1, bU1, z1, z2, z3, z4, z5⟩ := arr_loop q0 hJt hF J0 rfl rfl rfl (as1 := as1) (fun i hi q hq => by rw [has _ (by omega)]; exact h i hi q hq) (p2 := p3) J3.1.2.2.2.2.2 ((prm n).length - 1) F F (by omega) (by omega) 0 (-1 : Int64) (1 : Int64) bo0 (0 : Int64) se2 pl2 bt0' bm0 g3 c3 y3 s3 u3 o3 now wayq0 wbq0 knq0 totq0 kdq0 whq0 ovq0 unq0 eOq0 eUq0 dOq0 dUq0 sOq0 sUq0 stq0 req0 frq0 fsq0 drq0 dsq0 luq0 bfq0 blq0 baq0 scq0 fRq0 fSq0 mo0 uu0 sl0 mb0 ss0 sb0 of0 be0 bs0 ma0 lO0 lU0 mt0 mk0 mw0 mv0 mn0 ha0 nO0 nU0 me0 fe0 aO0 aU0 bO0 bU0 (by omega) (Or.inl ⟨rfl, rfl, rfl, rfl⟩) (fun w => absurd w (Nat.lt_irrefl 0)) (fun i hi => by rw [hs2 i hi, ch3 i hi]) (fun i hi => by rw [hp2 i hi, ch3 i hi]) (fun i hi => h i hi 6 (by omega)) hf
  obtain ⟨now1, eb, hnb⟩ := comesBack_z (F := F) (by omega) nowx as1
  have hmx : MX n nv A B now1 (zI (n : Int)) (zI A) (zI B) := ⟨fun i hi q hq => by rw [hnb _ (by omega), has _ (by omega)]; exact h i hi q hq, rfl, rfl, rfl⟩
  obtain ⟨be, hbe, hb1, hb2⟩ := z4 (by omega)
  rcases z3 with ⟨w, -⟩ | ⟨-, O, U, -, rfl, rfl, rfl, rfl, hO, hU⟩
  · omega
  obtain ⟨r, nu1, sz1, l2', row1, rm1, row2, rm2, t1, t2, t3, t4, t5⟩ := tellSeats_z (F := F) hn (by omega) hbe hb1 hb2 hO hU nu row sz
  have hX : f_X_arranges F se0 bt0' g c y s u o pit (zI (n : Int)) (zI A) (zI B) g2 c2 y2 s2 u2 o2 p2 b2 a2 l2 wayq0 wbq0 knq0 totq0 kdq0 whq0 ovq0 unq0 eOq0 eUq0 dOq0 dUq0 sOq0 sUq0 stq0 req0 frq0 fsq0 drq0 dsq0 luq0 bfq0 blq0 baq0 scq0 fRq0 fSq0 nu sz = some (r, se1, bt1, g4, c4, y4, s4, u4, o4, p3, zI (n : Int), zI A, zI B, wayq1, wbq1, knq1, totq1, kdq1, whq1, ovq1, unq1, eOq1, eUq1, dOq1, dUq1, sOq1, sUq1, stq1, req1, frq1, fsq1, drq1, dsq1, luq1, bfq1, blq1, baq1, scq1, fRq1, fSq1, nu1, sz1) := by
    unfold f_X_arranges
    rw [if_neg hz, ec]
    simp only [bd10, Option.bind_some]
    rw [ef1, Option.bind_some, show iter (un39 (fb_X_arranges_61 F g c y s u o (zI (n : Int)) p3 (zI (n : Int)) (zI A) (zI B))) F ((-1 : Int64), (1 : Int64), (1 : Int32), (0 : Int32), se2, bt0', g3, c3, y3, s3, u3, o3, wayq0, wbq0, knq0, totq0, kdq0, whq0, ovq0, unq0, eOq0, eUq0, dOq0, dUq0, sOq0, sUq0, stq0, req0, frq0, fsq0, drq0, dsq0, luq0, bfq0, blq0, baq0, scq0, fRq0, fSq0) = _ from z1]
    simp only [bd37, Option.bind_some]
    rw [t1]
    rfl
  have hM : f_M_arranges F now (zI (n : Int)) (zI A) (zI B) row rm th mo0 uu0 sl0 mb0 ss0 sb0 of0 be0 bs0 ma0 lO0 lU0 mt0 mk0 mw0 mv0 mn0 ha0 nO0 nU0 me0 fe0 aO0 aU0 bO0 bU0 as0 bo0 bu0 pl0 bm0 = some (r, now1, row2, rm2, (0 : Int32), mo1, uu1, sl1, mb1, ss1, sb1, of1, be1, bs1, ma1, lO1, lU1, mt1, mk1, mw1, mv1, mn1, ha1, nO1, nU1, me1, fe1, aO1, aU1, bO1, bU1, as1, zL O, zL U, pl1, bm1) := by
    unfold f_M_arranges
    rw [if_neg hz, ea, Option.bind_some, ef2, Option.bind_some, show iter (un32 (fb_M_arranges_48 F (zI (n : Int)) (zI A) (zI B) as1)) F ((1 : Int32), now, mo0, uu0, sl0, mb0, ss0, sb0, of0, be0, bs0, ma0, lO0, lU0, mt0, mk0, mw0, mv0, mn0, ha0, nO0, nU0, me0, fe0, aO0, aU0, bO0, bU0, bo0, (0 : Int64), pl2, bm0) = _ from z2]
    simp only [bd31, Option.bind_some]
    rw [eb, Option.bind_some, t2]
    simp only [bd3, Option.bind_some]
    rw [t3]
    simp only [bd2, Option.bind_some]
    rcases t5 with ⟨w1, w2⟩ | ⟨w1, w2⟩
    · rw [if_pos w1, w2]
    · rw [if_neg w1, w2]
  exact ⟨_, se1, bt1, g4, c4, y4, s4, u4, o4, p3, _, _, _, wayq1, wbq1, knq1, totq1, kdq1, whq1, ovq1, unq1, eOq1, eUq1, dOq1, dUq1, sOq1, sUq1, stq1, req1, frq1, fsq1, drq1, dsq1, luq1, bfq1, blq1, baq1, scq1, fRq1, fSq1, nu1, sz1, now1, mo1, uu1, sl1, mb1, ss1, sb1, of1, be1, bs1, ma1, lO1, lU1, mt1, mk1, mw1, mv1, mn1, ha1, nO1, nU1, me1, fe1, aO1, aU1, bO1, bU1, as1, _, _, pl1, bm1, row2, rm2, hX, hM, z5, hmx, t4⟩
end OPS40
