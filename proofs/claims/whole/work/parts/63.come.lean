/-! COMING TO A LOAD: the class, the model -/
noncomputable abbrev pkO (n : Nat) (nv : Nat → Nat → Int) (A B : Int) : Int := (gs n nv A B 15).2.2.1
noncomputable abbrev pkU (n : Nat) (nv : Nat → Nat → Int) (A B : Int) : Int := (gs n nv A B 15).2.2.2.1
noncomputable abbrev evL (n : Nat) (nv : Nat → Nat → Int) (A B : Int) : List (Int × Nat × Int × Int) := (gs n nv A B 15).2.2.2.2
noncomputable abbrev la (n : Nat) (nv : Nat → Nat → Int) (A B p : Int) : Nat := lftp (snd0 n nv) (evL n nv A B) p
/-- what is known of growth is so -/
def KnG (n : Nat) (nv : Nat → Nat → Int) (A B : Int) (kn tot : Int32) (kd wh : Nat → Int32) (ov un : Nat → Int64) (eO eU : Int64) : Prop :=
  kn = 0 ∨ (kn = 1 ∧ EvZ (evL n nv A B) tot kd wh ov un ∧ eO = zL (pkO n nv A B) ∧ eU = zL (pkU n nv A B))
section COME
variable {n : Nat} {nv : Nat → Nat → Int} {A B : Int} {F : Nat} {g c y s u pit o now : Nat → Int32}
theorem runk_z (hn : n ≤ 5) (hF : 300 < F) (hv : NvOk n nv) (hA : 0 ≤ A ∧ A ≤ 2) (hB : 0 ≤ B ∧ B ≤ 2) (J : JOk n nv g c y s u pit) (ho : ∀ i, i < n → o i = zI (nv i 5)) (way0 wb0 : Nat → Int32) (kn0 tot0 : Int32) (kd0 wh0 : Nat → Int32) (ov0 un0 : Nat → Int64) (eO0 eU0 : Int64) (dO0 dU0 : Nat → Int64) (sO0 sU0 : Int64) (st0 : Nat → Int32) (re0 fr0 fs0 dr0 ds0 : Nat → Int64) (lu0 : Int64) (bf0 bl0 ba0 sc0 : Nat → Int64) (fR0 fS0 : Int64) (hK : KnG n nv A B kn0 tot0 kd0 wh0 ov0 un0 eO0 eU0) :
    ∃ (way1 wb1 : Nat → Int32) (kn1 tot1 : Int32) (kd1 wh1 : Nat → Int32) (ov1 un1 : Nat → Int64) (eO1 eU1 : Int64) (dO1 dU1 : Nat → Int64) (sO1 sU1 : Int64) (st1 : Nat → Int32) (re1 fr1 fs1 dr1 ds1 : Nat → Int64) (lu1 : Int64) (bf1 bl1 ba1 sc1 : Nat → Int64) (fR1 fS1 : Int64), f_G_run F way0 wb0 kn0 tot0 kd0 wh0 ov0 un0 eO0 eU0 dO0 dU0 sO0 sU0 st0 re0 fr0 fs0 dr0 ds0 lu0 bf0 bl0 ba0 sc0 fR0 fS0 g c y s u o pit (zI (n : Int)) (zI A) (zI B) = some (way1, wb1, kn1, tot1, kd1, wh1, ov1, un1, eO1, eU1, dO1, dU1, sO1, sU1, st1, re1, fr1, fs1, dr1, ds1, lu1, bf1, bl1, ba1, sc1, fR1, fS1) ∧ kn1 = 1 ∧ EvZ (evL n nv A B) tot1 kd1 wh1 ov1 un1 ∧ eO1 = zL (pkO n nv A B) ∧ eU1 = zL (pkU n nv A B) := by
  rcases hK with rfl | ⟨rfl, h1, h2, h3⟩
  · obtain ⟨way', wb', tot', kd', wh', ov', un', ⟨dO, dU, sO, sU, st, re, fr, fs, dr, ds, lu, bf, bl, ba, sc, fR, fS⟩, e, hE⟩ := run_z (F := F) hn (by omega) hv hA hB J ho way0 wb0 tot0 kd0 wh0 ov0 un0 eO0 eU0 (dO0, dU0, sO0, sU0, st0, re0, fr0, fs0, dr0, ds0, lu0, bf0, bl0, ba0, sc0, fR0, fS0)
    exact ⟨way', wb', 1, tot', kd', wh', ov', un', _, _, dO, dU, sO, sU, st, re, fr, fs, dr, ds, lu, bf, bl, ba, sc, fR, fS, e, rfl, hE, rfl, rfl⟩
  · refine ⟨way0, wb0, 1, tot0, kd0, wh0, ov0, un0, eO0, eU0, dO0, dU0, sO0, sU0, st0, re0, fr0, fs0, dr0, ds0, lu0, bf0, bl0, ba0, sc0, fR0, fS0, ?_, rfl, h1, h2, h3⟩
    unfold f_G_run
    rw [if_neg (by decide)]
theorem stop_ex (hn : n ≤ 5) (hv : NvOk n nv) (hA : 0 ≤ A ∧ A ≤ 2) (hB : 0 ≤ B ∧ B ≤ 2) (p : Int) : ∃ k, StopAt n nv A B p k := by
  obtain ⟨k, hk, hmin⟩ := pk_least (fun k => (gs n nv A B k).1 = 0 ∨ p * (nxt n nv A B (gs n nv A B k).2.1).2 < (nxt n nv A B (gs n nv A B k).2.1).1) ⟨15, Or.inl (gs_end hn hv hA hB)⟩
  refine ⟨k, fun j hj => ?_, hk⟩
  have := hmin j hj
  refine ⟨fun w => this (Or.inl w), ?_⟩
  refine Int.not_lt.mp fun w => this (Or.inr w)
theorem la_ok (hn : n ≤ 5) (hv : NvOk n nv) (hA : 0 ≤ A ∧ A ≤ 2) (hB : 0 ≤ B ∧ B ≤ 2) {p : Int} (hp : 0 ≤ p) : (∀ i, (la n nv A B p).testBit i = true → i < n ∧ nv i 5 = 0) ∧ la n nv A B p < 32 ∧ (¬ la n nv A B p = 0 ↔ p * pkU n nv A B < pkO n nv A B) := by
  obtain ⟨k, hk⟩ := stop_ex hn hv hA hB p
  obtain ⟨h1, h2, -⟩ := stop_left hn hv hA hB hp hk
  have hE := (gs_ok hn hv hA hB k).1
  show (∀ i, (lftp _ _ _).testBit i = true → _) ∧ lftp _ _ _ < 32 ∧ (¬ lftp _ _ _ = 0 ↔ _)
  rw [h1]
  exact ⟨hE.2.1, hE.2.2.1, h2⟩
theorem pk_ok (hn : n ≤ 5) (hv : NvOk n nv) (hA : 0 ≤ A ∧ A ≤ 2) (hB : 0 ≤ B ∧ B ≤ 2) : LOk (pkO n nv A B) (pkU n nv A B) := (gs_ok hn hv hA hB 15).1.1
theorem comparePeak_z (hn : n ≤ 5) (hv : NvOk n nv) (hA : 0 ≤ A ∧ A ≤ 2) (hB : 0 ≤ B ∧ B ≤ 2) {lo lu : Int} (h1 : -1 ≤ lo ∧ lo ≤ 400 * 299269) (h2 : 0 < lu ∧ lu ≤ 25 * 299269) : f_G_comparePeak (zL lo) (zL lu) (zL (pkO n nv A B)) (zL (pkU n nv A B)) = some (zI (if lo * pkU n nv A B < pkO n nv A B * lu then 1 else if pkO n nv A B * lu = lo * pkU n nv A B then 0 else -1)) := by
  obtain ⟨l1, l2, l3, l4, l5⟩ := pk_ok (n := n) (nv := nv) (A := A) (B := B) hn hv hA hB
  have c1 := abs_mul_bd (a := pkO n nv A B) (b := lu) (x := 400 * 299269) (y := 25 * 299269) (by omega) (by omega) (by omega) (by omega)
  have c2 := abs_mul_bd (a := lo) (b := pkU n nv A B) (x := 400 * 299269) (y := 25 * 299269) (by omega) (by omega) (by omega) (by omega)
  unfold f_G_comparePeak
  rw [zL_mul, zL_mul, compare_z (by omega) (by omega), Option.bind_some]
theorem come_z (hn : n ≤ 5) (hF : 300 < F) (hv : NvOk n nv) (hA : 0 ≤ A ∧ A ≤ 2) (hB : 0 ≤ B ∧ B ≤ 2) (J : JOk n nv g c y s u pit) (ho : ∀ i, i < n → o i = zI (nv i 5)) {p : Int} (hp : -2147483648 ≤ p ∧ p ≤ 2147483647) (q : Prop) [Decidable q] (way0 wb0 : Nat → Int32) (kn0 tot0 : Int32) (kd0 wh0 : Nat → Int32) (ov0 un0 : Nat → Int64) (eO0 eU0 : Int64) (dO0 dU0 : Nat → Int64) (sO0 sU0 : Int64) (st0 : Nat → Int32) (re0 fr0 fs0 dr0 ds0 : Nat → Int64) (lu0 : Int64) (bf0 bl0 ba0 sc0 : Nat → Int64) (fR0 fS0 : Int64) (hK : KnG n nv A B kn0 tot0 kd0 wh0 ov0 un0 eO0 eU0) :
    ∃ (r : Int) (way1 wb1 : Nat → Int32) (kn1 tot1 : Int32) (kd1 wh1 : Nat → Int32) (ov1 un1 : Nat → Int64) (eO1 eU1 : Int64) (dO1 dU1 : Nat → Int64) (sO1 sU1 : Int64) (st1 : Nat → Int32) (re1 fr1 fs1 dr1 ds1 : Nat → Int64) (lu1 : Int64) (bf1 bl1 ba1 sc1 : Nat → Int64) (fR1 fS1 : Int64), f_X_come F (zI p) (zI (b01 q)) way0 wb0 kn0 tot0 kd0 wh0 ov0 un0 eO0 eU0 dO0 dU0 sO0 sU0 st0 re0 fr0 fs0 dr0 ds0 lu0 bf0 bl0 ba0 sc0 fR0 fS0 g c y s u o pit (zI (n : Int)) (zI A) (zI B) = some (zI r, way1, wb1, kn1, tot1, kd1, wh1, ov1, un1, eO1, eU1, dO1, dU1, sO1, sU1, st1, re1, fr1, fs1, dr1, ds1, lu1, bf1, bl1, ba1, sc1, fR1, fS1) ∧ KnG n nv A B kn1 tot1 kd1 wh1 ov1 un1 eO1 eU1 ∧
      ((r = -1 ∧ ¬ (0 ≤ p ∧ p ≤ 300 ∧ q)) ∨ ((0 ≤ p ∧ p ≤ 300 ∧ q) ∧ kn1 = 1 ∧ EvZ (evL n nv A B) tot1 kd1 wh1 ov1 un1 ∧ eO1 = zL (pkO n nv A B) ∧ eU1 = zL (pkU n nv A B) ∧
        ((r = -2 ∧ pkO n nv A B ≤ p * pkU n nv A B) ∨ (r = 0 ∧ p * pkU n nv A B < pkO n nv A B ∧ ∃ (md : Nat → Int) (D : Int) (fr fs dr ds : Nat → Int), At n nv A B (la n nv A B p) md D fr fs dr ds p 1 ∧ SOk n D fr fs dr ds lu1 fr1 fs1 dr1 ds1)))) := by
  unfold f_X_come
  rw [isLoad_z hp, Option.bind_some]
  by_cases c1 : 0 ≤ p ∧ p ≤ 300
  · rw [if_neg (fun w => (b01_ne0.mp w) c1)]
    by_cases c2 : q
    · rw [if_neg (fun w => (b01_ne0.mp w) c2)]
      obtain ⟨way1, wb1, kn1, tot1, kd1, wh1, ov1, un1, eO1, eU1, dO1, dU1, sO1, sU1, st1, re1, fr1, fs1, dr1, ds1, lu1, bf1, bl1, ba1, sc1, fR1, fS1, e1, hkn, hE, he1, he2⟩ := runk_z (F := F) hn hF hv hA hB J ho way0 wb0 kn0 tot0 kd0 wh0 ov0 un0 eO0 eU0 dO0 dU0 sO0 sU0 st0 re0 fr0 fs0 dr0 ds0 lu0 bf0 bl0 ba0 sc0 fR0 fS0 hK
      rw [e1]
      simp only [bd27, Option.bind_some]
      obtain ⟨l1, l2, l3, l4, l5⟩ := pk_ok (n := n) (nv := nv) (A := A) (B := B) hn hv hA hB
      rw [he1, he2, zI_l (by omega) (by omega), show (1 : Int64) = zL 1 from rfl, comparePeak_z hn hv hA hB (by omega) (by omega), Option.bind_some, Int.mul_one]
      have hEO := (gs_ok (n := n) (nv := nv) (A := A) (B := B) hn hv hA hB 15).1
      by_cases c3 : p * pkU n nv A B < pkO n nv A B
      · rw [if_pos c3, if_pos (by decide), leftAfter_z (F := F) hn (by omega) hv ho hEO hE c1, Option.bind_some]
        obtain ⟨b1, b2, b3⟩ := la_ok hn hv hA hB c1.1
        obtain ⟨j, hj⟩ := some_bit (b3.mpr c3)
        obtain ⟨way2, dO2, dU2, sO2, sU2, st2, re2, fr2, fs2, dr2, ds2, lu2, bf2, bl2, ba2, sc2, fR2, fS2, md, D, fr, fs, dr, ds, e2, hat, hway, hun, hfr, hfs, hdr, hds⟩ := settle_z (F := F) (m := la n nv A B p) (lO := p) (lU := 1) hn (by omega) hv hA hB J ho b2 ⟨j, (b1 j hj).1, hj⟩ c1.1 (by omega) (by omega) (by omega) way1 dO1 dU1 sO1 sU1 st1 re1 fr1 fs1 dr1 ds1 lu1 bf1 bl1 ba1 sc1 fR1 fS1
        rw [e2]
        simp only [bd18, Option.bind_some]
        exact ⟨0, way2, wb1, kn1, tot1, kd1, wh1, ov1, un1, _, _, dO2, dU2, sO2, sU2, st2, re2, fr2, fs2, dr2, ds2, lu2, bf2, bl2, ba2, sc2, fR2, fS2, rfl, Or.inr ⟨hkn, hE, rfl, rfl⟩, Or.inr ⟨⟨c1.1, c1.2, c2⟩, hkn, hE, rfl, rfl, Or.inr ⟨rfl, c3, md, D, fr, fs, dr, ds, hat, hun, hfr, hfs, hdr, hds⟩⟩⟩
      · rw [if_neg c3, if_neg (by
          by_cases w : pkO n nv A B = p * pkU n nv A B
          · rw [if_pos w]; decide
          · rw [if_neg w]; decide)]
        exact ⟨-2, way1, wb1, kn1, tot1, kd1, wh1, ov1, un1, _, _, dO1, dU1, sO1, sU1, st1, re1, fr1, fs1, dr1, ds1, lu1, bf1, bl1, ba1, sc1, fR1, fS1, rfl, Or.inr ⟨hkn, hE, rfl, rfl⟩, Or.inr ⟨⟨c1.1, c1.2, c2⟩, hkn, hE, rfl, rfl, Or.inl ⟨rfl, by omega⟩⟩⟩
    · rw [if_pos (b01_ne0.mpr c2)]
      exact ⟨-1, way0, wb0, kn0, tot0, kd0, wh0, ov0, un0, eO0, eU0, dO0, dU0, sO0, sU0, st0, re0, fr0, fs0, dr0, ds0, lu0, bf0, bl0, ba0, sc0, fR0, fS0, rfl, hK, Or.inl ⟨rfl, fun w => c2 w.2.2⟩⟩
  · rw [if_pos (b01_ne0.mpr c1)]
    exact ⟨-1, way0, wb0, kn0, tot0, kd0, wh0, ov0, un0, eO0, eU0, dO0, dU0, sO0, sU0, st0, re0, fr0, fs0, dr0, ds0, lu0, bf0, bl0, ba0, sc0, fR0, fS0, rfl, hK, Or.inl ⟨rfl, fun w => c1 ⟨w.1, w.2.1⟩⟩⟩
/-- the model comes to a load -/
theorem mcome_z (hn : n ≤ 5) (hF : 300 < F) (hv : NvOk n nv) (hA : 0 ≤ A ∧ A ≤ 2) (hB : 0 ≤ B ∧ B ≤ 2) (h : ∀ i, i < n → ∀ q, q < 7 → now (7 * i + q) = zI (nv i q)) {p : Int} (hp0 : 0 ≤ p) (hp3 : p ≤ 300) (mo0 : Nat → Int32) (uu0 : Int64) (sl0 mb0 ss0 sb0 of0 : Nat → Int64) (be0 : Nat → Int32) (bs0 : Int32) (ma0 : Nat → Int64) (lO0 lU0 : Int64) (mt0 : Int32) (mk0 mw0 : Nat → Int32) (mv0 mn0 : Nat → Int64) (ha0 : Nat → Int32) (nO0 nU0 : Int64) (me0 fe0 : Nat → Int32) (aO0 aU0 bO0 bU0 : Nat → Int64) (hf : ∀ i, i < 5 → fe0 i = 0) :
    ∃ (r : Int32) (mo1 : Nat → Int32) (uu1 : Int64) (sl1 mb1 ss1 sb1 of1 : Nat → Int64) (be1 : Nat → Int32) (bs1 : Int32) (ma1 : Nat → Int64) (lO1 lU1 : Int64) (mt1 : Int32) (mk1 mw1 : Nat → Int32) (mv1 mn1 : Nat → Int64) (ha1 : Nat → Int32) (nO1 nU1 : Int64) (me1 fe1 : Nat → Int32) (aO1 aU1 bO1 bU1 : Nat → Int64), f_M_growTo F (zI p) now (zI (n : Int)) (zI A) (zI B) mo0 uu0 sl0 mb0 ss0 sb0 of0 be0 bs0 ma0 lO0 lU0 mt0 mk0 mw0 mv0 mn0 ha0 nO0 nU0 me0 fe0 aO0 aU0 bO0 bU0 = some (r, mo1, uu1, sl1, mb1, ss1, sb1, of1, be1, bs1, ma1, lO1, lU1, mt1, mk1, mw1, mv1, mn1, ha1, nO1, nU1, me1, fe1, aO1, aU1, bO1, bU1) ∧ (∀ i, i < 5 → fe1 i = 0) ∧
      ((r = 0 ∧ pkO n nv A B ≤ p * pkU n nv A B ∧ la n nv A B p = 0 ∧ ∀ i, i < n → mo1 i = zI 3) ∨ (r = 1 ∧ p * pkU n nv A B < pkO n nv A B ∧ lO1 = zL p ∧ lU1 = zL 1 ∧ ∃ (md : Nat → Int) (D : Int) (fr fs dr ds : Nat → Int), Lns n nv A B md D fr fs dr ds ∧ D ≤ 299269 ∧ SOk n D fr fs dr ds uu1 sl1 mb1 ss1 sb1 ∧ Mds n nv (la n nv A B p) md ∧ (∀ i, i < n → mo1 i = zI (m3 md i)) ∧ Near n nv md D fr fs dr ds p 1 ∧ SAt n nv A B (la n nv A B p) p 1 (D * 1) (fun i => fr i * p + fs i * 1) (fun i => dr i * p + ds i * 1))) := by
  obtain ⟨k, r, mo1, uu1, sl1, mb1, ss1, sb1, of1, be1, bs1, ma1, lO1, lU1, mt1, mk1, mw1, mv1, mn1, ha1, nO1, nU1, me1, fe1, aO1, aU1, bO1, bU1, e, hM, hf1, hst, hc⟩ := growTo_z (F := F) hn hF hv hA hB h hp0 hp3 mo0 uu0 sl0 mb0 ss0 sb0 of0 be0 bs0 ma0 lO0 lU0 mt0 mk0 mw0 mv0 mn0 ha0 nO0 nU0 me0 fe0 aO0 aU0 bO0 bU0 hf
  obtain ⟨q1, q2, q3⟩ := stop_left hn hv hA hB hp0 hst
  refine ⟨r, mo1, uu1, sl1, mb1, ss1, sb1, of1, be1, bs1, ma1, lO1, lU1, mt1, mk1, mw1, mv1, mn1, ha1, nO1, nU1, me1, fe1, aO1, aU1, bO1, bU1, e, hf1, ?_⟩
  rcases hc with ⟨rfl, hz⟩ | ⟨rfl, hz, h1, h2, D, fr, fs, dr, ds, hS, hD2, hSO⟩
  · left
    refine ⟨rfl, ?_, by rw [← hz]; exact q1, hM.2.2.1 hz⟩
    refine Int.not_lt.mp fun w => (q2.mpr w) hz
  · right
    refine ⟨rfl, q2.mp hz, h1, h2, _, D, fr, fs, dr, ds, hS, hD2, hSO, ?_⟩
    show Mds n nv (lftp _ _ _) _ ∧ _ ∧ _ ∧ SAt n nv A B (lftp _ _ _) _ _ _ _ _
    rw [q1]
    obtain ⟨hG, -⟩ := (gs_ok hn hv hA hB k).2 hz
    obtain ⟨hBO, hu⟩ := hG
    obtain ⟨P', Q', n1, n2, n3, n4, n5, -, -, -, -⟩ := hBO.next hn hv hA hB hu
    have hmo := (hM.2.2.2 hz).1
    have hlt := hst.2.resolve_left hz
    rw [n1] at hlt
    dsimp only at hlt
    generalize gs n nv A B k = s at *
    obtain ⟨m, md, P, Q, L⟩ := s
    dsimp only at *
    obtain ⟨bE, bm, bs, bN, bc, b0⟩ := hBO
    have hNN := bN D fr fs dr ds hS
    have hQ := bE.1.2.2.1
    have htill : Till n nv md D fr fs dr ds p 1 := by
      intro j hj hd
      have e : dun md false fr dr j = dun md true fr dr j := by
        unfold dun at hd ⊢
        by_cases m0 : md j = 0
        · rw [if_pos m0, if_pos m0]
        · rw [if_neg m0, if_neg m0]
          by_cases m1 : md j = 1
          · rw [if_pos m1, if_pos m1]
          · rw [if_neg m0, if_neg m1, if_neg (by simp)] at hd; omega
      rw [e] at hd ⊢
      have x := (n2.2.2 D fr fs dr ds hS).1 j hj hd
      have hq' := n2.1
      refine Int.le_of_mul_le_mul_right (a := Q') ?_ hq'
      have a1 := Int.mul_le_mul_of_nonneg_right (show p * Q' ≤ P' by omega) (show 0 ≤ dun md true fr dr j by omega)
      have e1 : p * dun md true fr dr j * Q' = p * Q' * dun md true fr dr j := Int.mul_right_comm _ _ _
      rw [e1, Int.mul_one]
      omega
    have hgo := (hNN.go hv hA hB hS hQ (y := 1) (x := p) (by omega) (by omega) htill).1
    refine ⟨bm, hmo, hgo, hgo.sat hv bm hS (by omega) fun w => ?_⟩
    have hP0 : P = 0 := by
      have := bE.1.1
      rw [w, Int.zero_mul] at q3
      omega
    obtain ⟨kk, k1, k2⟩ := b0 hP0
    have z := (start_near hv hA hB k1 (Lns.congr hS (fun i hi => (k2 i hi).symm))).1
    exact ⟨kk, k1, fun i hi => by rw [w, (z i hi).1, (z i hi).2]; exact ⟨by rw [Int.mul_zero, Int.zero_mul]; rfl, by rw [Int.mul_zero, Int.zero_add, Int.mul_assoc]⟩⟩
/-- forces and slips at a whole load fit -/
theorem at_bd (hn : n ≤ 5) (hv : NvOk n nv) (hA : 0 ≤ A ∧ A ≤ 2) (hB : 0 ≤ B ∧ B ≤ 2) {md : Nat → Int} {D : Int} {fr fs dr ds : Nat → Int} (hS : Lns n nv A B md D fr fs dr ds) (hD2 : D ≤ 299269) {p : Int} (hp : 0 ≤ p ∧ p ≤ 300) {i : Nat} (hi : i < n) :
    (-170000000 ≤ fr i * p + fs i * 1 ∧ fr i * p + fs i * 1 ≤ 170000000) ∧ (-2400000000 ≤ dr i * p + ds i * 1 ∧ dr i * p + ds i * 1 ≤ 2400000000) := by
  have b := sol_bounds hn hv hA hB hS i hi
  have hD := hS.1
  have c1 := abs_mul_bd (a := fr i) (b := p) (x := 299269) (y := 300) (by omega) (by omega) (by omega) (by omega)
  have c3 := abs_mul_bd (a := dr i) (b := p) (x := 25 * 299269) (y := 300) (by omega) (by omega) (by omega) (by omega)
  omega
/-- both tell one fraction -/
theorem fra_eq {o u o' u' : Int} (hu : 0 < u) (hu' : 0 < u') (e : o' * u = o * u') : fra o u = fra o' u' := by
  unfold fra
  rw [red_eq hu hu' e.symm]
end COME
