/-! THE MODEL BREAKS A BOLT -/
/-- the forces of the state of the bolts told by bits at a load stand in the cells from 5 * b on -/
def Rec1 (n : Nat) (nv : Nat → Nat → Int) (A B : Int) (m : Nat) (P Q : Int) (b : Nat) (aO aU : Nat → Int64) : Prop :=
  ∃ (D : Int) (f d : Nat → Int), 0 < D ∧ D ≤ 299269 ∧ SAt n nv A B m P Q (D * Q) f d ∧ aU b = zL (D * Q) ∧ ∀ k, k < n → aO (5 * b + k) = zL (f k)
def RecOk (n : Nat) (nv : Nat → Nat → Int) (A B : Int) (L : List (Int × Nat × Int × Int)) (aO aU bO bU : Nat → Int64) : Prop :=
  ∀ L1 e L2, L = L1 ++ e :: L2 → e.1 = 2 → Rec1 n nv A B (lft (snd0 n nv) L1) e.2.2.1 e.2.2.2 e.2.1 aO aU ∧ (¬ clr (lft (snd0 n nv) L1) e.2.1 = 0 → Rec1 n nv A B (clr (lft (snd0 n nv) L1) e.2.1) e.2.2.1 e.2.2.2 e.2.1 bO bU)
theorem RecOk.add {n : Nat} {nv : Nat → Nat → Int} {A B : Int} {L L' : List (Int × Nat × Int × Int)} {aO aU bO bU : Nat → Int64} (h : RecOk n nv A B L aO aU bO bU) (h' : ∀ e ∈ L', ¬ e.1 = 2) : RecOk n nv A B (L ++ L') aO aU bO bU := by
  intro L1 e L2 hE h2e
  rcases List.append_eq_append_iff.mp hE with ⟨a, ea, eb⟩ | ⟨a, ea, eb⟩
  · have : e ∈ L' := by rw [eb]; simp
    exact absurd h2e (h' e this)
  · cases a with
    | nil =>
      rw [List.nil_append] at eb
      have : e ∈ L' := by rw [← eb]; simp
      exact absurd h2e (h' e this)
    | cons x a =>
      rw [List.cons_append] at eb
      injection eb with e1 e2
      subst e1
      exact h L1 _ a ea h2e
theorem lft_sub {L : List (Int × Nat × Int × Int)} : ∀ {x : Nat}, x < 32 → (∀ e ∈ L, e.2.1 < 5) → lft x L < 32 ∧ ∀ i, (lft x L).testBit i = true → x.testBit i = true := by
  induction L with
  | nil => intro x hx _; exact ⟨hx, fun _ h => h⟩
  | cons e L ih =>
    intro x hx h
    have h5 := h e (List.mem_cons_self ..)
    have hy : (if e.1 = 2 then clr x e.2.1 else x) < 32 ∧ ∀ i, (if e.1 = 2 then clr x e.2.1 else x).testBit i = true → x.testBit i = true := by
      by_cases q : e.1 = 2
      · rw [if_pos q]; exact ⟨clr_lt x hx _ h5, fun i hi => (clr_sub hx h5 i hi).1⟩
      · rw [if_neg q]; exact ⟨hx, fun _ w => w⟩
    obtain ⟨a, b⟩ := ih hy.1 (fun z hz => h z (List.mem_cons_of_mem _ hz))
    exact ⟨a, fun i hi => hy.2 i (b i hi)⟩
theorem m3_of {md md' : Nat → Int} {i : Nat} (e : md i = md' i) : m3 md i = m3 md' i := by unfold m3; rw [e]
section MBREAKS
variable {n : Nat} {nv : Nat → Nat → Int} {A B : Int} {now mode : Nat → Int32} {md : Nat → Int} {F : Nat} {m : Nat} {P Q : Int} {L : List (Int × Nat × Int × Int)}
/-- who broke is not the one that breaks now -/
theorem EOk.other (hn : n ≤ 5) (h : EOk n nv m P Q L) {b : Nat} (hb : m.testBit b = true) {L1 L2 : List (Int × Nat × Int × Int)} {e : Int × Nat × Int × Int} (hE : L = L1 ++ e :: L2) (h2 : e.1 = 2) : e.2.1 ≠ b := by
  obtain ⟨h1, h2', h3, h4, h5, h6, h7⟩ := h
  rintro rfl
  have l5 : ∀ x ∈ L, x.2.1 < 5 := fun x hx => by have := (h6 x hx).2.1; omega
  have s32 : snd0 n nv < 32 := msk_32 _ hn
  have a := (lft_sub (L := L1) s32 (fun x hx => l5 x (by rw [hE]; simp [hx]))).1
  have ee : e.2.1 < 5 := l5 e (by rw [hE]; simp)
  rw [hE, lft_app] at h4
  have e4 : lft (lft (snd0 n nv) L1) (e :: L2) = lft (clr (lft (snd0 n nv) L1) e.2.1) L2 := by
    show lft (if e.1 = 2 then clr (lft (snd0 n nv) L1) e.2.1 else _) L2 = _
    rw [if_pos h2]
  rw [e4] at h4
  rw [← h4] at hb
  have c := (lft_sub (L := L2) (clr_lt _ a _ ee) (fun x hx => l5 x (by rw [hE]; simp [hx]))).2 _ hb
  exact (clr_sub a ee _ c).2 rfl
theorem RecOk.break_ (hn : n ≤ 5) {aO aU bO bU aO' aU' bO' bU' : Nat → Int64} (hE : EOk n nv m P Q L) (h : RecOk n nv A B L aO aU bO bU) {b : Nat} (hb : m.testBit b = true)
    (ha : ∀ j, (∀ k, k < 5 → j ≠ 5 * b + k) → aO' j = aO j ∧ bO' j = bO j) (hu : ∀ j, j ≠ b → aU' j = aU j ∧ bU' j = bU j) (h1 : Rec1 n nv A B m P Q b aO' aU') (h2 : ¬ clr m b = 0 → Rec1 n nv A B (clr m b) P Q b bO' bU') : RecOk n nv A B (L ++ [(2, b, P, Q)]) aO' aU' bO' bU' := by
  have old : ∀ L1 e L2, L = L1 ++ e :: L2 → e.1 = 2 → Rec1 n nv A B (lft (snd0 n nv) L1) e.2.2.1 e.2.2.2 e.2.1 aO' aU' ∧ (¬ clr (lft (snd0 n nv) L1) e.2.1 = 0 → Rec1 n nv A B (clr (lft (snd0 n nv) L1) e.2.1) e.2.2.1 e.2.2.2 e.2.1 bO' bU') := fun L1 e L2 hE1 h2e => by
    have ne := hE.other hn hb hE1 h2e
    obtain ⟨⟨D, f, d, d1, d2, d3, d4, d5⟩, k⟩ := h L1 e L2 hE1 h2e
    have away : ∀ k, k < n → ∀ k', k' < 5 → 5 * e.2.1 + k ≠ 5 * b + k' := fun k hk k' hk' w => ne (by omega)
    refine ⟨⟨D, f, d, d1, d2, d3, by rw [(hu _ ne).1]; exact d4, fun k hk => by rw [(ha _ (away k hk)).1]; exact d5 k hk⟩, fun w => ?_⟩
    obtain ⟨D, f, d, d1, d2, d3, d4, d5⟩ := k w
    exact ⟨D, f, d, d1, d2, d3, by rw [(hu _ ne).2]; exact d4, fun k hk => by rw [(ha _ (away k hk)).2]; exact d5 k hk⟩
  intro L1 e L2 hE1 h2e
  rcases List.append_eq_append_iff.mp hE1 with ⟨a, ea, eb⟩ | ⟨a, ea, eb⟩
  · cases a with
    | nil =>
      rw [List.nil_append] at eb
      injection eb with e1 e2
      subst e1
      rw [ea, List.append_nil, hE.2.2.2.1]
      exact ⟨h1, h2⟩
    | cons x a =>
      rw [List.cons_append] at eb
      injection eb with e1 e2
      cases a with
      | nil => cases e2
      | cons y a => cases e2
  · cases a with
    | nil =>
      rw [List.nil_append] at eb
      injection eb with e1 e2
      subst e1
      rw [List.append_nil] at ea
      rw [← ea, hE.2.2.2.1]
      exact ⟨h1, h2⟩
    | cons x a =>
      rw [List.cons_append] at eb
      injection eb with e1 e2
      subst e1
      exact old L1 _ a ea h2e
theorem breaks_z (hn : n ≤ 5) (hF : 300 < F) (hv : NvOk n nv) (hA : 0 ≤ A ∧ A ≤ 2) (hB : 0 ≤ B ∧ B ≤ 2) (h : ∀ i, i < n → ∀ q, q < 7 → now (7 * i + q) = zI (nv i q)) (hBO : BOk n nv A B m md P Q L) (hP : 0 < P) (hK : KOk P Q) {b : Nat} (hb : b < n) (hb2 : md b = 2) (hm : ∀ i, i < n → mode i = zI (m3 md i))
    {had : Nat → Int32} (hh : HadOk n m md had) {tot : Int32} {kd wh : Nat → Int32} {ov un : Nat → Int64} (hE : EvZ L tot kd wh ov un) {aO aU bO bU : Nat → Int64} (hR : RecOk n nv A B L aO aU bO bU)
    (uu0 : Int64) (sl0 ba0 ss0 sb0 of0 : Nat → Int64) (be0 : Nat → Int32) (bs0 : Int32) (ma0 : Nat → Int64) :
    ∃ (mode' : Nat → Int32) (uu : Int64) (sl ba ss sb of' : Nat → Int64) (be' : Nat → Int32) (bs' : Int32) (ma' : Nat → Int64) (tot' : Int32) (kd' wh' : Nat → Int32) (ov' un' : Nat → Int64) (had' : Nat → Int32) (aO' aU' bO' bU' : Nat → Int64),
      f_M_breaks F (zI (b : Int)) now (zI (n : Int)) (zI A) (zI B) mode uu0 sl0 ba0 ss0 sb0 of0 be0 bs0 ma0 (zL P) (zL Q) tot kd wh ov un had aO aU bO bU = some (mode', uu, sl, ba, ss, sb, of', be', bs', ma', tot', kd', wh', ov', un', had', aO', aU', bO', bU') ∧
      (clr m b = 0 → (∀ i, i < n → mode' i = zI 3) ∧ EvZ (L ++ [(2, b, P, Q)]) tot' kd' wh' ov' un' ∧ RecOk n nv A B (L ++ [(2, b, P, Q)]) aO' aU' bO' bU') ∧
      (¬ clr m b = 0 → (∀ i, i < n → mode' i = zI (m3 (stw n nv A B (clr m b) P Q) i)) ∧ HadOk n (clr m b) (stw n nv A B (clr m b) P Q) had' ∧
        (∃ (D : Int) (fr fs dr ds : Nat → Int), At n nv A B (clr m b) (stw n nv A B (clr m b) P Q) D fr fs dr ds P Q ∧ SOk n D fr fs dr ds uu sl ba ss sb) ∧
        EvZ (L ++ [(2, b, P, Q)] ++ evs 0 P Q (rsd md (stw n nv A B (clr m b) P Q) 0 n) ++ evs 1 P Q (rsd md (stw n nv A B (clr m b) P Q) 1 n)) tot' kd' wh' ov' un' ∧
        RecOk n nv A B (L ++ [(2, b, P, Q)] ++ evs 0 P Q (rsd md (stw n nv A B (clr m b) P Q) 0 n) ++ evs 1 P Q (rsd md (stw n nv A B (clr m b) P Q) 1 n)) aO' aU' bO' bU') := by
  obtain ⟨g1, g2, g3, g4⟩ := hBO.gone hn hv hA hB hP hK hb hb2
  obtain ⟨bE, bm, bs, bN, bc, b0⟩ := hBO
  obtain ⟨hP0, hP2, hQ0, hQ2, hg⟩ := bE.1
  have h32 := bE.2.2.1
  obtain ⟨D, fr, fs, dr, ds, uu, sl, ba, ss, sb, of', be', bs', ma', e1, hS, hD2, hSO⟩ := msolve_z (F := F) hn (by omega) hv hA hB h (fun i hi => ⟨hm i hi, (bm.bd i hi).1⟩) bs uu0 sl0 ba0 ss0 sb0 of0 be0 bs0 ma0
  have hNN := bN D fr fs dr ds hS
  have hsat := hNN.sat hv bm hS hQ0 (fun e => by omega)
  obtain ⟨aO', e2, a1, a2⟩ := ahead_z (P := P) (Q := Q) (F := F) hn (by omega) hb hSO.2.1 hSO.2.2.1 aO
  obtain ⟨tot1, kd1, wh1, ov1, un1, e3, hE1⟩ := mnote_z hn hE (by omega) 2 hb P Q had
  have hrec1 : Rec1 n nv A B m P Q b aO' (vp_updL aU b (zL (D * Q))) := ⟨D, _, _, hS.1, hD2, hsat, by rw [updL_at, if_pos rfl], a1⟩
  -- who is left
  have hmode1 : ∀ i, i < n → upd mode b (zI 3) i = zI (m3 (fun j => if j = b then 3 else md j) i) ∧ 0 ≤ (fun j => if j = b then (3 : Int) else md j) i := fun i hi => by
    rw [upd_at]
    by_cases q : i = b
    · refine ⟨?_, ?_⟩
      · rw [if_pos q, m3_of (md := fun j => if j = b then (3 : Int) else md j) (md' := fun _ => 3) (i := i) (if_pos q)]; rfl
      · show 0 ≤ (if i = b then (3 : Int) else md i)
        rw [if_pos q]; decide
    · refine ⟨?_, ?_⟩
      · rw [if_neg q, m3_of (md := fun j => if j = b then (3 : Int) else md j) (md' := md) (i := i) (if_neg q)]
        exact hm i hi
      · show 0 ≤ (if i = b then (3 : Int) else md i)
        rw [if_neg q]; exact (bm.bd i hi).1
  have ct := fun i (hi : i < n) => clr_test h32 (show b < 5 by omega) (show i < 5 by omega)
  have hlv : ∀ i, i < n → ((if i = b then (3 : Int) else md i) ≤ 2 ↔ (clr m b).testBit i = true) := fun i hi => by
    rw [ct i hi]
    by_cases q : i = b
    · rw [if_pos q]; simp [q]
    · rw [if_neg q]
      have l := bm.lv i hi
      unfold liv at l
      have := bm.bd i hi
      constructor
      · intro w; exact ⟨l.mp ⟨by omega, w⟩, q⟩
      · intro w; exact (l.mpr w.1).2
  obtain ⟨io1, io2⟩ := isOver_z (F := F) hn (by omega) hmode1
  unfold f_M_breaks
  rw [e1]
  simp only [bd9, Option.bind_some]
  rw [e2, Option.bind_some, hSO.1, unitThere_z, Option.bind_some, stL_z (by omega) (by omega), Option.bind_some, show (2 : Int32) = zI 2 from rfl, e3]
  simp only [bd6, Option.bind_some]
  rw [i3, stI_z (by omega) (by omega), Option.bind_some]
  by_cases hz : clr m b = 0
  · rw [io2 (fun i hi w => by
      have := (hlv i hi).mp w
      rw [hz, Nat.zero_testBit] at this; cases this), Option.bind_some, if_neg (by decide)]
    refine ⟨_, _, sl, ba, ss, sb, of', be', bs', ma', tot1, kd1, wh1, ov1, un1, _, aO', _, bO, bU, rfl, fun _ => ⟨fun i hi => ?_, hE1, ?_⟩, fun w => absurd hz w⟩
    · rw [(hmode1 i hi).1]
      unfold m3
      rw [if_neg (fun w => by
        have := (hlv i hi).mp w
        rw [hz, Nat.zero_testBit] at this; cases this)]
    · refine hR.break_ hn bE g1 (fun j hj => ⟨a2 j (fun k hk => hj k (by omega)), rfl⟩) (fun j hj => ⟨by rw [updL_at, if_neg hj], rfl⟩) hrec1 (fun w => absurd hz w)
  · obtain ⟨g5, ⟨D0, fr0, fs0, dr0, ds0, hat0⟩, g7⟩ := g4 hz
    generalize hmw : stw n nv A B (clr m b) P Q = mw at *
    obtain ⟨j, hj⟩ := some_bit hz
    have hjn := (g3.2.1 j hj).1
    rw [io1 ⟨j, hjn, (hlv j hjn).mpr hj⟩, Option.bind_some, if_pos rfl]
    have hlvm : Lvm n (clr m b) (upd mode b (zI 3)) := fun i hi => by
      have x := hmode1 i hi
      have y := m3_bd (md := fun j => if j = b then (3 : Int) else md j) x.2
      refine ⟨_, x.1, y.1, y.2, ?_⟩
      have l := hlv i hi
      unfold m3
      dsimp only
      by_cases q : (if i = b then (3 : Int) else md i) ≤ 2
      · rw [if_pos q, l.mp q]; simp; omega
      · rw [if_neg q]
        have : ¬ (clr m b).testBit i = true := fun w => q (l.mpr w)
        simp; simpa using this
    obtain ⟨mode2, D2, fr2, fs2, dr2, ds2, uu2, sl2, ba2, ss2, sb2, of2, be2, bs2, ma2, e4, hm2, hat2, hSO2⟩ := msettle_z (F := F) hn hF hv hA hB h hlvm hat0 ⟨hP, hP2⟩ ⟨hQ0, hQ2⟩ (zL D) sl ba ss sb of' be' bs' ma'
    rw [e4]
    simp only [bd10, Option.bind_some]
    obtain ⟨bO', e5, b1, b2⟩ := behind_z (P := P) (Q := Q) (F := F) hn (by omega) hb hSO2.2.1 hSO2.2.2.1 bO
    rw [e5, Option.bind_some, hSO2.1, unitThere_z, Option.bind_some, stL_z (by omega) (by omega), Option.bind_some]
    have hmds : Mds n nv (clr m b) mw := g5.2.1
    have h01 : ∀ i, i < n → (clr m b).testBit i = true → 0 ≤ md i ∧ md i ≤ mw i := fun i hi hl => ⟨(bm.bd i hi).1, g7 i hi hl⟩
    have hh1 : HadOk n (clr m b) md (upd had b (had b ||| ((1 : Int32) <<< (zI 2 &&& 31)))) := fun i hi hl => by
      have c := (ct i hi).mp hl
      rw [upd_at, if_neg c.2]
      exact hh i hi c.1
    obtain ⟨tot2, kd2, wh2, ov2, un2, had2, e6, hE2, hh2⟩ := raised0_z (F := F) (b := b) hn (by omega) hm2 hmds h01 hh1 hE1 (by rw [List.length_append]; show L.length + 1 ≤ 20; omega)
    have hl0 := sel5 (fun i => decide (md i ≤ 0 ∧ 0 < mw i ∧ mw i ≤ 2)) n
    obtain ⟨tot3, kd3, wh3, ov3, un3, had3, e7, hE3, hh3⟩ := raised1_z (F := F) (b := b) hn (by omega) hm2 hmds h01 hh2 (fun i hi hl => by
      have q : ¬ ((if i = b then (3 : Int) else md i) ≤ 2) := fun w => by
        have := (hlv i hi).mp w
        rw [hl] at this; cases this
      by_cases e : i = b
      · rw [e]; omega
      · rw [if_neg e] at q; omega) hE2 (by
      rw [List.length_append, List.length_append, evs_len]
      unfold rsd
      show L.length + 1 + _ ≤ 25
      omega)
    rw [e6]
    simp only [Option.bind_some]
    rw [e7]
    simp only [Option.bind_some]
    have hrec2 : Rec1 n nv A B (clr m b) P Q b bO' (vp_updL bU b (zL (D2 * Q))) := ⟨D2, _, _, hat2.1.1, hat2.2.1, hat2.sat hv hA hB hQ0, by rw [updL_at, if_pos rfl], b1⟩
    have hR1 := hR.break_ hn bE g1 (aO' := aO') (aU' := vp_updL aU b (zL (D * Q))) (bO' := bO') (bU' := vp_updL bU b (zL (D2 * Q))) (fun j hj => ⟨a2 j (fun k hk => hj k (by omega)), b2 j (fun k hk => hj k (by omega))⟩) (fun j hj => ⟨by rw [updL_at, if_neg hj], by rw [updL_at, if_neg hj]⟩) hrec1 (fun _ => hrec2)
    refine ⟨mode2, _, sl2, ba2, ss2, sb2, of2, be2, bs2, ma2, tot3, kd3, wh3, ov3, un3, had3, aO', _, bO', _, rfl, fun w => absurd w hz, fun _ => ⟨hm2, hh3, ⟨D2, fr2, fs2, dr2, ds2, hat2, rfl, hSO2.2⟩, hE3, ?_⟩⟩
    refine (hR1.add fun e he => ?_).add fun e he => ?_
    · rw [(mem_evs he).1]; omega
    · rw [(mem_evs he).1]; omega
end MBREAKS
