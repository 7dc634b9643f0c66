/-! TEXT: joint -/
section OPS21
variable {n m : Nat} {nv : Nat → Nat → Int} {A B : Int} {F : Nat} {g c y s u pit o now sg tx : Nat → Int32}
/-- the model lays what it has read -/
theorem relay_z (hF : 10 < F) {N : Nat} {rv : Nat → Nat → Int} {rd : Nat → Int32} (hN : N ≤ 5) (h5 : ∀ i, i < N → rv i 5 = 0) (h6 : rv (N - 1) 6 = 0) (hR : RD N rv rd) (now : Nat → Int32) :
    ∃ now', iter (un3 (fb_M_joint_272 (zI (N : Int)) rd)) F ((0 : Int32), now, (0 : Int32)) = some (now', zI (N : Int)) ∧ ∀ i, i < N → ∀ q, q < 7 → now' (7 * i + q) = zI (rv i q) := by
  have loop := iter_for (body := un3 (fb_M_joint_272 (zI (N : Int)) rd)) (F := F) (s := ((0 : Int32), now, (0 : Int32)))
    (fun j z => ∃ t : Nat → Int32, z = (zI (j : Int), t, zI (j : Int)) ∧ ∀ i, i < j → ∀ q, q < 7 → t (7 * i + q) = zI (if i + 1 = j ∧ q = 6 then 0 else rv i q))
    (fun z => ∃ t : Nat → Int32, z = (t, zI (N : Int)) ∧ ∀ i, i < N → ∀ q, q < 7 → t (7 * i + q) = zI (rv i q)) N (by omega) ⟨now, rfl, fun i hi => absurd hi (Nat.not_lt_zero i)⟩ ?_ ?_
  · obtain ⟨z, e, t, rfl, h⟩ := loop
    exact ⟨t, e, h⟩
  · rintro j z hj ⟨t, rfl, h⟩
    have e2 : (2 : Int32) + ((6 : Int32) * zI (j : Int)) = zI ((2 + 6 * j : Nat) : Int) := by
      rw [show (6 : Int32) = zI 6 from rfl, zI_mul, show (2 : Int32) = zI 2 from rfl, zI_add]; rfl
    have b1 : zI ((2 + 6 * j : Nat) : Int) + (1 : Int32) = zI ((2 + 6 * j + 1 : Nat) : Int) := zI_addN _ 1
    have b2 : zI ((2 + 6 * j : Nat) : Int) + (2 : Int32) = zI ((2 + 6 * j + 2 : Nat) : Int) := zI_addN _ 2
    have b3 : zI ((2 + 6 * j : Nat) : Int) + (3 : Int32) = zI ((2 + 6 * j + 3 : Nat) : Int) := zI_addN _ 3
    have b4 : zI ((2 + 6 * j : Nat) : Int) + (4 : Int32) = zI ((2 + 6 * j + 4 : Nat) : Int) := zI_addN _ 4
    have b5 : zI ((2 + 6 * j : Nat) : Int) + (5 : Int32) = zI ((2 + 6 * j + 5 : Nat) : Int) := zI_addN _ 5
    obtain ⟨L1, el, l0, l1, l2, l3, l4, lk⟩ := lays_z (k := j) (by omega) (rd (2 + 6 * j)) (rd (2 + 6 * j + 1)) (rd (2 + 6 * j + 2)) (rd (2 + 6 * j + 3)) (rd (2 + 6 * j + 4)) t
    obtain ⟨L2, ec, l5, l6, lg, lr⟩ := comes_z (k := j) (by omega) L1
    have base : ∀ i, i < j + 1 → ∀ q, q < 7 → ¬ (i + 1 = j ∧ q = 6) → L2 (7 * i + q) = zI (if i + 1 = j + 1 ∧ q = 6 then 0 else rv i q) := by
      intro i hi q hq hne
      by_cases z : i = j
      · subst z
        have r := hR.1 i hj
        rcases (by omega : q = 0 ∨ q = 1 ∨ q = 2 ∨ q = 3 ∨ q = 4 ∨ q = 5 ∨ q = 6) with rfl | rfl | rfl | rfl | rfl | rfl | rfl
        · rw [lr _ (by omega) (by omega) (by omega), l0, if_neg (by omega)]; exact r 0 (by omega)
        · rw [lr _ (by omega) (by omega) (by omega), l1, if_neg (by omega)]; exact r 1 (by omega)
        · rw [lr _ (by omega) (by omega) (by omega), l2, if_neg (by omega)]; exact r 2 (by omega)
        · rw [lr _ (by omega) (by omega) (by omega), l3, if_neg (by omega)]; exact r 3 (by omega)
        · rw [lr _ (by omega) (by omega) (by omega), l4, if_neg (by omega)]; exact r 4 (by omega)
        · rw [l5, if_neg (by omega), h5 i hj]; rfl
        · rw [l6, if_pos ⟨rfl, rfl⟩]; rfl
      · rw [lr _ (by omega) (by omega) (by omega), lk _ (by omega), h i (by omega) q hq, if_neg hne, if_neg (by omega)]
    dsimp only [un3]
    unfold fb_M_joint_272
    rw [if_neg (by rw [zI_le (by omega) (by omega) (by omega) (by omega)]; omega)]
    simp only [nm, e2, b1, b2, b3, b4, b5]
    rw [ldA_z (f := rd) (j := 2 + 6 * j) (by omega) (by omega), Option.bind_some, ldA_z (f := rd) (j := 2 + 6 * j + 1) (by omega) (by omega), Option.bind_some, ldA_z (f := rd) (j := 2 + 6 * j + 2) (by omega) (by omega), Option.bind_some, ldA_z (f := rd) (j := 2 + 6 * j + 3) (by omega) (by omega), Option.bind_some, ldA_z (f := rd) (j := 2 + 6 * j + 4) (by omega) (by omega), Option.bind_some, el, Option.bind_some, ec]
    simp only [bd2, Option.bind_some]
    by_cases q : j = 0
    · rw [if_pos (show zI (j : Int) ≤ (0 : Int32) from (zI_le (a := (j : Int)) (b := 0) (by omega) (by omega) (by omega) (by omega)).mpr (by omega))]
      simp only [fj_M_joint_360, nm, zI_1]
      exact ⟨_, rfl, L2, rfl, fun i hi p hp => base i hi p hp (by omega)⟩
    · have ep : ((7 : Int32) * (zI (j : Int) - (1 : Int32))) + (6 : Int32) = zI ((7 * (j - 1) + 6 : Nat) : Int) := by
        have z : zI (j : Int) - (1 : Int32) = zI ((j - 1 : Nat) : Int) := by rw [i1, zI_sub]; congr 1; omega
        rw [z]; exact e7q (j - 1) 6
      rw [if_neg (show ¬ zI (j : Int) ≤ (0 : Int32) from fun z => absurd ((zI_le (a := (j : Int)) (b := 0) (by omega) (by omega) (by omega) (by omega)).mp z) (by omega)), ldA_z (f := rd) (j := 2 + 6 * j + 5) (by omega) (by omega), Option.bind_some, ep, stI_z (f := L2) (j := 7 * (j - 1) + 6) (by omega) (by omega), Option.bind_some]
      simp only [fj_M_joint_360, nm, zI_1]
      refine ⟨_, rfl, _, rfl, fun i hi p hp => ?_⟩
      rw [upd_at]
      by_cases z : i + 1 = j ∧ p = 6
      · have r := hR.2 i (by omega)
        rw [if_pos (by omega), if_neg (by omega), z.2]
        rw [z.1] at r
        exact r
      · rw [if_neg (by omega)]; exact base i hi p hp z
  · rintro z ⟨t, rfl, h⟩
    dsimp only [un3]
    unfold fb_M_joint_272
    rw [if_pos (Int32.le_refl _)]
    refine ⟨_, rfl, t, rfl, fun i hi q hq => ?_⟩
    rw [h i hi q hq]
    by_cases z : i + 1 = N ∧ q = 6
    · rw [if_pos z, z.2, show i = N - 1 by omega, h6]
    · rw [if_neg z]
theorem op_joint (hJt : Jt n nv A B) (hF : 300 < F) {bn ju jl many mu ml : Int32} (J : JX n nv A B g c y s u o pit bn ju jl) (X : MX n nv A B now many mu ml) {sz ty : Int32} (hT : TX m sg sz tx ty) (kn tn tf th len att wr : Int32) (rd : Nat → Int32) (g2 c2 y2 s2 u2 o2 p2 : Nat → Int32) (b2 a2 l2 : Int32) :
    ∃ (r kn' : Int32) (n' : Nat) (nv' : Nat → Nat → Int) (A' B' : Int) (g' k' y' s' u' o' p' : Nat → Int32) (bn' ju' jl' : Int32) (g3 c3 y3 s3 u3 o3 p3 : Nat → Int32) (b3 a3 l3 : Int32) (tn' tf' : Int32) (now' : Nat → Int32) (len' at' wr' : Int32) (rd' : Nat → Int32),
      f_X_joint F kn g c y s u o pit bn ju jl g2 c2 y2 s2 u2 o2 p2 b2 a2 l2 sg sz tn tf = some (r, kn', g', k', y', s', u', o', p', bn', ju', jl', g3, c3, y3, s3, u3, o3, p3, b3, a3, l3, (0 : Int32), tn', tf') ∧
      f_M_joint F now many mu ml tx ty th len att wr rd = some (r, now', bn', ju', jl', (0 : Int32), (0 : Int32), len', at', wr', rd') ∧ Jt n' nv' A' B' ∧ JX n' nv' A' B' g' k' y' s' u' o' p' bn' ju' jl' ∧ MX n' nv' A' B' now' bn' ju' jl' ∧ (kn' = 0 ∨ kn' = kn ∧ n' = n ∧ nv' = nv ∧ A' = A ∧ B' = B) := by
  obtain ⟨hm, rfl, rfl, ht⟩ := hT
  have ht : Px m sg tx := ht
  have J0 := J
  have hF10 : 10 < F := by omega
  obtain ⟨J1, ho, rfl, rfl, rfl⟩ := J
  obtain ⟨h, rfl, rfl, rfl⟩ := X
  have h0 : ∀ (f : Nat → Int32) (x : Int32), stI f 32 (0 : Int32) x = some (upd f 0 x) := fun f x => stI_z (f := f) (j := 0) (by omega) (by omega)
  have h1 : ∀ (f : Nat → Int32) (x : Int32), stI f 32 (1 : Int32) x = some (upd f 1 x) := fun f x => stI_z (f := f) (j := 1) (by omega) (by omega)
  have g0 : ∀ f : Nat → Int32, ldA f 32 (0 : Int32) = some (f 0) := fun f => ldA_z (f := f) (j := 0) (by omega) (by omega)
  have g1 : ∀ f : Nat → Int32, ldA f 32 (1 : Int32) = some (f 1) := fun f => ldA_z (f := f) (j := 1) (by omega) (by omega)
  have bad : ∀ (f : Nat) (X1 : Option (Int32 × Int32 × Int32 × (Nat → Int32) × (Nat → Int32) × (Nat → Int32) × (Nat → Int32) × (Nat → Int32) × (Nat → Int32) × (Nat → Int32) × Int32 × Int32 × Int32)) (Z1 : Option (Int32 × (Nat → Int32) × Int32 × Int32 × Int32 × Int32 × Int32 × Int32 × Int32 × Int32 × (Nat → Int32))), f ≤ m →
      (∃ (nx : Int32) (g3 c3 y3 s3 u3 o3 p3 : Nat → Int32) (b3 a3 l3 : Int32), X1 = some (zI (f : Int), nx, zI (f : Int), g3, c3, y3, s3, u3, o3, p3, b3, a3, l3)) → (∃ (l1 at1 : Int32) (rd1 : Nat → Int32), Z1 = fj_M_joint_230 F l1 now (zI (n : Int)) (zI A) (zI B) (0 : Int32) (0 : Int32) (zI (m : Int)) at1 (zI (f : Int)) rd1) →
      ∃ (r kn' : Int32) (n' : Nat) (nv' : Nat → Nat → Int) (A' B' : Int) (g' k' y' s' u' o' p' : Nat → Int32) (bn' ju' jl' : Int32) (g3 c3 y3 s3 u3 o3 p3 : Nat → Int32) (b3 a3 l3 : Int32) (tn' tf' : Int32) (now' : Nat → Int32) (len' at' wr' : Int32) (rd' : Nat → Int32),
      (bd13 X1 fun r_8 x1 x2 x3 x4 x5 x6 x7 x8 x9 x10 x11 x12 => if r_8 < (0 : Int32) then bd10 (f_J_copyAll F g c y s u o pit (zI (n : Int)) (zI A) (zI B) x3 x4 x5 x6 x7 x8 x9 x10 x11 x12) fun y1 y2 y3 y4 y5 y6 y7 y8 y9 y10 => some (y8, (0 : Int32), y1, y2, y3, y4, y5, y6, y7, y8, y9, y10, x3, x4, x5, x6, x7, x8, x9, x10, x11, x12, (0 : Int32), x1, x2) else some (((-1 : Int32) - r_8), kn, g, c, y, s, u, o, pit, zI (n : Int), zI A, zI B, x3, x4, x5, x6, x7, x8, x9, x10, x11, x12, (0 : Int32), x1, x2)) = some (r, kn', g', k', y', s', u', o', p', bn', ju', jl', g3, c3, y3, s3, u3, o3, p3, b3, a3, l3, (0 : Int32), tn', tf') ∧
      Z1 = some (r, now', bn', ju', jl', (0 : Int32), (0 : Int32), len', at', wr', rd') ∧ Jt n' nv' A' B' ∧ JX n' nv' A' B' g' k' y' s' u' o' p' bn' ju' jl' ∧ MX n' nv' A' B' now' bn' ju' jl' ∧ (kn' = 0 ∨ kn' = kn ∧ n' = n ∧ nv' = nv ∧ A' = A ∧ B' = B) := by
    rintro f X1 Z1 hf ⟨nx, g3, c3, y3, s3, u3, o3, p3, b3, a3, l3, rfl⟩ ⟨l1, at1, rd1, rfl⟩
    refine ⟨(-1 : Int32) - zI (f : Int), kn, n, nv, A, B, g, c, y, s, u, o, pit, zI (n : Int), zI A, zI B, g3, c3, y3, s3, u3, o3, p3, b3, a3, l3, nx, zI (f : Int), now, zI (m : Int), at1, zI (f : Int), rd1, ?_, ?_, hJt, ⟨J1, ho, rfl, rfl, rfl⟩, ⟨h, rfl, rfl, rfl⟩, Or.inr ⟨rfl, rfl, rfl, rfl, rfl⟩⟩
    · simp only [bd13, Option.bind_some]
      rw [if_neg (show ¬ zI (f : Int) < (0 : Int32) from fun z => absurd ((zI_lt (a := (f : Int)) (b := 0) (by omega) (by omega) (by omega) (by omega)).mp z) (by omega))]
    · unfold fj_M_joint_230
      rw [if_neg (fz_ne (by omega))]
  unfold f_X_joint f_T_readJoint f_M_joint f_M_begin
  simp only [bd4, Option.bind_some]
  rcases rn_zz ht hm hF10 (x1 := (1 : Int32)) (l2 := (0 : Int32)) (l3 := (2 : Int32)) (d := 1) (a := 0) (lo := 0) (hi := 2) rfl rfl rfl (Or.inl rfl) (by omega) (by omega) (by omega) with ⟨v, hv, ha0, c0, d0⟩ | ⟨f, r, nx, r', nx', hf, c0, d0⟩
  rotate_left
  · have RB := fun l1 l2 l3 sz nx => rn_bad (sg := sg) (F := F) hF10 (show f ≤ 80 by omega) l1 l2 l3 sz nx
    have DB := fun l1 l2 l3 sz nx => dg_bad (tx := tx) (F := F) hF10 (show f ≤ 80 by omega) l1 l2 l3 sz nx
    refine bad f _ _ hf ?_ ?_
    · rw [show f_T_readNumber F (1 : Int32) (0 : Int32) (2 : Int32) sg (zI (m : Int)) (0 : Int32) (-1 : Int32) = _ from c0]
      simp only [RB, bd3, Option.bind_some]
      obtain ⟨nx1, g5, k5, y5, s5, u5, o5, p5, b5, hb5, e5⟩ := bolt_bad (sg := sg) hF10 (show f ≤ 80 by omega) (show 0 ≤ 5 by omega) (zI (m : Int)) nx g2 c2 y2 s2 u2 o2 p2
      rw [show f_T_readBolt F sg (zI (m : Int)) nx (zI (f : Int)) g2 c2 y2 s2 u2 o2 p2 (0 : Int32) = _ from e5]
      simp only [bd10, Option.bind_some]
      obtain ⟨G, rfl⟩ : ∃ x, F = x + 1 := ⟨F - 1, by omega⟩
      rw [iter_en (F := G) (cl_stop (by omega) _ _ _ _ _ _ _ _ _ _ _)]
      simp only [Option.bind_some]
      exact ⟨_, _, _, _, _, _, _, _, _, _, _, rfl⟩
    · rw [show f_M_digits F (1 : Int32) (0 : Int32) (2 : Int32) tx (zI (m : Int)) (0 : Int32) (-1 : Int32) = _ from d0]
      simp only [DB, bd3, Option.bind_some, h0, h1]
      obtain ⟨G, rfl⟩ : ∃ x, F = x + 1 := ⟨F - 1, by omega⟩
      rw [iter_en (F := G) (ml_stop (by omega) _ _ _ _)]
      simp only [Option.bind_some]
      exact ⟨_, _, _, rfl⟩
  rcases rn_zz ht hm hF10 (x1 := (1 : Int32)) (l2 := (0 : Int32)) (l3 := (2 : Int32)) (d := 1) (a := 0 + 1) (lo := 0) (hi := 2) rfl rfl rfl (Or.inl rfl) (by omega) (by omega) (by omega) with ⟨v', hv', ha1, c1, d1⟩ | ⟨f, r, nx, r', nx', hf, c1, d1⟩
  rotate_left
  · refine bad f _ _ hf ?_ ?_
    · rw [show f_T_readNumber F (1 : Int32) (0 : Int32) (2 : Int32) sg (zI (m : Int)) (0 : Int32) (-1 : Int32) = _ from c0]
      simp only [bd3, Option.bind_some]
      rw [c1]
      simp only [Option.bind_some]
      obtain ⟨nx1, g5, k5, y5, s5, u5, o5, p5, b5, hb5, e5⟩ := bolt_bad (sg := sg) hF10 (show f ≤ 80 by omega) (show 0 ≤ 5 by omega) (zI (m : Int)) nx g2 c2 y2 s2 u2 o2 p2
      rw [show f_T_readBolt F sg (zI (m : Int)) nx (zI (f : Int)) g2 c2 y2 s2 u2 o2 p2 (0 : Int32) = _ from e5]
      simp only [bd10, Option.bind_some]
      obtain ⟨G, rfl⟩ : ∃ x, F = x + 1 := ⟨F - 1, by omega⟩
      rw [iter_en (F := G) (cl_stop (by omega) _ _ _ _ _ _ _ _ _ _ _)]
      simp only [Option.bind_some]
      exact ⟨_, _, _, _, _, _, _, _, _, _, _, rfl⟩
    · rw [show f_M_digits F (1 : Int32) (0 : Int32) (2 : Int32) tx (zI (m : Int)) (0 : Int32) (-1 : Int32) = _ from d0]
      simp only [bd3, Option.bind_some, h0]
      rw [d1]
      simp only [Option.bind_some, h1]
      obtain ⟨G, rfl⟩ : ∃ x, F = x + 1 := ⟨F - 1, by omega⟩
      rw [iter_en (F := G) (ml_stop (by omega) _ _ _ _)]
      simp only [Option.bind_some]
      exact ⟨_, _, _, rfl⟩
  -- the first bolt
  have mstep : ∀ (a : Nat) (rd1 : Nat → Int32) R, fj_M_joint_133 F (0 : Int32) (zI ((2 : Nat) : Int)) tx (zI (m : Int)) (zI (a : Int)) (-1 : Int32) rd1 = R → un4 (fb_M_joint_37 F tx (zI (m : Int))) ((0 : Int32), zI (a : Int), (-1 : Int32), rd1) = R := by
    intro a rd1 R hR
    have e : fj_M_joint_60 F (0 : Int32) tx (zI (m : Int)) (zI (a : Int)) (-1 : Int32) rd1 = R := by
      unfold fj_M_joint_60
      simp only [nm]
      rw [if_pos (Int32.le_refl _)]
      unfold fj_M_joint_93
      rw [if_pos rfl, if_pos (Int32.le_refl _)]
      exact hR
    dsimp only [un4]
    unfold fb_M_joint_37
    rw [if_pos rfl]
    by_cases q : zI (a : Int) < zI (m : Int)
    · rw [if_pos q]; exact e
    · rw [if_neg q, if_pos rfl]; exact e
  have ez : ((0 : Nat) : Int) = (0 : Int) := rfl
  have J00 : JOk 0 nv g2 c2 y2 s2 u2 p2 := ⟨fun i hi => absurd hi (Nat.not_lt_zero i), fun i hi => absurd hi (Nat.not_lt_zero i), fun i hi => absurd hi (Nat.not_lt_zero i), fun i hi => absurd hi (Nat.not_lt_zero i), fun i hi => absurd hi (Nat.not_lt_zero i), fun i hi => absurd hi (Nat.not_lt_zero (i + 1))⟩
  rcases bolt_z ht hm hF10 (a := 0 + 1 + 1) (n := 0) (nv := nv) (g := g2) (c := c2) (y := y2) (s := s2) (u := u2) (pit := p2) (o := o2) (b := 2) (by omega) (by omega) (by omega) J00 (fun i hi => absurd hi (Nat.not_lt_zero i)) (0 : Int32) (upd (upd rd 0 (zI v)) 1 (zI v')) with ⟨v0, v1, v2, v3, v4, a', g', k', y', s', u', o', p', rd', hfa, ha', haa, e1, J1', ho', em, hq, hrd⟩ | ⟨f, hf, ⟨nx1, g5, k5, y5, s5, u5, o5, p5, b5, hb5, e1⟩, ⟨l1', at', rd', em⟩⟩
  rotate_left
  · refine bad f _ _ hf ?_ ?_
    · rw [show f_T_readNumber F (1 : Int32) (0 : Int32) (2 : Int32) sg (zI (m : Int)) (0 : Int32) (-1 : Int32) = _ from c0]
      simp only [bd3, Option.bind_some]
      rw [c1]
      simp only [Option.bind_some]
      rw [show f_T_readBolt F sg (zI (m : Int)) (zI ((0 + 1 + 1 : Nat) : Int)) (-1 : Int32) g2 c2 y2 s2 u2 o2 p2 (0 : Int32) = _ from e1]
      simp only [bd10, Option.bind_some]
      obtain ⟨G, rfl⟩ : ∃ x, F = x + 1 := ⟨F - 1, by omega⟩
      rw [iter_en (F := G) (cl_stop (by omega) _ _ _ _ _ _ _ _ _ _ _)]
      simp only [Option.bind_some]
      exact ⟨_, _, _, _, _, _, _, _, _, _, _, rfl⟩
    · rw [show f_M_digits F (1 : Int32) (0 : Int32) (2 : Int32) tx (zI (m : Int)) (0 : Int32) (-1 : Int32) = _ from d0]
      simp only [bd3, Option.bind_some, h0]
      rw [d1]
      simp only [Option.bind_some, h1]
      obtain ⟨G, hG⟩ : ∃ x, F = x + 2 := ⟨F - 2, by omega⟩
      have hs := mstep (0 + 1 + 1) _ _ em
      have hit : iter (un4 (fb_M_joint_37 F tx (zI (m : Int)))) F ((0 : Int32), zI ((0 + 1 + 1 : Nat) : Int), (-1 : Int32), upd (upd rd 0 (zI v)) 1 (zI v')) = some (l1', at', zI (f : Int), rd') := by
        have := iter_st (F := G + 1) hs (iter_en (F := G) (ml_stop (F := F) (by omega) _ _ _ _))
        rw [show G + 1 + 1 = F by omega] at this
        exact this
      rw [hit]
      simp only [Option.bind_some]
      exact ⟨_, _, _, rfl⟩
  have hnew : Rdy (0 + 1) (nvAdd 0 nv v0 v1 v2 v3 v4) g' k' y' s' u' o' p' rd' := by
    have ok : NvOk (0 + 1) (nvAdd 0 nv v0 v1 v2 v3 v4) := nvAdd_ok (n := 0) (nv := nv) (fun i hi => absurd hi (Nat.not_lt_zero i)) hfa
    refine ⟨by omega, ok, fun i hi => ?_, ?_, J1', ho', fun i hi q hq5 => ?_, fun i hi => absurd hi (by omega)⟩
    · rw [show i = 0 by omega]; exact nvAdd_new 5
    · exact nvAdd_new 6
    · rw [show i = 0 by omega]; exact hq q hq5
  obtain ⟨G, hG⟩ : ∃ x, F = x + 1 := ⟨F - 1, by omega⟩
  have hl := lock ht hm hF10 4 F G (by omega) (by omega) 0 a' _ g' k' y' s' u' o' p' rd' (by omega) ha' hnew
  have hs := mstep (0 + 1 + 1) _ _ em
  have r0 : rd' 0 = zI v := by rw [hrd 0 (by omega), upd_at, if_neg (by omega), upd_at, if_pos rfl]
  have r1 : rd' 1 = zI v' := by rw [hrd 1 (by omega), upd_at, if_pos rfl]
  have hcl : ∀ R, (bd10 (iter (un11 (fb_T_readJoint_44 F sg (zI (m : Int)))) F (zI ((0 : Nat) : Int), zI (a' : Int), (-1 : Int32), g', k', y', s', u', o', p', zI ((0 + 1 : Nat) : Int))) fun x1 x2 x3 x4 x5 x6 x7 x8 x9 x10 => some (x2, x1, x2, x3, x4, x5, x6, x7, x8, x9, x10, zI v, zI v')) = R → (bd3 (f_T_readNumber F (1 : Int32) (0 : Int32) (2 : Int32) sg (zI (m : Int)) (0 : Int32) (-1 : Int32)) fun r_20 T_next_20 T_fault_20 => bd3 (f_T_readNumber F (1 : Int32) (0 : Int32) (2 : Int32) sg (zI (m : Int)) T_next_20 T_fault_20) fun r_31 T_next_31 T_fault_31 => bd10 (f_T_readBolt F sg (zI (m : Int)) T_next_31 T_fault_31 g2 c2 y2 s2 u2 o2 p2 (0 : Int32)) fun x1 x2 x3 x4 x5 x6 x7 x8 x9 x10 => bd10 (iter (un11 (fb_T_readJoint_44 F sg (zI (m : Int)))) F ((0 : Int32), x1, x2, x3, x4, x5, x6, x7, x8, x9, x10)) fun x1 x2 x3 x4 x5 x6 x7 x8 x9 x10 => some (x2, x1, x2, x3, x4, x5, x6, x7, x8, x9, x10, r_20, r_31)) = R := by
    intro R hR
    rw [show f_T_readNumber F (1 : Int32) (0 : Int32) (2 : Int32) sg (zI (m : Int)) (0 : Int32) (-1 : Int32) = _ from c0]
    simp only [bd3, Option.bind_some]
    rw [c1]
    simp only [Option.bind_some]
    rw [show f_T_readBolt F sg (zI (m : Int)) (zI ((0 + 1 + 1 : Nat) : Int)) (-1 : Int32) g2 c2 y2 s2 u2 o2 p2 (0 : Int32) = _ from e1]
    exact hR
  have hmo : ∀ (l1 at1 wr1 : Int32) (rd1 : Nat → Int32), iter (un4 (fb_M_joint_37 F tx (zI (m : Int)))) G (zI ((0 + 1 : Nat) : Int), zI (a' : Int), (-1 : Int32), rd') = some (l1, at1, wr1, rd1) → iter (un4 (fb_M_joint_37 F tx (zI (m : Int)))) F ((0 : Int32), zI ((0 + 1 + 1 : Nat) : Int), (-1 : Int32), upd (upd rd 0 (zI v)) 1 (zI v')) = some (l1, at1, wr1, rd1) := by
    intro l1 at1 wr1 rd1 hi
    have := iter_st (F := G) hs hi
    rw [← hG] at this
    exact this
  rcases hl with ⟨N, rv, nx, g4, k4, y4, s4, u4, o4, p4, rd4, at4, q1, q2, q3, q4, q5⟩ | ⟨f, nx, g4, k4, y4, s4, u4, o4, p4, rd4, b4, l4, at4, q1, q2, q3⟩
  · obtain ⟨w1, w2, w3, w4, w5, w6, w7⟩ := q1
    have hJt4 : Jt N rv v v' := ⟨w1.2, w2, hv, hv'⟩
    have JX4 : JX N rv v v' g4 k4 y4 s4 u4 o4 p4 (zI (N : Int)) (zI v) (zI v') := ⟨w5, w6, rfl, rfl, rfl⟩
    obtain ⟨g6, c6, y6, s6, u6, o6, p6, ecp, JX6, -⟩ := copyAll_z (F := F) hJt4 (by omega) JX4 g c y s u o pit (zI (n : Int)) (zI A) (zI B)
    obtain ⟨now6, er, hnow⟩ := relay_z (F := F) hF10 w1.2 w3 w4 w7 now
    refine ⟨zI (N : Int), 0, N, rv, v, v', g6, c6, y6, s6, u6, o6, p6, zI (N : Int), zI v, zI v', g4, k4, y4, s4, u4, o4, p4, zI (N : Int), zI v, zI v', nx, (-1 : Int32), now6, zI (m : Int), at4, (-1 : Int32), rd4, ?_, ?_, hJt4, JX6, ⟨hnow, rfl, rfl, rfl⟩, Or.inl rfl⟩
    · rw [hcl _ rfl, q4]
      simp only [bd10, bd13, Option.bind_some]
      rw [if_pos (show (-1 : Int32) < (0 : Int32) by decide), ecp]
      simp only [Option.bind_some]
    · rw [show f_M_digits F (1 : Int32) (0 : Int32) (2 : Int32) tx (zI (m : Int)) (0 : Int32) (-1 : Int32) = _ from d0]
      simp only [bd3, Option.bind_some, h0]
      rw [d1]
      simp only [Option.bind_some, h1]
      rw [hmo _ _ _ _ q5]
      simp only [Option.bind_some]
      unfold fj_M_joint_230
      rw [if_pos rfl, g0, g1, Option.bind_some, Option.bind_some, er, q2, q3, r0, r1]
      rfl
  · refine bad f _ _ q1 ⟨nx, g4, k4, y4, s4, u4, o4, p4, b4, zI v, zI v', ?_⟩ ⟨l4, at4, rd4, ?_⟩
    · rw [hcl _ rfl, q2]
      rfl
    · rw [show f_M_digits F (1 : Int32) (0 : Int32) (2 : Int32) tx (zI (m : Int)) (0 : Int32) (-1 : Int32) = _ from d0]
      simp only [bd3, Option.bind_some, h0]
      rw [d1]
      simp only [Option.bind_some, h1]
      rw [hmo _ _ _ _ q3]
      rfl
end OPS21
