theorem zI_addN (a b : Nat) : zI (a : Int) + zI (b : Int) = zI ((a + b : Nat) : Int) := by rw [zI_add]; rfl
theorem zI_mul7 (a : Nat) : (7 : Int32) * zI (a : Int) = zI ((7 * a : Nat) : Int) := by rw [show (7 : Int32) = zI 7 from rfl, zI_mul]; rfl
def gW (nv : Nat → Nat → Int) (kk : Nat → Int) (n r : Nat) : Int := sm (fun i => nv i 6) (be kk n (r + 1)) - sm (fun i => nv i 6) (be kk n r)
def gT (nv : Nat → Nat → Int) (kk : Nat → Int) (n : Nat) (A B : Int) (r : Nat) : Int := (A + B) * gW nv kk n r
def gg (kk : Nat → Int) (n r : Nat) : Int := kk (be kk n r)
def gv (nv : Nat → Nat → Int) (kk : Nat → Int) (n : Nat) (A : Int) (r : Nat) : Int := if r + 1 = (bl kk n).length then 1 else A * gW nv kk n r
def gu (rr : Nat → Int) (kk : Nat → Int) (n : Nat) (r : Nat) : Int := if r + 1 = (bl kk n).length then 0 else rr (be kk n (r + 1)) - rr (be kk n r)
section MS2
variable {n : Nat} {now mode : Nat → Int32} {nv : Nat → Nat → Int} {md : Nat → Int} {F : Nat} {A B : Int} {off : Nat → Int64} {rr : Nat → Int} {bea : Nat → Int32}
theorem gW_bd (hv : NvOk n nv) {r : Nat} (h : r + 1 < (bl (kM nv md) n).length) : 0 ≤ gW nv (kM nv md) n r ∧ gW nv (kM nv md) n r ≤ 2 * ((be (kM nv md) n (r + 1) : Int) - (be (kM nv md) n r : Int)) := by
  have h1 := be_lt (k := kM nv md) (n := n) (i := r) (j := r + 1) h (by omega)
  have h2 := (be_mem (k := kM nv md) (n := n) (j := r + 1) h).1
  unfold gW
  generalize be (kM nv md) n (r + 1) = c at *
  generalize be (kM nv md) n r = a at *
  obtain ⟨d, rfl⟩ : ∃ d, c = a + d := ⟨c - a, by omega⟩
  have key : ∀ d, a + d < n → 0 ≤ sm (fun i => nv i 6) (a + d) - sm (fun i => nv i 6) a ∧ sm (fun i => nv i 6) (a + d) - sm (fun i => nv i 6) a ≤ 2 * (d : Int) := by
    intro d
    induction d with
    | zero => intro _; simp
    | succ d ih =>
      intro hd
      have i1 := ih (by omega)
      have i2 := hv (a + d) (by omega)
      have e : sm (fun i => nv i 6) (a + (d + 1)) = sm (fun i => nv i 6) (a + d) + nv (a + d) 6 := rfl
      rw [e]
      omega
  have := key d h2
  omega
/-- row r of the matrix, and what stands behind it -/
def RowOk (b : Nat) (T g v u : Nat → Int) (m : Nat → Int64) (r : Nat) : Prop := (∀ c, c < b → m (7 * r + c) = zL (Hm b T g r c)) ∧ m (7 * r + 5) = zL (v r) ∧ m (7 * r + 6) = zL (u r)
theorem fillT_z (hF : 10 < F) {r : Nat} (hr : r < 5) {t s : Int32} {x : Int} (hx : t.toInt64 * s.toInt64 = zL x) {upp low : Int32} (hul : upp + low = t) (m : Nat → Int64) :
    ∃ m', iter (un2 (fb_M_layMatrix_180 (zI (r : Int)) (zI ((7 * r : Nat) : Int)) s upp low)) F ((0 : Int32), m) = some m' ∧ ∀ y, m' y = if 7 * r ≤ y ∧ y ≤ 7 * r + r then zL x else m y := by
  have loop := iter_for (body := un2 (fb_M_layMatrix_180 (zI (r : Int)) (zI ((7 * r : Nat) : Int)) s upp low)) (F := F) (s := ((0 : Int32), m))
    (fun c z => ∃ f, z = (zI (c : Int), f) ∧ ∀ y, f y = if 7 * r ≤ y ∧ y < 7 * r + c then zL x else m y) (fun q => ∀ y, q y = if 7 * r ≤ y ∧ y ≤ 7 * r + r then zL x else m y) (r + 1) (by omega) ⟨m, rfl, fun y => by rw [if_neg (by omega)]⟩ ?_ ?_
  · obtain ⟨q, e, h⟩ := loop
    exact ⟨q, e, h⟩
  · rintro c z hc ⟨f, rfl, hf⟩
    simp only [un2, fb_M_layMatrix_180]
    rw [if_neg (by rw [zI_lt (by omega) (by omega) (by omega) (by omega)]; omega), zI_addN, stL_z (by omega) (by omega), Option.bind_some]
    simp only [nm, zI_1, hul, hx]
    refine ⟨_, rfl, _, rfl, fun y => ?_⟩
    rw [updL_at, hf]
    by_cases q : y = 7 * r + c
    · rw [if_pos q, if_pos (by omega)]
    · rw [if_neg q]
      by_cases p : 7 * r ≤ y ∧ y < 7 * r + c
      · rw [if_pos p, if_pos (by omega)]
      · rw [if_neg p, if_neg (by omega)]
  · rintro z ⟨f, rfl, hf⟩
    simp only [un2, fb_M_layMatrix_180]
    rw [if_pos (by rw [zI_lt (by omega) (by omega) (by omega) (by omega)]; omega)]
    refine ⟨_, rfl, fun y => ?_⟩
    rw [hf]
    by_cases p : 7 * r ≤ y ∧ y < 7 * r + (r + 1)
    · rw [if_pos p, if_pos (by omega)]
    · rw [if_neg p, if_neg (by omega)]
theorem ones_z (hF : 10 < F) {r b : Nat} (hr : r < 5) (hb : b ≤ 5) (m : Nat → Int64) :
    ∃ m', iter (un2 (fb_M_layMatrix_120 (zI ((7 * r : Nat) : Int)) (zI (b : Int)))) F ((0 : Int32), m) = some m' ∧ ∀ y, m' y = if 7 * r ≤ y ∧ y < 7 * r + b then zL 1 else m y := by
  have loop := iter_for (body := un2 (fb_M_layMatrix_120 (zI ((7 * r : Nat) : Int)) (zI (b : Int)))) (F := F) (s := ((0 : Int32), m))
    (fun c z => ∃ f, z = (zI (c : Int), f) ∧ ∀ y, f y = if 7 * r ≤ y ∧ y < 7 * r + c then zL 1 else m y) (fun q => ∀ y, q y = if 7 * r ≤ y ∧ y < 7 * r + b then zL 1 else m y) b (by omega) ⟨m, rfl, fun y => by rw [if_neg (by omega)]⟩ ?_ ?_
  · obtain ⟨q, e, h⟩ := loop
    exact ⟨q, e, h⟩
  · rintro c z hc ⟨f, rfl, hf⟩
    simp only [un2, fb_M_layMatrix_120]
    rw [if_neg (by rw [zI_le (by omega) (by omega) (by omega) (by omega)]; omega), zI_addN, stL_z (by omega) (by omega), Option.bind_some]
    simp only [nm, zI_1]
    refine ⟨_, rfl, _, rfl, fun y => ?_⟩
    rw [updL_at, hf]
    by_cases q : y = 7 * r + c
    · rw [if_pos q, if_pos (by omega)]; rfl
    · rw [if_neg q]
      by_cases p : 7 * r ≤ y ∧ y < 7 * r + c
      · rw [if_pos p, if_pos (by omega)]
      · rw [if_neg p, if_neg (by omega)]
  · rintro z ⟨f, rfl, hf⟩
    simp only [un2, fb_M_layMatrix_120]
    rw [if_pos (Int32.le_refl _)]
    exact ⟨_, rfl, hf⟩
set_option maxHeartbeats 4000000 in
theorem matrix_z (hn : n ≤ 5) (hF : 40 < F) (hA : 0 ≤ A ∧ A ≤ 2) (hB : 0 ≤ B ∧ B ≤ 2) (hv : NvOk n nv) (h : ∀ i, i < n → ∀ q, q < 7 → now (7 * i + q) = zI (nv i q)) (hm : ∀ i, i < n → mode i = zI (md i) ∧ 0 ≤ md i ∧ md i ≤ 3) (ho : ∀ i, i < n → off i = zL (rr i))
    (hb0 : 0 < (bl (kM nv md) n).length) (hbe : ∀ j, j < (bl (kM nv md) n).length → bea j = zI (be (kM nv md) n j : Int)) (m0 : Nat → Int64) (hz : ∀ x, x < 35 → m0 x = zL 0) :
    ∃ m', iter (un2 (fb_M_layMatrix_84 F now (zI A) (zI B) mode off bea (zI ((bl (kM nv md) n).length : Int)))) F ((0 : Int32), m0) = some m' ∧
      ∀ r, r < (bl (kM nv md) n).length → RowOk (bl (kM nv md) n).length (gT nv (kM nv md) n A B) (gg (kM nv md) n) (gv nv (kM nv md) n A) (gu rr (kM nv md) n) m' r := by
  have hbn := bl_len (kM nv md) n
  generalize hbe' : (bl (kM nv md) n).length = b at *
  have loop := iter_for (body := un2 (fb_M_layMatrix_84 F now (zI A) (zI B) mode off bea (zI (b : Int)))) (F := F) (s := ((0 : Int32), m0))
    (fun r s => ∃ f, s = (zI (r : Int), f) ∧ (∀ x, 7 * r ≤ x → x < 35 → f x = zL 0) ∧ ∀ r', r' < r → RowOk b (gT nv (kM nv md) n A B) (gg (kM nv md) n) (gv nv (kM nv md) n A) (gu rr (kM nv md) n) f r')
    (fun q => ∀ r', r' < b → RowOk b (gT nv (kM nv md) n A B) (gg (kM nv md) n) (gv nv (kM nv md) n A) (gu rr (kM nv md) n) q r') b (by omega) ⟨m0, rfl, fun x _ hx => hz x hx, fun r' hr => absurd hr (by omega)⟩ ?_ ?_
  · obtain ⟨q, e, hq⟩ := loop
    exact ⟨q, e, hq⟩
  · rintro r s hr ⟨f, rfl, hf0, hf⟩
    have keep : ∀ f' : Nat → Int64, (∀ y, y < 7 * r → f' y = f y) → ∀ r', r' < r → RowOk b (gT nv (kM nv md) n A B) (gg (kM nv md) n) (gv nv (kM nv md) n A) (gu rr (kM nv md) n) f' r' := by
      intro f' hf' r' hr'
      obtain ⟨a1, a2, a3⟩ := hf r' hr'
      exact ⟨fun c hc => by rw [hf' _ (by omega)]; exact a1 c hc, by rw [hf' _ (by omega)]; exact a2, by rw [hf' _ (by omega)]; exact a3⟩
    simp only [un2, fb_M_layMatrix_84, nm]
    rw [if_neg (by rw [zI_le (by omega) (by omega) (by omega) (by omega)]; omega), zI_mul7, i1, zI_sub]
    by_cases hlast : r + 1 = b
    · rw [if_pos (by congr 1; omega)]
      unfold fj_M_layMatrix_112
      rw [if_neg (by rw [i0, zI_eq (by omega) (by omega) (by omega) (by omega)]; omega)]
      obtain ⟨m1, e1, h1⟩ := ones_z (F := F) (r := r) (b := b) (by omega) (by omega) (by omega) f
      rw [e1, Option.bind_some, show (5 : Int32) = zI ((5 : Nat) : Int) from rfl, zI_addN, stL_z (by omega) (by omega), Option.bind_some]
      simp only [fj_M_layMatrix_315, nm, zI_1]
      refine ⟨_, rfl, _, rfl, fun x hx hx2 => ?_, fun r' hr' => ?_⟩
      · rw [updL_at, if_neg (by omega), h1, if_neg (by omega)]; exact hf0 x (by omega) hx2
      · by_cases q : r' = r
        · subst q
          refine ⟨fun c hc => ?_, ?_, ?_⟩
          · rw [updL_at, if_neg (by omega), h1, if_pos (by omega)]
            unfold Hm
            rw [if_pos hlast]
          · rw [updL_at, if_pos rfl]
            unfold gv
            rw [hbe', if_pos hlast]; rfl
          · rw [updL_at, if_neg (by omega), h1, if_neg (by omega), hf0 _ (by omega) (by omega)]
            unfold gu
            rw [hbe', if_pos hlast]
        · exact keep _ (fun y hy => by rw [updL_at, if_neg (by omega), h1, if_neg (by omega)]) r' (by omega)
    · rw [if_neg (by rw [zI_eq (by omega) (by omega) (by omega) (by omega)]; omega)]
      unfold fj_M_layMatrix_112
      rw [if_pos rfl]
      have m1 := be_mem (k := kM nv md) (n := n) (j := r) (by omega)
      have m2 := be_mem (k := kM nv md) (n := n) (j := r + 1) (by omega)
      have hW := gW_bd (md := md) hv (r := r) (by omega)
      have hlt := be_lt (k := kM nv md) (n := n) (i := r) (j := r + 1) (by omega) (by omega)
      have hx : (zI A + zI B).toInt64 * (zI (gW nv (kM nv md) n r)).toInt64 = zL (gT nv (kM nv md) n A B r) := by
        rw [zI_add, zI_l (by omega) (by omega), zI_l (by omega) (by omega), zL_mul]; rfl
      obtain ⟨f1, e1, h1⟩ := fillT_z (F := F) (by omega) (show r < 5 by omega) hx (upp := zI A) (low := zI B) rfl f
      have hg1 := give_z (md := md) hn h hm m1.1 ((kM_pos hv m1.1).mp m1.2)
      have hg2 := give_z (md := md) hn h hm m2.1 ((kM_pos hv m2.1).mp m2.2)
      have hk1 := kM_bd (md := md) hv _ m1.1
      have hk2 := kM_bd (md := md) hv _ m2.1
      have L1 : ldA bea 5 (zI (r : Int)) = some (zI (be (kM nv md) n r : Int)) := by rw [ldA_z (by omega) (by omega), hbe r (by omega)]
      have L2 : ldA bea 5 (zI ((r + 1 : Nat) : Int)) = some (zI (be (kM nv md) n (r + 1) : Int)) := by rw [ldA_z (by omega) (by omega), hbe (r + 1) (by omega)]
      have O1 : ldA off 5 (zI (be (kM nv md) n r : Int)) = some (zL (rr (be (kM nv md) n r))) := by rw [ldA_z (by omega) (by omega), ho _ m1.1]
      have O2 : ldA off 5 (zI (be (kM nv md) n (r + 1) : Int)) = some (zL (rr (be (kM nv md) n (r + 1)))) := by rw [ldA_z (by omega) (by omega), ho _ m2.1]
      have P1 := pitches_z (F := F) hn (by omega) hv h (a := be (kM nv md) n r) (c := be (kM nv md) n (r + 1)) (by omega) (by omega)
      rw [show sm (fun i => nv i 6) (be (kM nv md) n (r + 1)) - sm (fun i => nv i 6) (be (kM nv md) n r) = gW nv (kM nv md) n r from rfl] at P1
      have A1 := fun f : Nat → Int64 => ldA_z (f := f) (j := 7 * r + r) (n := 35) (by omega) (by omega)
      have A2 := fun f : Nat → Int64 => ldA_z (f := f) (j := 7 * r + r + 1) (n := 35) (by omega) (by omega)
      have S1 := fun (f : Nat → Int64) (x : Int64) => stL_z (f := f) (x := x) (j := 7 * r + r) (n := 35) (by omega) (by omega)
      have S2 := fun (f : Nat → Int64) (x : Int64) => stL_z (f := f) (x := x) (j := 7 * r + r + 1) (n := 35) (by omega) (by omega)
      have S3 := fun (f : Nat → Int64) (x : Int64) => stL_z (f := f) (x := x) (j := 7 * r + 5) (n := 35) (by omega) (by omega)
      have S4 := fun (f : Nat → Int64) (x : Int64) => stL_z (f := f) (x := x) (j := 7 * r + 5 + 1) (n := 35) (by omega) (by omega)
      rw [show (5 : Int32) = zI ((5 : Nat) : Int) from rfl]
      simp only [L1, zI_1, L2, Option.bind_some, P1, e1, zI_addN, A1, A2, hg1, hg2, S1, S2, S3, S4, O1, O2, fj_M_layMatrix_315, nm]
      rw [zI_l (by omega) (by omega), zI_l (by omega) (by omega), zI_l (by omega) (by omega), zI_l (by omega) (by omega), zL_sub, zL_mul]
      refine ⟨_, rfl, _, rfl, fun x hx hx2 => ?_, fun r' hr' => ?_⟩
      · rw [updL_at, if_neg (by omega), updL_at, if_neg (by omega), updL_at, if_neg (by omega), updL_at, if_neg (by omega), h1, if_neg (by omega)]
        exact hf0 x (by omega) hx2
      · by_cases q : r' = r
        · subst q
          refine ⟨fun c hc => ?_, ?_, ?_⟩
          · rw [updL_at, if_neg (by omega), updL_at, if_neg (by omega)]
            unfold Hm
            rw [if_neg hlast]
            by_cases c1 : c = r' + 1
            · rw [updL_at, if_pos (by omega), updL_at, if_neg (by omega), h1, if_neg (by omega), hf0 _ (by omega) (by omega), zL_sub, if_neg (by omega), if_neg (by omega), if_pos c1]
              unfold gg
              congr 1
            · rw [updL_at, if_neg (by omega), if_neg c1]
              by_cases c2 : c = r'
              · rw [updL_at, if_pos (by omega), h1, if_pos (by omega), zL_add, if_pos (by omega), if_pos c2]
                unfold gg
                congr 1
                omega
              · rw [updL_at, if_neg (by omega), h1, if_neg c2]
                by_cases c3 : c ≤ r'
                · rw [if_pos (by omega), if_pos c3]; congr 1; omega
                · rw [if_neg (by omega), if_neg c3, hf0 _ (by omega) (by omega)]; rfl
          · rw [updL_at, if_neg (by omega), updL_at, if_pos rfl]
            unfold gv
            rw [hbe', if_neg hlast]
          · rw [updL_at, if_pos (by omega)]
            unfold gu
            rw [hbe', if_neg hlast]
        · exact keep _ (fun y hy => by rw [updL_at, if_neg (by omega), updL_at, if_neg (by omega), updL_at, if_neg (by omega), updL_at, if_neg (by omega), h1, if_neg (by omega)]) r' (by omega)
  · rintro s ⟨f, rfl, -, hf⟩
    simp only [un2, fb_M_layMatrix_84]
    rw [if_pos (Int32.le_refl _)]
    exact ⟨_, rfl, hf⟩
end MS2
