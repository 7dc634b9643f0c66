/-! TEXT: sign -/
section OPS17
variable {F : Nat}
theorem iter_st {σ ρ : Type} {body : σ → Option (σ ⊕ ρ)} {s s' : σ} {r : Option ρ} (h : body s = some (.inl s')) (h2 : iter body F s' = r) : iter body (F + 1) s = r := by
  unfold iter
  rw [h]
  exact h2
theorem iter_en {σ ρ : Type} {body : σ → Option (σ ⊕ ρ)} {s : σ} {r : ρ} (h : body s = some (.inr r)) : iter body (F + 1) s = some r := by
  unfold iter
  rw [h]
theorem low_s (w : BitVec 32) (k : Nat) (hk : k ≤ 24) : (w.sshiftRight k).signExtend 8 = (w >>> k).setWidth 8 := by
  apply BitVec.eq_of_getLsbD_eq
  intro i hi
  have e : decide (32 ≤ i) = false := decide_eq_false (by omega)
  rw [BitVec.getLsbD_signExtend, BitVec.getLsbD_setWidth, if_pos (show i < 32 by omega), BitVec.getLsbD_sshiftRight, BitVec.getLsbD_ushiftRight, if_pos (show k + i < 32 by omega), e]
  rfl
def Bv (a b : Int32) : Prop := ∃ v : Int, (0 ≤ v ∧ v ≤ 255) ∧ a = zI v ∧ b = zI (sgb v)
theorem byte_k (w : BitVec 32) {k : Nat} {a b : Int32} (hk : k ≤ 24) (h1 : a = Int32.ofBitVec ((w >>> k) &&& 255#32)) (h2 : b = Int32.ofBitVec (((w.sshiftRight k).signExtend 8).signExtend 32)) : Bv a (vp_nar .byte b) := by
  have h := byte_all ((w >>> k).setWidth 8)
  have hb := ((w >>> k).setWidth 8).isLt
  rw [low_s w k hk] at h2
  rw [byte_low] at h1
  refine ⟨(((w >>> k).setWidth 8).toNat : Int), ⟨by omega, by omega⟩, ?_, ?_⟩
  · rw [h1]; exact h.1
  · rw [h2]; exact h.2
theorem byte_24 (x : Int32) : Bv ((ushrI x (24 : Int32)) &&& (255 : Int32)) (vp_nar .byte (Int8.toInt32 (Int32.toInt8 (x >>> (((8 : Int32) * (3 : Int32)) &&& 31))))) := byte_k x.toBitVec (k := 24) (by omega) rfl rfl
theorem byte_16 (x : Int32) : Bv ((ushrI x (16 : Int32)) &&& (255 : Int32)) (vp_nar .byte (Int8.toInt32 (Int32.toInt8 (x >>> (((8 : Int32) * (2 : Int32)) &&& 31))))) := byte_k x.toBitVec (k := 16) (by omega) rfl rfl
theorem byte_8 (x : Int32) : Bv ((ushrI x (8 : Int32)) &&& (255 : Int32)) (vp_nar .byte (Int8.toInt32 (Int32.toInt8 (x >>> (((8 : Int32) * (1 : Int32)) &&& 31))))) := byte_k x.toBitVec (k := 8) (by omega) rfl rfl
theorem byte_0 (x : Int32) : Bv ((ushrI x (0 : Int32)) &&& (255 : Int32)) (vp_nar .byte (Int8.toInt32 (Int32.toInt8 (x >>> (((8 : Int32) * (0 : Int32)) &&& 31))))) := byte_k x.toBitVec (k := 0) (by omega) rfl rfl
theorem af_step (x : Int32) {l l' : Int32} (hl : ¬ l < (0 : Int32)) (hl2 : l + (-8 : Int32) = l') {m : Nat} (hm : m < 80) (sg : Nat → Int32) : un3 (fb_T_addFour_16 x) (l, sg, zI (m : Int)) = some (.inl (l', upd sg m ((ushrI x l) &&& (255 : Int32)), zI ((m + 1 : Nat) : Int))) := by
  dsimp only [un3]
  unfold fb_T_addFour_16
  rw [if_neg hl, stI_z hm (by omega)]
  simp only [nm, zI_1, hl2, Option.bind_some]
theorem sg_step (x : Int32) {l l' : Int32} (hl : ¬ l < (0 : Int32)) (hl2 : l + (-1 : Int32) = l') {m : Nat} (hm : m < 80) (tx : Nat → Int32) : un3 (fb_M_sign_20 x) (l, tx, zI (m : Int)) = some (.inl (l', upd tx m (vp_nar .byte (Int8.toInt32 (Int32.toInt8 (x >>> (((8 : Int32) * l) &&& 31))))), zI ((m + 1 : Nat) : Int))) := by
  have hs : stB tx 80 (zI (m : Int)) (Int8.toInt32 (Int32.toInt8 (x >>> (((8 : Int32) * l) &&& 31)))) = some (upd tx m (vp_nar .byte (Int8.toInt32 (Int32.toInt8 (x >>> (((8 : Int32) * l) &&& 31)))))) := by
    unfold stB
    rw [if_pos (zI_inB hm (by omega)), zI_clamp (by omega)]
  dsimp only [un3]
  unfold fb_M_sign_20
  rw [if_neg hl, hs]
  simp only [nm, zI_1, hl2, Option.bind_some]
def Px (m : Nat) (sg tx : Nat → Int32) : Prop := ∀ q, q < m → ∃ v : Int, (0 ≤ v ∧ v ≤ 255) ∧ sg q = zI v ∧ tx q = zI (sgb v)
theorem Px.add {m : Nat} {sg tx : Nat → Int32} (h : Px m sg tx) {a b : Int32} (hb : Bv a b) : Px (m + 1) (upd sg m a) (upd tx m b) := by
  intro q hq
  rw [upd_at, upd_at]
  by_cases w : q = m
  · rw [if_pos w, if_pos w]; exact hb
  · rw [if_neg w, if_neg w]; exact h q (by omega)
theorem op_sign {m : Nat} {sg : Nat → Int32} {sz : Int32} {tx : Nat → Int32} {ty : Int32} (hF : 300 < F) (hT : TX m sg sz tx ty) (x1 th : Int32) :
    ∃ (r : Int32) (m' : Nat) (sg' : Nat → Int32) (sz' : Int32) (tx' : Nat → Int32), f_X_sign F x1 sg sz = some (r, sg', sz') ∧ f_M_sign F x1 tx ty th = some (r, tx', sz', (0 : Int32)) ∧ TX m' sg' sz' tx' sz' := by
  obtain ⟨hm, rfl, rfl, ht⟩ := hT
  have e4 : zI (m : Int) + (4 : Int32) = zI ((m : Int) + 4) := by rw [i4, zI_add]
  obtain ⟨F, rfl⟩ : ∃ k, F = k + 5 := ⟨F - 5, by omega⟩
  unfold f_X_sign f_T_addFour f_M_sign
  rw [e4]
  by_cases q : (m : Int) + 4 ≤ 80
  · rw [if_pos (show zI ((m : Int) + 4) ≤ (80 : Int32) from (zI_le (a := (m : Int) + 4) (b := 80) (by omega) (by omega) (by omega) (by omega)).mpr q), if_pos (show zI ((m : Int) + 4) ≤ (80 : Int32) from (zI_le (a := (m : Int) + 4) (b := 80) (by omega) (by omega) (by omega) (by omega)).mpr q)]
    have p1 := Px.add (m := m) ht (byte_24 x1)
    have p2 := p1.add (byte_16 x1)
    have p3 := p2.add (byte_8 x1)
    have p4 := p3.add (byte_0 x1)
    have ea := iter_st (F := F + 4) (af_step x1 (l := 24) (l' := 16) (by decide) (by decide) (m := m) (by omega) sg) (iter_st (F := F + 3) (af_step x1 (l := 16) (l' := 8) (by decide) (by decide) (m := m + 1) (by omega) _) (iter_st (F := F + 2) (af_step x1 (l := 8) (l' := 0) (by decide) (by decide) (m := m + 2) (by omega) _) (iter_st (F := F + 1) (af_step x1 (l := 0) (l' := -8) (by decide) (by decide) (m := m + 3) (by omega) _) (iter_en (F := F) (r := _) (by
      dsimp only [un3]
      unfold fb_T_addFour_16
      rw [if_pos (show (-8 : Int32) < (0 : Int32) by decide)])))))
    have em := iter_st (F := F + 4) (sg_step x1 (l := 3) (l' := 2) (by decide) (by decide) (m := m) (by omega) tx) (iter_st (F := F + 3) (sg_step x1 (l := 2) (l' := 1) (by decide) (by decide) (m := m + 1) (by omega) _) (iter_st (F := F + 2) (sg_step x1 (l := 1) (l' := 0) (by decide) (by decide) (m := m + 2) (by omega) _) (iter_st (F := F + 1) (sg_step x1 (l := 0) (l' := -1) (by decide) (by decide) (m := m + 3) (by omega) _) (iter_en (F := F) (r := _) (by
      dsimp only [un3]
      unfold fb_M_sign_20
      rw [if_pos (show (-1 : Int32) < (0 : Int32) by decide)])))))
    rw [ea, em]
    simp only [bd2, bd3, Option.bind_some]
    rw [if_neg (show ¬ (1 : Int32) = 0 by decide)]
    exact ⟨_, m + 4, _, _, _, rfl, rfl, by omega, rfl, rfl, p4⟩
  · rw [if_neg (show ¬ zI ((m : Int) + 4) ≤ (80 : Int32) from fun z => q ((zI_le (a := (m : Int) + 4) (b := 80) (by omega) (by omega) (by omega) (by omega)).mp z)), if_neg (show ¬ zI ((m : Int) + 4) ≤ (80 : Int32) from fun z => q ((zI_le (a := (m : Int) + 4) (b := 80) (by omega) (by omega) (by omega) (by omega)).mp z))]
    simp only [bd3, Option.bind_some]
    rw [if_pos trivial]
    exact ⟨_, m, sg, _, tx, rfl, rfl, hm, rfl, rfl, ht⟩
end OPS17
