/-! a byte as an int -/
def cv_I (b : BitVec 8) : Int32 := nI b.toNat
theorem cv_x (a b : BitVec 8) : cv_I a ^^^ cv_I b = cv_I (a ^^^ b) := by
  unfold cv_I
  rw [nx_xor, BitVec.toNat_xor]
theorem cv_0 : cv_I 0#8 = 0 := nI_0
theorem cv_of {n : Nat} (h : n < 256) : nI n = cv_I (BitVec.ofNat 8 n) := by
  unfold cv_I
  rw [BitVec.toNat_ofNat, Nat.mod_eq_of_lt (show n < 2 ^ 8 from h)]
theorem cv_bit (b : BitVec 8) (j : Nat) (hj : j < 8) : ((cv_I b >>> (nI j &&& 31)) &&& 1) = 0 ↔ b.getLsbD j = false := by
  have e : b.getLsbD j = decide (b.toNat / 2 ^ j % 2 = 1) := Nat.testBit_eq_decide_div_mod_eq
  have h := b.isLt
  unfold cv_I
  rw [pk_shrN (by omega) _ j (s_l j (by omega)), e]
  generalize b.toNat / 2 ^ j = z
  show nI z &&& nI 1 = 0 ↔ _
  rw [nx_and, Nat.and_one_is_mod, ← nI_0, nI_eq (by omega) (by omega), decide_eq_false_iff_not]
  omega
theorem cv_xt0 : ∀ n, n < 256 → (gf_xt (BitVec.ofNat 8 n)).toNat = if (BitVec.ofNat 8 n).toNat < 128 then (BitVec.ofNat 8 n).toNat * 2 else (BitVec.ofNat 8 n).toNat * 2 ^^^ 285 := by decide +kernel
theorem cv_xt (a : BitVec 8) : (gf_xt a).toNat = if a.toNat < 128 then a.toNat * 2 else a.toNat * 2 ^^^ 285 :=
  gf_all (P := fun a => (gf_xt a).toNat = if a.toNat < 128 then a.toNat * 2 else a.toNat * 2 ^^^ 285) cv_xt0 a
theorem cv_sl (a : BitVec 8) : cv_I a <<< ((1 : Int32) &&& 31) = nI (a.toNat * 2) := by
  have h := a.isLt
  exact pk_shlN (n := a.toNat) ((1 : Int32) &&& 31) 1 (by decide) (by omega)
theorem cv_s1 {a : BitVec 8} (h : a.toNat < 128) : nI (a.toNat * 2) = cv_I (gf_xt a) := by
  unfold cv_I
  rw [cv_xt, if_pos h]
theorem cv_s2 {a : BitVec 8} (h : ¬ a.toNat < 128) : nI (a.toNat * 2) ^^^ 285 = cv_I (gf_xt a) := by
  unfold cv_I
  rw [cv_xt, if_neg h]
  exact nx_xor _ 285
