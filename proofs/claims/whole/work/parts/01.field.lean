/-! bytes as elements of the field of 256 elements: sums by ^^^, products by gf_M -/
def gf_xt (a : BitVec 8) : BitVec 8 := (a <<< 1) ^^^ (if a.getLsbD 7 then 29#8 else 0#8)
def gf_xp (a : BitVec 8) : Nat → BitVec 8
  | 0 => a
  | n + 1 => gf_xt (gf_xp a n)
def gf_mp (a b : BitVec 8) : Nat → BitVec 8
  | 0 => 0#8
  | n + 1 => gf_mp a b n ^^^ (if b.getLsbD n then gf_xp a n else 0#8)
def gf_M (a b : BitVec 8) : BitVec 8 := gf_mp a b 8
theorem gf_x4 (a b c d : BitVec 8) : (a ^^^ b) ^^^ (c ^^^ d) = (a ^^^ c) ^^^ (b ^^^ d) := by ac_rfl
theorem gf_xx (a b : BitVec 8) : a ^^^ (a ^^^ b) = b := by rw [← BitVec.xor_assoc, BitVec.xor_self, BitVec.zero_xor]
theorem gf_ifx (a b : BitVec 8) (n : Nat) (c : BitVec 8) : (if (a ^^^ b).getLsbD n then c else 0#8) = (if a.getLsbD n then c else 0#8) ^^^ (if b.getLsbD n then c else 0#8) := by
  rw [BitVec.getLsbD_xor]
  cases a.getLsbD n <;> cases b.getLsbD n <;> simp
theorem gf_ify (q : Bool) (a b : BitVec 8) : (if q then a ^^^ b else 0#8) = (if q then a else 0#8) ^^^ (if q then b else 0#8) := by
  cases q <;> simp
theorem gf_xt_x (a b : BitVec 8) : gf_xt (a ^^^ b) = gf_xt a ^^^ gf_xt b := by
  unfold gf_xt
  rw [BitVec.shiftLeft_xor_distrib, gf_ifx, gf_x4]
theorem gf_xp_x (a b : BitVec 8) (n : Nat) : gf_xp (a ^^^ b) n = gf_xp a n ^^^ gf_xp b n := by
  induction n with
  | zero => rfl
  | succ n ih => simp only [gf_xp]; rw [ih, gf_xt_x]
theorem gf_mp_r (a b c : BitVec 8) (n : Nat) : gf_mp a (b ^^^ c) n = gf_mp a b n ^^^ gf_mp a c n := by
  induction n with
  | zero => simp [gf_mp]
  | succ n ih => simp only [gf_mp]; rw [ih, gf_ifx, gf_x4]
theorem gf_mp_l (a b c : BitVec 8) (n : Nat) : gf_mp (a ^^^ b) c n = gf_mp a c n ^^^ gf_mp b c n := by
  induction n with
  | zero => simp [gf_mp]
  | succ n ih => simp only [gf_mp]; rw [ih, gf_xp_x, gf_ify, gf_x4]
theorem gf_Mr (a b c : BitVec 8) : gf_M a (b ^^^ c) = gf_M a b ^^^ gf_M a c := gf_mp_r a b c 8
theorem gf_Ml (a b c : BitVec 8) : gf_M (a ^^^ b) c = gf_M a c ^^^ gf_M b c := gf_mp_l a b c 8
theorem gf_add0 (f : BitVec 8 → BitVec 8) (hf : ∀ a b, f (a ^^^ b) = f a ^^^ f b) : f 0#8 = 0#8 := by
  have h := hf 0#8 0#8
  simpa using h
theorem gf_all {P : BitVec 8 → Prop} (h : ∀ n, n < 256 → P (BitVec.ofNat 8 n)) (a : BitVec 8) : P a := by
  have h1 := h a.toNat a.isLt
  have e : BitVec.ofNat 8 a.toNat = a := by simp
  rw [e] at h1
  exact h1
def gf_e (a : BitVec 8) (n : Nat) : BitVec 8 := if a.getLsbD n then 1#8 <<< n else 0#8
theorem gf_dec0 : ∀ n, n < 256 → BitVec.ofNat 8 n = gf_e (BitVec.ofNat 8 n) 0 ^^^ gf_e (BitVec.ofNat 8 n) 1 ^^^ gf_e (BitVec.ofNat 8 n) 2 ^^^ gf_e (BitVec.ofNat 8 n) 3 ^^^ gf_e (BitVec.ofNat 8 n) 4 ^^^ gf_e (BitVec.ofNat 8 n) 5 ^^^ gf_e (BitVec.ofNat 8 n) 6 ^^^ gf_e (BitVec.ofNat 8 n) 7 := by decide +kernel
theorem gf_dec (a : BitVec 8) : a = gf_e a 0 ^^^ gf_e a 1 ^^^ gf_e a 2 ^^^ gf_e a 3 ^^^ gf_e a 4 ^^^ gf_e a 5 ^^^ gf_e a 6 ^^^ gf_e a 7 :=
  gf_all (P := fun a => a = gf_e a 0 ^^^ gf_e a 1 ^^^ gf_e a 2 ^^^ gf_e a 3 ^^^ gf_e a 4 ^^^ gf_e a 5 ^^^ gf_e a 6 ^^^ gf_e a 7) gf_dec0 a
theorem gf_sp (f : BitVec 8 → BitVec 8) (hf : ∀ a b, f (a ^^^ b) = f a ^^^ f b) (a : BitVec 8) : f a = f (gf_e a 0) ^^^ f (gf_e a 1) ^^^ f (gf_e a 2) ^^^ f (gf_e a 3) ^^^ f (gf_e a 4) ^^^ f (gf_e a 5) ^^^ f (gf_e a 6) ^^^ f (gf_e a 7) :=
  (congrArg f (gf_dec a)).trans (by simp only [hf])
theorem gf_ext (f g : BitVec 8 → BitVec 8) (hf : ∀ a b, f (a ^^^ b) = f a ^^^ f b) (hg : ∀ a b, g (a ^^^ b) = g a ^^^ g b) (h : ∀ i, i < 8 → f (1#8 <<< i) = g (1#8 <<< i)) (a : BitVec 8) : f a = g a := by
  have h0 : f 0#8 = g 0#8 := (gf_add0 f hf).trans (gf_add0 g hg).symm
  have k : ∀ i, i < 8 → f (gf_e a i) = g (gf_e a i) := by
    intro i hi
    unfold gf_e
    split
    · exact h i hi
    · exact h0
  rw [gf_sp f hf a, gf_sp g hg a, k 0 (by decide), k 1 (by decide), k 2 (by decide), k 3 (by decide), k 4 (by decide), k 5 (by decide), k 6 (by decide), k 7 (by decide)]
theorem gf_bas3 : ∀ i, i < 8 → ∀ j, j < 8 → ∀ k, k < 8 → gf_M (gf_M (1#8 <<< i) (1#8 <<< j)) (1#8 <<< k) = gf_M (1#8 <<< i) (gf_M (1#8 <<< j) (1#8 <<< k)) := by decide +kernel
theorem gf_bas2 : ∀ i, i < 8 → ∀ j, j < 8 → gf_M (1#8 <<< i) (1#8 <<< j) = gf_M (1#8 <<< j) (1#8 <<< i) := by decide +kernel
theorem gf_assoc (a b c : BitVec 8) : gf_M (gf_M a b) c = gf_M a (gf_M b c) := by
  refine gf_ext (fun a => gf_M (gf_M a b) c) (fun a => gf_M a (gf_M b c)) (fun x y => ?_) (fun x y => ?_) (fun i hi => ?_) a
  · simp only [gf_Ml]
  · simp only [gf_Ml]
  · refine gf_ext (fun b => gf_M (gf_M (1#8 <<< i) b) c) (fun b => gf_M (1#8 <<< i) (gf_M b c)) (fun x y => ?_) (fun x y => ?_) (fun j hj => ?_) b
    · simp only [gf_Ml, gf_Mr]
    · simp only [gf_Ml, gf_Mr]
    · exact gf_ext (fun c => gf_M (gf_M (1#8 <<< i) (1#8 <<< j)) c) (fun c => gf_M (1#8 <<< i) (gf_M (1#8 <<< j) c)) (fun x y => by simp only [gf_Mr]) (fun x y => by simp only [gf_Mr]) (fun k hk => gf_bas3 i hi j hj k hk) c
theorem gf_comm (a b : BitVec 8) : gf_M a b = gf_M b a := by
  refine gf_ext (fun a => gf_M a b) (fun a => gf_M b a) (fun x y => gf_Ml x y b) (fun x y => gf_Mr b x y) (fun i hi => ?_) a
  exact gf_ext (fun b => gf_M (1#8 <<< i) b) (fun b => gf_M b (1#8 <<< i)) (fun x y => gf_Mr _ x y) (fun x y => gf_Ml x y _) (fun j hj => gf_bas2 i hi j hj) b
theorem gf_0l (a : BitVec 8) : gf_M 0#8 a = 0#8 := gf_add0 (fun x => gf_M x a) (fun x y => gf_Ml x y a)
theorem gf_0r (a : BitVec 8) : gf_M a 0#8 = 0#8 := gf_add0 (fun x => gf_M a x) (fun x y => gf_Mr a x y)
theorem gf_bas1 : ∀ i, i < 8 → gf_M 1#8 (1#8 <<< i) = 1#8 <<< i := by decide +kernel
theorem gf_1l (a : BitVec 8) : gf_M 1#8 a = a := gf_ext (fun a => gf_M 1#8 a) (fun a => a) (fun x y => gf_Mr _ x y) (fun _ _ => rfl) gf_bas1 a
theorem gf_1r (a : BitVec 8) : gf_M a 1#8 = a := (gf_comm a 1#8).trans (gf_1l a)
def gf_pw (a : BitVec 8) : Nat → BitVec 8
  | 0 => a
  | n + 1 => gf_M (gf_pw a n) (gf_pw a n)
def gf_rs (a : BitVec 8) : Nat → BitVec 8
  | 0 => 1#8
  | n + 1 => gf_M (gf_rs a n) (gf_pw a (n + 1))
def gf_iv (a : BitVec 8) : BitVec 8 := gf_rs a 7
theorem gf_inv0 : ∀ n, n < 256 → n = 0 ∨ gf_M (BitVec.ofNat 8 n) (gf_iv (BitVec.ofNat 8 n)) = 1#8 := by decide +kernel
theorem gf_inv (a : BitVec 8) (h : a ≠ 0#8) : gf_M a (gf_iv a) = 1#8 := by
  have h1 := gf_inv0 a.toNat a.isLt
  have e : BitVec.ofNat 8 a.toNat = a := by simp
  rw [e] at h1
  rcases h1 with h1 | h1
  · exact absurd (BitVec.eq_of_toNat_eq h1) h
  · exact h1
theorem gf_inv' (a : BitVec 8) (h : a ≠ 0#8) : gf_M (gf_iv a) a = 1#8 := (gf_comm _ _).trans (gf_inv a h)
theorem gf_nz (a b : BitVec 8) (ha : a ≠ 0#8) (hb : b ≠ 0#8) : gf_M a b ≠ 0#8 := fun h => hb (by
  have e : gf_M (gf_iv a) (gf_M a b) = b := by rw [← gf_assoc, gf_inv' a ha, gf_1l]
  rw [h, gf_0r] at e
  exact e.symm)
