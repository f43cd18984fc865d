section
/-! bytes as elements of the field of 256 elements: sums by ^^^, products by gf_M -/
def gf_xt (a : BitVec 8) : BitVec 8 := (a <<< 1) ^^^ (if a.getLsbD 7 then 29#8 else 0#8)
def gf_xp (a : BitVec 8) : Nat → BitVec 8
  | 0 => a
  | n + 1 => gf_xt (gf_xp a n)
def gf_mp (a b : BitVec 8) : Nat → BitVec 8
  | 0 => 0#8
  | n + 1 => gf_mp a b n ^^^ (if b.getLsbD n then gf_xp a n else 0#8)
def gf_M (a b : BitVec 8) : BitVec 8 := gf_mp a b 8
theorem gf_x4 (a b c d : BitVec 8) : (a ^^^ b) ^^^ (c ^^^ d) = (a ^^^ c) ^^^ (b ^^^ d) := by ac_rfl
theorem gf_xx (a b : BitVec 8) : a ^^^ (a ^^^ b) = b := by rw [← BitVec.xor_assoc, BitVec.xor_self, BitVec.zero_xor]
theorem gf_ifx (a b : BitVec 8) (n : Nat) (c : BitVec 8) : (if (a ^^^ b).getLsbD n then c else 0#8) = (if a.getLsbD n then c else 0#8) ^^^ (if b.getLsbD n then c else 0#8) := by
  rw [BitVec.getLsbD_xor]
  cases a.getLsbD n <;> cases b.getLsbD n <;> simp
theorem gf_ify (q : Bool) (a b : BitVec 8) : (if q then a ^^^ b else 0#8) = (if q then a else 0#8) ^^^ (if q then b else 0#8) := by
  cases q <;> simp
theorem gf_xt_x (a b : BitVec 8) : gf_xt (a ^^^ b) = gf_xt a ^^^ gf_xt b := by
  unfold gf_xt
  rw [BitVec.shiftLeft_xor_distrib, gf_ifx, gf_x4]
theorem gf_xp_x (a b : BitVec 8) (n : Nat) : gf_xp (a ^^^ b) n = gf_xp a n ^^^ gf_xp b n := by
  induction n with
  | zero => rfl
  | succ n ih => simp only [gf_xp]; rw [ih, gf_xt_x]
theorem gf_mp_r (a b c : BitVec 8) (n : Nat) : gf_mp a (b ^^^ c) n = gf_mp a b n ^^^ gf_mp a c n := by
  induction n with
  | zero => simp [gf_mp]
  | succ n ih => simp only [gf_mp]; rw [ih, gf_ifx, gf_x4]
theorem gf_mp_l (a b c : BitVec 8) (n : Nat) : gf_mp (a ^^^ b) c n = gf_mp a c n ^^^ gf_mp b c n := by
  induction n with
  | zero => simp [gf_mp]
  | succ n ih => simp only [gf_mp]; rw [ih, gf_xp_x, gf_ify, gf_x4]
theorem gf_Mr (a b c : BitVec 8) : gf_M a (b ^^^ c) = gf_M a b ^^^ gf_M a c := gf_mp_r a b c 8
theorem gf_Ml (a b c : BitVec 8) : gf_M (a ^^^ b) c = gf_M a c ^^^ gf_M b c := gf_mp_l a b c 8
theorem gf_add0 (f : BitVec 8 → BitVec 8) (hf : ∀ a b, f (a ^^^ b) = f a ^^^ f b) : f 0#8 = 0#8 := by
  have h := hf 0#8 0#8
  simpa using h
theorem gf_all {P : BitVec 8 → Prop} (h : ∀ n, n < 256 → P (BitVec.ofNat 8 n)) (a : BitVec 8) : P a := by
  have h1 := h a.toNat a.isLt
  have e : BitVec.ofNat 8 a.toNat = a := by simp
  rw [e] at h1
  exact h1
def gf_e (a : BitVec 8) (n : Nat) : BitVec 8 := if a.getLsbD n then 1#8 <<< n else 0#8
theorem gf_dec0 : ∀ n, n < 256 → BitVec.ofNat 8 n = gf_e (BitVec.ofNat 8 n) 0 ^^^ gf_e (BitVec.ofNat 8 n) 1 ^^^ gf_e (BitVec.ofNat 8 n) 2 ^^^ gf_e (BitVec.ofNat 8 n) 3 ^^^ gf_e (BitVec.ofNat 8 n) 4 ^^^ gf_e (BitVec.ofNat 8 n) 5 ^^^ gf_e (BitVec.ofNat 8 n) 6 ^^^ gf_e (BitVec.ofNat 8 n) 7 := by decide +kernel
theorem gf_dec (a : BitVec 8) : a = gf_e a 0 ^^^ gf_e a 1 ^^^ gf_e a 2 ^^^ gf_e a 3 ^^^ gf_e a 4 ^^^ gf_e a 5 ^^^ gf_e a 6 ^^^ gf_e a 7 :=
  gf_all (P := fun a => a = gf_e a 0 ^^^ gf_e a 1 ^^^ gf_e a 2 ^^^ gf_e a 3 ^^^ gf_e a 4 ^^^ gf_e a 5 ^^^ gf_e a 6 ^^^ gf_e a 7) gf_dec0 a
theorem gf_sp (f : BitVec 8 → BitVec 8) (hf : ∀ a b, f (a ^^^ b) = f a ^^^ f b) (a : BitVec 8) : f a = f (gf_e a 0) ^^^ f (gf_e a 1) ^^^ f (gf_e a 2) ^^^ f (gf_e a 3) ^^^ f (gf_e a 4) ^^^ f (gf_e a 5) ^^^ f (gf_e a 6) ^^^ f (gf_e a 7) :=
  (congrArg f (gf_dec a)).trans (by simp only [hf])
theorem gf_ext (f g : BitVec 8 → BitVec 8) (hf : ∀ a b, f (a ^^^ b) = f a ^^^ f b) (hg : ∀ a b, g (a ^^^ b) = g a ^^^ g b) (h : ∀ i, i < 8 → f (1#8 <<< i) = g (1#8 <<< i)) (a : BitVec 8) : f a = g a := by
  have h0 : f 0#8 = g 0#8 := (gf_add0 f hf).trans (gf_add0 g hg).symm
  have k : ∀ i, i < 8 → f (gf_e a i) = g (gf_e a i) := by
    intro i hi
    unfold gf_e
    split
    · exact h i hi
    · exact h0
  rw [gf_sp f hf a, gf_sp g hg a, k 0 (by decide), k 1 (by decide), k 2 (by decide), k 3 (by decide), k 4 (by decide), k 5 (by decide), k 6 (by decide), k 7 (by decide)]
theorem gf_bas3 : ∀ i, i < 8 → ∀ j, j < 8 → ∀ k, k < 8 → gf_M (gf_M (1#8 <<< i) (1#8 <<< j)) (1#8 <<< k) = gf_M (1#8 <<< i) (gf_M (1#8 <<< j) (1#8 <<< k)) := by decide +kernel
theorem gf_bas2 : ∀ i, i < 8 → ∀ j, j < 8 → gf_M (1#8 <<< i) (1#8 <<< j) = gf_M (1#8 <<< j) (1#8 <<< i) := by decide +kernel
theorem gf_assoc (a b c : BitVec 8) : gf_M (gf_M a b) c = gf_M a (gf_M b c) := by
  refine gf_ext (fun a => gf_M (gf_M a b) c) (fun a => gf_M a (gf_M b c)) (fun x y => ?_) (fun x y => ?_) (fun i hi => ?_) a
  · simp only [gf_Ml]
  · simp only [gf_Ml]
  · refine gf_ext (fun b => gf_M (gf_M (1#8 <<< i) b) c) (fun b => gf_M (1#8 <<< i) (gf_M b c)) (fun x y => ?_) (fun x y => ?_) (fun j hj => ?_) b
    · simp only [gf_Ml, gf_Mr]
    · simp only [gf_Ml, gf_Mr]
    · exact gf_ext (fun c => gf_M (gf_M (1#8 <<< i) (1#8 <<< j)) c) (fun c => gf_M (1#8 <<< i) (gf_M (1#8 <<< j) c)) (fun x y => by simp only [gf_Mr]) (fun x y => by simp only [gf_Mr]) (fun k hk => gf_bas3 i hi j hj k hk) c
theorem gf_comm (a b : BitVec 8) : gf_M a b = gf_M b a := by
  refine gf_ext (fun a => gf_M a b) (fun a => gf_M b a) (fun x y => gf_Ml x y b) (fun x y => gf_Mr b x y) (fun i hi => ?_) a
  exact gf_ext (fun b => gf_M (1#8 <<< i) b) (fun b => gf_M b (1#8 <<< i)) (fun x y => gf_Mr _ x y) (fun x y => gf_Ml x y _) (fun j hj => gf_bas2 i hi j hj) b
theorem gf_0l (a : BitVec 8) : gf_M 0#8 a = 0#8 := gf_add0 (fun x => gf_M x a) (fun x y => gf_Ml x y a)
theorem gf_0r (a : BitVec 8) : gf_M a 0#8 = 0#8 := gf_add0 (fun x => gf_M a x) (fun x y => gf_Mr a x y)
theorem gf_bas1 : ∀ i, i < 8 → gf_M 1#8 (1#8 <<< i) = 1#8 <<< i := by decide +kernel
theorem gf_1l (a : BitVec 8) : gf_M 1#8 a = a := gf_ext (fun a => gf_M 1#8 a) (fun a => a) (fun x y => gf_Mr _ x y) (fun _ _ => rfl) gf_bas1 a
theorem gf_1r (a : BitVec 8) : gf_M a 1#8 = a := (gf_comm a 1#8).trans (gf_1l a)
def gf_pw (a : BitVec 8) : Nat → BitVec 8
  | 0 => a
  | n + 1 => gf_M (gf_pw a n) (gf_pw a n)
def gf_rs (a : BitVec 8) : Nat → BitVec 8
  | 0 => 1#8
  | n + 1 => gf_M (gf_rs a n) (gf_pw a (n + 1))
def gf_iv (a : BitVec 8) : BitVec 8 := gf_rs a 7
theorem gf_inv0 : ∀ n, n < 256 → n = 0 ∨ gf_M (BitVec.ofNat 8 n) (gf_iv (BitVec.ofNat 8 n)) = 1#8 := by decide +kernel
theorem gf_inv (a : BitVec 8) (h : a ≠ 0#8) : gf_M a (gf_iv a) = 1#8 := by
  have h1 := gf_inv0 a.toNat a.isLt
  have e : BitVec.ofNat 8 a.toNat = a := by simp
  rw [e] at h1
  rcases h1 with h1 | h1
  · exact absurd (BitVec.eq_of_toNat_eq h1) h
  · exact h1
theorem gf_inv' (a : BitVec 8) (h : a ≠ 0#8) : gf_M (gf_iv a) a = 1#8 := (gf_comm _ _).trans (gf_inv a h)
theorem gf_nz (a b : BitVec 8) (ha : a ≠ 0#8) (hb : b ≠ 0#8) : gf_M a b ≠ 0#8 := fun h => hb (by
  have e : gf_M (gf_iv a) (gf_M a b) = b := by rw [← gf_assoc, gf_inv' a ha, gf_1l]
  rw [h, gf_0r] at e
  exact e.symm)
end
section
/-! sums of bytes; the weights; elimination over scaled Cauchy weights never meets a zero pivot -/
def gf_sm (f : Nat → BitVec 8) : Nat → BitVec 8
  | 0 => 0#8
  | n + 1 => gf_sm f n ^^^ f n
theorem gf_sm_c {f g : Nat → BitVec 8} : ∀ {n : Nat}, (∀ i, i < n → f i = g i) → gf_sm f n = gf_sm g n
  | 0, _ => rfl
  | n + 1, h => by
    show gf_sm f n ^^^ f n = gf_sm g n ^^^ g n
    rw [gf_sm_c (fun i hi => h i (by omega)), h n (by omega)]
theorem gf_sm_x (f g : Nat → BitVec 8) : ∀ n, gf_sm (fun i => f i ^^^ g i) n = gf_sm f n ^^^ gf_sm g n
  | 0 => by simp [gf_sm]
  | n + 1 => by
    show gf_sm (fun i => f i ^^^ g i) n ^^^ (f n ^^^ g n) = (gf_sm f n ^^^ f n) ^^^ (gf_sm g n ^^^ g n)
    rw [gf_sm_x f g n, gf_x4]
theorem gf_sm_m (c : BitVec 8) (f : Nat → BitVec 8) : ∀ n, gf_M c (gf_sm f n) = gf_sm (fun i => gf_M c (f i)) n
  | 0 => gf_0r c
  | n + 1 => by
    show gf_M c (gf_sm f n ^^^ f n) = gf_sm (fun i => gf_M c (f i)) n ^^^ gf_M c (f n)
    rw [gf_Mr, gf_sm_m c f n]
theorem gf_sm_0 {f : Nat → BitVec 8} : ∀ {n : Nat}, (∀ i, i < n → f i = 0#8) → gf_sm f n = 0#8
  | 0, _ => rfl
  | n + 1, h => by
    show gf_sm f n ^^^ f n = 0#8
    rw [gf_sm_0 (fun i hi => h i (by omega)), h n (by omega), BitVec.zero_xor]
theorem gf_sm_1 {f : Nat → BitVec 8} {k : Nat} : ∀ {n : Nat}, k < n → (∀ i, i < n → i ≠ k → f i = 0#8) → gf_sm f n = f k
  | 0, hk, _ => absurd hk (Nat.not_lt_zero k)
  | n + 1, hk, h => by
    show gf_sm f n ^^^ f n = f k
    by_cases e : k = n
    · subst e
      rw [gf_sm_0 (fun i hi => h i (by omega) (by omega)), BitVec.zero_xor]
    · rw [gf_sm_1 (by omega) (fun i hi hne => h i (by omega) hne), h n (by omega) (by omega), BitVec.xor_zero]
theorem gf_sm_u {f g : Nat → BitVec 8} {k n : Nat} (hk : k < n) (h : ∀ i, i < n → i ≠ k → f i = g i) : gf_sm f n = gf_sm g n ^^^ (g k ^^^ f k) := by
  have e : gf_sm (fun i => g i ^^^ f i) n = g k ^^^ f k := gf_sm_1 (f := fun i => g i ^^^ f i) hk (fun i hi hne => by
    show g i ^^^ f i = 0#8
    rw [h i hi hne, BitVec.xor_self])
  rw [← e, gf_sm_x, gf_xx]
/-! the weights -/
def gf_z (r b : Nat) : BitVec 8 := BitVec.ofNat 8 ((6 + r) ^^^ b)
def gf_W (r b : Nat) : BitVec 8 := gf_iv (gf_z r b)
def gf_al (r s b : Nat) : BitVec 8 := gf_M (BitVec.ofNat 8 ((6 + r) ^^^ (6 + s))) (gf_W r b)
def gf_be (s b c : Nat) : BitVec 8 := gf_M (BitVec.ofNat 8 (c ^^^ b)) (gf_W s c)
theorem gf_z_nz : ∀ r, r < 4 → ∀ b, b < 6 → gf_z r b ≠ 0#8 := by decide +kernel
theorem gf_W_z (r b : Nat) (hr : r < 4) (hb : b < 6) : gf_M (gf_W r b) (gf_z r b) = 1#8 := gf_inv' _ (gf_z_nz r hr b hb)
theorem gf_W_nz (r b : Nat) (hr : r < 4) (hb : b < 6) : gf_W r b ≠ 0#8 := fun h => by
  have e := gf_W_z r b hr hb
  rw [h, gf_0l] at e
  exact absurd e (by decide)
theorem gf_cau : ∀ r, r < 4 → ∀ s, s < 4 → ∀ b, b < 6 → ∀ c, c < 6 → gf_W r c ^^^ gf_M (gf_W r b) (gf_M (gf_z s b) (gf_W s c)) = gf_M (gf_al r s b) (gf_M (gf_be s b c) (gf_W r c)) := by decide +kernel
theorem gf_d1 : ∀ r, r < 4 → ∀ s, s < 4 → r ≠ s → BitVec.ofNat 8 ((6 + r) ^^^ (6 + s)) ≠ 0#8 := by decide +kernel
theorem gf_d2 : ∀ b, b < 6 → ∀ c, c < 6 → b ≠ c → BitVec.ofNat 8 (c ^^^ b) ≠ 0#8 := by decide +kernel
theorem gf_alg (A B C D v wip wpj wij wpp z al be : BitVec 8) (h1 : gf_M v (gf_M C (gf_M D wpp)) = 1#8) (h2 : gf_M wpp z = 1#8) (hc : wij ^^^ gf_M wip (gf_M z wpj) = gf_M al (gf_M be wij)) :
    gf_M A (gf_M B wij) ^^^ gf_M (gf_M A (gf_M D wip)) (gf_M v (gf_M C (gf_M B wpj))) = gf_M (gf_M A al) (gf_M (gf_M B be) wij) := by
  have ia : Std.Associative gf_M := ⟨gf_assoc⟩
  have ic : Std.Commutative gf_M := ⟨gf_comm⟩
  have e1 : gf_M v (gf_M C D) = z := by
    have t1 : gf_M v (gf_M C D) = gf_M (gf_M v (gf_M C D)) (gf_M wpp z) := by rw [h2, gf_1r]
    have t2 : gf_M (gf_M v (gf_M C D)) (gf_M wpp z) = gf_M (gf_M v (gf_M C (gf_M D wpp))) z := by ac_rfl
    rw [t1, t2, h1, gf_1l]
  have e2 : gf_M (gf_M A (gf_M D wip)) (gf_M v (gf_M C (gf_M B wpj))) = gf_M A (gf_M B (gf_M wip (gf_M (gf_M v (gf_M C D)) wpj))) := by ac_rfl
  have e3 : gf_M (gf_M A al) (gf_M (gf_M B be) wij) = gf_M A (gf_M B (gf_M al (gf_M be wij))) := by ac_rfl
  rw [e2, e1, ← gf_Mr, ← gf_Mr, hc, e3]
/-! one pivot, and all of them -/
def gf_st (g : Nat → Nat → BitVec 8) (p : Nat) : Nat → Nat → BitVec 8 := fun i j => if i = p then gf_M (gf_iv (g p (8 + p))) (g p j) else g i j ^^^ gf_M (g i (8 + p)) (gf_M (gf_iv (g p (8 + p))) (g p j))
def gf_G (g : Nat → Nat → BitVec 8) : Nat → Nat → Nat → BitVec 8
  | 0 => g
  | n + 1 => gf_st (gf_G g n) n
theorem gf_st_p (g : Nat → Nat → BitVec 8) (p j : Nat) : gf_st g p p j = gf_M (gf_iv (g p (8 + p))) (g p j) := if_pos rfl
theorem gf_st_n (g : Nat → Nat → BitVec 8) {p i : Nat} (j : Nat) (h : i ≠ p) : gf_st g p i j = g i j ^^^ gf_M (g i (8 + p)) (gf_M (gf_iv (g p (8 + p))) (g p j)) := if_neg h
def gf_Eq (g : Nat → Nat → BitVec 8) (x : Nat → BitVec 8) (k pl : Nat) : Prop := ∀ i, i < k → gf_sm (fun c => gf_M (g i (8 + c)) (x c)) k = g i pl
theorem gf_Eq_st {g : Nat → Nat → BitVec 8} {x : Nat → BitVec 8} {k pl p : Nat} (h : gf_Eq g x k pl) (hp : p < k) : gf_Eq (gf_st g p) x k pl := by
  intro i hi
  have e1 : gf_sm (fun c => gf_M (gf_M (gf_iv (g p (8 + p))) (g p (8 + c))) (x c)) k = gf_M (gf_iv (g p (8 + p))) (g p pl) := by
    rw [← h p hp, gf_sm_m]
    exact gf_sm_c (fun c _ => gf_assoc _ _ _)
  by_cases e : i = p
  · subst e
    rw [gf_st_p, ← e1]
    exact gf_sm_c (fun c _ => by rw [gf_st_p])
  · rw [gf_st_n g pl e, ← h i hi, ← e1, gf_sm_m, ← gf_sm_x]
    exact gf_sm_c (fun c _ => by rw [gf_st_n g (8 + c) e, gf_Ml, gf_assoc])
theorem gf_Eq_G {g : Nat → Nat → BitVec 8} {x : Nat → BitVec 8} {k pl : Nat} (h : gf_Eq g x k pl) : ∀ p, p ≤ k → gf_Eq (gf_G g p) x k pl
  | 0, _ => h
  | p + 1, hp => gf_Eq_st (gf_Eq_G h p (by omega)) (by omega)
def gf_U (g : Nat → Nat → BitVec 8) (k p : Nat) : Prop := ∀ i, i < k → ∀ c, c < p → g i (8 + c) = if i = c then 1#8 else 0#8
def gf_C (g : Nat → Nat → BitVec 8) (hh bb : Nat → Nat) (k p : Nat) : Prop := ∃ A B : Nat → BitVec 8, (∀ i, p ≤ i → i < k → A i ≠ 0#8 ∧ B i ≠ 0#8) ∧ ∀ i, p ≤ i → i < k → ∀ j, p ≤ j → j < k → g i (8 + j) = gf_M (A i) (gf_M (B j) (gf_W (hh i) (bb j)))
theorem gf_UC {g : Nat → Nat → BitVec 8} {hh bb : Nat → Nat} {k p : Nat} (h4 : ∀ i, i < k → hh i < 4) (h6 : ∀ i, i < k → bb i < 6) (hd : ∀ i, i < k → ∀ j, j < k → i ≠ j → hh i ≠ hh j) (bd : ∀ i, i < k → ∀ j, j < k → i ≠ j → bb i ≠ bb j) (hp : p < k) (U : gf_U g k p) (C : gf_C g hh bb k p) : gf_U (gf_st g p) k (p + 1) ∧ gf_C (gf_st g p) hh bb k (p + 1) := by
  obtain ⟨A, B, nz, hC⟩ := C
  have epp : g p (8 + p) = gf_M (A p) (gf_M (B p) (gf_W (hh p) (bb p))) := hC p (Nat.le_refl p) hp p (Nat.le_refl p) hp
  have npp : g p (8 + p) ≠ 0#8 := by
    rw [epp]
    exact gf_nz _ _ (nz p (Nat.le_refl p) hp).1 (gf_nz _ _ (nz p (Nat.le_refl p) hp).2 (gf_W_nz _ _ (h4 p hp) (h6 p hp)))
  have vpp : gf_M (gf_iv (g p (8 + p))) (g p (8 + p)) = 1#8 := gf_inv' _ npp
  refine ⟨fun i hi c hc => ?_, fun i => gf_M (A i) (gf_al (hh i) (hh p) (bb p)), fun j => gf_M (B j) (gf_be (hh p) (bb p) (bb j)), fun i h1 h2 => ?_, fun i h1 h2 j h3 h5 => ?_⟩
  · by_cases ec : c = p
    · subst ec
      by_cases e : i = c
      · subst e
        rw [gf_st_p, vpp, if_pos rfl]
      · rw [gf_st_n g _ e, vpp, gf_1r, BitVec.xor_self, if_neg e]
    · have up := U p hp c (by omega)
      rw [if_neg (fun z => ec z.symm)] at up
      by_cases e : i = p
      · subst e
        rw [gf_st_p, up, gf_0r, if_neg (fun z => ec z.symm)]
      · rw [gf_st_n g _ e, up, gf_0r, gf_0r, BitVec.xor_zero]
        exact U i hi c (by omega)
  · have n1 := nz i (by omega) h2
    have d1 : hh i ≠ hh p := hd i h2 p hp (by omega)
    have d2 : bb p ≠ bb i := bd p hp i h2 (by omega)
    exact ⟨gf_nz _ _ n1.1 (gf_nz _ _ (gf_d1 _ (h4 i h2) _ (h4 p hp) d1) (gf_W_nz _ _ (h4 i h2) (h6 p hp))),
      gf_nz _ _ n1.2 (gf_nz _ _ (gf_d2 _ (h6 p hp) _ (h6 i h2) d2) (gf_W_nz _ _ (h4 p hp) (h6 i h2)))⟩
  · rw [gf_st_n g _ (show i ≠ p by omega), hC i (by omega) h2 j (by omega) h5, hC i (by omega) h2 p (Nat.le_refl p) hp, hC p (Nat.le_refl p) hp j (by omega) h5]
    rw [epp] at vpp
    rw [epp]
    exact gf_alg _ _ _ _ _ _ _ _ _ _ _ _ vpp (gf_W_z _ _ (h4 p hp) (h6 p hp)) (gf_cau _ (h4 i h2) _ (h4 p hp) _ (h6 p hp) _ (h6 j h5))
theorem gf_1nz : (1#8 : BitVec 8) ≠ 0#8 := by decide
theorem gf_UCG {g : Nat → Nat → BitVec 8} {hh bb : Nat → Nat} {k : Nat} (h4 : ∀ i, i < k → hh i < 4) (h6 : ∀ i, i < k → bb i < 6) (hd : ∀ i, i < k → ∀ j, j < k → i ≠ j → hh i ≠ hh j) (bd : ∀ i, i < k → ∀ j, j < k → i ≠ j → bb i ≠ bb j) (h0 : ∀ i, i < k → ∀ j, j < k → g i (8 + j) = gf_W (hh i) (bb j)) : ∀ p, p ≤ k → gf_U (gf_G g p) k p ∧ gf_C (gf_G g p) hh bb k p
  | 0, _ => ⟨fun _ _ c hc => absurd hc (Nat.not_lt_zero c), fun _ => 1#8, fun _ => 1#8, fun _ _ _ => ⟨gf_1nz, gf_1nz⟩, fun i _ hi j _ hj => by
      rw [gf_1l, gf_1l]
      exact h0 i hi j hj⟩
  | p + 1, hp => gf_UC h4 h6 hd bd (by omega) (gf_UCG h4 h6 hd bd h0 p (by omega)).1 (gf_UCG h4 h6 hd bd h0 p (by omega)).2
theorem gf_solve {g : Nat → Nat → BitVec 8} {hh bb : Nat → Nat} {x : Nat → BitVec 8} {k pl : Nat} (h4 : ∀ i, i < k → hh i < 4) (h6 : ∀ i, i < k → bb i < 6) (hd : ∀ i, i < k → ∀ j, j < k → i ≠ j → hh i ≠ hh j) (bd : ∀ i, i < k → ∀ j, j < k → i ≠ j → bb i ≠ bb j) (h0 : ∀ i, i < k → ∀ j, j < k → g i (8 + j) = gf_W (hh i) (bb j)) (hE : gf_Eq g x k pl) : ∀ i, i < k → gf_G g k i pl = x i := by
  intro i hi
  have U := (gf_UCG h4 h6 hd bd h0 k (Nat.le_refl k)).1
  have E := gf_Eq_G hE k (Nat.le_refl k) i hi
  rw [← E, gf_sm_1 (k := i) hi (fun c hc hne => by
    show gf_M (gf_G g k i (8 + c)) (x c) = 0#8
    rw [U i hi c hc, if_neg (fun z => hne z.symm), gf_0l])]
  show gf_M (gf_G g k i (8 + i)) (x i) = x i
  rw [U i hi i hi, if_pos rfl, gf_1l]
end
section
/-! counting and listing the numbers below n that q takes -/
def pc_n (q : Nat → Bool) : Nat → Nat
  | 0 => 0
  | n + 1 => pc_n q n + (if q n then 1 else 0)
theorem pc_t {q : Nat → Bool} {n : Nat} (h : q n = true) : pc_n q (n + 1) = pc_n q n + 1 := by
  show pc_n q n + (if q n then 1 else 0) = _
  rw [if_pos h]
theorem pc_f {q : Nat → Bool} {n : Nat} (h : q n = false) : pc_n q (n + 1) = pc_n q n := by
  show pc_n q n + (if q n then 1 else 0) = _
  rw [h]
  rfl
theorem pc_le (q : Nat → Bool) : ∀ n, pc_n q n ≤ n
  | 0 => Nat.le_refl 0
  | n + 1 => by
    have h := pc_le q n
    by_cases e : q n = true
    · rw [pc_t e]; omega
    · rw [pc_f (by simpa using e)]; omega
theorem pc_mono (q : Nat → Bool) (n : Nat) : pc_n q n ≤ pc_n q (n + 1) := Nat.le_add_right _ _
theorem pc_mo (q : Nat → Bool) (n : Nat) : ∀ d, pc_n q n ≤ pc_n q (n + d)
  | 0 => Nat.le_refl _
  | d + 1 => Nat.le_trans (pc_mo q n d) (pc_mono q (n + d))
theorem pc_c {q q' : Nat → Bool} : ∀ {n : Nat}, (∀ i, i < n → q i = q' i) → pc_n q n = pc_n q' n
  | 0, _ => rfl
  | n + 1, h => by
    show pc_n q n + (if q n then 1 else 0) = pc_n q' n + (if q' n then 1 else 0)
    rw [pc_c (fun i hi => h i (by omega)), h n (by omega)]
theorem pc_0 {q : Nat → Bool} : ∀ {n : Nat}, pc_n q n = 0 → ∀ i, i < n → q i = false
  | 0, _, i, hi => absurd hi (Nat.not_lt_zero i)
  | n + 1, h, i, hi => by
    cases e : q n
    · rw [pc_f e] at h
      by_cases hn : i = n
      · rw [hn]; exact e
      · exact pc_0 h i (by omega)
    · rw [pc_t e] at h
      omega
def pc_L (q : Nat → Bool) (n c : Nat) (f : Nat → Nat) : Prop :=
  (∀ i, i < c → f i < n ∧ q (f i) = true) ∧ (∀ i, i < c → ∀ j, j < c → i ≠ j → f i ≠ f j) ∧ (∀ b, b < n → q b = true → ∃ i, i < c ∧ f i = b) ∧ (∀ F : Nat → BitVec 8, gf_sm (fun b => if q b then F b else 0#8) n = gf_sm (fun i => F (f i)) c)
theorem pc_L0 (q : Nat → Bool) (f : Nat → Nat) : pc_L q 0 0 f :=
  ⟨fun i hi => absurd hi (Nat.not_lt_zero i), fun i hi => absurd hi (Nat.not_lt_zero i), fun b hb => absurd hb (Nat.not_lt_zero b), fun _ => rfl⟩
theorem pc_Lf {q : Nat → Bool} {n c : Nat} {f : Nat → Nat} (e : q n = false) (h : pc_L q n c f) : pc_L q (n + 1) c f := by
  obtain ⟨h1, h2, h3, h4⟩ := h
  refine ⟨fun i hi => ⟨by have := (h1 i hi).1; omega, (h1 i hi).2⟩, h2, fun b hb hq => ?_, fun F => ?_⟩
  · by_cases eb : b = n
    · rw [eb, e] at hq
      exact absurd hq (by decide)
    · exact h3 b (by omega) hq
  · show gf_sm (fun b => if q b then F b else 0#8) n ^^^ (if q n then F n else 0#8) = _
    rw [e, h4 F]
    exact BitVec.xor_zero
theorem pc_Lt {q : Nat → Bool} {n c : Nat} {f f' : Nat → Nat} (e : q n = true) (h : pc_L q n c f) (hf : ∀ i, i < c → f' i = f i) (hc : f' c = n) : pc_L q (n + 1) (c + 1) f' := by
  obtain ⟨h1, h2, h3, h4⟩ := h
  have k : ∀ i, i < c → f' i < n := fun i hi => by rw [hf i hi]; exact (h1 i hi).1
  refine ⟨fun i hi => ?_, fun i hi j hj hne => ?_, fun b hb hq => ?_, fun F => ?_⟩
  · by_cases ei : i = c
    · rw [ei, hc]
      exact ⟨by omega, e⟩
    · have hi2 : i < c := by omega
      exact ⟨by have := k i hi2; omega, by rw [hf i hi2]; exact (h1 i hi2).2⟩
  · by_cases ei : i = c
    · have hj2 : j < c := by omega
      have := k j hj2
      rw [ei, hc]
      omega
    · have hi2 : i < c := by omega
      by_cases ej : j = c
      · have := k i hi2
        rw [ej, hc]
        omega
      · have hj2 : j < c := by omega
        rw [hf i hi2, hf j hj2]
        exact h2 i hi2 j hj2 hne
  · by_cases eb : b = n
    · exact ⟨c, by omega, by rw [hc, eb]⟩
    · obtain ⟨i, hi, ei⟩ := h3 b (by omega) hq
      exact ⟨i, by omega, by rw [hf i hi, ei]⟩
  · show gf_sm (fun b => if q b then F b else 0#8) n ^^^ (if q n then F n else 0#8) = gf_sm (fun i => F (f' i)) c ^^^ F (f' c)
    rw [if_pos e, h4 F, hc, gf_sm_c (f := fun i => F (f' i)) (g := fun i => F (f i)) (fun i hi => congrArg F (hf i hi))]
end
section
/-! rows pasted from the kit (kit/rows) -/
theorem pk_us {f : Nat → Int32} {k : Nat} {x : Int32} : upd f k x k = x := if_pos rfl
theorem pk_un {f : Nat → Int32} {k j : Nat} {x : Int32} (h : j ≠ k) : upd f k x j = f j := if_neg h
theorem pk_sub {a b : Nat} (h : b ≤ a) : nI a - nI b = nI (a - b) := by
  obtain ⟨c, rfl⟩ : ∃ c, a = c + b := ⟨a - b, by omega⟩
  rw [← nI_add, Int32.add_sub_cancel, Nat.add_sub_cancel]
theorem pk_m1 (n : Nat) : nI (n + 1) + (-1) = nI n := by
  rw [← nI_1, Int32.add_assoc, show (1 : Int32) + (-1) = 0 from rfl, Int32.add_zero]
theorem pk_mul (a b : Nat) : nI a * nI b = nI (a * b) := (Int32.ofNat_mul a b).symm
theorem pk_div {a d : Nat} (ha : a < 2 ^ 31) (h0 : 0 < d) (hd : d < 2 ^ 31) : nI a / nI d = nI (a / d) := by
  apply Int32.toInt_inj.mp
  rw [lg_idiv_nonneg (by rw [nI_toInt ha]; omega) (by rw [nI_toInt hd]; omega), nI_toInt ha, nI_toInt hd, nI_toInt (Nat.lt_of_le_of_lt (Nat.div_le_self a d) ha)]
  first | rfl | exact (Int.natCast_ediv _ _).symm
theorem pk_sub_toInt {a b : Nat} (ha : a < 2 ^ 30) (hb : b < 2 ^ 30) : (nI a - nI b).toInt = (a : Int) - b := by
  rw [Int32.toInt_sub, nI_toInt (by omega), nI_toInt (by omega)]
  exact Int.bmod_eq_of_le (by omega) (by omega)
theorem pk_sneg {a b : Nat} (hb : b < 2 ^ 30) (h : a < b) : nI a - nI b < 0 := by
  rw [Int32.lt_iff_toInt_lt, pk_sub_toInt (by omega) hb, show (0 : Int32).toInt = 0 from by decide]
  omega
theorem pk_ix (x : Int32) {n : Nat} (hn : n < 2 ^ 31) : x < 0 ∨ nI n ≤ x ∨ ∃ j : Nat, j < n ∧ x = nI j := by
  by_cases h : x < 0
  · exact Or.inl h
  · obtain ⟨j, hj, rfl⟩ := nI_of h
    by_cases h2 : j < n
    · exact Or.inr (Or.inr ⟨j, h2, rfl⟩)
    · exact Or.inr (Or.inl (nI_le (by omega) hj))
theorem pk_le {x y : Int32} {A B : Prop} (a b : Nat) (f : a ≤ b → A) (g : b < a → B) (hx : x = nI a := by rfl) (hy : y = nI b := by rfl) (ha : a < 2 ^ 31 := by omega) (hb : b < 2 ^ 31 := by omega) : (x ≤ y → A) ∧ (¬ x ≤ y → B) := by
  subst hx hy
  rw [nI_leI ha hb]
  exact ⟨f, fun z => g (by omega)⟩
theorem pk_lt {x y : Int32} {A B : Prop} (a b : Nat) (f : a < b → A) (g : b ≤ a → B) (hx : x = nI a := by rfl) (hy : y = nI b := by rfl) (ha : a < 2 ^ 31 := by omega) (hb : b < 2 ^ 31 := by omega) : (x < y → A) ∧ (¬ x < y → B) := by
  subst hx hy
  rw [nI_ltI ha hb]
  exact ⟨f, fun z => g (by omega)⟩
theorem pk_eq {x y : Int32} {A B : Prop} (a b : Nat) (f : a = b → A) (g : a ≠ b → B) (hx : x = nI a := by rfl) (hy : y = nI b := by rfl) (ha : a < 2 ^ 31 := by omega) (hb : b < 2 ^ 31 := by omega) : (x = y → A) ∧ (¬ x = y → B) := by
  subst hx hy
  rw [nI_eq ha hb]
  exact ⟨f, g⟩
theorem pk_in {x : Int32} (n N : Nat) (h : n < N) (hx : x = nI n := by rfl) (hN : N < 2 ^ 31 := by omega) : vp_in x N := by
  subst hx
  exact vp_in_nI h hN
theorem pk_cl {x : Int32} (n : Nat) (hx : x = nI n := by rfl) (h : n < 2 ^ 31 := by omega) : x.toNatClampNeg = n := by
  subst hx
  exact nI_clamp h
theorem pk_tn {n : Nat} (h : n < 2 ^ 32) : (nI n).toBitVec.toNat = n := Nat.mod_eq_of_lt h
theorem pk_and (x : Int32) {m : Int32} (k : Nat) (hm : m.toBitVec.toNat = 2 ^ k - 1) : x &&& m = nI (x.toBitVec.toNat % 2 ^ k) := by
  apply Int32.toBitVec_inj.mp
  apply BitVec.eq_of_toNat_eq
  rw [Int32.toBitVec_and, BitVec.toNat_and, hm, Nat.and_two_pow_sub_one_eq_mod]
  show _ = (BitVec.ofNat 32 _).toNat
  rw [BitVec.toNat_ofNat]
  exact (Nat.mod_eq_of_lt (Nat.lt_of_le_of_lt (Nat.mod_le _ _) x.toBitVec.isLt)).symm
theorem pk_andN {n : Nat} (h : n < 2 ^ 32) {m : Int32} (k : Nat) (hm : m.toBitVec.toNat = 2 ^ k - 1) : nI n &&& m = nI (n % 2 ^ k) := by
  rw [pk_and _ k hm, pk_tn h]
theorem pk_andE (x : Int32) {m : Int32} (k : Nat) (hm : m.toBitVec.toNat = 2 ^ k - 1) : ∃ j : Nat, j < 2 ^ k ∧ x &&& m = nI j := ⟨_, Nat.mod_lt _ (Nat.two_pow_pos k), pk_and x k hm⟩
theorem pk_shl (a s : Int32) (k : Nat) (hs : (s.toBitVec.smod 32).toNat = k) : (a <<< s).toBitVec.toNat = a.toBitVec.toNat * 2 ^ k % 2 ^ 32 := by
  show (a.toBitVec <<< (s.toBitVec.smod 32).toNat).toNat = _
  rw [hs, BitVec.toNat_shiftLeft, Nat.shiftLeft_eq]
theorem pk_shlN {n : Nat} (s : Int32) (k : Nat) (hs : (s.toBitVec.smod 32).toNat = k) (h : n * 2 ^ k < 2 ^ 32) : nI n <<< s = nI (n * 2 ^ k) := by
  apply Int32.toBitVec_inj.mp
  apply BitVec.eq_of_toNat_eq
  have hn : n < 2 ^ 32 := Nat.lt_of_le_of_lt (Nat.le_mul_of_pos_right n (Nat.two_pow_pos k)) h
  rw [pk_shl _ _ k hs, pk_tn hn, pk_tn h, Nat.mod_eq_of_lt h]
theorem pk_shr (a s : Int32) (k : Nat) (hs : (s.toBitVec.smod 32).toNat = k) : (a >>> s).toInt = a.toInt >>> k := by
  show (a.toBitVec.sshiftRight (s.toBitVec.smod 32).toNat).toInt = _
  rw [hs, BitVec.toInt_sshiftRight]
  rfl
theorem pk_shrN {n : Nat} (h : n < 2 ^ 31) (s : Int32) (k : Nat) (hs : (s.toBitVec.smod 32).toNat = k) : nI n >>> s = nI (n / 2 ^ k) := by
  apply Int32.toInt_inj.mp
  have h2 : n / 2 ^ k ≤ n := Nat.div_le_self _ _
  rw [pk_shr _ _ k hs, nI_toInt h, nI_toInt (by omega), Int.shiftRight_eq_div_pow]
  rfl
theorem pk_loop {σ : Type} (W : Nat → Nat → σ → Prop) (I : Nat → σ → Prop) (e i0 : Nat) (s : σ) (hi : i0 ≤ e) (h0 : I i0 s) (hx : ∀ n s, I e s → W (n + 1) e s)
    (hs : ∀ n i s, i < e → I i s → (∀ s', I (i + 1) s' → W n (i + 1) s') → W (n + 1) i s) : ∃ n, W n i0 s :=
  ⟨e + 1, loop_i W I e hx hs (e + 1) i0 s hi (by omega) h0⟩
theorem s_l : ∀ n, n < 32 → ((nI n &&& 31).toBitVec.smod 32).toNat = n := by decide +kernel
theorem nx_and (a b : Nat) : nI a &&& nI b = nI (a &&& b) := by
  apply Int32.toBitVec_inj.1
  show BitVec.ofNat 32 a &&& BitVec.ofNat 32 b = BitVec.ofNat 32 (a &&& b)
  apply BitVec.eq_of_getLsbD_eq
  intro i hi
  simp [hi]
theorem nx_xor (a b : Nat) : nI a ^^^ nI b = nI (a ^^^ b) := by
  apply Int32.toBitVec_inj.1
  show BitVec.ofNat 32 a ^^^ BitVec.ofNat 32 b = BitVec.ofNat 32 (a ^^^ b)
  apply BitVec.eq_of_getLsbD_eq
  intro i hi
  simp [hi]
end
section
/-! a byte as an int -/
def cv_I (b : BitVec 8) : Int32 := nI b.toNat
theorem cv_x (a b : BitVec 8) : cv_I a ^^^ cv_I b = cv_I (a ^^^ b) := by
  unfold cv_I
  rw [nx_xor, BitVec.toNat_xor]
theorem cv_0 : cv_I 0#8 = 0 := nI_0
theorem cv_of {n : Nat} (h : n < 256) : nI n = cv_I (BitVec.ofNat 8 n) := by
  unfold cv_I
  rw [BitVec.toNat_ofNat, Nat.mod_eq_of_lt (show n < 2 ^ 8 from h)]
theorem cv_bit (b : BitVec 8) (j : Nat) (hj : j < 8) : ((cv_I b >>> (nI j &&& 31)) &&& 1) = 0 ↔ b.getLsbD j = false := by
  have e : b.getLsbD j = decide (b.toNat / 2 ^ j % 2 = 1) := Nat.testBit_eq_decide_div_mod_eq
  have h := b.isLt
  unfold cv_I
  rw [pk_shrN (by omega) _ j (s_l j (by omega)), e]
  generalize b.toNat / 2 ^ j = z
  show nI z &&& nI 1 = 0 ↔ _
  rw [nx_and, Nat.and_one_is_mod, ← nI_0, nI_eq (by omega) (by omega), decide_eq_false_iff_not]
  omega
theorem cv_xt0 : ∀ n, n < 256 → (gf_xt (BitVec.ofNat 8 n)).toNat = if (BitVec.ofNat 8 n).toNat < 128 then (BitVec.ofNat 8 n).toNat * 2 else (BitVec.ofNat 8 n).toNat * 2 ^^^ 285 := by decide +kernel
theorem cv_xt (a : BitVec 8) : (gf_xt a).toNat = if a.toNat < 128 then a.toNat * 2 else a.toNat * 2 ^^^ 285 :=
  gf_all (P := fun a => (gf_xt a).toNat = if a.toNat < 128 then a.toNat * 2 else a.toNat * 2 ^^^ 285) cv_xt0 a
theorem cv_sl (a : BitVec 8) : cv_I a <<< ((1 : Int32) &&& 31) = nI (a.toNat * 2) := by
  have h := a.isLt
  exact pk_shlN (n := a.toNat) ((1 : Int32) &&& 31) 1 (by decide) (by omega)
theorem cv_s1 {a : BitVec 8} (h : a.toNat < 128) : nI (a.toNat * 2) = cv_I (gf_xt a) := by
  unfold cv_I
  rw [cv_xt, if_pos h]
theorem cv_s2 {a : BitVec 8} (h : ¬ a.toNat < 128) : nI (a.toNat * 2) ^^^ 285 = cv_I (gf_xt a) := by
  unfold cv_I
  rw [cv_xt, if_neg h]
  exact nx_xor _ 285
end
section
/-! products, inverses, counts and sums as the component walks them -/
theorem px_m27 {post : Int32 → Prop} {J7 : Int32 → Int32 → Int32 → Prop} {x1 x2 : Int32} (a : BitVec 8) (i : Nat) (h : J7 x2 (cv_I (gf_xt a)) (nI (i + 1))) : wX_multiply_27 post J7 x1 x2 (cv_I a) (nI i) := by
  unfold wX_multiply_27
  have ha := a.isLt
  refine nm_r (cv_sl a) ?_
  by_cases e : a.toNat < 128
  · refine br_t (nI_le (b := 255) (by omega) (by decide)) (nm_r (nI_1 i) ?_)
    rw [cv_s1 e]
    exact h
  · refine br_f (nI_ge (a := 255) (by omega) (by omega)) ?_
    exact nm_r (cv_s2 e) (nm_r (nI_1 i) h)
theorem px_mulk {post : Int32 → Prop} (a b : BitVec 8) (hp : post (cv_I (gf_M a b))) : ∀ n i, i ≤ 8 → 8 - i < n → wX_multiply_7 post (cv_I b) n (cv_I (gf_mp a b i)) (cv_I (gf_xp a i)) (nI i) := by
  intro n
  induction n with
  | zero => intro i _ h; omega
  | succ n ih =>
    intro i hi hn
    by_cases e : i = 8
    · subst e
      exact br_t (nI_le (a := 8) (b := 8) (by decide) (by decide)) hp
    · have hi2 : i < 8 := by omega
      have nx := ih (i + 1) (by omega) (by omega)
      refine br_f (nI_ge (b := 8) hi2 (by decide)) ?_
      by_cases hb : b.getLsbD i = true
      · have e1 : gf_mp a b (i + 1) = gf_mp a b i ^^^ gf_xp a i := by
          show gf_mp a b i ^^^ (if b.getLsbD i then gf_xp a i else 0#8) = _
          rw [if_pos hb]
        rw [e1] at nx
        refine br_f (fun z => ?_) (nm_r (cv_x _ _) (px_m27 _ i nx))
        rw [(cv_bit b i hi2).mp z] at hb
        exact absurd hb (by decide)
      · have e1 : gf_mp a b (i + 1) = gf_mp a b i := by
          show gf_mp a b i ^^^ (if b.getLsbD i then gf_xp a i else 0#8) = _
          rw [if_neg hb, BitVec.xor_zero]
        rw [e1] at nx
        exact br_t ((cv_bit b i hi2).mpr (by simpa using hb)) (px_m27 _ i nx)
theorem px_mul {post : Int32 → Prop} {x y : Int32} (a b : BitVec 8) (hx : x = cv_I a) (hy : y = cv_I b) (hp : post (cv_I (gf_M a b))) : wpX_multiply post x y := by
  subst hx hy
  exact ⟨9, px_mulk a b hp 9 0 (by omega) (by omega)⟩
theorem px_invk {post : Int32 → Prop} (a : BitVec 8) (hp : post (cv_I (gf_iv a))) : ∀ n i, i ≤ 7 → 7 - i < n → wX_inverse_6 post n (cv_I (gf_pw a i)) (cv_I (gf_rs a i)) (nI (i + 1)) := by
  intro n
  induction n with
  | zero => intro i _ h; omega
  | succ n ih =>
    intro i hi hn
    by_cases e : i = 7
    · subst e
      exact br_t (nI_le (a := 8) (b := 8) (by decide) (by decide)) hp
    · have nx := ih (i + 1) (by omega) (by omega)
      refine br_f (nI_ge (b := 8) (by omega) (by decide)) ?_
      exact px_mul _ _ rfl rfl (px_mul _ _ rfl rfl (nm_r (nI_1 (i + 1)) nx))
theorem px_inv {post : Int32 → Prop} {x : Int32} (a : BitVec 8) (hx : x = cv_I a) (hp : post (cv_I (gf_iv a))) : wpX_inverse post x := by
  subst hx
  exact ⟨8, px_invk a hp 8 0 (by omega) (by omega)⟩
theorem ix_6 (a b : Nat) : nI a * 6 + nI b = nI (a * 6 + b) := (congrArg (fun z => z + nI b) (pk_mul a 6)).trans (nI_add _ _)
theorem ix_8 (a b : Nat) : nI a * 8 + nI b = nI (a * 8 + b) := (congrArg (fun z => z + nI b) (pk_mul a 8)).trans (nI_add _ _)
theorem ix_12 (a : Nat) : nI a * 12 = nI (a * 12) := pk_mul a 12
theorem ix_c8 {a b : Nat} (ha : a < 100) (hb : b < 100) : (nI a * 8 + nI b).toNatClampNeg = a * 8 + b := by
  rw [ix_8, nI_clamp (by omega)]
theorem ix_c6 {a b : Nat} (ha : a < 100) (hb : b < 100) : (nI a * 6 + nI b).toNatClampNeg = a * 6 + b := by
  rw [ix_6, nI_clamp (by omega)]
theorem ix_i8 {a b N : Nat} (h : a * 8 + b < N) (hN : N < 1000) : vp_in (nI a * 8 + nI b) N := pk_in (a * 8 + b) N h (ix_8 a b) (by omega)
theorem ix_i6 {a b N : Nat} (h : a * 6 + b < N) (hN : N < 1000) : vp_in (nI a * 6 + nI b) N := pk_in (a * 6 + b) N h (ix_6 a b) (by omega)
def pc_b (s : Nat → Int32) : Nat → Bool := fun i => decide (¬ s i = 0)
def pc_g (t : Nat → Int32) : Nat → Bool := fun i => decide (t i = 0)
theorem pc_bt {s : Nat → Int32} {i : Nat} (h : ¬ s i = 0) : pc_b s i = true := decide_eq_true h
theorem pc_bf {s : Nat → Int32} {i : Nat} (h : s i = 0) : pc_b s i = false := decide_eq_false (fun z => z h)
theorem pc_bf' {s : Nat → Int32} {i : Nat} (h : pc_b s i = false) : s i = 0 := Classical.byContradiction fun z => by
  rw [pc_bt z] at h
  exact absurd h (by decide)
theorem pc_bt' {s : Nat → Int32} {i : Nat} (h : pc_b s i = true) : ¬ s i = 0 := fun z => by
  rw [pc_bf z] at h
  exact absurd h (by decide)
theorem pc_gt {t : Nat → Int32} {i : Nat} (h : t i = 0) : pc_g t i = true := decide_eq_true h
theorem pc_gf {t : Nat → Int32} {i : Nat} (h : ¬ t i = 0) : pc_g t i = false := decide_eq_false h
theorem pc_gt' {t : Nat → Int32} {i : Nat} (h : pc_g t i = true) : t i = 0 := of_decide_eq_true h
section
variable {c : Int32} {d s q t w b h g : Nat → Int32}
theorem px_cb {post : Int32 → Prop} (hp : post (nI (pc_n (pc_b s) 6))) : wpX_countBroken post (c, d, s, q, t, w, b, h, g) := by
  have key : ∀ n i, i ≤ 6 → 6 - i < n → wX_countBroken_4 post c d s q t w b h g n (nI (pc_n (pc_b s) i)) (nI i) := by
    intro n
    induction n with
    | zero => intro i _ h; omega
    | succ n ih =>
      intro i hi hn
      by_cases e : i = 6
      · subst e
        exact br_t (nI_le (a := 6) (b := 6) (by decide) (by decide)) hp
      · have nx := ih (i + 1) (by omega) (by omega)
        have ci : (nI i).toNatClampNeg = i := nI_clamp (by omega)
        refine br_f (nI_ge (b := 6) (by omega) (by decide)) ⟨vp_in_nI (by omega) (by decide), ?_⟩
        by_cases z : s i = 0
        · rw [pc_f (pc_bf z)] at nx
          exact br_t (by rw [ci]; exact z) (nm_r (nI_1 i) nx)
        · rw [pc_t (pc_bt z)] at nx
          exact br_f (by rw [ci]; exact z) (nm_r (nI_1 _) (nm_r (nI_1 i) nx))
  exact ⟨7, key 7 0 (by omega) (by omega)⟩
theorem px_cg {post : Int32 → Prop} {m : Nat} (hm : m ≤ 4) (hp : post (nI (pc_n (pc_g t) m))) : wpX_countGoodRecovery post (nI m, d, s, q, t, w, b, h, g) := by
  have key : ∀ n i, i ≤ m → m - i < n → wX_countGoodRecovery_4 post (nI m) d s q t w b h g n (nI (pc_n (pc_g t) i)) (nI i) := by
    intro n
    induction n with
    | zero => intro i _ h; omega
    | succ n ih =>
      intro i hi hn
      by_cases e : i = m
      · subst e
        exact br_t (nI_le (Nat.le_refl _) (by omega)) hp
      · have nx := ih (i + 1) (by omega) (by omega)
        have ci : (nI i).toNatClampNeg = i := nI_clamp (by omega)
        refine br_f (nI_ge (by omega) (by omega)) ⟨vp_in_nI (by omega) (by decide), ?_⟩
        by_cases z : t i = 0
        · rw [pc_t (pc_gt z)] at nx
          exact br_t (by rw [ci]; exact z) (nm_r (nI_1 _) (nm_r (nI_1 i) nx))
        · rw [pc_f (pc_gf z)] at nx
          exact br_f (by rw [ci]; exact z) (nm_r (nI_1 i) nx)
  exact ⟨m + 1, key (m + 1) 0 (by omega) (by omega)⟩
def gs_f (s : Nat → Int32) (rl : Nat → BitVec 8) (r p : Nat) : Nat → BitVec 8 := fun i => if pc_b s i then 0#8 else gf_M (gf_W r i) (rl (i * 8 + p))
def gs_W (w : Nat → Int32) : Prop := ∀ r, r < 4 → ∀ i, i < 6 → w (r * 6 + i) = cv_I (gf_W r i)
theorem px_sum {post : Int32 → Prop} {r p : Nat} {rl : Nat → BitVec 8} (hr : r < 4) (hp8 : p < 8) (hw : gs_W w) (hd : ∀ i, i < 6 → s i = 0 → ∀ p, p < 8 → d (i * 8 + p) = cv_I (rl (i * 8 + p))) (hp : post (cv_I (gf_sm (gs_f s rl r p) 6))) : wpX_sumOfGoodBlocks post (c, d, s, q, t, w, b, h, g) (nI r) (nI p) := by
  have key : ∀ n i, i ≤ 6 → 6 - i < n → wX_sumOfGoodBlocks_5 post (nI r) (nI p) c d s q t w b h g n (cv_I (gf_sm (gs_f s rl r p) i)) (nI i) := by
    intro n
    induction n with
    | zero => intro i _ h; omega
    | succ n ih =>
      intro i hi hn
      by_cases e : i = 6
      · subst e
        exact br_t (nI_le (a := 6) (b := 6) (by decide) (by decide)) hp
      · have hi6 : i < 6 := by omega
        have nx := ih (i + 1) (by omega) (by omega)
        have ci : (nI i).toNatClampNeg = i := nI_clamp (by omega)
        refine br_f (nI_ge (b := 6) (by omega) (by decide)) ⟨vp_in_nI (by omega) (by decide), ?_⟩
        by_cases z : s i = 0
        · have e1 : gf_sm (gs_f s rl r p) (i + 1) = gf_sm (gs_f s rl r p) i ^^^ gf_M (gf_W r i) (rl (i * 8 + p)) := by
            show gf_sm (gs_f s rl r p) i ^^^ (if pc_b s i then 0#8 else gf_M (gf_W r i) (rl (i * 8 + p))) = _
            rw [pc_bf z]
            rfl
          rw [e1] at nx
          refine br_t (by rw [ci]; exact z) ⟨ix_i6 (by omega) (by decide), ix_i8 (by omega) (by decide), ?_⟩
          refine px_mul (gf_W r i) (rl (i * 8 + p)) ?_ ?_ (nm_r (cv_x _ _) (nm_r (nI_1 i) nx))
          · rw [ix_c6 (by omega) (by omega)]
            exact hw r hr i hi6
          · rw [ix_c8 (by omega) (by omega)]
            exact hd i hi6 z p hp8
        · have e1 : gf_sm (gs_f s rl r p) (i + 1) = gf_sm (gs_f s rl r p) i := by
            show gf_sm (gs_f s rl r p) i ^^^ (if pc_b s i then 0#8 else gf_M (gf_W r i) (rl (i * 8 + p))) = _
            rw [pc_bt z]
            exact BitVec.xor_zero
          rw [e1] at nx
          exact br_f (by rw [ci]; exact z) (nm_r (nI_1 i) nx)
  exact ⟨7, key 7 0 (by omega) (by omega)⟩
end
end
section
/-! the component's own methods that store: blocks cleared, recovery made and updated, lists -/
def gs_S (rl : Nat → BitVec 8) (r p : Nat) : BitVec 8 := gf_sm (fun i => gf_M (gf_W r i) (rl (i * 8 + p))) 6
section
variable {c : Int32} {d s q t w b h g : Nat → Int32}
theorem px_clb {post : SX → Prop} {k : Nat} (hk : k < 6) (hp : ∀ d', (∀ p, p < 8 → d' (k * 8 + p) = 0) → (∀ i, i ≠ k → ∀ p, p < 8 → d' (i * 8 + p) = d (i * 8 + p)) → post (c, d', s, q, t, w, b, h, g)) : wpX_clearBlock post (c, d, s, q, t, w, b, h, g) (nI k) := by
  refine loop_0 (fun n i d' => wX_clearBlock_2 post (nI k) c n (nI i) d' s q t w b h g) (fun j d' => (∀ p, p < j → d' (k * 8 + p) = 0) ∧ (∀ i, i ≠ k → ∀ p, p < 8 → d' (i * 8 + p) = d (i * 8 + p))) 8 d ⟨fun p hp0 => absurd hp0 (Nat.not_lt_zero p), fun _ _ _ _ => rfl⟩ ?_ ?_
  · intro n d' hI
    exact br_t (nI_le (a := 8) (b := 8) (by decide) (by decide)) (hp d' hI.1 hI.2)
  · intro n j d' hj hI nx
    refine br_f (nI_ge (b := 8) hj (by decide)) ⟨ix_i8 (by omega) (by decide), nm_r (e' := upd d' (k * 8 + j) 0) (by rw [ix_c8 (by omega) (by omega)]) (nm_r (nI_1 j) (nx _ ⟨?_, ?_⟩))⟩
    · intro p hp1
      by_cases e : p = j
      · subst e
        exact pk_us
      · rw [pk_un (by omega)]
        exact hI.1 p (by omega)
    · intro i hi p hp8
      rw [pk_un (by omega)]
      exact hI.2 i hi p hp8
theorem px_clr {post : SX → Prop} {k : Nat} (hk : k < 4) (hp : ∀ q', (∀ i, i ≠ k → ∀ p, p < 8 → q' (i * 8 + p) = q (i * 8 + p)) → post (c, d, s, q', t, w, b, h, g)) : wpX_clearRecovery post (c, d, s, q, t, w, b, h, g) (nI k) := by
  refine loop_0 (fun n i q' => wX_clearRecovery_2 post (nI k) c n (nI i) d s q' t w b h g) (fun j q' => (∀ i, i ≠ k → ∀ p, p < 8 → q' (i * 8 + p) = q (i * 8 + p))) 8 q (fun _ _ _ _ => rfl) ?_ ?_
  · intro n q' hI
    exact br_t (nI_le (a := 8) (b := 8) (by decide) (by decide)) (hp q' hI)
  · intro n j q' hj hI nx
    refine br_f (nI_ge (b := 8) hj (by decide)) ⟨ix_i8 (by omega) (by decide), nm_r (e' := upd q' (k * 8 + j) 0) (by rw [ix_c8 (by omega) (by omega)]) (nm_r (nI_1 j) (nx _ ?_))⟩
    intro i hi p hp8
    rw [pk_un (by omega)]
    exact hI i hi p hp8
theorem px_upd {post : SX → Prop} {m k pl : Nat} {ch : BitVec 8} {A B : Nat → Nat → BitVec 8} (hm : m ≤ 4) (hk : k < 6) (hl : pl < 8) (hw : gs_W w)
    (hA : ∀ r, r < m → t r = 0 → ∀ p, p < 8 → q (r * 8 + p) = cv_I (A r p))
    (hB : ∀ r, r < m → ∀ p, p < 8 → B r p = if p = pl then A r pl ^^^ gf_M (gf_W r k) ch else A r p)
    (hp : ∀ q', (∀ r, r < m → t r = 0 → ∀ p, p < 8 → q' (r * 8 + p) = cv_I (B r p)) → post (nI m, d, s, q', t, w, b, h, g)) : wpX_updateRecovery post (nI m, d, s, q, t, w, b, h, g) (nI k) (nI pl) (cv_I ch) := by
  refine loop_0 (fun n i q' => wX_updateRecovery_3 post (nI k) (nI pl) (cv_I ch) (nI m) n (nI i) d s q' t w b h g) (fun i q' => ∀ r, r < m → t r = 0 → ∀ p, p < 8 → q' (r * 8 + p) = cv_I (if r < i then B r p else A r p)) m q ?_ ?_ ?_
  · intro r hr tr p hp8
    rw [if_neg (Nat.not_lt_zero r)]
    exact hA r hr tr p hp8
  · intro n q' hI
    refine br_t (nI_le (Nat.le_refl _) (by omega)) (hp q' (fun r hr tr p hp8 => ?_))
    have e := hI r hr tr p hp8
    rw [if_pos hr] at e
    exact e
  · intro n i q' hi hI nx
    have ci : (nI i).toNatClampNeg = i := nI_clamp (by omega)
    refine br_f (nI_ge hi (by omega)) ⟨vp_in_nI (by omega) (by decide), ?_⟩
    by_cases z : t i = 0
    · have e0 := hI i hi z pl hl
      rw [if_neg (Nat.lt_irrefl i)] at e0
      refine br_t (by rw [ci]; exact z) ⟨ix_i8 (by omega) (by decide), ix_i6 (by omega) (by decide), px_mul (gf_W i k) ch (by rw [ix_c6 (by omega) (by omega)]; exact hw i (by omega) k hk) rfl ⟨ix_i8 (by omega) (by decide), nm_r (e' := upd q' (i * 8 + pl) (cv_I (B i pl))) ?_ (nm_r (nI_1 i) (nx _ ?_))⟩⟩
      · rw [ix_c8 (by omega) (by omega), e0, cv_x, hB i hi pl hl, if_pos rfl]
      · intro r hr tr p hp8
        by_cases er : r = i
        · subst er
          rw [if_pos (Nat.lt_succ_self r)]
          by_cases ep : p = pl
          · subst ep
            exact pk_us
          · rw [pk_un (by omega), hI r hr tr p hp8, if_neg (Nat.lt_irrefl r), hB r hr p hp8, if_neg ep]
        · rw [pk_un (by omega), hI r hr tr p hp8]
          by_cases el : r < i
          · rw [if_pos el, if_pos (by omega)]
          · rw [if_neg el, if_neg (by omega)]
    · refine br_f (by rw [ci]; exact z) (nm_r (nI_1 i) (nx q' ?_))
      intro r hr tr p hp8
      have er : r ≠ i := fun e => z (by rw [← e]; exact tr)
      rw [hI r hr tr p hp8]
      by_cases el : r < i
      · rw [if_pos el, if_pos (by omega)]
      · rw [if_neg el, if_neg (by omega)]
theorem px_mk {post : SX → Prop} {m : Nat} {rl : Nat → BitVec 8} (hm : m ≤ 4) (hw : gs_W w) (hs : ∀ i, i < 6 → s i = 0) (hd : ∀ i, i < 6 → ∀ p, p < 8 → d (i * 8 + p) = cv_I (rl (i * 8 + p)))
    (hp : ∀ q' t', (∀ r, r < m → t' r = 0 ∧ ∀ p, p < 8 → q' (r * 8 + p) = cv_I (gs_S rl r p)) → post (nI m, d, s, q', t', w, b, h, g)) : wpX_makeRecovery post (nI m, d, s, q, t, w, b, h, g) := by
  have es : ∀ r p, gf_sm (gs_f s rl r p) 6 = gs_S rl r p := fun r p => gf_sm_c (fun i hi => by
    show (if pc_b s i then 0#8 else gf_M (gf_W r i) (rl (i * 8 + p))) = _
    rw [pc_bf (hs i hi)]
    rfl)
  refine loop_0 (fun n i (x : (Nat → Int32) × (Nat → Int32)) => wX_makeRecovery_2 post (nI m) n (nI i) d s x.1 x.2 w b h g) (fun i x => ∀ r, r < i → x.2 r = 0 ∧ ∀ p, p < 8 → x.1 (r * 8 + p) = cv_I (gs_S rl r p)) m (q, t) (fun r hr => absurd hr (Nat.not_lt_zero r)) ?_ ?_
  · intro n x hI
    exact br_t (nI_le (Nat.le_refl _) (by omega)) (hp x.1 x.2 hI)
  · intro n i x hi hI nx
    have ci : (nI i).toNatClampNeg = i := nI_clamp (by omega)
    refine br_f (nI_ge hi (by omega)) ?_
    refine loop_0 (fun n' j q' => wX_makeRecovery_12 post (wX_makeRecovery_2 post (nI m) n) (nI i) (nI m) n' (nI j) d s q' x.2 w b h g) (fun j q' => (∀ r, r < i → ∀ p, p < 8 → q' (r * 8 + p) = cv_I (gs_S rl r p)) ∧ ∀ p, p < j → q' (i * 8 + p) = cv_I (gs_S rl i p)) 8 x.1 ⟨fun r hr => (hI r hr).2, fun p hp0 => absurd hp0 (Nat.not_lt_zero p)⟩ ?_ ?_
    · intro n' q' hJ
      refine br_t (nI_le (a := 8) (b := 8) (by decide) (by decide)) ⟨vp_in_nI (by omega) (by decide), nm_r (e' := upd x.2 i 0) (by rw [ci]) (nm_r (nI_1 i) (nx (q', upd x.2 i 0) ?_))⟩
      intro r hr
      by_cases e : r = i
      · subst e
        exact ⟨pk_us, hJ.2⟩
      · exact ⟨(pk_un e).trans (hI r (by omega)).1, hJ.1 r (by omega)⟩
    · intro n' j q' hj hJ nx'
      refine br_f (nI_ge (b := 8) hj (by decide)) ?_
      refine px_sum (rl := rl) (by omega) hj hw (fun i hi _ => hd i hi) ⟨ix_i8 (by omega) (by decide), nm_r (e' := upd q' (i * 8 + j) (cv_I (gs_S rl i j))) ?_ (nm_r (nI_1 j) (nx' _ ⟨?_, ?_⟩))⟩
      · rw [ix_c8 (by omega) (by omega), es]
      · intro r hr p hp8
        rw [pk_un (by omega)]
        exact hJ.1 r hr p hp8
      · intro p hp1
        by_cases e : p = j
        · subst e
          exact pk_us
        · rw [pk_un (by omega)]
          exact hJ.2 p (by omega)
theorem px_lb {post : SX → Prop} (hp : ∀ b' f, (∀ j, j < pc_n (pc_b s) 6 → b' j = nI (f j)) → pc_L (pc_b s) 6 (pc_n (pc_b s) 6) f → post (c, d, s, q, t, w, b', h, g)) : wpX_listBroken post (c, d, s, q, t, w, b, h, g) := by
  refine loop_0 (fun n i b' => wX_listBroken_4 post c n (nI (pc_n (pc_b s) i)) (nI i) d s q t w b' h g) (fun i b' => ∃ f : Nat → Nat, (∀ j, j < pc_n (pc_b s) i → b' j = nI (f j)) ∧ pc_L (pc_b s) i (pc_n (pc_b s) i) f) 6 b ⟨fun j => j, fun j hj => absurd hj (Nat.not_lt_zero j), pc_L0 _ _⟩ ?_ ?_
  · intro n b' hI
    obtain ⟨f, h1, h2⟩ := hI
    exact br_t (nI_le (a := 6) (b := 6) (by decide) (by decide)) (hp b' f h1 h2)
  · intro n i b' hi hI nx
    obtain ⟨f, h1, h2⟩ := hI
    have ci : (nI i).toNatClampNeg = i := nI_clamp (by omega)
    have hc := pc_le (pc_b s) i
    refine br_f (nI_ge (b := 6) hi (by decide)) ⟨vp_in_nI hi (by decide), ?_⟩
    by_cases z : s i = 0
    · have e1 := pc_f (pc_bf z)
      have nx' := nx b' ⟨f, by rw [e1]; exact h1, by rw [e1]; exact pc_Lf (pc_bf z) h2⟩
      rw [e1] at nx'
      exact br_t (by rw [ci]; exact z) (nm_r (nI_1 i) nx')
    · have e1 := pc_t (pc_bt z)
      have nx' := nx (upd b' (pc_n (pc_b s) i) (nI i)) ⟨fun j => if j = pc_n (pc_b s) i then i else f j, ?_, ?_⟩
      · rw [e1] at nx'
        exact br_f (by rw [ci]; exact z) ⟨vp_in_nI (by omega) (by decide), nm_r (by rw [nI_clamp (by omega)]) (nm_r (nI_1 _) (nm_r (nI_1 i) nx'))⟩
      · intro j hj
        rw [e1] at hj
        by_cases e : j = pc_n (pc_b s) i
        · rw [e, pk_us]
          exact congrArg nI (if_pos rfl).symm
        · rw [pk_un e]
          exact (h1 j (by omega)).trans (congrArg nI (if_neg e).symm)
      · rw [e1]
        exact pc_Lt (pc_bt z) h2 (fun j hj => if_neg (by omega)) (if_pos rfl)
theorem px_lh {post : SX → Prop} {m : Nat} (hm : m ≤ 4) (hp : ∀ h' f, (∀ j, j < pc_n (pc_g t) m → h' j = nI (f j)) → pc_L (pc_g t) m (pc_n (pc_g t) m) f → post (nI m, d, s, q, t, w, b, h', g)) : wpX_listHelpers post (nI m, d, s, q, t, w, b, h, g) := by
  refine loop_0 (fun n i h' => wX_listHelpers_4 post (nI m) n (nI (pc_n (pc_g t) i)) (nI i) d s q t w b h' g) (fun i h' => ∃ f : Nat → Nat, (∀ j, j < pc_n (pc_g t) i → h' j = nI (f j)) ∧ pc_L (pc_g t) i (pc_n (pc_g t) i) f) m h ⟨fun j => j, fun j hj => absurd hj (Nat.not_lt_zero j), pc_L0 _ _⟩ ?_ ?_
  · intro n h' hI
    obtain ⟨f, h1, h2⟩ := hI
    exact br_t (nI_le (Nat.le_refl _) (by omega)) (hp h' f h1 h2)
  · intro n i h' hi hI nx
    obtain ⟨f, h1, h2⟩ := hI
    have ci : (nI i).toNatClampNeg = i := nI_clamp (by omega)
    have hc := pc_le (pc_g t) i
    refine br_f (nI_ge hi (by omega)) ⟨vp_in_nI (by omega) (by decide), ?_⟩
    by_cases z : t i = 0
    · have e1 := pc_t (pc_gt z)
      have nx' := nx (upd h' (pc_n (pc_g t) i) (nI i)) ⟨fun j => if j = pc_n (pc_g t) i then i else f j, ?_, ?_⟩
      · rw [e1] at nx'
        exact br_t (by rw [ci]; exact z) ⟨vp_in_nI (by omega) (by decide), nm_r (by rw [nI_clamp (by omega)]) (nm_r (nI_1 _) (nm_r (nI_1 i) nx'))⟩
      · intro j hj
        rw [e1] at hj
        by_cases e : j = pc_n (pc_g t) i
        · rw [e, pk_us]
          exact congrArg nI (if_pos rfl).symm
        · rw [pk_un e]
          exact (h1 j (by omega)).trans (congrArg nI (if_neg e).symm)
      · rw [e1]
        exact pc_Lt (pc_gt z) h2 (fun j hj => if_neg (by omega)) (if_pos rfl)
    · have e1 := pc_f (pc_gf z)
      have nx' := nx h' ⟨f, by rw [e1]; exact h1, by rw [e1]; exact pc_Lf (pc_gf z) h2⟩
      rw [e1] at nx'
      exact br_f (by rw [ci]; exact z) (nm_r (nI_1 i) nx')
end
end
section
/-! the grid: filled, solved, and the broken blocks taken from it -/
def gr_M (k : Nat) (f : Nat → Nat → BitVec 8) (g : Nat → Int32) : Prop := ∀ row, row < k → ∀ col, col < 8 + k → g (row * 12 + col) = cv_I (f row col)
theorem gr_Mc {k : Nat} {f f' : Nat → Nat → BitVec 8} {g : Nat → Int32} (h : gr_M k f g) (e : ∀ row, row < k → ∀ col, f row col = f' row col) : gr_M k f' g := fun row hr col hc => by
  rw [← e row hr col]
  exact h row hr col hc
def gr_P (k : Nat) (f : Nat → Nat → BitVec 8) (i j : Nat) (g : Nat → Int32) : Prop := (∀ row, row < i → ∀ col, col < 8 + k → g (row * 12 + col) = cv_I (f row col)) ∧ (∀ col, col < j → g (i * 12 + col) = cv_I (f i col))
theorem gr_w {k i j : Nat} {f : Nat → Nat → BitVec 8} {g : Nat → Int32} (hk : k ≤ 4) (hj : j < 8 + k) (h : gr_P k f i j g) : gr_P k f i (j + 1) (upd g (i * 12 + j) (cv_I (f i j))) := by
  refine ⟨fun row hr col hc => ?_, fun col hc => ?_⟩
  · rw [pk_un (by omega)]
    exact h.1 row hr col hc
  · by_cases e : col = j
    · subst e
      exact pk_us
    · rw [pk_un (by omega)]
      exact h.2 col (by omega)
theorem gr_n {k i : Nat} {f : Nat → Nat → BitVec 8} {g : Nat → Int32} (h : gr_P k f i (8 + k) g) : gr_P k f (i + 1) 0 g := by
  refine ⟨fun row hr col hc => ?_, fun col hc => absurd hc (Nat.not_lt_zero col)⟩
  by_cases e : row = i
  · subst e
    exact h.2 col hc
  · exact h.1 row (by omega) col hc
def gr_R (k : Nat) (f : Nat → Nat → BitVec 8) (r0 : Nat) (F : Nat → BitVec 8) (j : Nat) (g : Nat → Int32) : Prop := ∀ row, row < k → ∀ col, col < 8 + k → g (row * 12 + col) = cv_I (if row = r0 then (if col < j then F col else f row col) else f row col)
theorem gr_R0 {k r0 : Nat} {f : Nat → Nat → BitVec 8} {F : Nat → BitVec 8} {g : Nat → Int32} (h : gr_M k f g) : gr_R k f r0 F 0 g := by
  intro row hr col hc
  rw [h row hr col hc, if_neg (Nat.not_lt_zero col), ite_self]
theorem gr_Rs {k r0 j : Nat} {f : Nat → Nat → BitVec 8} {F : Nat → BitVec 8} {g : Nat → Int32} (hk : k ≤ 4) (hj : j < 8 + k) (h : gr_R k f r0 F j g) : gr_R k f r0 F (j + 1) (upd g (r0 * 12 + j) (cv_I (F j))) := by
  intro row hr col hc
  by_cases e : row = r0
  · subst e
    rw [if_pos rfl]
    by_cases e2 : col = j
    · subst e2
      rw [pk_us, if_pos (Nat.lt_succ_self col)]
    · rw [pk_un (by omega), h row hr col hc, if_pos rfl]
      by_cases e3 : col < j
      · rw [if_pos e3, if_pos (by omega)]
      · rw [if_neg e3, if_neg (by omega)]
  · rw [pk_un (by omega), h row hr col hc, if_neg e, if_neg e]
theorem gr_Re {k r0 : Nat} {f : Nat → Nat → BitVec 8} {F : Nat → BitVec 8} {g : Nat → Int32} (h : gr_R k f r0 F (8 + k) g) : gr_M k (fun row col => if row = r0 then F col else f row col) g := by
  intro row hr col hc
  rw [h row hr col hc, if_pos hc]
theorem ix_s (a b : Nat) : nI a + 8 + nI b = nI (a + 8 + b) := (congrArg (fun z => z + nI b) (nI_add a 8)).trans (nI_add _ _)
theorem ix_8k (k : Nat) : 8 + nI k = nI (8 + k) := nI_add 8 k
theorem ix_le8 {k : Nat} (hk : k ≤ 4) : 8 + nI k ≤ nI (8 + k) := by
  rw [ix_8k]
  exact nI_le (Nat.le_refl _) (by omega)
theorem ix_nle8 {k j : Nat} (hk : k ≤ 4) (h : j < 8 + k) : ¬ 8 + nI k ≤ nI j := by
  rw [ix_8k]
  exact nI_ge h (by omega)
theorem ix_ia {a j N : Nat} (h : a + j < N) (hN : N < 1000) : vp_in (nI a + nI j) N := pk_in (a + j) N h (nI_add a j) (by omega)
theorem ix_ca {a j : Nat} (ha : a < 1000) (hj : j < 1000) : (nI a + nI j).toNatClampNeg = a + j := by
  rw [nI_add, nI_clamp (by omega)]
theorem ix_is {a j N : Nat} (h : a + 8 + j < N) (hN : N < 1000) : vp_in (nI a + 8 + nI j) N := pk_in (a + 8 + j) N h (ix_s a j) (by omega)
theorem ix_cs {a j : Nat} (ha : a < 1000) (hj : j < 1000) : (nI a + 8 + nI j).toNatClampNeg = a + (8 + j) := by
  rw [ix_s, nI_clamp (by omega), Nat.add_assoc]
section
variable {c : Int32} {d s q t w b h g : Nat → Int32}
theorem px_fill {post : SX → Prop} {k : Nat} {hh bf : Nat → Nat} {rl : Nat → BitVec 8} {f : Nat → Nat → BitVec 8} (hk : k ≤ 4) (hw : gs_W w) (h4 : ∀ i, i < k → hh i < 4) (h6 : ∀ i, i < k → bf i < 6)
    (eh : ∀ i, i < k → h i = nI (hh i)) (eb : ∀ i, i < k → b i = nI (bf i)) (hd : ∀ i, i < 6 → s i = 0 → ∀ p, p < 8 → d (i * 8 + p) = cv_I (rl (i * 8 + p)))
    (hq : ∀ i, i < k → ∀ p, p < 8 → q (hh i * 8 + p) = cv_I (gs_S rl (hh i) p))
    (g1 : ∀ i, i < k → ∀ p, p < 8 → f i p = gs_S rl (hh i) p ^^^ gf_sm (gs_f s rl (hh i) p) 6)
    (g2 : ∀ i, i < k → ∀ j, j < k → f i (8 + j) = gf_W (hh i) (bf j))
    (hp : ∀ g', gr_M k f g' → post (c, d, s, q, t, w, b, h, g')) : wpX_fillGrid post (c, d, s, q, t, w, b, h, g) (nI k) := by
  refine loop_0 (fun n i g' => wX_fillGrid_2 post (nI k) c n (nI i) d s q t w b h g') (fun i g' => gr_P k f i 0 g') k g ⟨fun row hr => absurd hr (Nat.not_lt_zero row), fun col hc => absurd hc (Nat.not_lt_zero col)⟩ ?_ ?_
  · intro n g' hI
    exact br_t (nI_le (Nat.le_refl _) (by omega)) (hp g' hI.1)
  · intro n i g' hi hI nx
    have ci : (nI i).toNatClampNeg = i := nI_clamp (by omega)
    have hhi := h4 i hi
    refine br_f (nI_ge hi (by omega)) ⟨vp_in_nI (by omega) (by decide), nm_r (e' := nI (hh i)) (by rw [ci]; exact eh i hi) (nm_r (ix_12 i) ?_)⟩
    refine loop_0 (fun n' j g'' => wX_fillGrid_23 post (wX_fillGrid_2 post (nI k) c n) (nI k) (nI i) (nI (hh i)) (nI (i * 12)) c n' (nI j) d s q t w b h g'') (fun j g'' => gr_P k f i j g'') 8 g' hI ?_ ?_
    · intro n' g'' hJ
      refine br_t (nI_le (a := 8) (b := 8) (by decide) (by decide)) ?_
      refine loop_0 (fun n3 j g3 => wX_fillGrid_69 post (wX_fillGrid_2 post (nI k) c n) (nI k) (nI i) (nI (hh i)) (nI (i * 12)) c n3 (nI j) d s q t w b h g3) (fun j g3 => gr_P k f i (8 + j) g3) k g'' hJ ?_ ?_
      · intro n3 g3 hK
        exact br_t (nI_le (Nat.le_refl _) (by omega)) (nm_r (nI_1 i) (nx g3 (gr_n hK)))
      · intro n3 j g3 hj hK nx3
        have cj : (nI j).toNatClampNeg = j := nI_clamp (by omega)
        have hbj := h6 j hj
        have e1 : b (nI j).toNatClampNeg = nI (bf j) := by rw [cj]; exact eb j hj
        refine br_f (nI_ge hj (by omega)) ⟨vp_in_nI (by omega) (by decide), by rw [e1]; exact ix_i6 (by omega) (by decide), ix_is (by omega) (by decide), nm_r (e' := upd g3 (i * 12 + (8 + j)) (cv_I (f i (8 + j)))) ?_ (nm_r (nI_1 j) (nx3 _ (gr_w (j := 8 + j) hk (by omega) hK)))⟩
        rw [e1, ix_cs (by omega) (by omega), ix_c6 (by omega) (by omega), hw (hh i) hhi (bf j) hbj, g2 i hi j hj]
    · intro n' j g'' hj hJ nx'
      refine br_f (nI_ge (b := 8) hj (by decide)) ⟨ix_i8 (by omega) (by decide), px_sum (rl := rl) hhi hj hw hd ⟨ix_ia (by omega) (by decide), nm_r (e' := upd g'' (i * 12 + j) (cv_I (f i j))) ?_ (nm_r (nI_1 j) (nx' _ (gr_w hk (by omega) hJ)))⟩⟩
      rw [ix_ca (by omega) (by omega), ix_c8 (by omega) (by omega), hq i hi j hj, cv_x, g1 i hi j hj]
def gr_sc (f : Nat → Nat → BitVec 8) (p : Nat) : Nat → Nat → BitVec 8 := fun row col => if row = p then gf_M (gf_iv (f p (8 + p))) (f p col) else f row col
def gr_cc (f : Nat → Nat → BitVec 8) (r0 p : Nat) : Nat → Nat → BitVec 8 := fun row col => if row = r0 then f r0 col ^^^ gf_M (f r0 (8 + p)) (f p col) else f row col
theorem px_scale {post : SX → Prop} {k p : Nat} {f : Nat → Nat → BitVec 8} (hk : k ≤ 4) (hpk : p < k) (hg : gr_M k f g) (hp : ∀ g', gr_M k (gr_sc f p) g' → post (c, d, s, q, t, w, b, h, g')) : wpX_scaleRow post (c, d, s, q, t, w, b, h, g) (nI p) (nI k) := by
  refine nm_r (ix_12 p) ⟨ix_is (by omega) (by decide), px_inv (f p (8 + p)) ?_ ?_⟩
  · rw [ix_cs (by omega) (by omega)]
    exact hg p hpk (8 + p) (by omega)
  · refine loop_0 (fun n j g' => wX_scaleRow_24 post (nI k) (nI (p * 12)) (cv_I (gf_iv (f p (8 + p)))) c n (nI j) d s q t w b h g') (fun j g' => gr_R k f p (fun col => gf_M (gf_iv (f p (8 + p))) (f p col)) j g') (8 + k) g (gr_R0 hg) ?_ ?_
    · intro n g' hI
      exact br_t (ix_le8 hk) (hp g' (gr_Re hI))
    · intro n j g' hj hI nx
      have e0 := hI p hpk j hj
      rw [if_pos rfl, if_neg (Nat.lt_irrefl j)] at e0
      refine br_f (ix_nle8 hk hj) ⟨ix_ia (by omega) (by decide), px_mul (gf_iv (f p (8 + p))) (f p j) rfl ?_ ⟨ix_ia (by omega) (by decide), nm_r (e' := upd g' (p * 12 + j) (cv_I (gf_M (gf_iv (f p (8 + p))) (f p j)))) ?_ (nm_r (nI_1 j) (nx _ (gr_Rs hk hj hI)))⟩⟩
      · rw [ix_ca (by omega) (by omega)]
        exact e0
      · rw [ix_ca (by omega) (by omega)]
theorem px_clear {post : SX → Prop} {k r0 p : Nat} {f : Nat → Nat → BitVec 8} (hk : k ≤ 4) (hr : r0 < k) (hpk : p < k) (hne : r0 ≠ p) (hg : gr_M k f g) (hp : ∀ g', gr_M k (gr_cc f r0 p) g' → post (c, d, s, q, t, w, b, h, g')) : wpX_clearColumn post (c, d, s, q, t, w, b, h, g) (nI r0) (nI p) (nI k) := by
  refine nm_r (ix_12 r0) (nm_r (ix_12 p) ⟨ix_is (by omega) (by decide), nm_r (e' := cv_I (f r0 (8 + p))) ?_ ?_⟩)
  · rw [ix_cs (by omega) (by omega)]
    exact hg r0 hr (8 + p) (by omega)
  · refine loop_0 (fun n j g' => wX_clearColumn_29 post (nI k) (nI (r0 * 12)) (nI (p * 12)) (cv_I (f r0 (8 + p))) c n (nI j) d s q t w b h g') (fun j g' => gr_R k f r0 (fun col => f r0 col ^^^ gf_M (f r0 (8 + p)) (f p col)) j g') (8 + k) g (gr_R0 hg) ?_ ?_
    · intro n g' hI
      exact br_t (ix_le8 hk) (hp g' (gr_Re hI))
    · intro n j g' hj hI nx
      have e0 := hI r0 hr j hj
      rw [if_pos rfl, if_neg (Nat.lt_irrefl j)] at e0
      have e1 := hI p hpk j hj
      rw [if_neg (fun z => hne z.symm)] at e1
      refine br_f (ix_nle8 hk hj) ⟨ix_ia (by omega) (by decide), ix_ia (by omega) (by decide), px_mul (f r0 (8 + p)) (f p j) rfl ?_ ⟨ix_ia (by omega) (by decide), nm_r (e' := upd g' (r0 * 12 + j) (cv_I (f r0 j ^^^ gf_M (f r0 (8 + p)) (f p j)))) ?_ (nm_r (nI_1 j) (nx _ (gr_Rs hk hj hI)))⟩⟩
      · rw [ix_ca (by omega) (by omega)]
        exact e1
      · rw [ix_ca (by omega) (by omega), e0, cv_x]
def gr_mx (f : Nat → Nat → BitVec 8) (p j : Nat) : Nat → Nat → BitVec 8 := fun row col => if row = p then gf_M (gf_iv (f p (8 + p))) (f p col) else if row < j then f row col ^^^ gf_M (f row (8 + p)) (gf_M (gf_iv (f p (8 + p))) (f p col)) else f row col
theorem px_solve {post : SX → Prop} {k : Nat} {f : Nat → Nat → BitVec 8} (hk : k ≤ 4) (hg : gr_M k f g) (hp : ∀ g', gr_M k (gf_G f k) g' → post (c, d, s, q, t, w, b, h, g')) : wpX_solveGrid post (c, d, s, q, t, w, b, h, g) (nI k) := by
  refine loop_0 (fun n i g' => wX_solveGrid_2 post (nI k) n (nI i) c d s q t w b h g') (fun i g' => gr_M k (gf_G f i) g') k g hg ?_ ?_
  · intro n g' hI
    exact br_t (nI_le (Nat.le_refl _) (by omega)) (hp g' hI)
  · intro n i g' hi hI nx
    refine br_f (nI_ge hi (by omega)) (px_scale hk hi hI (fun g1 h1 => ?_))
    refine loop_0 (fun n' j g2 => wX_solveGrid_15 post (wX_solveGrid_2 post (nI k) n) (nI k) (nI i) n' (nI j) c d s q t w b h g2) (fun j g2 => gr_M k (gr_mx (gf_G f i) i j) g2) k g1 (gr_Mc h1 (fun row hr col => ?_)) ?_ ?_
    · show (if row = i then _ else _) = (if row = i then _ else if row < 0 then _ else _)
      rw [if_neg (Nat.not_lt_zero row)]
    · intro n' g2 hJ
      refine br_t (nI_le (Nat.le_refl _) (by omega)) (nm_r (nI_1 i) (nx g2 (gr_Mc hJ (fun row hr col => ?_))))
      show (if row = i then _ else if row < k then _ else _) = (if row = i then _ else _)
      rw [if_pos hr]
    · intro n' j g2 hj hJ nx'
      refine br_f (nI_ge hj (by omega)) ?_
      by_cases e : j = i
      · refine br_t (by rw [e]) (nm_r (nI_1 j) (nx' g2 (gr_Mc hJ (fun row hr col => ?_))))
        show (if row = i then _ else if row < j then _ else _) = (if row = i then _ else if row < j + 1 then _ else _)
        by_cases e1 : row = i
        · rw [if_pos e1, if_pos e1]
        · rw [if_neg e1, if_neg e1]
          by_cases e2 : row < j
          · rw [if_pos e2, if_pos (by omega)]
          · rw [if_neg e2, if_neg (by omega)]
      · refine br_f (fun z => e ((nI_eq (by omega) (by omega)).mp z)) (px_clear hk hj hi e hJ (fun g3 h3 => nm_r (nI_1 j) (nx' g3 (gr_Mc h3 (fun row hr col => ?_)))))
        show (if row = j then gr_mx (gf_G f i) i j j col ^^^ gf_M (gr_mx (gf_G f i) i j j (8 + i)) (gr_mx (gf_G f i) i j i col) else gr_mx (gf_G f i) i j row col) = gr_mx (gf_G f i) i (j + 1) row col
        unfold gr_mx
        by_cases e1 : row = j
        · subst e1
          simp only [if_pos, if_neg e, Nat.lt_irrefl, Nat.lt_succ_self, if_false, if_true]
        · rw [if_neg e1]
          by_cases e2 : row = i
          · rw [if_pos e2, if_pos e2]
          · rw [if_neg e2, if_neg e2]
            by_cases e3 : row < j
            · rw [if_pos e3, if_pos (by omega)]
            · rw [if_neg e3, if_neg (by omega)]
theorem px_take {post : SX → Prop} {k : Nat} {bf : Nat → Nat} {rl : Nat → BitVec 8} (hk : k ≤ 4) (h6 : ∀ i, i < k → bf i < 6) (eb : ∀ i, i < k → b i = nI (bf i))
    (hg : ∀ i, i < k → ∀ p, p < 8 → g (i * 12 + p) = cv_I (rl (bf i * 8 + p)))
    (hd : ∀ i, i < 6 → s i = 0 → ∀ p, p < 8 → d (i * 8 + p) = cv_I (rl (i * 8 + p)))
    (hb : ∀ i, i < 6 → s i = 0 ∨ ∃ j, 0 ≤ j ∧ j < k ∧ bf j = i)
    (hp : ∀ d' s', (∀ i, i < 6 → s' i = 0) → (∀ i, i < 6 → ∀ p, p < 8 → d' (i * 8 + p) = cv_I (rl (i * 8 + p))) → post (c, d', s', q, t, w, b, h, g)) : wpX_takeFromGrid post (c, d, s, q, t, w, b, h, g) (nI k) := by
  refine loop_0 (fun n i (x : (Nat → Int32) × (Nat → Int32)) => wX_takeFromGrid_2 post (nI k) c n (nI i) x.1 x.2 q t w b h g) (fun i x => (∀ a, a < 6 → x.2 a = 0 → ∀ p, p < 8 → x.1 (a * 8 + p) = cv_I (rl (a * 8 + p))) ∧ (∀ a, a < 6 → x.2 a = 0 ∨ ∃ j, i ≤ j ∧ j < k ∧ bf j = a)) k (d, s) ⟨hd, hb⟩ ?_ ?_
  · intro n x hI
    have z : ∀ a, a < 6 → x.2 a = 0 := fun a ha => by
      rcases hI.2 a ha with z | ⟨j, h1, h2, _⟩
      · exact z
      · omega
    exact br_t (nI_le (Nat.le_refl _) (by omega)) (hp x.1 x.2 z (fun a ha => hI.1 a ha (z a ha)))
  · intro n i x hi hI nx
    have ci : (nI i).toNatClampNeg = i := nI_clamp (by omega)
    have hbi := h6 i hi
    have cb : (nI (bf i)).toNatClampNeg = bf i := nI_clamp (by omega)
    refine br_f (nI_ge hi (by omega)) ⟨vp_in_nI (by omega) (by decide), nm_r (e' := nI (bf i)) (by rw [ci]; exact eb i hi) ?_⟩
    refine loop_0 (fun n' j d' => wX_takeFromGrid_17 post (wX_takeFromGrid_2 post (nI k) c n) (nI k) (nI i) (nI (bf i)) c n' (nI j) d' x.2 q t w b h g) (fun j d' => (∀ a, a < 6 → a ≠ bf i → x.2 a = 0 → ∀ p, p < 8 → d' (a * 8 + p) = cv_I (rl (a * 8 + p))) ∧ ∀ p, p < j → d' (bf i * 8 + p) = cv_I (rl (bf i * 8 + p))) 8 x.1 ⟨fun a ha _ => hI.1 a ha, fun p h0 => absurd h0 (Nat.not_lt_zero p)⟩ ?_ ?_
    · intro n' d' hJ
      refine br_t (nI_le (a := 8) (b := 8) (by decide) (by decide)) ⟨vp_in_nI (by omega) (by decide), nm_r (e' := upd x.2 (bf i) 0) (by rw [cb]) (nm_r (nI_1 i) (nx (d', upd x.2 (bf i) 0) ⟨fun a ha sa p hp8 => ?_, fun a ha => ?_⟩))⟩
      · by_cases e : a = bf i
        · subst e
          exact hJ.2 p hp8
        · exact hJ.1 a ha e ((pk_un e).symm.trans sa) p hp8
      · by_cases e : a = bf i
        · subst e
          exact Or.inl pk_us
        · rcases hI.2 a ha with z | ⟨j, h1, h2, h3⟩
          · exact Or.inl ((pk_un e).trans z)
          · have : j ≠ i := fun z => e (by rw [← h3, z])
            exact Or.inr ⟨j, by omega, h2, h3⟩
    · intro n' j d' hj hJ nx'
      refine br_f (nI_ge (b := 8) hj (by decide)) ⟨?_, ix_i8 (by omega) (by decide), nm_r (e' := upd d' (bf i * 8 + j) (cv_I (rl (bf i * 8 + j)))) ?_ (nm_r (nI_1 j) (nx' _ ⟨fun a ha e sa p hp8 => ?_, fun p hp1 => ?_⟩))⟩
      · rw [ix_12]
        exact ix_ia (by omega) (by decide)
      · rw [ix_12, ix_ca (by omega) (by omega), ix_c8 (by omega) (by omega), hg i hi j hj]
      · rw [pk_un (by omega)]
        exact hJ.1 a ha e sa p hp8
      · by_cases e : p = j
        · subst e
          exact pk_us
        · rw [pk_un (by omega)]
          exact hJ.2 p (by omega)
end
end
section
/-! the reference's methods, and the component's two tests -/
theorem px_ib {post : Int32 → Prop} {x : Int32} (h0 : (x < 0 ∨ nI 6 ≤ x) → post 0) (h1 : ∀ k, k < 6 → x = nI k → post 1) : wpX_isBlock post x := by
  by_cases z : x < 0
  · exact br_t z (h0 (Or.inl z))
  · rcases pk_ix x (n := 6) (by decide) with hx | hx | ⟨k, hk, e⟩
    · exact absurd hx z
    · exact br_f z (br_t hx (h0 (Or.inr hx)))
    · subst e
      exact br_f z (br_f (nI_ge (b := 6) hk (by decide)) (h1 k hk rfl))
theorem px_ip {post : Int32 → Prop} {x : Int32} (h0 : (x < 0 ∨ nI 8 ≤ x) → post 0) (h1 : ∀ k, k < 8 → x = nI k → post 1) : wpX_isPlace post x := by
  by_cases z : x < 0
  · exact br_t z (h0 (Or.inl z))
  · rcases pk_ix x (n := 8) (by decide) with hx | hx | ⟨k, hk, e⟩
    · exact absurd hx z
    · exact br_f z (br_t hx (h0 (Or.inr hx)))
    · subst e
      exact br_f z (br_f (nI_ge (b := 8) hk (by decide)) (h1 k hk rfl))
theorem py_n5 {x : Int32} (h : nI 6 ≤ x) : ¬ x ≤ 5 := fun z => absurd (Int32.le_trans h z) (by decide)
theorem py_n7 {x : Int32} (h : nI 8 ≤ x) : ¬ x ≤ 7 := fun z => absurd (Int32.le_trans h z) (by decide)
theorem py_n255 {x : Int32} (h : nI 256 ≤ x) : ¬ x ≤ 255 := fun z => absurd (Int32.le_trans h z) (by decide)
theorem py_n4 {x : Int32} (h : nI 5 ≤ x) : ¬ x ≤ 4 := fun z => absurd (Int32.le_trans h z) (by decide)
theorem py_bad {x : Int32} {A B C : Prop} {y : Int32} (n : ¬ x < 0 → ¬ x ≤ y) (h1 : A) (h2 : C) : (x < 0 → A) ∧ (¬ x < 0 → (x ≤ y → B) ∧ (¬ x ≤ y → C)) :=
  ⟨fun _ => h1, fun z => br_f (n z) h2⟩
theorem py_b5 {x : Int32} (h : x < 0 ∨ nI 6 ≤ x) : ¬ x < 0 → ¬ x ≤ 5 := fun z => h.elim (fun y => absurd y z) py_n5
theorem py_b7 {x : Int32} (h : x < 0 ∨ nI 8 ≤ x) : ¬ x < 0 → ¬ x ≤ 7 := fun z => h.elim (fun y => absurd y z) py_n7
theorem py_b255 {x : Int32} (h : x < 0 ∨ nI 256 ≤ x) : ¬ x < 0 → ¬ x ≤ 255 := fun z => h.elim (fun y => absurd y z) py_n255
theorem py_b4 {x : Int32} (h : x < 0 ∨ nI 5 ≤ x) : ¬ x < 0 → ¬ x ≤ 4 := fun z => h.elim (fun y => absurd y z) py_n4
section
variable {f : Int32} {a ys yl : Nat → Int32} {x y z : Int32} {k p n : Nat}
theorem py_r1 {post : Int32 → Prop} (h : x < 0 ∨ nI 6 ≤ x) (hp : post (-1)) : wpY_refusal post (f, a, ys, yl) x y z := by
  unfold wpY_refusal
  exact py_bad (py_b5 h) hp hp
theorem py_r2 {post : Int32 → Prop} (hk : k < 6) (h : y < 0 ∨ nI 8 ≤ y) (hp : post (-2)) : wpY_refusal post (f, a, ys, yl) (nI k) y z := by
  unfold wpY_refusal
  exact br_f (nI_pos (by omega)) (br_t (nI_le (b := 5) (by omega) (by decide)) (py_bad (py_b7 h) hp hp))
theorem py_r3 {post : Int32 → Prop} (hk : k < 6) (h8 : p < 8) (h : z < 0 ∨ nI 256 ≤ z) (hp : post (-3)) : wpY_refusal post (f, a, ys, yl) (nI k) (nI p) z := by
  unfold wpY_refusal
  exact br_f (nI_pos (by omega)) (br_t (nI_le (b := 5) (by omega) (by decide)) (br_f (nI_pos (by omega)) (br_t (nI_le (b := 7) (by omega) (by decide)) (py_bad (py_b255 h) hp hp))))
theorem py_r4 {post : Int32 → Prop} (hk : k < 6) (h8 : p < 8) (hn : n < 256) (h : ¬ ys k = 0) (hp : post (-4)) : wpY_refusal post (f, a, ys, yl) (nI k) (nI p) (nI n) := by
  unfold wpY_refusal
  exact br_f (nI_pos (by omega)) (br_t (nI_le (b := 5) (by omega) (by decide)) (br_f (nI_pos (by omega)) (br_t (nI_le (b := 7) (by omega) (by decide)) (br_f (nI_pos (by omega)) (br_t (nI_le (b := 255) (by omega) (by decide)) ⟨vp_in_nI hk (by decide), br_f (by rw [nI_clamp (by omega)]; exact h) hp⟩)))))
theorem py_r0 {post : Int32 → Prop} (hk : k < 6) (h8 : p < 8) (hn : n < 256) (h : ys k = 0) (hp : post 0) : wpY_refusal post (f, a, ys, yl) (nI k) (nI p) (nI n) := by
  unfold wpY_refusal
  exact br_f (nI_pos (by omega)) (br_t (nI_le (b := 5) (by omega) (by decide)) (br_f (nI_pos (by omega)) (br_t (nI_le (b := 7) (by omega) (by decide)) (br_f (nI_pos (by omega)) (br_t (nI_le (b := 255) (by omega) (by decide)) ⟨vp_in_nI hk (by decide), br_t (by rw [nI_clamp (by omega)]; exact h) hp⟩)))))
theorem py_wno {post : Int32 → SY → Prop} {r : Int32} (hr : ¬ 0 ≤ r) (ref : ∀ post' : Int32 → Prop, post' r → wpY_refusal post' (f, a, ys, yl) x y z) (hp : post r (f, a, ys, yl)) : wpY_write post (f, a, ys, yl) x y z := by
  unfold wpY_write
  exact ref _ (br_f hr hp)
theorem py_wok {post : Int32 → SY → Prop} (hk : k < 6) (h8 : p < 8) (hn : n < 256) (h : ys k = 0) (hp : post (a (k * 8 + p)) (f, upd a (k * 8 + p) (nI n), ys, yl)) : wpY_write post (f, a, ys, yl) (nI k) (nI p) (nI n) := by
  unfold wpY_write
  exact py_r0 hk h8 hn h (br_t (by decide) ⟨ix_i8 (by omega) (by decide), nm_r (e' := a (k * 8 + p)) (by rw [ix_c8 (by omega) (by omega)]) ⟨ix_i8 (by omega) (by decide), nm_r (e' := upd a (k * 8 + p) (nI n)) (by rw [ix_c8 (by omega) (by omega)]) hp⟩⟩)
theorem py_rno {post : Int32 → Prop} {r : Int32} (hr : ¬ 0 ≤ r) (ref : ∀ post' : Int32 → Prop, post' r → wpY_refusal post' (f, a, ys, yl) x y 0) (hp : post r) : wpY_read post (f, a, ys, yl) x y := by
  unfold wpY_read
  exact ref _ (br_f hr hp)
theorem py_rok {post : Int32 → Prop} (hk : k < 6) (h8 : p < 8) (h : ys k = 0) (hp : post (a (k * 8 + p))) : wpY_read post (f, a, ys, yl) (nI k) (nI p) := by
  unfold wpY_read
  exact py_r0 (n := 0) hk h8 (by decide) h (br_t (by decide) ⟨ix_i8 (by omega) (by decide), by rw [ix_c8 (by omega) (by omega)]; exact hp⟩)
theorem py_sno {post : Int32 → SY → Prop} {r : Int32} (hr : ¬ 0 ≤ r) (ref : ∀ post' : Int32 → Prop, post' r → wpY_refusal post' (f, a, ys, yl) x y 0) (hp : post r (f, a, ys, yl)) : wpY_spoil post (f, a, ys, yl) x y z := by
  unfold wpY_spoil
  exact ref _ (br_f hr hp)
theorem py_s0 {post : Int32 → SY → Prop} (hk : k < 6) (h8 : p < 8) (h : ys k = 0) (hz : z &&& 255 = 0) (hp : post (ys k) (f, a, ys, yl)) : wpY_spoil post (f, a, ys, yl) (nI k) (nI p) z := by
  unfold wpY_spoil
  exact py_r0 (n := 0) hk h8 (by decide) h (br_t (by decide) (br_t hz ⟨vp_in_nI hk (by decide), by rw [nI_clamp (by omega)]; exact hp⟩))
theorem py_s1 {post : Int32 → SY → Prop} (hk : k < 6) (h8 : p < 8) (h : ys k = 0) (hz : ¬ z &&& 255 = 0) (hp : post 2 (f, a, upd ys k 2, yl)) : wpY_spoil post (f, a, ys, yl) (nI k) (nI p) z := by
  unfold wpY_spoil
  have ck : (nI k).toNatClampNeg = k := nI_clamp (by omega)
  refine py_r0 (n := 0) hk h8 (by decide) h (br_t (by decide) (br_f hz ⟨vp_in_nI hk (by decide), nm_r (e' := upd ys k 2) (by rw [ck]) ⟨vp_in_nI hk (by decide), ?_⟩⟩))
  rw [ck, pk_us]
  exact hp
theorem py_ng {post : Int32 → Prop} (hp : post (nI (pc_n (pc_b ys) 6))) : wpY_notGood post (f, a, ys, yl) := by
  have key : ∀ n i, i ≤ 6 → 6 - i < n → wY_notGood_4 post f a ys yl n (nI (pc_n (pc_b ys) i)) (nI i) := by
    intro n
    induction n with
    | zero => intro i _ h; omega
    | succ n ih =>
      intro i hi hn
      by_cases e : i = 6
      · subst e
        exact br_t (nI_le (a := 6) (b := 6) (by decide) (by decide)) hp
      · have nx := ih (i + 1) (by omega) (by omega)
        have ci : (nI i).toNatClampNeg = i := nI_clamp (by omega)
        refine br_f (nI_ge (b := 6) (by omega) (by decide)) ⟨vp_in_nI (by omega) (by decide), ?_⟩
        by_cases z : ys i = 0
        · rw [pc_f (pc_bf z)] at nx
          exact br_t (by rw [ci]; exact z) (nm_r (nI_1 i) nx)
        · rw [pc_t (pc_bt z)] at nx
          exact br_f (by rw [ci]; exact z) (nm_r (nI_1 _) (nm_r (nI_1 i) nx))
  exact ⟨7, key 7 0 (by omega) (by omega)⟩
theorem py_sp {post : Int32 → Prop} {m : Nat} (hm : m ≤ 4) (hp : post (nI (pc_n (pc_g yl) m))) : wpY_spare post (nI m, a, ys, yl) := by
  have key : ∀ n i, i ≤ m → m - i < n → wY_spare_4 post (nI m) a ys yl n (nI (pc_n (pc_g yl) i)) (nI i) := by
    intro n
    induction n with
    | zero => intro i _ h; omega
    | succ n ih =>
      intro i hi hn
      by_cases e : i = m
      · subst e
        exact br_t (nI_le (Nat.le_refl _) (by omega)) hp
      · have nx := ih (i + 1) (by omega) (by omega)
        have ci : (nI i).toNatClampNeg = i := nI_clamp (by omega)
        refine br_f (nI_ge (by omega) (by omega)) ⟨vp_in_nI (by omega) (by decide), ?_⟩
        by_cases z : yl i = 0
        · rw [pc_t (pc_gt z)] at nx
          exact br_t (by rw [ci]; exact z) (nm_r (nI_1 _) (nm_r (nI_1 i) nx))
        · rw [pc_f (pc_gf z)] at nx
          exact br_f (by rw [ci]; exact z) (nm_r (nI_1 i) nx)
  exact ⟨m + 1, key (m + 1) 0 (by omega) (by omega)⟩
theorem py_v0 : vp_nar .boolean 0 = 0 := by decide
theorem py_v1 : vp_nar .boolean 1 = 1 := by decide
theorem py_u0 {l : Nat → Int32} {i : Nat} (h : ∀ r, r < i → l r = 0) : ∀ r, r < i + 1 → upd l i 0 r = 0 := fun r hr => by
  by_cases e : r = i
  · subst e
    exact pk_us
  · rw [pk_un e]
    exact h r (by omega)
theorem py_pbad {post : Int32 → SY → Prop} (h : x < 0 ∨ nI 5 ≤ x) (hp : post (-3) (f, a, ys, yl)) : wpY_protect post (f, a, ys, yl) x := by
  unfold wpY_protect
  exact py_bad (py_b4 h) hp hp
theorem py_pno {post : Int32 → SY → Prop} (hn : n < 5) (h : ¬ pc_n (pc_b ys) 6 = 0) (hp : post (-4) (f, a, ys, yl)) : wpY_protect post (f, a, ys, yl) (nI n) := by
  unfold wpY_protect
  have hc := pc_le (pc_b ys) 6
  exact br_f (nI_pos (by omega)) (br_t (nI_le (b := 4) (by omega) (by decide)) (py_ng (br_f (nI_nle (by omega) (by omega)) hp)))
theorem py_pok {post : Int32 → SY → Prop} (hn : n < 5) (h : pc_n (pc_b ys) 6 = 0) (hp : ∀ yl', (∀ r, r < 4 → yl' r = 0) → post (nI n) (nI n, a, ys, yl')) : wpY_protect post (f, a, ys, yl) (nI n) := by
  unfold wpY_protect
  refine br_f (nI_pos (by omega)) (br_t (nI_le (b := 4) (by omega) (by decide)) (py_ng (br_t (by rw [h]; decide) ?_)))
  refine loop_0 (fun n' i l => wY_protect_29 post (nI n) (nI n) n' (nI i) a ys l) (fun i l => ∀ r, r < i → l r = 0) 4 yl (fun r hr => absurd hr (Nat.not_lt_zero r)) ?_ ?_
  · intro n' l hI
    exact br_t (nI_le (a := 4) (b := 4) (by decide) (by decide)) (hp l hI)
  · intro n' i l hi hI nx
    exact br_f (nI_ge (b := 4) hi (by decide)) ⟨vp_in_nI hi (by decide), nm_r (e' := upd l i 0) (by rw [nI_clamp (by omega), py_v0]) (nm_r (nI_1 i) (nx _ (py_u0 hI)))⟩
theorem py_lbad {post : Int32 → SY → Prop} (h : x < 0 ∨ nI 6 ≤ x) (hp : post (-1) (f, a, ys, yl)) : wpY_lose post (f, a, ys, yl) x := by
  unfold wpY_lose
  exact py_bad (py_b5 h) hp hp
theorem py_lok {post : Int32 → SY → Prop} (hk : k < 6) (hp : post (ys k) (f, a, upd ys k 1, yl)) : wpY_lose post (f, a, ys, yl) (nI k) := by
  unfold wpY_lose
  have ck : (nI k).toNatClampNeg = k := nI_clamp (by omega)
  exact br_f (nI_pos (by omega)) (br_t (nI_le (b := 5) (by omega) (by decide)) ⟨vp_in_nI hk (by decide), nm_r (e' := ys k) (by rw [ck]) ⟨vp_in_nI hk (by decide), nm_r (e' := upd ys k 1) (by rw [ck]) hp⟩⟩)
theorem py_stbad {post : Int32 → Prop} (h : x < 0 ∨ nI 6 ≤ x) (hp : post (-1)) : wpY_state post (f, a, ys, yl) x := by
  unfold wpY_state
  exact py_bad (py_b5 h) hp hp
theorem py_stok {post : Int32 → Prop} (hk : k < 6) (hp : post (ys k)) : wpY_state post (f, a, ys, yl) (nI k) := by
  unfold wpY_state
  exact br_f (nI_pos (by omega)) (br_t (nI_le (b := 5) (by omega) (by decide)) ⟨vp_in_nI hk (by decide), by rw [nI_clamp (by omega)]; exact hp⟩)
theorem py_lr {post : Int32 → SY → Prop} {m r : Nat} (hm : m ≤ 4) (hr : r < m) (h01 : yl r = 0 ∨ yl r = 1) (hp : post (yl r) (nI m, a, ys, upd yl r 1)) : wpY_loseRecovery post (nI m, a, ys, yl) (nI r) := by
  unfold wpY_loseRecovery
  have cr : (nI r).toNatClampNeg = r := nI_clamp (by omega)
  refine br_f (nI_pos (by omega)) (br_t (nI_lt hr (by omega)) ⟨vp_in_nI (by omega) (by decide), ?_⟩)
  rcases h01 with e | e
  · rw [e] at hp
    exact br_t (by rw [cr]; exact e) ⟨vp_in_nI (by omega) (by decide), nm_r (e' := upd yl r 1) (by rw [cr, py_v1]) hp⟩
  · rw [e] at hp
    exact br_f (by rw [cr, e]; decide) ⟨vp_in_nI (by omega) (by decide), nm_r (e' := upd yl r 1) (by rw [cr, py_v1]) hp⟩
theorem py_lrno {post : Int32 → SY → Prop} (h : ¬ x < 0 → ¬ x < f) (hp : post (-5) (f, a, ys, yl)) : wpY_loseRecovery post (f, a, ys, yl) x := by
  unfold wpY_loseRecovery
  exact ⟨fun _ => hp, fun z => br_f (h z) hp⟩
theorem py_rep {post : Int32 → SY → Prop} {m : Nat} (hm : m ≤ 4) (hn : pc_n (pc_b ys) 6 ≤ pc_n (pc_g yl) m → ∀ ys' yl', (∀ i, i < 6 → ys' i = 0) → (∀ r, r < 4 → yl' r = 0) → post (nI (pc_n (pc_b ys) 6)) (nI m, a, ys', yl')) (hno : pc_n (pc_g yl) m < pc_n (pc_b ys) 6 → post (-6) (nI m, a, ys, yl)) : wpY_repair post (nI m, a, ys, yl) := by
  unfold wpY_repair
  have c1 := pc_le (pc_b ys) 6
  have c2 := pc_le (pc_g yl) m
  refine py_ng (py_sp hm (pk_le (pc_n (pc_b ys) 6) (pc_n (pc_g yl) m) (fun hle => ?_) hno rfl rfl (by omega) (by omega)))
  refine loop_0 (fun n' i l => wY_repair_18 post (nI (pc_n (pc_b ys) 6)) (nI m) n' (nI i) a l yl) (fun i l => ∀ r, r < i → l r = 0) 6 ys (fun r hr => absurd hr (Nat.not_lt_zero r)) ?_ ?_
  · intro n' l hI
    refine br_t (nI_le (a := 6) (b := 6) (by decide) (by decide)) ?_
    refine loop_0 (fun n' i l' => wY_repair_39 post (nI (pc_n (pc_b ys) 6)) (nI m) n' (nI i) a l l') (fun i l => ∀ r, r < i → l r = 0) 4 yl (fun r hr => absurd hr (Nat.not_lt_zero r)) ?_ ?_
    · intro n3 l' hJ
      exact br_t (nI_le (a := 4) (b := 4) (by decide) (by decide)) (hn hle l l' hI hJ)
    · intro n3 i l' hi hJ nx
      exact br_f (nI_ge (b := 4) hi (by decide)) ⟨vp_in_nI hi (by decide), nm_r (e' := upd l' i 0) (by rw [nI_clamp (by omega), py_v0]) (nm_r (nI_1 i) (nx _ (py_u0 hJ)))⟩
  · intro n' i l hi hI nx
    exact br_f (nI_ge (b := 6) hi (by decide)) ⟨vp_in_nI hi (by decide), nm_r (e' := upd l i 0) (by rw [nI_clamp (by omega)]) (nm_r (nI_1 i) (nx _ (py_u0 hI)))⟩
def ur_u (rl : Nat → BitVec 8) (k : Nat) (x : BitVec 8) : Nat → BitVec 8 := fun j => if j = k then x else rl j
theorem ur_s (rl : Nat → BitVec 8) (k : Nat) (x : BitVec 8) : ur_u rl k x k = x := if_pos rfl
theorem ur_n (rl : Nat → BitVec 8) {k j : Nat} (x : BitVec 8) (h : j ≠ k) : ur_u rl k x j = rl j := if_neg h
theorem ur_e (rl : Nat → BitVec 8) (k : Nat) (x : BitVec 8) : upd (fun j => cv_I (rl j)) k (cv_I x) = fun j => cv_I (ur_u rl k x j) := by
  funext j
  by_cases e : j = k
  · subst e
    rw [pk_us, ur_s]
  · rw [pk_un e, ur_n rl x e]
theorem py_gu {post : Int32 → SY → Prop} {rl : Nat → BitVec 8} (hp : ∀ (rl' : Nat → BitVec 8) (ys' : Nat → Int32), (∀ j, j < 48 → rl' j = if ys (j / 8) = 0 then rl j else 0#8) → (∀ i, i < 6 → ys' i = 0) → post (nI (pc_n (pc_b ys) 6)) (0, (fun j => cv_I (rl' j)), ys', yl)) : wpY_giveUp post (f, (fun j => cv_I (rl j)), ys, yl) := by
  unfold wpY_giveUp
  refine py_ng ?_
  refine loop_0 (fun n' i a' => wY_giveUp_7 post (nI (pc_n (pc_b ys) 6)) f n' (nI i) a' ys yl) (fun i a' => ∃ rl' : Nat → BitVec 8, a' = (fun j => cv_I (rl' j)) ∧ (∀ j, j < i → rl' j = if ys (j / 8) = 0 then rl j else 0#8) ∧ (∀ j, i ≤ j → rl' j = rl j)) 48 (fun j => cv_I (rl j)) ⟨rl, rfl, fun j hj => absurd hj (Nat.not_lt_zero j), fun _ _ => rfl⟩ ?_ ?_
  · intro n' a' hI
    obtain ⟨rl', rfl, h1, _⟩ := hI
    refine br_t (nI_le (a := 48) (b := 48) (by decide) (by decide)) ?_
    refine loop_0 (fun n' i l => wY_giveUp_40 post (nI (pc_n (pc_b ys) 6)) f n' (nI i) (fun j => cv_I (rl' j)) l yl) (fun i l => ∀ r, r < i → l r = 0) 6 ys (fun r hr => absurd hr (Nat.not_lt_zero r)) ?_ ?_
    · intro n3 l hJ
      exact br_t (nI_le (a := 6) (b := 6) (by decide) (by decide)) (hp rl' l h1 hJ)
    · intro n3 i l hi hJ nx
      exact br_f (nI_ge (b := 6) hi (by decide)) ⟨vp_in_nI hi (by decide), nm_r (e' := upd l i 0) (by rw [nI_clamp (by omega)]) (nm_r (nI_1 i) (nx _ (py_u0 hJ)))⟩
  · intro n' i a' hi hI nx
    obtain ⟨rl', rfl, h1, h2⟩ := hI
    have ed : nI i / 8 = nI (i / 8) := pk_div (d := 8) (by omega) (by decide) (by decide)
    have c8 : (nI i / 8).toNatClampNeg = i / 8 := by rw [ed, nI_clamp (by omega)]
    refine br_f (nI_ge (b := 48) hi (by decide)) ⟨by decide, by rw [ed]; exact vp_in_nI (by omega) (by decide), ?_⟩
    by_cases z : ys (i / 8) = 0
    · refine br_t (by rw [c8]; exact z) (nm_r (nI_1 i) (nx _ ⟨rl', rfl, fun j hj => ?_, fun j hj => h2 j (by omega)⟩))
      by_cases e : j = i
      · subst e
        rw [if_pos z]
        exact h2 j (Nat.le_refl j)
      · exact h1 j (by omega)
    · refine br_f (by rw [c8]; exact z) ⟨vp_in_nI hi (by decide), nm_r (e' := fun j => cv_I (ur_u rl' i 0#8 j)) ?_ (nm_r (nI_1 i) (nx _ ⟨ur_u rl' i 0#8, rfl, fun j hj => ?_, fun j hj => ?_⟩))⟩
      · rw [nI_clamp (by omega), ← ur_e]
        rfl
      · by_cases e : j = i
        · subst e
          rw [if_neg z]
          exact ur_s _ _ _
        · rw [ur_n rl' _ e]
          exact h1 j (by omega)
      · rw [ur_n rl' _ (by omega)]
        exact h2 j (by omega)
theorem py_mg {post : Int32 → Prop} {m : Nat} (hm : m ≤ 4) (hn : pc_n (pc_b ys) 6 ≤ pc_n (pc_g yl) m → post (nI (pc_n (pc_g yl) m - pc_n (pc_b ys) 6))) (hno : pc_n (pc_g yl) m < pc_n (pc_b ys) 6 → post (-6)) : wpY_margin post (nI m, a, ys, yl) := by
  unfold wpY_margin
  have c1 := pc_le (pc_b ys) 6
  have c2 := pc_le (pc_g yl) m
  refine py_ng (py_sp hm (pk_le (pc_n (pc_b ys) 6) (pc_n (pc_g yl) m) (fun hle => ?_) hno rfl rfl (by omega) (by omega)))
  have e6 : (6 : Int32) - nI (pc_n (pc_b ys) 6) = nI (6 - pc_n (pc_b ys) 6) := pk_sub (a := 6) c1
  have key : ∀ n i, i ≤ pc_n (pc_g yl) m - pc_n (pc_b ys) 6 → pc_n (pc_g yl) m - pc_n (pc_b ys) 6 - i < n → wY_margin_18 post (nI (pc_n (pc_b ys) 6)) (nI m) a ys yl n (nI i) := by
    intro n
    induction n with
    | zero => intro i _ h; omega
    | succ n ih =>
      intro i hi hn'
      have e1 : nI (pc_n (pc_b ys) 6) + nI i + 1 = nI (pc_n (pc_b ys) 6 + i + 1) := by rw [nI_add, nI_1]
      refine br_f (by rw [e6]; exact nI_ge (by omega) (by omega)) (py_sp hm ?_)
      by_cases e : i = pc_n (pc_g yl) m - pc_n (pc_b ys) 6
      · rw [← e] at hn
        exact br_t (by rw [e1]; exact nI_lt (by omega) (by omega)) (hn hle)
      · exact br_f (by rw [e1]; exact nI_nlt (by omega) (by omega)) (nm_r (nI_1 i) (ih (i + 1) (by omega) (by omega)))
  exact ⟨pc_n (pc_g yl) m - pc_n (pc_b ys) 6 + 1, key _ 0 (by omega) (by omega)⟩
end
end
section
/-! the relation, and the owed statements of the smaller methods -/
def pr_R (m : Nat) (rl : Nat → BitVec 8) (d s q t w ys yl : Nat → Int32) : Prop :=
  m ≤ 4 ∧ gs_W w ∧ (∀ i, i < 6 → ys i = s i) ∧ (∀ i, i < 6 → s i = 0 → ∀ p, p < 8 → d (i * 8 + p) = cv_I (rl (i * 8 + p))) ∧ (∀ r, r < m → yl r = t r ∧ (t r = 0 ∨ t r = 1)) ∧ (∀ r, r < m → t r = 0 → ∀ p, p < 8 → q (r * 8 + p) = cv_I (gs_S rl r p))
/-- the reference's bytes are rl; good data are the reference's; each good recovery block holds the weighted sums of the reference's bytes -/
def i_Rel (_ : Nat) (u : SX) (v : SY) : Prop := ∃ (m : Nat) (rl : Nat → BitVec 8) (d s q t w b h g ys yl : Nat → Int32), u = (nI m, d, s, q, t, w, b, h, g) ∧ v = (nI m, (fun j => cv_I (rl j)), ys, yl) ∧ pr_R m rl d s q t w ys yl
theorem i_up {k : Nat} {u : SX} {v : SY} (h : i_Rel k u v) : i_Rel (k + 4) u v := h
theorem pr_B {s ys : Nat → Int32} (h : ∀ i, i < 6 → ys i = s i) : pc_n (pc_b ys) 6 = pc_n (pc_b s) 6 := pc_c (fun i hi => by
  show decide (¬ ys i = 0) = decide (¬ s i = 0)
  rw [h i hi])
theorem pr_G {m : Nat} {t yl : Nat → Int32} (h : ∀ r, r < m → yl r = t r ∧ (t r = 0 ∨ t r = 1)) : pc_n (pc_g yl) m = pc_n (pc_g t) m := pc_c (fun i hi => by
  show decide (yl i = 0) = decide (t i = 0)
  rw [(h i hi).1])
theorem px_z : ∀ i, i < 4 → ∀ j, j < 6 → (6 + nI i) ^^^ nI j = cv_I (gf_z i j) := by decide +kernel
theorem px_init {post : SX → Prop} (hp : ∀ w', gs_W w' → post (0, (fun _ => 0), (fun _ => 0), (fun _ => 0), (fun _ => 0), w', (fun _ => 0), (fun _ => 0), (fun _ => 0))) : wpX_init post := by
  refine loop_0 (fun n i w' => wX_init_73 post 0 n (nI i) (fun _ => 0) (fun _ => 0) (fun _ => 0) (fun _ => 0) w' (fun _ => 0) (fun _ => 0) (fun _ => 0)) (fun i w' => ∀ r, r < i → ∀ j, j < 6 → w' (r * 6 + j) = cv_I (gf_W r j)) 4 (fun _ => 0) (fun r hr => absurd hr (Nat.not_lt_zero r)) ?_ ?_
  · intro n w' hI
    exact br_t (nI_le (a := 4) (b := 4) (by decide) (by decide)) (hp w' hI)
  · intro n i w' hi hI nx
    refine br_f (nI_ge (b := 4) hi (by decide)) ?_
    refine loop_0 (fun n' j w'' => wX_init_80 post (wX_init_73 post 0 n) (nI i) 0 n' (nI j) (fun _ => 0) (fun _ => 0) (fun _ => 0) (fun _ => 0) w'' (fun _ => 0) (fun _ => 0) (fun _ => 0)) (fun j w'' => (∀ r, r < i → ∀ j, j < 6 → w'' (r * 6 + j) = cv_I (gf_W r j)) ∧ ∀ j', j' < j → w'' (i * 6 + j') = cv_I (gf_W i j')) 6 w' ⟨hI, fun j hj => absurd hj (Nat.not_lt_zero j)⟩ ?_ ?_
    · intro n' w'' hJ
      refine br_t (nI_le (a := 6) (b := 6) (by decide) (by decide)) (nm_r (nI_1 i) (nx w'' (fun r hr j hj => ?_)))
      by_cases e : r = i
      · subst e
        exact hJ.2 j hj
      · exact hJ.1 r (by omega) j hj
    · intro n' j w'' hj hJ nx'
      refine br_f (nI_ge (b := 6) hj (by decide)) (px_inv (gf_z i j) (px_z i hi j hj) ⟨ix_i6 (by omega) (by decide), nm_r (e' := upd w'' (i * 6 + j) (cv_I (gf_W i j))) ?_ (nm_r (nI_1 j) (nx' _ ⟨fun r hr j' hj' => ?_, fun j' hj' => ?_⟩))⟩)
      · rw [ix_c6 (by omega) (by omega)]
        rfl
      · rw [pk_un (by omega)]
        exact hJ.1 r hr j' hj'
      · by_cases e : j' = j
        · subst e
          exact pk_us
        · rw [pk_un (by omega)]
          exact hJ.2 j' (by omega)
theorem i_vc0 : wpX_init (fun u => wpY_init (fun v => i_Rel 0 u v)) := by
  refine px_init (fun w' hw => ?_)
  have e0 : (fun _ => 0 : Nat → Int32) = fun j => cv_I ((fun _ => 0#8 : Nat → BitVec 8) j) := by
    funext j
    exact cv_0.symm
  refine ⟨0, fun _ => 0#8, fun _ => 0, fun _ => 0, fun _ => 0, fun _ => 0, w', fun _ => 0, fun _ => 0, fun _ => 0, fun _ => 0, fun _ => 0, rfl, congrArg (fun z : Nat → Int32 => ((0 : Int32), z, (fun _ => 0 : Nat → Int32), (fun _ => 0 : Nat → Int32))) e0, by decide, hw, fun _ _ => rfl, fun _ _ _ _ _ => cv_0.symm, fun r hr => absurd hr (Nat.not_lt_zero r), fun r hr => absurd hr (Nat.not_lt_zero r)⟩
theorem i_vc_spare {k : Nat} {u : SX} {v : SY} (I : i_Rel k u v) (hk : k + 4 ≤ 2048) : wpX_spare (fun r => wpY_spare (fun r' => r' = r ∧ i_Rel (k + 4) u v) v) u := by
  have J : i_Rel (k + 4) u v := I
  obtain ⟨m, rl, d, s, q, t, w, b, h, g, ys, yl, rfl, rfl, hm, hw, hys, hd, ht, hq⟩ := I
  unfold wpX_spare
  exact px_cg hm (py_sp hm ⟨congrArg nI (pr_G ht), J⟩)
theorem i_vc_margin {k : Nat} {u : SX} {v : SY} (I : i_Rel k u v) (hk : k + 4 ≤ 2048) : wpX_margin (fun r => wpY_margin (fun r' => r' = r ∧ i_Rel (k + 4) u v) v) u := by
  have J : i_Rel (k + 4) u v := I
  obtain ⟨m, rl, d, s, q, t, w, b, h, g, ys, yl, rfl, rfl, hm, hw, hys, hd, ht, hq⟩ := I
  unfold wpX_margin
  have c1 := pc_le (pc_b s) 6
  have c2 := pc_le (pc_g t) m
  refine px_cg hm (px_cb ?_)
  by_cases hle : pc_n (pc_b s) 6 ≤ pc_n (pc_g t) m
  · refine nm_r (pk_sub hle) (br_t (nI_pos' (by omega)) (py_mg hm (fun _ => ⟨by rw [pr_G ht, pr_B hys], J⟩) (fun z => ?_)))
    rw [pr_G ht, pr_B hys] at z
    omega
  · refine nm_e (br_f (Int32.not_le.mpr (pk_sneg (by omega) (by omega))) (py_mg hm (fun z => ?_) (fun _ => ⟨rfl, J⟩)))
    rw [pr_G ht, pr_B hys] at z
    omega
theorem i_vc_state {k : Nat} {u : SX} {v : SY} (I : i_Rel k u v) (hk : k + 4 ≤ 2048) (v1 : Int32) : wpX_state (fun r => wpY_state (fun r' => r' = r ∧ i_Rel (k + 4) u v) v v1) u v1 := by
  have J : i_Rel (k + 4) u v := I
  obtain ⟨m, rl, d, s, q, t, w, b, h, g, ys, yl, rfl, rfl, hm, hw, hys, hd, ht, hq⟩ := I
  unfold wpX_state
  refine px_ib (fun hb => br_t rfl (py_stbad hb ⟨rfl, J⟩)) (fun a ha e => ?_)
  subst e
  have ck : (nI a).toNatClampNeg = a := nI_clamp (by omega)
  refine br_f (by decide) ⟨vp_in_nI ha (by decide), ?_⟩
  rw [ck]
  exact py_stok ha ⟨hys a ha, J⟩
theorem i_vc_read {k : Nat} {u : SX} {v : SY} (I : i_Rel k u v) (hk : k + 4 ≤ 2048) (v1 : Int32) (v2 : Int32) : wpX_read (fun r => wpY_read (fun r' => r' = r ∧ i_Rel (k + 4) u v) v v1 v2) u v1 v2 := by
  have J : i_Rel (k + 4) u v := I
  obtain ⟨m, rl, d, s, q, t, w, b, h, g, ys, yl, rfl, rfl, hm, hw, hys, hd, ht, hq⟩ := I
  unfold wpX_read
  refine px_ib (fun hb => br_t rfl (py_rno (by decide) (fun _ hp => py_r1 hb hp) ⟨rfl, J⟩)) (fun a ha e => ?_)
  subst e
  have ck : (nI a).toNatClampNeg = a := nI_clamp (by omega)
  refine br_f (by decide) ?_
  refine px_ip (fun hb => br_t rfl (py_rno (by decide) (fun _ hp => py_r2 ha hb hp) ⟨rfl, J⟩)) (fun p hp8 e => ?_)
  subst e
  refine br_f (by decide) ⟨vp_in_nI ha (by decide), ?_⟩
  by_cases z : s a = 0
  · refine br_t (by rw [ck]; exact z) ⟨ix_i8 (by omega) (by decide), ?_⟩
    rw [ix_c8 (by omega) (by omega)]
    exact py_rok ha hp8 ((hys a ha).trans z) ⟨(hd a ha z p hp8).symm, J⟩
  · exact br_f (by rw [ck]; exact z) (py_rno (by decide) (fun _ hp => py_r4 (n := 0) ha hp8 (by decide) (by rw [hys a ha]; exact z) hp) ⟨rfl, J⟩)
theorem i_vc_lose {k : Nat} {u : SX} {v : SY} (I : i_Rel k u v) (hk : k + 4 ≤ 2048) (v1 : Int32) : wpX_lose (fun r u' => wpY_lose (fun r' v' => r' = r ∧ i_Rel (k + 4) u' v') v v1) u v1 := by
  have J : i_Rel (k + 4) u v := I
  obtain ⟨m, rl, d, s, q, t, w, b, h, g, ys, yl, rfl, rfl, hm, hw, hys, hd, ht, hq⟩ := I
  unfold wpX_lose
  refine px_ib (fun hb => br_t rfl (py_lbad hb ⟨rfl, J⟩)) (fun a ha e => ?_)
  subst e
  have ck : (nI a).toNatClampNeg = a := nI_clamp (by omega)
  refine br_f (by decide) ⟨vp_in_nI ha (by decide), nm_r (e' := s a) (by rw [ck]) (px_clb ha (fun d' h1 h2 => ?_))⟩
  refine And.intro (vp_in_nI ha (by decide)) (nm_r (e' := upd s a 1) (by rw [ck]) (py_lok ha ⟨hys a ha, m, rl, d', upd s a 1, q, t, w, b, h, g, upd ys a 1, yl, rfl, rfl, hm, hw, fun i hi => ?_, fun i hi si p hp8 => ?_, ht, hq⟩))
  · by_cases e : i = a
    · rw [e, pk_us, pk_us]
    · rw [pk_un e, pk_un e]
      exact hys i hi
  · have e : i ≠ a := fun z => by
      rw [z, pk_us] at si
      exact absurd si (by decide)
    rw [pk_un e] at si
    rw [h2 i e p hp8]
    exact hd i hi si p hp8
theorem i_vc_loseRecovery {k : Nat} {u : SX} {v : SY} (I : i_Rel k u v) (hk : k + 4 ≤ 2048) (v1 : Int32) : wpX_loseRecovery (fun r u' => wpY_loseRecovery (fun r' v' => r' = r ∧ i_Rel (k + 4) u' v') v v1) u v1 := by
  have J : i_Rel (k + 4) u v := I
  obtain ⟨m, rl, d, s, q, t, w, b, h, g, ys, yl, rfl, rfl, hm, hw, hys, hd, ht, hq⟩ := I
  unfold wpX_loseRecovery
  by_cases z : v1 < 0
  · exact br_t z (py_lrno (fun n => absurd z n) ⟨rfl, J⟩)
  · rcases pk_ix v1 (n := m) (by omega) with hx | hx | ⟨r, hr, e⟩
    · exact absurd hx z
    · exact br_f z (br_f (Int32.not_lt.mpr hx) (py_lrno (fun _ => Int32.not_lt.mpr hx) ⟨rfl, J⟩))
    · subst e
      have cr : (nI r).toNatClampNeg = r := nI_clamp (by omega)
      refine br_f z (br_t (nI_lt hr (by omega)) ⟨vp_in_nI (by omega) (by decide), nm_r (e' := t r) (by rw [cr]) (px_clr (by omega) (fun q' h1 => ?_))⟩)
      refine And.intro (vp_in_nI (by omega) (by decide)) (nm_r (e' := upd t r 1) (by rw [cr]) (py_lr hm hr (by rw [(ht r hr).1]; exact (ht r hr).2) ⟨(ht r hr).1, m, rl, d, s, q', upd t r 1, w, b, h, g, ys, upd yl r 1, rfl, rfl, hm, hw, hys, hd, fun i hi => ?_, fun i hi ti p hp8 => ?_⟩))
      · by_cases e : i = r
        · rw [e, pk_us, pk_us]
          exact ⟨rfl, Or.inr rfl⟩
        · rw [pk_un e, pk_un e]
          exact ht i hi
      · have e : i ≠ r := fun z => by
          rw [z, pk_us] at ti
          exact absurd ti (by decide)
        rw [pk_un e] at ti
        rw [h1 i e p hp8]
        exact hq i hi ti p hp8
theorem i_vc_spoil {k : Nat} {u : SX} {v : SY} (I : i_Rel k u v) (hk : k + 4 ≤ 2048) (v1 : Int32) (v2 : Int32) (v3 : Int32) : wpX_spoil (fun r u' => wpY_spoil (fun r' v' => r' = r ∧ i_Rel (k + 4) u' v') v v1 v2 v3) u v1 v2 v3 := by
  have J : i_Rel (k + 4) u v := I
  obtain ⟨m, rl, d, s, q, t, w, b, h, g, ys, yl, rfl, rfl, hm, hw, hys, hd, ht, hq⟩ := I
  unfold wpX_spoil
  refine px_ib (fun hb => br_t rfl (py_sno (by decide) (fun _ hp => py_r1 hb hp) ⟨rfl, J⟩)) (fun a ha e => ?_)
  subst e
  have ck : (nI a).toNatClampNeg = a := nI_clamp (by omega)
  refine br_f (by decide) ?_
  refine px_ip (fun hb => br_t rfl (py_sno (by decide) (fun _ hp => py_r2 ha hb hp) ⟨rfl, J⟩)) (fun p hp8 e => ?_)
  subst e
  refine br_f (by decide) ⟨vp_in_nI ha (by decide), ?_⟩
  by_cases z : s a = 0
  · have zy : ys a = 0 := (hys a ha).trans z
    refine br_t (by rw [ck]; exact z) (nm_e ?_)
    by_cases hz : v3 &&& 255 = 0
    · refine br_t hz ⟨vp_in_nI ha (by decide), ?_⟩
      rw [ck]
      exact py_s0 ha hp8 zy hz ⟨hys a ha, J⟩
    · refine br_f hz ⟨ix_i8 (by omega) (by decide), ix_i8 (by omega) (by decide), nm_r (e' := upd d (a * 8 + p) (d (a * 8 + p) ^^^ (v3 &&& 255))) (by rw [ix_c8 (by omega) (by omega)]) ⟨vp_in_nI ha (by decide), nm_r (e' := upd s a 2) (by rw [ck]) ⟨vp_in_nI ha (by decide), ?_⟩⟩⟩
      rw [ck, pk_us]
      refine py_s1 ha hp8 zy hz ⟨rfl, m, rl, upd d (a * 8 + p) (d (a * 8 + p) ^^^ (v3 &&& 255)), upd s a 2, q, t, w, b, h, g, upd ys a 2, yl, rfl, rfl, hm, hw, fun i hi => ?_, fun i hi si p' hp' => ?_, ht, hq⟩
      · by_cases e : i = a
        · rw [e, pk_us, pk_us]
        · rw [pk_un e, pk_un e]
          exact hys i hi
      · have e : i ≠ a := fun z => by
          rw [z, pk_us] at si
          exact absurd si (by decide)
        rw [pk_un e] at si
        rw [pk_un (by omega)]
        exact hd i hi si p' hp'
  · exact br_f (by rw [ck]; exact z) (py_sno (by decide) (fun _ hp => py_r4 (n := 0) ha hp8 (by decide) (by rw [hys a ha]; exact z) hp) ⟨rfl, J⟩)
end
section
/-! write, protect, giveUp, repair -/
theorem ws_B (rl : Nat → BitVec 8) {k p : Nat} (x : BitVec 8) (hk : k < 6) (h8 : p < 8) (r p' : Nat) (h8' : p' < 8) : gs_S (ur_u rl (k * 8 + p) x) r p' = if p' = p then gs_S rl r p ^^^ gf_M (gf_W r k) (rl (k * 8 + p) ^^^ x) else gs_S rl r p' := by
  by_cases e : p' = p
  · subst e
    rw [if_pos rfl]
    show gf_sm (fun i => gf_M (gf_W r i) (ur_u rl (k * 8 + p') x (i * 8 + p'))) 6 = gf_sm (fun i => gf_M (gf_W r i) (rl (i * 8 + p'))) 6 ^^^ _
    rw [gf_sm_u (f := fun i => gf_M (gf_W r i) (ur_u rl (k * 8 + p') x (i * 8 + p'))) (g := fun i => gf_M (gf_W r i) (rl (i * 8 + p'))) hk (fun i hi hne => by
      show gf_M (gf_W r i) (ur_u rl (k * 8 + p') x (i * 8 + p')) = gf_M (gf_W r i) (rl (i * 8 + p'))
      rw [ur_n rl x (by omega)])]
    show _ ^^^ (gf_M (gf_W r k) (rl (k * 8 + p')) ^^^ gf_M (gf_W r k) (ur_u rl (k * 8 + p') x (k * 8 + p'))) = _
    rw [ur_s, gf_Mr]
  · rw [if_neg e]
    exact gf_sm_c (fun i hi => by
      show gf_M (gf_W r i) (ur_u rl (k * 8 + p) x (i * 8 + p')) = gf_M (gf_W r i) (rl (i * 8 + p'))
      rw [ur_n rl x (by omega)])
theorem i_vc_write {k : Nat} {u : SX} {v : SY} (I : i_Rel k u v) (hk : k + 4 ≤ 2048) (v1 : Int32) (v2 : Int32) (v3 : Int32) : wpX_write (fun r u' => wpY_write (fun r' v' => r' = r ∧ i_Rel (k + 4) u' v') v v1 v2 v3) u v1 v2 v3 := by
  have J : i_Rel (k + 4) u v := I
  obtain ⟨m, rl, d, s, q, t, w, b, h, g, ys, yl, rfl, rfl, hm, hw, hys, hd, ht, hq⟩ := I
  unfold wpX_write
  refine px_ib (fun hb => br_t rfl (py_wno (by decide) (fun _ hp => py_r1 hb hp) ⟨rfl, J⟩)) (fun a ha e => ?_)
  subst e
  have ck : (nI a).toNatClampNeg = a := nI_clamp (by omega)
  refine br_f (by decide) ?_
  refine px_ip (fun hb => br_t rfl (py_wno (by decide) (fun _ hp => py_r2 ha hb hp) ⟨rfl, J⟩)) (fun p hp8 e => ?_)
  subst e
  refine br_f (by decide) ?_
  by_cases zv : v3 < 0
  · exact br_t zv (py_wno (by decide) (fun _ hp => py_r3 ha hp8 (Or.inl zv) hp) ⟨rfl, J⟩)
  · refine br_f zv ?_
    rcases pk_ix v3 (n := 256) (by decide) with hx | hx | ⟨n, hn, e⟩
    · exact absurd hx zv
    · exact br_f (py_n255 hx) (py_wno (by decide) (fun _ hp => py_r3 ha hp8 (Or.inr hx) hp) ⟨rfl, J⟩)
    · obtain ⟨x, rfl⟩ : ∃ x : BitVec 8, v3 = cv_I x := ⟨_, e.trans (cv_of hn)⟩
      have hx := x.isLt
      refine br_t (nI_le (b := 255) (by omega) (by decide)) ⟨vp_in_nI ha (by decide), ?_⟩
      by_cases z : s a = 0
      · refine br_t (by rw [ck]; exact z) ⟨ix_i8 (by omega) (by decide), nm_r (e' := cv_I (rl (a * 8 + p))) (by rw [ix_c8 (by omega) (by omega)]; exact hd a ha z p hp8) ⟨ix_i8 (by omega) (by decide), nm_r (e' := upd d (a * 8 + p) (cv_I x)) (by rw [ix_c8 (by omega) (by omega)]) ?_⟩⟩
        rw [cv_x]
        refine px_upd (A := gs_S rl) (B := gs_S (ur_u rl (a * 8 + p) x)) hm ha hp8 hw hq (fun r _ p' hp' => ws_B rl x ha hp8 r p' hp') (fun q' hq' => ?_)
        refine py_wok (n := x.toNat) ha hp8 hx ((hys a ha).trans z) ⟨rfl, m, ur_u rl (a * 8 + p) x, upd d (a * 8 + p) (cv_I x), s, q', t, w, b, h, g, ys, yl, rfl, ?_, hm, hw, hys, fun i hi si p' hp' => ?_, ht, hq'⟩
        · exact congrArg (fun z : Nat → Int32 => (nI m, z, ys, yl)) (ur_e rl (a * 8 + p) x)
        · by_cases e : i * 8 + p' = a * 8 + p
          · rw [e, pk_us, ur_s]
          · rw [pk_un e, ur_n rl x e]
            exact hd i hi si p' hp'
      · exact br_f (by rw [ck]; exact z) (py_wno (by decide) (fun _ hp => py_r4 (n := x.toNat) ha hp8 hx (by rw [hys a ha]; exact z) hp) ⟨rfl, J⟩)
theorem i_vc_protect {k : Nat} {u : SX} {v : SY} (I : i_Rel k u v) (hk : k + 4 ≤ 2048) (v1 : Int32) : wpX_protect (fun r u' => wpY_protect (fun r' v' => r' = r ∧ i_Rel (k + 4) u' v') v v1) u v1 := by
  have J : i_Rel (k + 4) u v := I
  obtain ⟨m, rl, d, s, q, t, w, b, h, g, ys, yl, rfl, rfl, hm, hw, hys, hd, ht, hq⟩ := I
  unfold wpX_protect
  by_cases z : v1 < 0
  · exact br_t z (py_pbad (Or.inl z) ⟨rfl, J⟩)
  · refine br_f z ?_
    rcases pk_ix v1 (n := 5) (by decide) with hx | hx | ⟨n, hn, e⟩
    · exact absurd hx z
    · exact br_f (py_n4 hx) (py_pbad (Or.inr hx) ⟨rfl, J⟩)
    · subst e
      have c1 := pc_le (pc_b s) 6
      refine br_t (nI_le (b := 4) (by omega) (by decide)) (px_cb ?_)
      by_cases e : pc_n (pc_b s) 6 = 0
      · have hs : ∀ i, i < 6 → s i = 0 := fun i hi => pc_bf' (pc_0 e i hi)
        refine br_t (by rw [e]; decide) (px_mk (rl := rl) (m := n) (by omega) hw hs (fun i hi => hd i hi (hs i hi)) (fun q' t' hqt => ?_))
        refine py_pok hn (by rw [pr_B hys]; exact e) (fun yl' hyl => ⟨rfl, n, rl, d, s, q', t', w, b, h, g, ys, yl', rfl, rfl, by omega, hw, hys, hd, fun r hr => ⟨(hyl r (by omega)).trans (hqt r hr).1.symm, Or.inl (hqt r hr).1⟩, fun r hr _ => (hqt r hr).2⟩)
      · exact br_f (nI_nle (by omega) (by omega)) (py_pno hn (by rw [pr_B hys]; exact e) ⟨rfl, J⟩)
section
variable {c : Int32} {d s q t w b h g : Nat → Int32}
theorem px_gu {post : Int32 → SX → Prop} {rl : Nat → BitVec 8} (hd : ∀ i, i < 6 → s i = 0 → ∀ p, p < 8 → d (i * 8 + p) = cv_I (rl (i * 8 + p)))
    (hp : ∀ d' s', (∀ i, i < 6 → s' i = 0) → (∀ i, i < 6 → ∀ p, p < 8 → d' (i * 8 + p) = cv_I (if s i = 0 then rl (i * 8 + p) else 0#8)) → post (nI (pc_n (pc_b s) 6)) (0, d', s', q, t, w, b, h, g)) : wpX_giveUp post (c, d, s, q, t, w, b, h, g) := by
  unfold wpX_giveUp
  refine loop_0 (fun n i (x : (Nat → Int32) × (Nat → Int32)) => wX_giveUp_4 post n (nI (pc_n (pc_b s) i)) (nI i) c x.1 x.2 q t w b h g) (fun i x => (∀ a, a < i → x.2 a = 0) ∧ (∀ a, i ≤ a → x.2 a = s a) ∧ (∀ a, a < 6 → (a < i ∨ s a = 0) → ∀ p, p < 8 → x.1 (a * 8 + p) = cv_I (if s a = 0 then rl (a * 8 + p) else 0#8))) 6 (d, s) ⟨fun a ha => absurd ha (Nat.not_lt_zero a), fun _ _ => rfl, fun a ha hor p hp8 => ?_⟩ ?_ ?_
  · have z : s a = 0 := hor.elim (fun y => absurd y (Nat.not_lt_zero a)) id
    rw [if_pos z]
    exact hd a ha z p hp8
  · intro n x hI
    exact br_t (nI_le (a := 6) (b := 6) (by decide) (by decide)) (hp x.1 x.2 hI.1 (fun a ha => hI.2.2 a ha (Or.inl ha)))
  · intro n i x hi hI nx
    have ci : (nI i).toNatClampNeg = i := nI_clamp (by omega)
    have e0 := hI.2.1 i (Nat.le_refl i)
    refine br_f (nI_ge (b := 6) hi (by decide)) ⟨vp_in_nI hi (by decide), ?_⟩
    by_cases z : s i = 0
    · have nx' := nx x ⟨fun a ha => ?_, fun a ha => hI.2.1 a (by omega), fun a ha hor => hI.2.2 a ha ?_⟩
      · rw [pc_f (pc_bf z)] at nx'
        exact br_t (by rw [ci, e0]; exact z) (nm_r (nI_1 i) nx')
      · by_cases e : a = i
        · rw [e, e0]
          exact z
        · exact hI.1 a (by omega)
      · by_cases e : a = i
        · rw [e]
          exact Or.inr z
        · exact hor.elim (fun y => Or.inl (by omega)) Or.inr
    · refine br_f (by rw [ci, e0]; exact z) (px_clb hi (fun d' h1 h2 => ?_))
      have nx' := nx (d', upd x.2 i 0) ⟨py_u0 hI.1, fun a ha => ?_, fun a ha hor p hp8 => ?_⟩
      · rw [pc_t (pc_bt z)] at nx'
        exact And.intro (vp_in_nI hi (by decide)) (nm_r (e' := upd x.2 i 0) (by rw [ci]) (nm_r (nI_1 _) (nm_r (nI_1 i) nx')))
      · show upd x.2 i 0 a = s a
        rw [pk_un (by omega)]
        exact hI.2.1 a (by omega)
      · show d' (a * 8 + p) = _
        by_cases e : a = i
        · subst e
          rw [if_neg z, h1 p hp8, cv_0]
        · rw [h2 a e p hp8]
          exact hI.2.2 a ha (hor.elim (fun y => Or.inl (by omega)) Or.inr) p hp8
end
theorem i_vc_giveUp {k : Nat} {u : SX} {v : SY} (I : i_Rel k u v) (hk : k + 4 ≤ 2048) : wpX_giveUp (fun r u' => wpY_giveUp (fun r' v' => r' = r ∧ i_Rel (k + 4) u' v') v) u := by
  obtain ⟨m, rl, d, s, q, t, w, b, h, g, ys, yl, rfl, rfl, hm, hw, hys, hd, ht, hq⟩ := I
  refine px_gu hd (fun d' s' hs' hd' => ?_)
  refine py_gu (fun rl' ys' h1 h2 => ⟨by rw [pr_B hys], 0, rl', d', s', q, t, w, b, h, g, ys', yl, rfl, rfl, by decide, hw, fun i hi => by rw [h2 i hi, hs' i hi], fun i hi _ p hp8 => ?_, fun r hr => absurd hr (Nat.not_lt_zero r), fun r hr => absurd hr (Nat.not_lt_zero r)⟩)
  have e8 : (i * 8 + p) / 8 = i := by omega
  rw [hd' i hi p hp8, h1 (i * 8 + p) (by omega), e8, hys i hi]
def rp_f (s : Nat → Int32) (rl : Nat → BitVec 8) (hf bf : Nat → Nat) : Nat → Nat → BitVec 8 := fun i j => if j < 8 then gs_S rl (hf i) j ^^^ gf_sm (gs_f s rl (hf i) j) 6 else gf_W (hf i) (bf (j - 8))
theorem rp_a {s : Nat → Int32} {rl : Nat → BitVec 8} {hf bf : Nat → Nat} {i j : Nat} (h : j < 8) : rp_f s rl hf bf i j = gs_S rl (hf i) j ^^^ gf_sm (gs_f s rl (hf i) j) 6 := if_pos h
theorem rp_b {s : Nat → Int32} {rl : Nat → BitVec 8} {hf bf : Nat → Nat} {i j : Nat} : rp_f s rl hf bf i (8 + j) = gf_W (hf i) (bf j) := by
  show (if 8 + j < 8 then _ else gf_W (hf i) (bf (8 + j - 8))) = _
  rw [if_neg (by omega), Nat.add_sub_cancel_left]
theorem rp_s (s : Nat → Int32) (rl : Nat → BitVec 8) (r p : Nat) : gs_S rl r p ^^^ gf_sm (gs_f s rl r p) 6 = gf_sm (fun i => if pc_b s i then gf_M (gf_W r i) (rl (i * 8 + p)) else 0#8) 6 := by
  show gf_sm (fun i => gf_M (gf_W r i) (rl (i * 8 + p))) 6 ^^^ gf_sm (gs_f s rl r p) 6 = _
  rw [← gf_sm_x]
  refine gf_sm_c (fun i hi => ?_)
  show gf_M (gf_W r i) (rl (i * 8 + p)) ^^^ (if pc_b s i then 0#8 else gf_M (gf_W r i) (rl (i * 8 + p))) = _
  cases pc_b s i
  · exact BitVec.xor_self
  · exact BitVec.xor_zero
theorem rp_sol {s : Nat → Int32} {rl : Nat → BitVec 8} {hf bf : Nat → Nat} {k : Nat} (h4 : ∀ i, i < k → hf i < 4) (hd : ∀ i, i < k → ∀ j, j < k → i ≠ j → hf i ≠ hf j) (L : pc_L (pc_b s) 6 k bf) : ∀ i, i < k → ∀ p, p < 8 → gf_G (rp_f s rl hf bf) k i p = rl (bf i * 8 + p) := by
  intro i hi p hp8
  refine gf_solve (x := fun c => rl (bf c * 8 + p)) h4 (fun i hi => (L.1 i hi).1) hd L.2.1 (fun i _ j _ => rp_b) (fun i hi => ?_) i hi
  show gf_sm (fun c => gf_M (rp_f s rl hf bf i (8 + c)) (rl (bf c * 8 + p))) k = rp_f s rl hf bf i p
  rw [rp_a hp8, rp_s, L.2.2.2 (fun a => gf_M (gf_W (hf i) a) (rl (a * 8 + p)))]
  exact gf_sm_c (fun c _ => by rw [rp_b])
theorem i_vc_repair {k : Nat} {u : SX} {v : SY} (I : i_Rel k u v) (hk : k + 4 ≤ 2048) : wpX_repair (fun r u' => wpY_repair (fun r' v' => r' = r ∧ i_Rel (k + 4) u' v') v) u := by
  have J : i_Rel (k + 4) u v := I
  obtain ⟨m, rl, d, s, q, t, w, b, h, g, ys, yl, rfl, rfl, hm, hw, hys, hd, ht, hq⟩ := I
  unfold wpX_repair
  have c1 := pc_le (pc_b s) 6
  have c2 := pc_le (pc_g t) m
  refine px_cb (px_cg hm (pk_le (pc_n (pc_b s) 6) (pc_n (pc_g t) m) (fun hle => ?_) (fun hlt => ?_) rfl rfl (by omega) (by omega)))
  · refine px_lb (fun b' bf eb Lb => ?_)
    refine px_lh hm (fun h' hf eh Lh => ?_)
    have hk4 : pc_n (pc_b s) 6 ≤ 4 := by omega
    have h4 : ∀ i, i < pc_n (pc_b s) 6 → hf i < 4 := fun i hi => by
      have := (Lh.1 i (by omega)).1
      omega
    have h6 : ∀ i, i < pc_n (pc_b s) 6 → bf i < 6 := fun i hi => (Lb.1 i hi).1
    have sol := rp_sol (rl := rl) h4 (fun i hi j hj => Lh.2.1 i (by omega) j (by omega)) Lb
    refine px_fill (rl := rl) (f := rp_f s rl hf bf) hk4 hw h4 h6 (fun i hi => eh i (by omega)) eb hd (fun i hi => hq (hf i) (Lh.1 i (by omega)).1 (pc_gt' (Lh.1 i (by omega)).2)) (fun i _ p hp8 => rp_a hp8) (fun i _ j _ => rp_b) (fun g1 hg1 => ?_)
    refine px_solve hk4 hg1 (fun g2 hg2 => ?_)
    refine px_take (rl := rl) hk4 h6 eb (fun i hi p hp8 => (hg2 i hi p (by omega)).trans (congrArg cv_I (sol i hi p hp8))) hd (fun i hi => ?_) (fun d' s' hs' hd' => ?_)
    · by_cases z : s i = 0
      · exact Or.inl z
      · obtain ⟨j, hj, e⟩ := Lb.2.2.1 i hi (pc_bt z)
        exact Or.inr ⟨j, Nat.zero_le j, hj, e⟩
    · refine px_mk (rl := rl) hm hw hs' hd' (fun q' t' hqt => ?_)
      refine py_rep hm (fun _ ys' yl' hys' hyl' => ⟨by rw [pr_B hys], m, rl, d', s', q', t', w, b', h', g2, ys', yl', rfl, rfl, hm, hw, fun i hi => by rw [hys' i hi, hs' i hi], fun i hi _ => hd' i hi, fun r hr => ⟨(hyl' r (by omega)).trans (hqt r hr).1.symm, Or.inl (hqt r hr).1⟩, fun r hr _ => (hqt r hr).2⟩) (fun z => ?_)
      rw [pr_G ht, pr_B hys] at z
      omega
  · refine py_rep hm (fun z => ?_) (fun _ => ⟨rfl, J⟩)
    rw [pr_G ht, pr_B hys] at z
    omega
end
