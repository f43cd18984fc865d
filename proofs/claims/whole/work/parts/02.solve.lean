/-! sums of bytes; the weights; elimination over scaled Cauchy weights never meets a zero pivot -/
def gf_sm (f : Nat → BitVec 8) : Nat → BitVec 8
  | 0 => 0#8
  | n + 1 => gf_sm f n ^^^ f n
theorem gf_sm_c {f g : Nat → BitVec 8} : ∀ {n : Nat}, (∀ i, i < n → f i = g i) → gf_sm f n = gf_sm g n
  | 0, _ => rfl
  | n + 1, h => by
    show gf_sm f n ^^^ f n = gf_sm g n ^^^ g n
    rw [gf_sm_c (fun i hi => h i (by omega)), h n (by omega)]
theorem gf_sm_x (f g : Nat → BitVec 8) : ∀ n, gf_sm (fun i => f i ^^^ g i) n = gf_sm f n ^^^ gf_sm g n
  | 0 => by simp [gf_sm]
  | n + 1 => by
    show gf_sm (fun i => f i ^^^ g i) n ^^^ (f n ^^^ g n) = (gf_sm f n ^^^ f n) ^^^ (gf_sm g n ^^^ g n)
    rw [gf_sm_x f g n, gf_x4]
theorem gf_sm_m (c : BitVec 8) (f : Nat → BitVec 8) : ∀ n, gf_M c (gf_sm f n) = gf_sm (fun i => gf_M c (f i)) n
  | 0 => gf_0r c
  | n + 1 => by
    show gf_M c (gf_sm f n ^^^ f n) = gf_sm (fun i => gf_M c (f i)) n ^^^ gf_M c (f n)
    rw [gf_Mr, gf_sm_m c f n]
theorem gf_sm_0 {f : Nat → BitVec 8} : ∀ {n : Nat}, (∀ i, i < n → f i = 0#8) → gf_sm f n = 0#8
  | 0, _ => rfl
  | n + 1, h => by
    show gf_sm f n ^^^ f n = 0#8
    rw [gf_sm_0 (fun i hi => h i (by omega)), h n (by omega), BitVec.zero_xor]
theorem gf_sm_1 {f : Nat → BitVec 8} {k : Nat} : ∀ {n : Nat}, k < n → (∀ i, i < n → i ≠ k → f i = 0#8) → gf_sm f n = f k
  | 0, hk, _ => absurd hk (Nat.not_lt_zero k)
  | n + 1, hk, h => by
    show gf_sm f n ^^^ f n = f k
    by_cases e : k = n
    · subst e
      rw [gf_sm_0 (fun i hi => h i (by omega) (by omega)), BitVec.zero_xor]
    · rw [gf_sm_1 (by omega) (fun i hi hne => h i (by omega) hne), h n (by omega) (by omega), BitVec.xor_zero]
theorem gf_sm_u {f g : Nat → BitVec 8} {k n : Nat} (hk : k < n) (h : ∀ i, i < n → i ≠ k → f i = g i) : gf_sm f n = gf_sm g n ^^^ (g k ^^^ f k) := by
  have e : gf_sm (fun i => g i ^^^ f i) n = g k ^^^ f k := gf_sm_1 (f := fun i => g i ^^^ f i) hk (fun i hi hne => by
    show g i ^^^ f i = 0#8
    rw [h i hi hne, BitVec.xor_self])
  rw [← e, gf_sm_x, gf_xx]
/-! the weights -/
def gf_z (r b : Nat) : BitVec 8 := BitVec.ofNat 8 ((6 + r) ^^^ b)
def gf_W (r b : Nat) : BitVec 8 := gf_iv (gf_z r b)
def gf_al (r s b : Nat) : BitVec 8 := gf_M (BitVec.ofNat 8 ((6 + r) ^^^ (6 + s))) (gf_W r b)
def gf_be (s b c : Nat) : BitVec 8 := gf_M (BitVec.ofNat 8 (c ^^^ b)) (gf_W s c)
theorem gf_z_nz : ∀ r, r < 4 → ∀ b, b < 6 → gf_z r b ≠ 0#8 := by decide +kernel
theorem gf_W_z (r b : Nat) (hr : r < 4) (hb : b < 6) : gf_M (gf_W r b) (gf_z r b) = 1#8 := gf_inv' _ (gf_z_nz r hr b hb)
theorem gf_W_nz (r b : Nat) (hr : r < 4) (hb : b < 6) : gf_W r b ≠ 0#8 := fun h => by
  have e := gf_W_z r b hr hb
  rw [h, gf_0l] at e
  exact absurd e (by decide)
theorem gf_cau : ∀ r, r < 4 → ∀ s, s < 4 → ∀ b, b < 6 → ∀ c, c < 6 → gf_W r c ^^^ gf_M (gf_W r b) (gf_M (gf_z s b) (gf_W s c)) = gf_M (gf_al r s b) (gf_M (gf_be s b c) (gf_W r c)) := by decide +kernel
theorem gf_d1 : ∀ r, r < 4 → ∀ s, s < 4 → r ≠ s → BitVec.ofNat 8 ((6 + r) ^^^ (6 + s)) ≠ 0#8 := by decide +kernel
theorem gf_d2 : ∀ b, b < 6 → ∀ c, c < 6 → b ≠ c → BitVec.ofNat 8 (c ^^^ b) ≠ 0#8 := by decide +kernel
theorem gf_alg (A B C D v wip wpj wij wpp z al be : BitVec 8) (h1 : gf_M v (gf_M C (gf_M D wpp)) = 1#8) (h2 : gf_M wpp z = 1#8) (hc : wij ^^^ gf_M wip (gf_M z wpj) = gf_M al (gf_M be wij)) :
    gf_M A (gf_M B wij) ^^^ gf_M (gf_M A (gf_M D wip)) (gf_M v (gf_M C (gf_M B wpj))) = gf_M (gf_M A al) (gf_M (gf_M B be) wij) := by
  have ia : Std.Associative gf_M := ⟨gf_assoc⟩
  have ic : Std.Commutative gf_M := ⟨gf_comm⟩
  have e1 : gf_M v (gf_M C D) = z := by
    have t1 : gf_M v (gf_M C D) = gf_M (gf_M v (gf_M C D)) (gf_M wpp z) := by rw [h2, gf_1r]
    have t2 : gf_M (gf_M v (gf_M C D)) (gf_M wpp z) = gf_M (gf_M v (gf_M C (gf_M D wpp))) z := by ac_rfl
    rw [t1, t2, h1, gf_1l]
  have e2 : gf_M (gf_M A (gf_M D wip)) (gf_M v (gf_M C (gf_M B wpj))) = gf_M A (gf_M B (gf_M wip (gf_M (gf_M v (gf_M C D)) wpj))) := by ac_rfl
  have e3 : gf_M (gf_M A al) (gf_M (gf_M B be) wij) = gf_M A (gf_M B (gf_M al (gf_M be wij))) := by ac_rfl
  rw [e2, e1, ← gf_Mr, ← gf_Mr, hc, e3]
/-! one pivot, and all of them -/
def gf_st (g : Nat → Nat → BitVec 8) (p : Nat) : Nat → Nat → BitVec 8 := fun i j => if i = p then gf_M (gf_iv (g p (8 + p))) (g p j) else g i j ^^^ gf_M (g i (8 + p)) (gf_M (gf_iv (g p (8 + p))) (g p j))
def gf_G (g : Nat → Nat → BitVec 8) : Nat → Nat → Nat → BitVec 8
  | 0 => g
  | n + 1 => gf_st (gf_G g n) n
theorem gf_st_p (g : Nat → Nat → BitVec 8) (p j : Nat) : gf_st g p p j = gf_M (gf_iv (g p (8 + p))) (g p j) := if_pos rfl
theorem gf_st_n (g : Nat → Nat → BitVec 8) {p i : Nat} (j : Nat) (h : i ≠ p) : gf_st g p i j = g i j ^^^ gf_M (g i (8 + p)) (gf_M (gf_iv (g p (8 + p))) (g p j)) := if_neg h
def gf_Eq (g : Nat → Nat → BitVec 8) (x : Nat → BitVec 8) (k pl : Nat) : Prop := ∀ i, i < k → gf_sm (fun c => gf_M (g i (8 + c)) (x c)) k = g i pl
theorem gf_Eq_st {g : Nat → Nat → BitVec 8} {x : Nat → BitVec 8} {k pl p : Nat} (h : gf_Eq g x k pl) (hp : p < k) : gf_Eq (gf_st g p) x k pl := by
  intro i hi
  have e1 : gf_sm (fun c => gf_M (gf_M (gf_iv (g p (8 + p))) (g p (8 + c))) (x c)) k = gf_M (gf_iv (g p (8 + p))) (g p pl) := by
    rw [← h p hp, gf_sm_m]
    exact gf_sm_c (fun c _ => gf_assoc _ _ _)
  by_cases e : i = p
  · subst e
    rw [gf_st_p, ← e1]
    exact gf_sm_c (fun c _ => by rw [gf_st_p])
  · rw [gf_st_n g pl e, ← h i hi, ← e1, gf_sm_m, ← gf_sm_x]
    exact gf_sm_c (fun c _ => by rw [gf_st_n g (8 + c) e, gf_Ml, gf_assoc])
theorem gf_Eq_G {g : Nat → Nat → BitVec 8} {x : Nat → BitVec 8} {k pl : Nat} (h : gf_Eq g x k pl) : ∀ p, p ≤ k → gf_Eq (gf_G g p) x k pl
  | 0, _ => h
  | p + 1, hp => gf_Eq_st (gf_Eq_G h p (by omega)) (by omega)
def gf_U (g : Nat → Nat → BitVec 8) (k p : Nat) : Prop := ∀ i, i < k → ∀ c, c < p → g i (8 + c) = if i = c then 1#8 else 0#8
def gf_C (g : Nat → Nat → BitVec 8) (hh bb : Nat → Nat) (k p : Nat) : Prop := ∃ A B : Nat → BitVec 8, (∀ i, p ≤ i → i < k → A i ≠ 0#8 ∧ B i ≠ 0#8) ∧ ∀ i, p ≤ i → i < k → ∀ j, p ≤ j → j < k → g i (8 + j) = gf_M (A i) (gf_M (B j) (gf_W (hh i) (bb j)))
theorem gf_UC {g : Nat → Nat → BitVec 8} {hh bb : Nat → Nat} {k p : Nat} (h4 : ∀ i, i < k → hh i < 4) (h6 : ∀ i, i < k → bb i < 6) (hd : ∀ i, i < k → ∀ j, j < k → i ≠ j → hh i ≠ hh j) (bd : ∀ i, i < k → ∀ j, j < k → i ≠ j → bb i ≠ bb j) (hp : p < k) (U : gf_U g k p) (C : gf_C g hh bb k p) : gf_U (gf_st g p) k (p + 1) ∧ gf_C (gf_st g p) hh bb k (p + 1) := by
  obtain ⟨A, B, nz, hC⟩ := C
  have epp : g p (8 + p) = gf_M (A p) (gf_M (B p) (gf_W (hh p) (bb p))) := hC p (Nat.le_refl p) hp p (Nat.le_refl p) hp
  have npp : g p (8 + p) ≠ 0#8 := by
    rw [epp]
    exact gf_nz _ _ (nz p (Nat.le_refl p) hp).1 (gf_nz _ _ (nz p (Nat.le_refl p) hp).2 (gf_W_nz _ _ (h4 p hp) (h6 p hp)))
  have vpp : gf_M (gf_iv (g p (8 + p))) (g p (8 + p)) = 1#8 := gf_inv' _ npp
  refine ⟨fun i hi c hc => ?_, fun i => gf_M (A i) (gf_al (hh i) (hh p) (bb p)), fun j => gf_M (B j) (gf_be (hh p) (bb p) (bb j)), fun i h1 h2 => ?_, fun i h1 h2 j h3 h5 => ?_⟩
  · by_cases ec : c = p
    · subst ec
      by_cases e : i = c
      · subst e
        rw [gf_st_p, vpp, if_pos rfl]
      · rw [gf_st_n g _ e, vpp, gf_1r, BitVec.xor_self, if_neg e]
    · have up := U p hp c (by omega)
      rw [if_neg (fun z => ec z.symm)] at up
      by_cases e : i = p
      · subst e
        rw [gf_st_p, up, gf_0r, if_neg (fun z => ec z.symm)]
      · rw [gf_st_n g _ e, up, gf_0r, gf_0r, BitVec.xor_zero]
        exact U i hi c (by omega)
  · have n1 := nz i (by omega) h2
    have d1 : hh i ≠ hh p := hd i h2 p hp (by omega)
    have d2 : bb p ≠ bb i := bd p hp i h2 (by omega)
    exact ⟨gf_nz _ _ n1.1 (gf_nz _ _ (gf_d1 _ (h4 i h2) _ (h4 p hp) d1) (gf_W_nz _ _ (h4 i h2) (h6 p hp))),
      gf_nz _ _ n1.2 (gf_nz _ _ (gf_d2 _ (h6 p hp) _ (h6 i h2) d2) (gf_W_nz _ _ (h4 p hp) (h6 i h2)))⟩
  · rw [gf_st_n g _ (show i ≠ p by omega), hC i (by omega) h2 j (by omega) h5, hC i (by omega) h2 p (Nat.le_refl p) hp, hC p (Nat.le_refl p) hp j (by omega) h5]
    rw [epp] at vpp
    rw [epp]
    exact gf_alg _ _ _ _ _ _ _ _ _ _ _ _ vpp (gf_W_z _ _ (h4 p hp) (h6 p hp)) (gf_cau _ (h4 i h2) _ (h4 p hp) _ (h6 p hp) _ (h6 j h5))
theorem gf_1nz : (1#8 : BitVec 8) ≠ 0#8 := by decide
theorem gf_UCG {g : Nat → Nat → BitVec 8} {hh bb : Nat → Nat} {k : Nat} (h4 : ∀ i, i < k → hh i < 4) (h6 : ∀ i, i < k → bb i < 6) (hd : ∀ i, i < k → ∀ j, j < k → i ≠ j → hh i ≠ hh j) (bd : ∀ i, i < k → ∀ j, j < k → i ≠ j → bb i ≠ bb j) (h0 : ∀ i, i < k → ∀ j, j < k → g i (8 + j) = gf_W (hh i) (bb j)) : ∀ p, p ≤ k → gf_U (gf_G g p) k p ∧ gf_C (gf_G g p) hh bb k p
  | 0, _ => ⟨fun _ _ c hc => absurd hc (Nat.not_lt_zero c), fun _ => 1#8, fun _ => 1#8, fun _ _ _ => ⟨gf_1nz, gf_1nz⟩, fun i _ hi j _ hj => by
      rw [gf_1l, gf_1l]
      exact h0 i hi j hj⟩
  | p + 1, hp => gf_UC h4 h6 hd bd (by omega) (gf_UCG h4 h6 hd bd h0 p (by omega)).1 (gf_UCG h4 h6 hd bd h0 p (by omega)).2
theorem gf_solve {g : Nat → Nat → BitVec 8} {hh bb : Nat → Nat} {x : Nat → BitVec 8} {k pl : Nat} (h4 : ∀ i, i < k → hh i < 4) (h6 : ∀ i, i < k → bb i < 6) (hd : ∀ i, i < k → ∀ j, j < k → i ≠ j → hh i ≠ hh j) (bd : ∀ i, i < k → ∀ j, j < k → i ≠ j → bb i ≠ bb j) (h0 : ∀ i, i < k → ∀ j, j < k → g i (8 + j) = gf_W (hh i) (bb j)) (hE : gf_Eq g x k pl) : ∀ i, i < k → gf_G g k i pl = x i := by
  intro i hi
  have U := (gf_UCG h4 h6 hd bd h0 k (Nat.le_refl k)).1
  have E := gf_Eq_G hE k (Nat.le_refl k) i hi
  rw [← E, gf_sm_1 (k := i) hi (fun c hc hne => by
    show gf_M (gf_G g k i (8 + c)) (x c) = 0#8
    rw [U i hi c hc, if_neg (fun z => hne z.symm), gf_0l])]
  show gf_M (gf_G g k i (8 + i)) (x i) = x i
  rw [U i hi i hi, if_pos rfl, gf_1l]
