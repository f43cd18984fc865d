/-! products, inverses, counts and sums as the component walks them -/
theorem px_m27 {post : Int32 → Prop} {J7 : Int32 → Int32 → Int32 → Prop} {x1 x2 : Int32} (a : BitVec 8) (i : Nat) (h : J7 x2 (cv_I (gf_xt a)) (nI (i + 1))) : wX_multiply_27 post J7 x1 x2 (cv_I a) (nI i) := by
  unfold wX_multiply_27
  have ha := a.isLt
  refine nm_r (cv_sl a) ?_
  by_cases e : a.toNat < 128
  · refine br_t (nI_le (b := 255) (by omega) (by decide)) (nm_r (nI_1 i) ?_)
    rw [cv_s1 e]
    exact h
  · refine br_f (nI_ge (a := 255) (by omega) (by omega)) ?_
    exact nm_r (cv_s2 e) (nm_r (nI_1 i) h)
theorem px_mulk {post : Int32 → Prop} (a b : BitVec 8) (hp : post (cv_I (gf_M a b))) : ∀ n i, i ≤ 8 → 8 - i < n → wX_multiply_7 post (cv_I b) n (cv_I (gf_mp a b i)) (cv_I (gf_xp a i)) (nI i) := by
  intro n
  induction n with
  | zero => intro i _ h; omega
  | succ n ih =>
    intro i hi hn
    by_cases e : i = 8
    · subst e
      exact br_t (nI_le (a := 8) (b := 8) (by decide) (by decide)) hp
    · have hi2 : i < 8 := by omega
      have nx := ih (i + 1) (by omega) (by omega)
      refine br_f (nI_ge (b := 8) hi2 (by decide)) ?_
      by_cases hb : b.getLsbD i = true
      · have e1 : gf_mp a b (i + 1) = gf_mp a b i ^^^ gf_xp a i := by
          show gf_mp a b i ^^^ (if b.getLsbD i then gf_xp a i else 0#8) = _
          rw [if_pos hb]
        rw [e1] at nx
        refine br_f (fun z => ?_) (nm_r (cv_x _ _) (px_m27 _ i nx))
        rw [(cv_bit b i hi2).mp z] at hb
        exact absurd hb (by decide)
      · have e1 : gf_mp a b (i + 1) = gf_mp a b i := by
          show gf_mp a b i ^^^ (if b.getLsbD i then gf_xp a i else 0#8) = _
          rw [if_neg hb, BitVec.xor_zero]
        rw [e1] at nx
        exact br_t ((cv_bit b i hi2).mpr (by simpa using hb)) (px_m27 _ i nx)
theorem px_mul {post : Int32 → Prop} {x y : Int32} (a b : BitVec 8) (hx : x = cv_I a) (hy : y = cv_I b) (hp : post (cv_I (gf_M a b))) : wpX_multiply post x y := by
  subst hx hy
  exact ⟨9, px_mulk a b hp 9 0 (by omega) (by omega)⟩
theorem px_invk {post : Int32 → Prop} (a : BitVec 8) (hp : post (cv_I (gf_iv a))) : ∀ n i, i ≤ 7 → 7 - i < n → wX_inverse_6 post n (cv_I (gf_pw a i)) (cv_I (gf_rs a i)) (nI (i + 1)) := by
  intro n
  induction n with
  | zero => intro i _ h; omega
  | succ n ih =>
    intro i hi hn
    by_cases e : i = 7
    · subst e
      exact br_t (nI_le (a := 8) (b := 8) (by decide) (by decide)) hp
    · have nx := ih (i + 1) (by omega) (by omega)
      refine br_f (nI_ge (b := 8) (by omega) (by decide)) ?_
      exact px_mul _ _ rfl rfl (px_mul _ _ rfl rfl (nm_r (nI_1 (i + 1)) nx))
theorem px_inv {post : Int32 → Prop} {x : Int32} (a : BitVec 8) (hx : x = cv_I a) (hp : post (cv_I (gf_iv a))) : wpX_inverse post x := by
  subst hx
  exact ⟨8, px_invk a hp 8 0 (by omega) (by omega)⟩
theorem ix_6 (a b : Nat) : nI a * 6 + nI b = nI (a * 6 + b) := (congrArg (fun z => z + nI b) (pk_mul a 6)).trans (nI_add _ _)
theorem ix_8 (a b : Nat) : nI a * 8 + nI b = nI (a * 8 + b) := (congrArg (fun z => z + nI b) (pk_mul a 8)).trans (nI_add _ _)
theorem ix_12 (a : Nat) : nI a * 12 = nI (a * 12) := pk_mul a 12
theorem ix_c8 {a b : Nat} (ha : a < 100) (hb : b < 100) : (nI a * 8 + nI b).toNatClampNeg = a * 8 + b := by
  rw [ix_8, nI_clamp (by omega)]
theorem ix_c6 {a b : Nat} (ha : a < 100) (hb : b < 100) : (nI a * 6 + nI b).toNatClampNeg = a * 6 + b := by
  rw [ix_6, nI_clamp (by omega)]
theorem ix_i8 {a b N : Nat} (h : a * 8 + b < N) (hN : N < 1000) : vp_in (nI a * 8 + nI b) N := pk_in (a * 8 + b) N h (ix_8 a b) (by omega)
theorem ix_i6 {a b N : Nat} (h : a * 6 + b < N) (hN : N < 1000) : vp_in (nI a * 6 + nI b) N := pk_in (a * 6 + b) N h (ix_6 a b) (by omega)
def pc_b (s : Nat → Int32) : Nat → Bool := fun i => decide (¬ s i = 0)
def pc_g (t : Nat → Int32) : Nat → Bool := fun i => decide (t i = 0)
theorem pc_bt {s : Nat → Int32} {i : Nat} (h : ¬ s i = 0) : pc_b s i = true := decide_eq_true h
theorem pc_bf {s : Nat → Int32} {i : Nat} (h : s i = 0) : pc_b s i = false := decide_eq_false (fun z => z h)
theorem pc_bf' {s : Nat → Int32} {i : Nat} (h : pc_b s i = false) : s i = 0 := Classical.byContradiction fun z => by
  rw [pc_bt z] at h
  exact absurd h (by decide)
theorem pc_bt' {s : Nat → Int32} {i : Nat} (h : pc_b s i = true) : ¬ s i = 0 := fun z => by
  rw [pc_bf z] at h
  exact absurd h (by decide)
theorem pc_gt {t : Nat → Int32} {i : Nat} (h : t i = 0) : pc_g t i = true := decide_eq_true h
theorem pc_gf {t : Nat → Int32} {i : Nat} (h : ¬ t i = 0) : pc_g t i = false := decide_eq_false h
theorem pc_gt' {t : Nat → Int32} {i : Nat} (h : pc_g t i = true) : t i = 0 := of_decide_eq_true h
section
variable {c : Int32} {d s q t w b h g : Nat → Int32}
theorem px_cb {post : Int32 → Prop} (hp : post (nI (pc_n (pc_b s) 6))) : wpX_countBroken post (c, d, s, q, t, w, b, h, g) := by
  have key : ∀ n i, i ≤ 6 → 6 - i < n → wX_countBroken_4 post c d s q t w b h g n (nI (pc_n (pc_b s) i)) (nI i) := by
    intro n
    induction n with
    | zero => intro i _ h; omega
    | succ n ih =>
      intro i hi hn
      by_cases e : i = 6
      · subst e
        exact br_t (nI_le (a := 6) (b := 6) (by decide) (by decide)) hp
      · have nx := ih (i + 1) (by omega) (by omega)
        have ci : (nI i).toNatClampNeg = i := nI_clamp (by omega)
        refine br_f (nI_ge (b := 6) (by omega) (by decide)) ⟨vp_in_nI (by omega) (by decide), ?_⟩
        by_cases z : s i = 0
        · rw [pc_f (pc_bf z)] at nx
          exact br_t (by rw [ci]; exact z) (nm_r (nI_1 i) nx)
        · rw [pc_t (pc_bt z)] at nx
          exact br_f (by rw [ci]; exact z) (nm_r (nI_1 _) (nm_r (nI_1 i) nx))
  exact ⟨7, key 7 0 (by omega) (by omega)⟩
theorem px_cg {post : Int32 → Prop} {m : Nat} (hm : m ≤ 4) (hp : post (nI (pc_n (pc_g t) m))) : wpX_countGoodRecovery post (nI m, d, s, q, t, w, b, h, g) := by
  have key : ∀ n i, i ≤ m → m - i < n → wX_countGoodRecovery_4 post (nI m) d s q t w b h g n (nI (pc_n (pc_g t) i)) (nI i) := by
    intro n
    induction n with
    | zero => intro i _ h; omega
    | succ n ih =>
      intro i hi hn
      by_cases e : i = m
      · subst e
        exact br_t (nI_le (Nat.le_refl _) (by omega)) hp
      · have nx := ih (i + 1) (by omega) (by omega)
        have ci : (nI i).toNatClampNeg = i := nI_clamp (by omega)
        refine br_f (nI_ge (by omega) (by omega)) ⟨vp_in_nI (by omega) (by decide), ?_⟩
        by_cases z : t i = 0
        · rw [pc_t (pc_gt z)] at nx
          exact br_t (by rw [ci]; exact z) (nm_r (nI_1 _) (nm_r (nI_1 i) nx))
        · rw [pc_f (pc_gf z)] at nx
          exact br_f (by rw [ci]; exact z) (nm_r (nI_1 i) nx)
  exact ⟨m + 1, key (m + 1) 0 (by omega) (by omega)⟩
def gs_f (s : Nat → Int32) (rl : Nat → BitVec 8) (r p : Nat) : Nat → BitVec 8 := fun i => if pc_b s i then 0#8 else gf_M (gf_W r i) (rl (i * 8 + p))
def gs_W (w : Nat → Int32) : Prop := ∀ r, r < 4 → ∀ i, i < 6 → w (r * 6 + i) = cv_I (gf_W r i)
theorem px_sum {post : Int32 → Prop} {r p : Nat} {rl : Nat → BitVec 8} (hr : r < 4) (hp8 : p < 8) (hw : gs_W w) (hd : ∀ i, i < 6 → s i = 0 → ∀ p, p < 8 → d (i * 8 + p) = cv_I (rl (i * 8 + p))) (hp : post (cv_I (gf_sm (gs_f s rl r p) 6))) : wpX_sumOfGoodBlocks post (c, d, s, q, t, w, b, h, g) (nI r) (nI p) := by
  have key : ∀ n i, i ≤ 6 → 6 - i < n → wX_sumOfGoodBlocks_5 post (nI r) (nI p) c d s q t w b h g n (cv_I (gf_sm (gs_f s rl r p) i)) (nI i) := by
    intro n
    induction n with
    | zero => intro i _ h; omega
    | succ n ih =>
      intro i hi hn
      by_cases e : i = 6
      · subst e
        exact br_t (nI_le (a := 6) (b := 6) (by decide) (by decide)) hp
      · have hi6 : i < 6 := by omega
        have nx := ih (i + 1) (by omega) (by omega)
        have ci : (nI i).toNatClampNeg = i := nI_clamp (by omega)
        refine br_f (nI_ge (b := 6) (by omega) (by decide)) ⟨vp_in_nI (by omega) (by decide), ?_⟩
        by_cases z : s i = 0
        · have e1 : gf_sm (gs_f s rl r p) (i + 1) = gf_sm (gs_f s rl r p) i ^^^ gf_M (gf_W r i) (rl (i * 8 + p)) := by
            show gf_sm (gs_f s rl r p) i ^^^ (if pc_b s i then 0#8 else gf_M (gf_W r i) (rl (i * 8 + p))) = _
            rw [pc_bf z]
            rfl
          rw [e1] at nx
          refine br_t (by rw [ci]; exact z) ⟨ix_i6 (by omega) (by decide), ix_i8 (by omega) (by decide), ?_⟩
          refine px_mul (gf_W r i) (rl (i * 8 + p)) ?_ ?_ (nm_r (cv_x _ _) (nm_r (nI_1 i) nx))
          · rw [ix_c6 (by omega) (by omega)]
            exact hw r hr i hi6
          · rw [ix_c8 (by omega) (by omega)]
            exact hd i hi6 z p hp8
        · have e1 : gf_sm (gs_f s rl r p) (i + 1) = gf_sm (gs_f s rl r p) i := by
            show gf_sm (gs_f s rl r p) i ^^^ (if pc_b s i then 0#8 else gf_M (gf_W r i) (rl (i * 8 + p))) = _
            rw [pc_bt z]
            exact BitVec.xor_zero
          rw [e1] at nx
          exact br_f (by rw [ci]; exact z) (nm_r (nI_1 i) nx)
  exact ⟨7, key 7 0 (by omega) (by omega)⟩
end
