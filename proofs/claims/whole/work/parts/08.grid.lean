/-! the grid: filled, solved, and the broken blocks taken from it -/
def gr_M (k : Nat) (f : Nat → Nat → BitVec 8) (g : Nat → Int32) : Prop := ∀ row, row < k → ∀ col, col < 8 + k → g (row * 12 + col) = cv_I (f row col)
theorem gr_Mc {k : Nat} {f f' : Nat → Nat → BitVec 8} {g : Nat → Int32} (h : gr_M k f g) (e : ∀ row, row < k → ∀ col, f row col = f' row col) : gr_M k f' g := fun row hr col hc => by
  rw [← e row hr col]
  exact h row hr col hc
def gr_P (k : Nat) (f : Nat → Nat → BitVec 8) (i j : Nat) (g : Nat → Int32) : Prop := (∀ row, row < i → ∀ col, col < 8 + k → g (row * 12 + col) = cv_I (f row col)) ∧ (∀ col, col < j → g (i * 12 + col) = cv_I (f i col))
theorem gr_w {k i j : Nat} {f : Nat → Nat → BitVec 8} {g : Nat → Int32} (hk : k ≤ 4) (hj : j < 8 + k) (h : gr_P k f i j g) : gr_P k f i (j + 1) (upd g (i * 12 + j) (cv_I (f i j))) := by
  refine ⟨fun row hr col hc => ?_, fun col hc => ?_⟩
  · rw [pk_un (by omega)]
    exact h.1 row hr col hc
  · by_cases e : col = j
    · subst e
      exact pk_us
    · rw [pk_un (by omega)]
      exact h.2 col (by omega)
theorem gr_n {k i : Nat} {f : Nat → Nat → BitVec 8} {g : Nat → Int32} (h : gr_P k f i (8 + k) g) : gr_P k f (i + 1) 0 g := by
  refine ⟨fun row hr col hc => ?_, fun col hc => absurd hc (Nat.not_lt_zero col)⟩
  by_cases e : row = i
  · subst e
    exact h.2 col hc
  · exact h.1 row (by omega) col hc
def gr_R (k : Nat) (f : Nat → Nat → BitVec 8) (r0 : Nat) (F : Nat → BitVec 8) (j : Nat) (g : Nat → Int32) : Prop := ∀ row, row < k → ∀ col, col < 8 + k → g (row * 12 + col) = cv_I (if row = r0 then (if col < j then F col else f row col) else f row col)
theorem gr_R0 {k r0 : Nat} {f : Nat → Nat → BitVec 8} {F : Nat → BitVec 8} {g : Nat → Int32} (h : gr_M k f g) : gr_R k f r0 F 0 g := by
  intro row hr col hc
  rw [h row hr col hc, if_neg (Nat.not_lt_zero col), ite_self]
theorem gr_Rs {k r0 j : Nat} {f : Nat → Nat → BitVec 8} {F : Nat → BitVec 8} {g : Nat → Int32} (hk : k ≤ 4) (hj : j < 8 + k) (h : gr_R k f r0 F j g) : gr_R k f r0 F (j + 1) (upd g (r0 * 12 + j) (cv_I (F j))) := by
  intro row hr col hc
  by_cases e : row = r0
  · subst e
    rw [if_pos rfl]
    by_cases e2 : col = j
    · subst e2
      rw [pk_us, if_pos (Nat.lt_succ_self col)]
    · rw [pk_un (by omega), h row hr col hc, if_pos rfl]
      by_cases e3 : col < j
      · rw [if_pos e3, if_pos (by omega)]
      · rw [if_neg e3, if_neg (by omega)]
  · rw [pk_un (by omega), h row hr col hc, if_neg e, if_neg e]
theorem gr_Re {k r0 : Nat} {f : Nat → Nat → BitVec 8} {F : Nat → BitVec 8} {g : Nat → Int32} (h : gr_R k f r0 F (8 + k) g) : gr_M k (fun row col => if row = r0 then F col else f row col) g := by
  intro row hr col hc
  rw [h row hr col hc, if_pos hc]
theorem ix_s (a b : Nat) : nI a + 8 + nI b = nI (a + 8 + b) := (congrArg (fun z => z + nI b) (nI_add a 8)).trans (nI_add _ _)
theorem ix_8k (k : Nat) : 8 + nI k = nI (8 + k) := nI_add 8 k
theorem ix_le8 {k : Nat} (hk : k ≤ 4) : 8 + nI k ≤ nI (8 + k) := by
  rw [ix_8k]
  exact nI_le (Nat.le_refl _) (by omega)
theorem ix_nle8 {k j : Nat} (hk : k ≤ 4) (h : j < 8 + k) : ¬ 8 + nI k ≤ nI j := by
  rw [ix_8k]
  exact nI_ge h (by omega)
theorem ix_ia {a j N : Nat} (h : a + j < N) (hN : N < 1000) : vp_in (nI a + nI j) N := pk_in (a + j) N h (nI_add a j) (by omega)
theorem ix_ca {a j : Nat} (ha : a < 1000) (hj : j < 1000) : (nI a + nI j).toNatClampNeg = a + j := by
  rw [nI_add, nI_clamp (by omega)]
theorem ix_is {a j N : Nat} (h : a + 8 + j < N) (hN : N < 1000) : vp_in (nI a + 8 + nI j) N := pk_in (a + 8 + j) N h (ix_s a j) (by omega)
theorem ix_cs {a j : Nat} (ha : a < 1000) (hj : j < 1000) : (nI a + 8 + nI j).toNatClampNeg = a + (8 + j) := by
  rw [ix_s, nI_clamp (by omega), Nat.add_assoc]
section
variable {c : Int32} {d s q t w b h g : Nat → Int32}
theorem px_fill {post : SX → Prop} {k : Nat} {hh bf : Nat → Nat} {rl : Nat → BitVec 8} {f : Nat → Nat → BitVec 8} (hk : k ≤ 4) (hw : gs_W w) (h4 : ∀ i, i < k → hh i < 4) (h6 : ∀ i, i < k → bf i < 6)
    (eh : ∀ i, i < k → h i = nI (hh i)) (eb : ∀ i, i < k → b i = nI (bf i)) (hd : ∀ i, i < 6 → s i = 0 → ∀ p, p < 8 → d (i * 8 + p) = cv_I (rl (i * 8 + p)))
    (hq : ∀ i, i < k → ∀ p, p < 8 → q (hh i * 8 + p) = cv_I (gs_S rl (hh i) p))
    (g1 : ∀ i, i < k → ∀ p, p < 8 → f i p = gs_S rl (hh i) p ^^^ gf_sm (gs_f s rl (hh i) p) 6)
    (g2 : ∀ i, i < k → ∀ j, j < k → f i (8 + j) = gf_W (hh i) (bf j))
    (hp : ∀ g', gr_M k f g' → post (c, d, s, q, t, w, b, h, g')) : wpX_fillGrid post (c, d, s, q, t, w, b, h, g) (nI k) := by
  refine loop_0 (fun n i g' => wX_fillGrid_2 post (nI k) c n (nI i) d s q t w b h g') (fun i g' => gr_P k f i 0 g') k g ⟨fun row hr => absurd hr (Nat.not_lt_zero row), fun col hc => absurd hc (Nat.not_lt_zero col)⟩ ?_ ?_
  · intro n g' hI
    exact br_t (nI_le (Nat.le_refl _) (by omega)) (hp g' hI.1)
  · intro n i g' hi hI nx
    have ci : (nI i).toNatClampNeg = i := nI_clamp (by omega)
    have hhi := h4 i hi
    refine br_f (nI_ge hi (by omega)) ⟨vp_in_nI (by omega) (by decide), nm_r (e' := nI (hh i)) (by rw [ci]; exact eh i hi) (nm_r (ix_12 i) ?_)⟩
    refine loop_0 (fun n' j g'' => wX_fillGrid_23 post (wX_fillGrid_2 post (nI k) c n) (nI k) (nI i) (nI (hh i)) (nI (i * 12)) c n' (nI j) d s q t w b h g'') (fun j g'' => gr_P k f i j g'') 8 g' hI ?_ ?_
    · intro n' g'' hJ
      refine br_t (nI_le (a := 8) (b := 8) (by decide) (by decide)) ?_
      refine loop_0 (fun n3 j g3 => wX_fillGrid_69 post (wX_fillGrid_2 post (nI k) c n) (nI k) (nI i) (nI (hh i)) (nI (i * 12)) c n3 (nI j) d s q t w b h g3) (fun j g3 => gr_P k f i (8 + j) g3) k g'' hJ ?_ ?_
      · intro n3 g3 hK
        exact br_t (nI_le (Nat.le_refl _) (by omega)) (nm_r (nI_1 i) (nx g3 (gr_n hK)))
      · intro n3 j g3 hj hK nx3
        have cj : (nI j).toNatClampNeg = j := nI_clamp (by omega)
        have hbj := h6 j hj
        have e1 : b (nI j).toNatClampNeg = nI (bf j) := by rw [cj]; exact eb j hj
        refine br_f (nI_ge hj (by omega)) ⟨vp_in_nI (by omega) (by decide), by rw [e1]; exact ix_i6 (by omega) (by decide), ix_is (by omega) (by decide), nm_r (e' := upd g3 (i * 12 + (8 + j)) (cv_I (f i (8 + j)))) ?_ (nm_r (nI_1 j) (nx3 _ (gr_w (j := 8 + j) hk (by omega) hK)))⟩
        rw [e1, ix_cs (by omega) (by omega), ix_c6 (by omega) (by omega), hw (hh i) hhi (bf j) hbj, g2 i hi j hj]
    · intro n' j g'' hj hJ nx'
      refine br_f (nI_ge (b := 8) hj (by decide)) ⟨ix_i8 (by omega) (by decide), px_sum (rl := rl) hhi hj hw hd ⟨ix_ia (by omega) (by decide), nm_r (e' := upd g'' (i * 12 + j) (cv_I (f i j))) ?_ (nm_r (nI_1 j) (nx' _ (gr_w hk (by omega) hJ)))⟩⟩
      rw [ix_ca (by omega) (by omega), ix_c8 (by omega) (by omega), hq i hi j hj, cv_x, g1 i hi j hj]
def gr_sc (f : Nat → Nat → BitVec 8) (p : Nat) : Nat → Nat → BitVec 8 := fun row col => if row = p then gf_M (gf_iv (f p (8 + p))) (f p col) else f row col
def gr_cc (f : Nat → Nat → BitVec 8) (r0 p : Nat) : Nat → Nat → BitVec 8 := fun row col => if row = r0 then f r0 col ^^^ gf_M (f r0 (8 + p)) (f p col) else f row col
theorem px_scale {post : SX → Prop} {k p : Nat} {f : Nat → Nat → BitVec 8} (hk : k ≤ 4) (hpk : p < k) (hg : gr_M k f g) (hp : ∀ g', gr_M k (gr_sc f p) g' → post (c, d, s, q, t, w, b, h, g')) : wpX_scaleRow post (c, d, s, q, t, w, b, h, g) (nI p) (nI k) := by
  refine nm_r (ix_12 p) ⟨ix_is (by omega) (by decide), px_inv (f p (8 + p)) ?_ ?_⟩
  · rw [ix_cs (by omega) (by omega)]
    exact hg p hpk (8 + p) (by omega)
  · refine loop_0 (fun n j g' => wX_scaleRow_24 post (nI k) (nI (p * 12)) (cv_I (gf_iv (f p (8 + p)))) c n (nI j) d s q t w b h g') (fun j g' => gr_R k f p (fun col => gf_M (gf_iv (f p (8 + p))) (f p col)) j g') (8 + k) g (gr_R0 hg) ?_ ?_
    · intro n g' hI
      exact br_t (ix_le8 hk) (hp g' (gr_Re hI))
    · intro n j g' hj hI nx
      have e0 := hI p hpk j hj
      rw [if_pos rfl, if_neg (Nat.lt_irrefl j)] at e0
      refine br_f (ix_nle8 hk hj) ⟨ix_ia (by omega) (by decide), px_mul (gf_iv (f p (8 + p))) (f p j) rfl ?_ ⟨ix_ia (by omega) (by decide), nm_r (e' := upd g' (p * 12 + j) (cv_I (gf_M (gf_iv (f p (8 + p))) (f p j)))) ?_ (nm_r (nI_1 j) (nx _ (gr_Rs hk hj hI)))⟩⟩
      · rw [ix_ca (by omega) (by omega)]
        exact e0
      · rw [ix_ca (by omega) (by omega)]
theorem px_clear {post : SX → Prop} {k r0 p : Nat} {f : Nat → Nat → BitVec 8} (hk : k ≤ 4) (hr : r0 < k) (hpk : p < k) (hne : r0 ≠ p) (hg : gr_M k f g) (hp : ∀ g', gr_M k (gr_cc f r0 p) g' → post (c, d, s, q, t, w, b, h, g')) : wpX_clearColumn post (c, d, s, q, t, w, b, h, g) (nI r0) (nI p) (nI k) := by
  refine nm_r (ix_12 r0) (nm_r (ix_12 p) ⟨ix_is (by omega) (by decide), nm_r (e' := cv_I (f r0 (8 + p))) ?_ ?_⟩)
  · rw [ix_cs (by omega) (by omega)]
    exact hg r0 hr (8 + p) (by omega)
  · refine loop_0 (fun n j g' => wX_clearColumn_29 post (nI k) (nI (r0 * 12)) (nI (p * 12)) (cv_I (f r0 (8 + p))) c n (nI j) d s q t w b h g') (fun j g' => gr_R k f r0 (fun col => f r0 col ^^^ gf_M (f r0 (8 + p)) (f p col)) j g') (8 + k) g (gr_R0 hg) ?_ ?_
    · intro n g' hI
      exact br_t (ix_le8 hk) (hp g' (gr_Re hI))
    · intro n j g' hj hI nx
      have e0 := hI r0 hr j hj
      rw [if_pos rfl, if_neg (Nat.lt_irrefl j)] at e0
      have e1 := hI p hpk j hj
      rw [if_neg (fun z => hne z.symm)] at e1
      refine br_f (ix_nle8 hk hj) ⟨ix_ia (by omega) (by decide), ix_ia (by omega) (by decide), px_mul (f r0 (8 + p)) (f p j) rfl ?_ ⟨ix_ia (by omega) (by decide), nm_r (e' := upd g' (r0 * 12 + j) (cv_I (f r0 j ^^^ gf_M (f r0 (8 + p)) (f p j)))) ?_ (nm_r (nI_1 j) (nx _ (gr_Rs hk hj hI)))⟩⟩
      · rw [ix_ca (by omega) (by omega)]
        exact e1
      · rw [ix_ca (by omega) (by omega), e0, cv_x]
def gr_mx (f : Nat → Nat → BitVec 8) (p j : Nat) : Nat → Nat → BitVec 8 := fun row col => if row = p then gf_M (gf_iv (f p (8 + p))) (f p col) else if row < j then f row col ^^^ gf_M (f row (8 + p)) (gf_M (gf_iv (f p (8 + p))) (f p col)) else f row col
theorem px_solve {post : SX → Prop} {k : Nat} {f : Nat → Nat → BitVec 8} (hk : k ≤ 4) (hg : gr_M k f g) (hp : ∀ g', gr_M k (gf_G f k) g' → post (c, d, s, q, t, w, b, h, g')) : wpX_solveGrid post (c, d, s, q, t, w, b, h, g) (nI k) := by
  refine loop_0 (fun n i g' => wX_solveGrid_2 post (nI k) n (nI i) c d s q t w b h g') (fun i g' => gr_M k (gf_G f i) g') k g hg ?_ ?_
  · intro n g' hI
    exact br_t (nI_le (Nat.le_refl _) (by omega)) (hp g' hI)
  · intro n i g' hi hI nx
    refine br_f (nI_ge hi (by omega)) (px_scale hk hi hI (fun g1 h1 => ?_))
    refine loop_0 (fun n' j g2 => wX_solveGrid_15 post (wX_solveGrid_2 post (nI k) n) (nI k) (nI i) n' (nI j) c d s q t w b h g2) (fun j g2 => gr_M k (gr_mx (gf_G f i) i j) g2) k g1 (gr_Mc h1 (fun row hr col => ?_)) ?_ ?_
    · show (if row = i then _ else _) = (if row = i then _ else if row < 0 then _ else _)
      rw [if_neg (Nat.not_lt_zero row)]
    · intro n' g2 hJ
      refine br_t (nI_le (Nat.le_refl _) (by omega)) (nm_r (nI_1 i) (nx g2 (gr_Mc hJ (fun row hr col => ?_))))
      show (if row = i then _ else if row < k then _ else _) = (if row = i then _ else _)
      rw [if_pos hr]
    · intro n' j g2 hj hJ nx'
      refine br_f (nI_ge hj (by omega)) ?_
      by_cases e : j = i
      · refine br_t (by rw [e]) (nm_r (nI_1 j) (nx' g2 (gr_Mc hJ (fun row hr col => ?_))))
        show (if row = i then _ else if row < j then _ else _) = (if row = i then _ else if row < j + 1 then _ else _)
        by_cases e1 : row = i
        · rw [if_pos e1, if_pos e1]
        · rw [if_neg e1, if_neg e1]
          by_cases e2 : row < j
          · rw [if_pos e2, if_pos (by omega)]
          · rw [if_neg e2, if_neg (by omega)]
      · refine br_f (fun z => e ((nI_eq (by omega) (by omega)).mp z)) (px_clear hk hj hi e hJ (fun g3 h3 => nm_r (nI_1 j) (nx' g3 (gr_Mc h3 (fun row hr col => ?_)))))
        show (if row = j then gr_mx (gf_G f i) i j j col ^^^ gf_M (gr_mx (gf_G f i) i j j (8 + i)) (gr_mx (gf_G f i) i j i col) else gr_mx (gf_G f i) i j row col) = gr_mx (gf_G f i) i (j + 1) row col
        unfold gr_mx
        by_cases e1 : row = j
        · subst e1
          simp only [if_pos, if_neg e, Nat.lt_irrefl, Nat.lt_succ_self, if_false, if_true]
        · rw [if_neg e1]
          by_cases e2 : row = i
          · rw [if_pos e2, if_pos e2]
          · rw [if_neg e2, if_neg e2]
            by_cases e3 : row < j
            · rw [if_pos e3, if_pos (by omega)]
            · rw [if_neg e3, if_neg (by omega)]
theorem px_take {post : SX → Prop} {k : Nat} {bf : Nat → Nat} {rl : Nat → BitVec 8} (hk : k ≤ 4) (h6 : ∀ i, i < k → bf i < 6) (eb : ∀ i, i < k → b i = nI (bf i))
    (hg : ∀ i, i < k → ∀ p, p < 8 → g (i * 12 + p) = cv_I (rl (bf i * 8 + p)))
    (hd : ∀ i, i < 6 → s i = 0 → ∀ p, p < 8 → d (i * 8 + p) = cv_I (rl (i * 8 + p)))
    (hb : ∀ i, i < 6 → s i = 0 ∨ ∃ j, 0 ≤ j ∧ j < k ∧ bf j = i)
    (hp : ∀ d' s', (∀ i, i < 6 → s' i = 0) → (∀ i, i < 6 → ∀ p, p < 8 → d' (i * 8 + p) = cv_I (rl (i * 8 + p))) → post (c, d', s', q, t, w, b, h, g)) : wpX_takeFromGrid post (c, d, s, q, t, w, b, h, g) (nI k) := by
  refine loop_0 (fun n i (x : (Nat → Int32) × (Nat → Int32)) => wX_takeFromGrid_2 post (nI k) c n (nI i) x.1 x.2 q t w b h g) (fun i x => (∀ a, a < 6 → x.2 a = 0 → ∀ p, p < 8 → x.1 (a * 8 + p) = cv_I (rl (a * 8 + p))) ∧ (∀ a, a < 6 → x.2 a = 0 ∨ ∃ j, i ≤ j ∧ j < k ∧ bf j = a)) k (d, s) ⟨hd, hb⟩ ?_ ?_
  · intro n x hI
    have z : ∀ a, a < 6 → x.2 a = 0 := fun a ha => by
      rcases hI.2 a ha with z | ⟨j, h1, h2, _⟩
      · exact z
      · omega
    exact br_t (nI_le (Nat.le_refl _) (by omega)) (hp x.1 x.2 z (fun a ha => hI.1 a ha (z a ha)))
  · intro n i x hi hI nx
    have ci : (nI i).toNatClampNeg = i := nI_clamp (by omega)
    have hbi := h6 i hi
    have cb : (nI (bf i)).toNatClampNeg = bf i := nI_clamp (by omega)
    refine br_f (nI_ge hi (by omega)) ⟨vp_in_nI (by omega) (by decide), nm_r (e' := nI (bf i)) (by rw [ci]; exact eb i hi) ?_⟩
    refine loop_0 (fun n' j d' => wX_takeFromGrid_17 post (wX_takeFromGrid_2 post (nI k) c n) (nI k) (nI i) (nI (bf i)) c n' (nI j) d' x.2 q t w b h g) (fun j d' => (∀ a, a < 6 → a ≠ bf i → x.2 a = 0 → ∀ p, p < 8 → d' (a * 8 + p) = cv_I (rl (a * 8 + p))) ∧ ∀ p, p < j → d' (bf i * 8 + p) = cv_I (rl (bf i * 8 + p))) 8 x.1 ⟨fun a ha _ => hI.1 a ha, fun p h0 => absurd h0 (Nat.not_lt_zero p)⟩ ?_ ?_
    · intro n' d' hJ
      refine br_t (nI_le (a := 8) (b := 8) (by decide) (by decide)) ⟨vp_in_nI (by omega) (by decide), nm_r (e' := upd x.2 (bf i) 0) (by rw [cb]) (nm_r (nI_1 i) (nx (d', upd x.2 (bf i) 0) ⟨fun a ha sa p hp8 => ?_, fun a ha => ?_⟩))⟩
      · by_cases e : a = bf i
        · subst e
          exact hJ.2 p hp8
        · exact hJ.1 a ha e ((pk_un e).symm.trans sa) p hp8
      · by_cases e : a = bf i
        · subst e
          exact Or.inl pk_us
        · rcases hI.2 a ha with z | ⟨j, h1, h2, h3⟩
          · exact Or.inl ((pk_un e).trans z)
          · have : j ≠ i := fun z => e (by rw [← h3, z])
            exact Or.inr ⟨j, by omega, h2, h3⟩
    · intro n' j d' hj hJ nx'
      refine br_f (nI_ge (b := 8) hj (by decide)) ⟨?_, ix_i8 (by omega) (by decide), nm_r (e' := upd d' (bf i * 8 + j) (cv_I (rl (bf i * 8 + j)))) ?_ (nm_r (nI_1 j) (nx' _ ⟨fun a ha e sa p hp8 => ?_, fun p hp1 => ?_⟩))⟩
      · rw [ix_12]
        exact ix_ia (by omega) (by decide)
      · rw [ix_12, ix_ca (by omega) (by omega), ix_c8 (by omega) (by omega), hg i hi j hj]
      · rw [pk_un (by omega)]
        exact hJ.1 a ha e sa p hp8
      · by_cases e : p = j
        · subst e
          exact pk_us
        · rw [pk_un (by omega)]
          exact hJ.2 p (by omega)
end
