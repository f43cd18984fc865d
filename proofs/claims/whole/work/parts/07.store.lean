/-! the component's own methods that store: blocks cleared, recovery made and updated, lists -/
def gs_S (rl : Nat → BitVec 8) (r p : Nat) : BitVec 8 := gf_sm (fun i => gf_M (gf_W r i) (rl (i * 8 + p))) 6
section
variable {c : Int32} {d s q t w b h g : Nat → Int32}
theorem px_clb {post : SX → Prop} {k : Nat} (hk : k < 6) (hp : ∀ d', (∀ p, p < 8 → d' (k * 8 + p) = 0) → (∀ i, i ≠ k → ∀ p, p < 8 → d' (i * 8 + p) = d (i * 8 + p)) → post (c, d', s, q, t, w, b, h, g)) : wpX_clearBlock post (c, d, s, q, t, w, b, h, g) (nI k) := by
  refine loop_0 (fun n i d' => wX_clearBlock_2 post (nI k) c n (nI i) d' s q t w b h g) (fun j d' => (∀ p, p < j → d' (k * 8 + p) = 0) ∧ (∀ i, i ≠ k → ∀ p, p < 8 → d' (i * 8 + p) = d (i * 8 + p))) 8 d ⟨fun p hp0 => absurd hp0 (Nat.not_lt_zero p), fun _ _ _ _ => rfl⟩ ?_ ?_
  · intro n d' hI
    exact br_t (nI_le (a := 8) (b := 8) (by decide) (by decide)) (hp d' hI.1 hI.2)
  · intro n j d' hj hI nx
    refine br_f (nI_ge (b := 8) hj (by decide)) ⟨ix_i8 (by omega) (by decide), nm_r (e' := upd d' (k * 8 + j) 0) (by rw [ix_c8 (by omega) (by omega)]) (nm_r (nI_1 j) (nx _ ⟨?_, ?_⟩))⟩
    · intro p hp1
      by_cases e : p = j
      · subst e
        exact pk_us
      · rw [pk_un (by omega)]
        exact hI.1 p (by omega)
    · intro i hi p hp8
      rw [pk_un (by omega)]
      exact hI.2 i hi p hp8
theorem px_clr {post : SX → Prop} {k : Nat} (hk : k < 4) (hp : ∀ q', (∀ i, i ≠ k → ∀ p, p < 8 → q' (i * 8 + p) = q (i * 8 + p)) → post (c, d, s, q', t, w, b, h, g)) : wpX_clearRecovery post (c, d, s, q, t, w, b, h, g) (nI k) := by
  refine loop_0 (fun n i q' => wX_clearRecovery_2 post (nI k) c n (nI i) d s q' t w b h g) (fun j q' => (∀ i, i ≠ k → ∀ p, p < 8 → q' (i * 8 + p) = q (i * 8 + p))) 8 q (fun _ _ _ _ => rfl) ?_ ?_
  · intro n q' hI
    exact br_t (nI_le (a := 8) (b := 8) (by decide) (by decide)) (hp q' hI)
  · intro n j q' hj hI nx
    refine br_f (nI_ge (b := 8) hj (by decide)) ⟨ix_i8 (by omega) (by decide), nm_r (e' := upd q' (k * 8 + j) 0) (by rw [ix_c8 (by omega) (by omega)]) (nm_r (nI_1 j) (nx _ ?_))⟩
    intro i hi p hp8
    rw [pk_un (by omega)]
    exact hI i hi p hp8
theorem px_upd {post : SX → Prop} {m k pl : Nat} {ch : BitVec 8} {A B : Nat → Nat → BitVec 8} (hm : m ≤ 4) (hk : k < 6) (hl : pl < 8) (hw : gs_W w)
    (hA : ∀ r, r < m → t r = 0 → ∀ p, p < 8 → q (r * 8 + p) = cv_I (A r p))
    (hB : ∀ r, r < m → ∀ p, p < 8 → B r p = if p = pl then A r pl ^^^ gf_M (gf_W r k) ch else A r p)
    (hp : ∀ q', (∀ r, r < m → t r = 0 → ∀ p, p < 8 → q' (r * 8 + p) = cv_I (B r p)) → post (nI m, d, s, q', t, w, b, h, g)) : wpX_updateRecovery post (nI m, d, s, q, t, w, b, h, g) (nI k) (nI pl) (cv_I ch) := by
  refine loop_0 (fun n i q' => wX_updateRecovery_3 post (nI k) (nI pl) (cv_I ch) (nI m) n (nI i) d s q' t w b h g) (fun i q' => ∀ r, r < m → t r = 0 → ∀ p, p < 8 → q' (r * 8 + p) = cv_I (if r < i then B r p else A r p)) m q ?_ ?_ ?_
  · intro r hr tr p hp8
    rw [if_neg (Nat.not_lt_zero r)]
    exact hA r hr tr p hp8
  · intro n q' hI
    refine br_t (nI_le (Nat.le_refl _) (by omega)) (hp q' (fun r hr tr p hp8 => ?_))
    have e := hI r hr tr p hp8
    rw [if_pos hr] at e
    exact e
  · intro n i q' hi hI nx
    have ci : (nI i).toNatClampNeg = i := nI_clamp (by omega)
    refine br_f (nI_ge hi (by omega)) ⟨vp_in_nI (by omega) (by decide), ?_⟩
    by_cases z : t i = 0
    · have e0 := hI i hi z pl hl
      rw [if_neg (Nat.lt_irrefl i)] at e0
      refine br_t (by rw [ci]; exact z) ⟨ix_i8 (by omega) (by decide), ix_i6 (by omega) (by decide), px_mul (gf_W i k) ch (by rw [ix_c6 (by omega) (by omega)]; exact hw i (by omega) k hk) rfl ⟨ix_i8 (by omega) (by decide), nm_r (e' := upd q' (i * 8 + pl) (cv_I (B i pl))) ?_ (nm_r (nI_1 i) (nx _ ?_))⟩⟩
      · rw [ix_c8 (by omega) (by omega), e0, cv_x, hB i hi pl hl, if_pos rfl]
      · intro r hr tr p hp8
        by_cases er : r = i
        · subst er
          rw [if_pos (Nat.lt_succ_self r)]
          by_cases ep : p = pl
          · subst ep
            exact pk_us
          · rw [pk_un (by omega), hI r hr tr p hp8, if_neg (Nat.lt_irrefl r), hB r hr p hp8, if_neg ep]
        · rw [pk_un (by omega), hI r hr tr p hp8]
          by_cases el : r < i
          · rw [if_pos el, if_pos (by omega)]
          · rw [if_neg el, if_neg (by omega)]
    · refine br_f (by rw [ci]; exact z) (nm_r (nI_1 i) (nx q' ?_))
      intro r hr tr p hp8
      have er : r ≠ i := fun e => z (by rw [← e]; exact tr)
      rw [hI r hr tr p hp8]
      by_cases el : r < i
      · rw [if_pos el, if_pos (by omega)]
      · rw [if_neg el, if_neg (by omega)]
theorem px_mk {post : SX → Prop} {m : Nat} {rl : Nat → BitVec 8} (hm : m ≤ 4) (hw : gs_W w) (hs : ∀ i, i < 6 → s i = 0) (hd : ∀ i, i < 6 → ∀ p, p < 8 → d (i * 8 + p) = cv_I (rl (i * 8 + p)))
    (hp : ∀ q' t', (∀ r, r < m → t' r = 0 ∧ ∀ p, p < 8 → q' (r * 8 + p) = cv_I (gs_S rl r p)) → post (nI m, d, s, q', t', w, b, h, g)) : wpX_makeRecovery post (nI m, d, s, q, t, w, b, h, g) := by
  have es : ∀ r p, gf_sm (gs_f s rl r p) 6 = gs_S rl r p := fun r p => gf_sm_c (fun i hi => by
    show (if pc_b s i then 0#8 else gf_M (gf_W r i) (rl (i * 8 + p))) = _
    rw [pc_bf (hs i hi)]
    rfl)
  refine loop_0 (fun n i (x : (Nat → Int32) × (Nat → Int32)) => wX_makeRecovery_2 post (nI m) n (nI i) d s x.1 x.2 w b h g) (fun i x => ∀ r, r < i → x.2 r = 0 ∧ ∀ p, p < 8 → x.1 (r * 8 + p) = cv_I (gs_S rl r p)) m (q, t) (fun r hr => absurd hr (Nat.not_lt_zero r)) ?_ ?_
  · intro n x hI
    exact br_t (nI_le (Nat.le_refl _) (by omega)) (hp x.1 x.2 hI)
  · intro n i x hi hI nx
    have ci : (nI i).toNatClampNeg = i := nI_clamp (by omega)
    refine br_f (nI_ge hi (by omega)) ?_
    refine loop_0 (fun n' j q' => wX_makeRecovery_12 post (wX_makeRecovery_2 post (nI m) n) (nI i) (nI m) n' (nI j) d s q' x.2 w b h g) (fun j q' => (∀ r, r < i → ∀ p, p < 8 → q' (r * 8 + p) = cv_I (gs_S rl r p)) ∧ ∀ p, p < j → q' (i * 8 + p) = cv_I (gs_S rl i p)) 8 x.1 ⟨fun r hr => (hI r hr).2, fun p hp0 => absurd hp0 (Nat.not_lt_zero p)⟩ ?_ ?_
    · intro n' q' hJ
      refine br_t (nI_le (a := 8) (b := 8) (by decide) (by decide)) ⟨vp_in_nI (by omega) (by decide), nm_r (e' := upd x.2 i 0) (by rw [ci]) (nm_r (nI_1 i) (nx (q', upd x.2 i 0) ?_))⟩
      intro r hr
      by_cases e : r = i
      · subst e
        exact ⟨pk_us, hJ.2⟩
      · exact ⟨(pk_un e).trans (hI r (by omega)).1, hJ.1 r (by omega)⟩
    · intro n' j q' hj hJ nx'
      refine br_f (nI_ge (b := 8) hj (by decide)) ?_
      refine px_sum (rl := rl) (by omega) hj hw (fun i hi _ => hd i hi) ⟨ix_i8 (by omega) (by decide), nm_r (e' := upd q' (i * 8 + j) (cv_I (gs_S rl i j))) ?_ (nm_r (nI_1 j) (nx' _ ⟨?_, ?_⟩))⟩
      · rw [ix_c8 (by omega) (by omega), es]
      · intro r hr p hp8
        rw [pk_un (by omega)]
        exact hJ.1 r hr p hp8
      · intro p hp1
        by_cases e : p = j
        · subst e
          exact pk_us
        · rw [pk_un (by omega)]
          exact hJ.2 p (by omega)
theorem px_lb {post : SX → Prop} (hp : ∀ b' f, (∀ j, j < pc_n (pc_b s) 6 → b' j = nI (f j)) → pc_L (pc_b s) 6 (pc_n (pc_b s) 6) f → post (c, d, s, q, t, w, b', h, g)) : wpX_listBroken post (c, d, s, q, t, w, b, h, g) := by
  refine loop_0 (fun n i b' => wX_listBroken_4 post c n (nI (pc_n (pc_b s) i)) (nI i) d s q t w b' h g) (fun i b' => ∃ f : Nat → Nat, (∀ j, j < pc_n (pc_b s) i → b' j = nI (f j)) ∧ pc_L (pc_b s) i (pc_n (pc_b s) i) f) 6 b ⟨fun j => j, fun j hj => absurd hj (Nat.not_lt_zero j), pc_L0 _ _⟩ ?_ ?_
  · intro n b' hI
    obtain ⟨f, h1, h2⟩ := hI
    exact br_t (nI_le (a := 6) (b := 6) (by decide) (by decide)) (hp b' f h1 h2)
  · intro n i b' hi hI nx
    obtain ⟨f, h1, h2⟩ := hI
    have ci : (nI i).toNatClampNeg = i := nI_clamp (by omega)
    have hc := pc_le (pc_b s) i
    refine br_f (nI_ge (b := 6) hi (by decide)) ⟨vp_in_nI hi (by decide), ?_⟩
    by_cases z : s i = 0
    · have e1 := pc_f (pc_bf z)
      have nx' := nx b' ⟨f, by rw [e1]; exact h1, by rw [e1]; exact pc_Lf (pc_bf z) h2⟩
      rw [e1] at nx'
      exact br_t (by rw [ci]; exact z) (nm_r (nI_1 i) nx')
    · have e1 := pc_t (pc_bt z)
      have nx' := nx (upd b' (pc_n (pc_b s) i) (nI i)) ⟨fun j => if j = pc_n (pc_b s) i then i else f j, ?_, ?_⟩
      · rw [e1] at nx'
        exact br_f (by rw [ci]; exact z) ⟨vp_in_nI (by omega) (by decide), nm_r (by rw [nI_clamp (by omega)]) (nm_r (nI_1 _) (nm_r (nI_1 i) nx'))⟩
      · intro j hj
        rw [e1] at hj
        by_cases e : j = pc_n (pc_b s) i
        · rw [e, pk_us]
          exact congrArg nI (if_pos rfl).symm
        · rw [pk_un e]
          exact (h1 j (by omega)).trans (congrArg nI (if_neg e).symm)
      · rw [e1]
        exact pc_Lt (pc_bt z) h2 (fun j hj => if_neg (by omega)) (if_pos rfl)
theorem px_lh {post : SX → Prop} {m : Nat} (hm : m ≤ 4) (hp : ∀ h' f, (∀ j, j < pc_n (pc_g t) m → h' j = nI (f j)) → pc_L (pc_g t) m (pc_n (pc_g t) m) f → post (nI m, d, s, q, t, w, b, h', g)) : wpX_listHelpers post (nI m, d, s, q, t, w, b, h, g) := by
  refine loop_0 (fun n i h' => wX_listHelpers_4 post (nI m) n (nI (pc_n (pc_g t) i)) (nI i) d s q t w b h' g) (fun i h' => ∃ f : Nat → Nat, (∀ j, j < pc_n (pc_g t) i → h' j = nI (f j)) ∧ pc_L (pc_g t) i (pc_n (pc_g t) i) f) m h ⟨fun j => j, fun j hj => absurd hj (Nat.not_lt_zero j), pc_L0 _ _⟩ ?_ ?_
  · intro n h' hI
    obtain ⟨f, h1, h2⟩ := hI
    exact br_t (nI_le (Nat.le_refl _) (by omega)) (hp h' f h1 h2)
  · intro n i h' hi hI nx
    obtain ⟨f, h1, h2⟩ := hI
    have ci : (nI i).toNatClampNeg = i := nI_clamp (by omega)
    have hc := pc_le (pc_g t) i
    refine br_f (nI_ge hi (by omega)) ⟨vp_in_nI (by omega) (by decide), ?_⟩
    by_cases z : t i = 0
    · have e1 := pc_t (pc_gt z)
      have nx' := nx (upd h' (pc_n (pc_g t) i) (nI i)) ⟨fun j => if j = pc_n (pc_g t) i then i else f j, ?_, ?_⟩
      · rw [e1] at nx'
        exact br_t (by rw [ci]; exact z) ⟨vp_in_nI (by omega) (by decide), nm_r (by rw [nI_clamp (by omega)]) (nm_r (nI_1 _) (nm_r (nI_1 i) nx'))⟩
      · intro j hj
        rw [e1] at hj
        by_cases e : j = pc_n (pc_g t) i
        · rw [e, pk_us]
          exact congrArg nI (if_pos rfl).symm
        · rw [pk_un e]
          exact (h1 j (by omega)).trans (congrArg nI (if_neg e).symm)
      · rw [e1]
        exact pc_Lt (pc_gt z) h2 (fun j hj => if_neg (by omega)) (if_pos rfl)
    · have e1 := pc_f (pc_gf z)
      have nx' := nx h' ⟨f, by rw [e1]; exact h1, by rw [e1]; exact pc_Lf (pc_gf z) h2⟩
      rw [e1] at nx'
      exact br_f (by rw [ci]; exact z) (nm_r (nI_1 i) nx')
end
