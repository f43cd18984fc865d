/-! the relation, and the owed statements of the smaller methods -/
def pr_R (m : Nat) (rl : Nat → BitVec 8) (d s q t w ys yl : Nat → Int32) : Prop :=
  m ≤ 4 ∧ gs_W w ∧ (∀ i, i < 6 → ys i = s i) ∧ (∀ i, i < 6 → s i = 0 → ∀ p, p < 8 → d (i * 8 + p) = cv_I (rl (i * 8 + p))) ∧ (∀ r, r < m → yl r = t r ∧ (t r = 0 ∨ t r = 1)) ∧ (∀ r, r < m → t r = 0 → ∀ p, p < 8 → q (r * 8 + p) = cv_I (gs_S rl r p))
/-- the reference's bytes are rl; good data are the reference's; each good recovery block holds the weighted sums of the reference's bytes -/
def i_Rel (_ : Nat) (u : SX) (v : SY) : Prop := ∃ (m : Nat) (rl : Nat → BitVec 8) (d s q t w b h g ys yl : Nat → Int32), u = (nI m, d, s, q, t, w, b, h, g) ∧ v = (nI m, (fun j => cv_I (rl j)), ys, yl) ∧ pr_R m rl d s q t w ys yl
theorem i_up {k : Nat} {u : SX} {v : SY} (h : i_Rel k u v) : i_Rel (k + 4) u v := h
theorem pr_B {s ys : Nat → Int32} (h : ∀ i, i < 6 → ys i = s i) : pc_n (pc_b ys) 6 = pc_n (pc_b s) 6 := pc_c (fun i hi => by
  show decide (¬ ys i = 0) = decide (¬ s i = 0)
  rw [h i hi])
theorem pr_G {m : Nat} {t yl : Nat → Int32} (h : ∀ r, r < m → yl r = t r ∧ (t r = 0 ∨ t r = 1)) : pc_n (pc_g yl) m = pc_n (pc_g t) m := pc_c (fun i hi => by
  show decide (yl i = 0) = decide (t i = 0)
  rw [(h i hi).1])
theorem px_z : ∀ i, i < 4 → ∀ j, j < 6 → (6 + nI i) ^^^ nI j = cv_I (gf_z i j) := by decide +kernel
theorem px_init {post : SX → Prop} (hp : ∀ w', gs_W w' → post (0, (fun _ => 0), (fun _ => 0), (fun _ => 0), (fun _ => 0), w', (fun _ => 0), (fun _ => 0), (fun _ => 0))) : wpX_init post := by
  refine loop_0 (fun n i w' => wX_init_73 post 0 n (nI i) (fun _ => 0) (fun _ => 0) (fun _ => 0) (fun _ => 0) w' (fun _ => 0) (fun _ => 0) (fun _ => 0)) (fun i w' => ∀ r, r < i → ∀ j, j < 6 → w' (r * 6 + j) = cv_I (gf_W r j)) 4 (fun _ => 0) (fun r hr => absurd hr (Nat.not_lt_zero r)) ?_ ?_
  · intro n w' hI
    exact br_t (nI_le (a := 4) (b := 4) (by decide) (by decide)) (hp w' hI)
  · intro n i w' hi hI nx
    refine br_f (nI_ge (b := 4) hi (by decide)) ?_
    refine loop_0 (fun n' j w'' => wX_init_80 post (wX_init_73 post 0 n) (nI i) 0 n' (nI j) (fun _ => 0) (fun _ => 0) (fun _ => 0) (fun _ => 0) w'' (fun _ => 0) (fun _ => 0) (fun _ => 0)) (fun j w'' => (∀ r, r < i → ∀ j, j < 6 → w'' (r * 6 + j) = cv_I (gf_W r j)) ∧ ∀ j', j' < j → w'' (i * 6 + j') = cv_I (gf_W i j')) 6 w' ⟨hI, fun j hj => absurd hj (Nat.not_lt_zero j)⟩ ?_ ?_
    · intro n' w'' hJ
      refine br_t (nI_le (a := 6) (b := 6) (by decide) (by decide)) (nm_r (nI_1 i) (nx w'' (fun r hr j hj => ?_)))
      by_cases e : r = i
      · subst e
        exact hJ.2 j hj
      · exact hJ.1 r (by omega) j hj
    · intro n' j w'' hj hJ nx'
      refine br_f (nI_ge (b := 6) hj (by decide)) (px_inv (gf_z i j) (px_z i hi j hj) ⟨ix_i6 (by omega) (by decide), nm_r (e' := upd w'' (i * 6 + j) (cv_I (gf_W i j))) ?_ (nm_r (nI_1 j) (nx' _ ⟨fun r hr j' hj' => ?_, fun j' hj' => ?_⟩))⟩)
      · rw [ix_c6 (by omega) (by omega)]
        rfl
      · rw [pk_un (by omega)]
        exact hJ.1 r hr j' hj'
      · by_cases e : j' = j
        · subst e
          exact pk_us
        · rw [pk_un (by omega)]
          exact hJ.2 j' (by omega)
theorem i_vc0 : wpX_init (fun u => wpY_init (fun v => i_Rel 0 u v)) := by
  refine px_init (fun w' hw => ?_)
  have e0 : (fun _ => 0 : Nat → Int32) = fun j => cv_I ((fun _ => 0#8 : Nat → BitVec 8) j) := by
    funext j
    exact cv_0.symm
  refine ⟨0, fun _ => 0#8, fun _ => 0, fun _ => 0, fun _ => 0, fun _ => 0, w', fun _ => 0, fun _ => 0, fun _ => 0, fun _ => 0, fun _ => 0, rfl, congrArg (fun z : Nat → Int32 => ((0 : Int32), z, (fun _ => 0 : Nat → Int32), (fun _ => 0 : Nat → Int32))) e0, by decide, hw, fun _ _ => rfl, fun _ _ _ _ _ => cv_0.symm, fun r hr => absurd hr (Nat.not_lt_zero r), fun r hr => absurd hr (Nat.not_lt_zero r)⟩
theorem i_vc_spare {k : Nat} {u : SX} {v : SY} (I : i_Rel k u v) (hk : k + 4 ≤ 2048) : wpX_spare (fun r => wpY_spare (fun r' => r' = r ∧ i_Rel (k + 4) u v) v) u := by
  have J : i_Rel (k + 4) u v := I
  obtain ⟨m, rl, d, s, q, t, w, b, h, g, ys, yl, rfl, rfl, hm, hw, hys, hd, ht, hq⟩ := I
  unfold wpX_spare
  exact px_cg hm (py_sp hm ⟨congrArg nI (pr_G ht), J⟩)
theorem i_vc_margin {k : Nat} {u : SX} {v : SY} (I : i_Rel k u v) (hk : k + 4 ≤ 2048) : wpX_margin (fun r => wpY_margin (fun r' => r' = r ∧ i_Rel (k + 4) u v) v) u := by
  have J : i_Rel (k + 4) u v := I
  obtain ⟨m, rl, d, s, q, t, w, b, h, g, ys, yl, rfl, rfl, hm, hw, hys, hd, ht, hq⟩ := I
  unfold wpX_margin
  have c1 := pc_le (pc_b s) 6
  have c2 := pc_le (pc_g t) m
  refine px_cg hm (px_cb ?_)
  by_cases hle : pc_n (pc_b s) 6 ≤ pc_n (pc_g t) m
  · refine nm_r (pk_sub hle) (br_t (nI_pos' (by omega)) (py_mg hm (fun _ => ⟨by rw [pr_G ht, pr_B hys], J⟩) (fun z => ?_)))
    rw [pr_G ht, pr_B hys] at z
    omega
  · refine nm_e (br_f (Int32.not_le.mpr (pk_sneg (by omega) (by omega))) (py_mg hm (fun z => ?_) (fun _ => ⟨rfl, J⟩)))
    rw [pr_G ht, pr_B hys] at z
    omega
theorem i_vc_state {k : Nat} {u : SX} {v : SY} (I : i_Rel k u v) (hk : k + 4 ≤ 2048) (v1 : Int32) : wpX_state (fun r => wpY_state (fun r' => r' = r ∧ i_Rel (k + 4) u v) v v1) u v1 := by
  have J : i_Rel (k + 4) u v := I
  obtain ⟨m, rl, d, s, q, t, w, b, h, g, ys, yl, rfl, rfl, hm, hw, hys, hd, ht, hq⟩ := I
  unfold wpX_state
  refine px_ib (fun hb => br_t rfl (py_stbad hb ⟨rfl, J⟩)) (fun a ha e => ?_)
  subst e
  have ck : (nI a).toNatClampNeg = a := nI_clamp (by omega)
  refine br_f (by decide) ⟨vp_in_nI ha (by decide), ?_⟩
  rw [ck]
  exact py_stok ha ⟨hys a ha, J⟩
theorem i_vc_read {k : Nat} {u : SX} {v : SY} (I : i_Rel k u v) (hk : k + 4 ≤ 2048) (v1 : Int32) (v2 : Int32) : wpX_read (fun r => wpY_read (fun r' => r' = r ∧ i_Rel (k + 4) u v) v v1 v2) u v1 v2 := by
  have J : i_Rel (k + 4) u v := I
  obtain ⟨m, rl, d, s, q, t, w, b, h, g, ys, yl, rfl, rfl, hm, hw, hys, hd, ht, hq⟩ := I
  unfold wpX_read
  refine px_ib (fun hb => br_t rfl (py_rno (by decide) (fun _ hp => py_r1 hb hp) ⟨rfl, J⟩)) (fun a ha e => ?_)
  subst e
  have ck : (nI a).toNatClampNeg = a := nI_clamp (by omega)
  refine br_f (by decide) ?_
  refine px_ip (fun hb => br_t rfl (py_rno (by decide) (fun _ hp => py_r2 ha hb hp) ⟨rfl, J⟩)) (fun p hp8 e => ?_)
  subst e
  refine br_f (by decide) ⟨vp_in_nI ha (by decide), ?_⟩
  by_cases z : s a = 0
  · refine br_t (by rw [ck]; exact z) ⟨ix_i8 (by omega) (by decide), ?_⟩
    rw [ix_c8 (by omega) (by omega)]
    exact py_rok ha hp8 ((hys a ha).trans z) ⟨(hd a ha z p hp8).symm, J⟩
  · exact br_f (by rw [ck]; exact z) (py_rno (by decide) (fun _ hp => py_r4 (n := 0) ha hp8 (by decide) (by rw [hys a ha]; exact z) hp) ⟨rfl, J⟩)
theorem i_vc_lose {k : Nat} {u : SX} {v : SY} (I : i_Rel k u v) (hk : k + 4 ≤ 2048) (v1 : Int32) : wpX_lose (fun r u' => wpY_lose (fun r' v' => r' = r ∧ i_Rel (k + 4) u' v') v v1) u v1 := by
  have J : i_Rel (k + 4) u v := I
  obtain ⟨m, rl, d, s, q, t, w, b, h, g, ys, yl, rfl, rfl, hm, hw, hys, hd, ht, hq⟩ := I
  unfold wpX_lose
  refine px_ib (fun hb => br_t rfl (py_lbad hb ⟨rfl, J⟩)) (fun a ha e => ?_)
  subst e
  have ck : (nI a).toNatClampNeg = a := nI_clamp (by omega)
  refine br_f (by decide) ⟨vp_in_nI ha (by decide), nm_r (e' := s a) (by rw [ck]) (px_clb ha (fun d' h1 h2 => ?_))⟩
  refine And.intro (vp_in_nI ha (by decide)) (nm_r (e' := upd s a 1) (by rw [ck]) (py_lok ha ⟨hys a ha, m, rl, d', upd s a 1, q, t, w, b, h, g, upd ys a 1, yl, rfl, rfl, hm, hw, fun i hi => ?_, fun i hi si p hp8 => ?_, ht, hq⟩))
  · by_cases e : i = a
    · rw [e, pk_us, pk_us]
    · rw [pk_un e, pk_un e]
      exact hys i hi
  · have e : i ≠ a := fun z => by
      rw [z, pk_us] at si
      exact absurd si (by decide)
    rw [pk_un e] at si
    rw [h2 i e p hp8]
    exact hd i hi si p hp8
theorem i_vc_loseRecovery {k : Nat} {u : SX} {v : SY} (I : i_Rel k u v) (hk : k + 4 ≤ 2048) (v1 : Int32) : wpX_loseRecovery (fun r u' => wpY_loseRecovery (fun r' v' => r' = r ∧ i_Rel (k + 4) u' v') v v1) u v1 := by
  have J : i_Rel (k + 4) u v := I
  obtain ⟨m, rl, d, s, q, t, w, b, h, g, ys, yl, rfl, rfl, hm, hw, hys, hd, ht, hq⟩ := I
  unfold wpX_loseRecovery
  by_cases z : v1 < 0
  · exact br_t z (py_lrno (fun n => absurd z n) ⟨rfl, J⟩)
  · rcases pk_ix v1 (n := m) (by omega) with hx | hx | ⟨r, hr, e⟩
    · exact absurd hx z
    · exact br_f z (br_f (Int32.not_lt.mpr hx) (py_lrno (fun _ => Int32.not_lt.mpr hx) ⟨rfl, J⟩))
    · subst e
      have cr : (nI r).toNatClampNeg = r := nI_clamp (by omega)
      refine br_f z (br_t (nI_lt hr (by omega)) ⟨vp_in_nI (by omega) (by decide), nm_r (e' := t r) (by rw [cr]) (px_clr (by omega) (fun q' h1 => ?_))⟩)
      refine And.intro (vp_in_nI (by omega) (by decide)) (nm_r (e' := upd t r 1) (by rw [cr]) (py_lr hm hr (by rw [(ht r hr).1]; exact (ht r hr).2) ⟨(ht r hr).1, m, rl, d, s, q', upd t r 1, w, b, h, g, ys, upd yl r 1, rfl, rfl, hm, hw, hys, hd, fun i hi => ?_, fun i hi ti p hp8 => ?_⟩))
      · by_cases e : i = r
        · rw [e, pk_us, pk_us]
          exact ⟨rfl, Or.inr rfl⟩
        · rw [pk_un e, pk_un e]
          exact ht i hi
      · have e : i ≠ r := fun z => by
          rw [z, pk_us] at ti
          exact absurd ti (by decide)
        rw [pk_un e] at ti
        rw [h1 i e p hp8]
        exact hq i hi ti p hp8
theorem i_vc_spoil {k : Nat} {u : SX} {v : SY} (I : i_Rel k u v) (hk : k + 4 ≤ 2048) (v1 : Int32) (v2 : Int32) (v3 : Int32) : wpX_spoil (fun r u' => wpY_spoil (fun r' v' => r' = r ∧ i_Rel (k + 4) u' v') v v1 v2 v3) u v1 v2 v3 := by
  have J : i_Rel (k + 4) u v := I
  obtain ⟨m, rl, d, s, q, t, w, b, h, g, ys, yl, rfl, rfl, hm, hw, hys, hd, ht, hq⟩ := I
  unfold wpX_spoil
  refine px_ib (fun hb => br_t rfl (py_sno (by decide) (fun _ hp => py_r1 hb hp) ⟨rfl, J⟩)) (fun a ha e => ?_)
  subst e
  have ck : (nI a).toNatClampNeg = a := nI_clamp (by omega)
  refine br_f (by decide) ?_
  refine px_ip (fun hb => br_t rfl (py_sno (by decide) (fun _ hp => py_r2 ha hb hp) ⟨rfl, J⟩)) (fun p hp8 e => ?_)
  subst e
  refine br_f (by decide) ⟨vp_in_nI ha (by decide), ?_⟩
  by_cases z : s a = 0
  · have zy : ys a = 0 := (hys a ha).trans z
    refine br_t (by rw [ck]; exact z) (nm_e ?_)
    by_cases hz : v3 &&& 255 = 0
    · refine br_t hz ⟨vp_in_nI ha (by decide), ?_⟩
      rw [ck]
      exact py_s0 ha hp8 zy hz ⟨hys a ha, J⟩
    · refine br_f hz ⟨ix_i8 (by omega) (by decide), ix_i8 (by omega) (by decide), nm_r (e' := upd d (a * 8 + p) (d (a * 8 + p) ^^^ (v3 &&& 255))) (by rw [ix_c8 (by omega) (by omega)]) ⟨vp_in_nI ha (by decide), nm_r (e' := upd s a 2) (by rw [ck]) ⟨vp_in_nI ha (by decide), ?_⟩⟩⟩
      rw [ck, pk_us]
      refine py_s1 ha hp8 zy hz ⟨rfl, m, rl, upd d (a * 8 + p) (d (a * 8 + p) ^^^ (v3 &&& 255)), upd s a 2, q, t, w, b, h, g, upd ys a 2, yl, rfl, rfl, hm, hw, fun i hi => ?_, fun i hi si p' hp' => ?_, ht, hq⟩
      · by_cases e : i = a
        · rw [e, pk_us, pk_us]
        · rw [pk_un e, pk_un e]
          exact hys i hi
      · have e : i ≠ a := fun z => by
          rw [z, pk_us] at si
          exact absurd si (by decide)
        rw [pk_un e] at si
        rw [pk_un (by omega)]
        exact hd i hi si p' hp'
  · exact br_f (by rw [ck]; exact z) (py_sno (by decide) (fun _ hp => py_r4 (n := 0) ha hp8 (by decide) (by rw [hys a ha]; exact z) hp) ⟨rfl, J⟩)
