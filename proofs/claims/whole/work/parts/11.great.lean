/-! write, protect, giveUp, repair -/
theorem ws_B (rl : Nat → BitVec 8) {k p : Nat} (x : BitVec 8) (hk : k < 6) (h8 : p < 8) (r p' : Nat) (h8' : p' < 8) : gs_S (ur_u rl (k * 8 + p) x) r p' = if p' = p then gs_S rl r p ^^^ gf_M (gf_W r k) (rl (k * 8 + p) ^^^ x) else gs_S rl r p' := by
  by_cases e : p' = p
  · subst e
    rw [if_pos rfl]
    show gf_sm (fun i => gf_M (gf_W r i) (ur_u rl (k * 8 + p') x (i * 8 + p'))) 6 = gf_sm (fun i => gf_M (gf_W r i) (rl (i * 8 + p'))) 6 ^^^ _
    rw [gf_sm_u (f := fun i => gf_M (gf_W r i) (ur_u rl (k * 8 + p') x (i * 8 + p'))) (g := fun i => gf_M (gf_W r i) (rl (i * 8 + p'))) hk (fun i hi hne => by
      show gf_M (gf_W r i) (ur_u rl (k * 8 + p') x (i * 8 + p')) = gf_M (gf_W r i) (rl (i * 8 + p'))
      rw [ur_n rl x (by omega)])]
    show _ ^^^ (gf_M (gf_W r k) (rl (k * 8 + p')) ^^^ gf_M (gf_W r k) (ur_u rl (k * 8 + p') x (k * 8 + p'))) = _
    rw [ur_s, gf_Mr]
  · rw [if_neg e]
    exact gf_sm_c (fun i hi => by
      show gf_M (gf_W r i) (ur_u rl (k * 8 + p) x (i * 8 + p')) = gf_M (gf_W r i) (rl (i * 8 + p'))
      rw [ur_n rl x (by omega)])
theorem i_vc_write {k : Nat} {u : SX} {v : SY} (I : i_Rel k u v) (hk : k + 4 ≤ 2048) (v1 : Int32) (v2 : Int32) (v3 : Int32) : wpX_write (fun r u' => wpY_write (fun r' v' => r' = r ∧ i_Rel (k + 4) u' v') v v1 v2 v3) u v1 v2 v3 := by
  have J : i_Rel (k + 4) u v := I
  obtain ⟨m, rl, d, s, q, t, w, b, h, g, ys, yl, rfl, rfl, hm, hw, hys, hd, ht, hq⟩ := I
  unfold wpX_write
  refine px_ib (fun hb => br_t rfl (py_wno (by decide) (fun _ hp => py_r1 hb hp) ⟨rfl, J⟩)) (fun a ha e => ?_)
  subst e
  have ck : (nI a).toNatClampNeg = a := nI_clamp (by omega)
  refine br_f (by decide) ?_
  refine px_ip (fun hb => br_t rfl (py_wno (by decide) (fun _ hp => py_r2 ha hb hp) ⟨rfl, J⟩)) (fun p hp8 e => ?_)
  subst e
  refine br_f (by decide) ?_
  by_cases zv : v3 < 0
  · exact br_t zv (py_wno (by decide) (fun _ hp => py_r3 ha hp8 (Or.inl zv) hp) ⟨rfl, J⟩)
  · refine br_f zv ?_
    rcases pk_ix v3 (n := 256) (by decide) with hx | hx | ⟨n, hn, e⟩
    · exact absurd hx zv
    · exact br_f (py_n255 hx) (py_wno (by decide) (fun _ hp => py_r3 ha hp8 (Or.inr hx) hp) ⟨rfl, J⟩)
    · obtain ⟨x, rfl⟩ : ∃ x : BitVec 8, v3 = cv_I x := ⟨_, e.trans (cv_of hn)⟩
      have hx := x.isLt
      refine br_t (nI_le (b := 255) (by omega) (by decide)) ⟨vp_in_nI ha (by decide), ?_⟩
      by_cases z : s a = 0
      · refine br_t (by rw [ck]; exact z) ⟨ix_i8 (by omega) (by decide), nm_r (e' := cv_I (rl (a * 8 + p))) (by rw [ix_c8 (by omega) (by omega)]; exact hd a ha z p hp8) ⟨ix_i8 (by omega) (by decide), nm_r (e' := upd d (a * 8 + p) (cv_I x)) (by rw [ix_c8 (by omega) (by omega)]) ?_⟩⟩
        rw [cv_x]
        refine px_upd (A := gs_S rl) (B := gs_S (ur_u rl (a * 8 + p) x)) hm ha hp8 hw hq (fun r _ p' hp' => ws_B rl x ha hp8 r p' hp') (fun q' hq' => ?_)
        refine py_wok (n := x.toNat) ha hp8 hx ((hys a ha).trans z) ⟨rfl, m, ur_u rl (a * 8 + p) x, upd d (a * 8 + p) (cv_I x), s, q', t, w, b, h, g, ys, yl, rfl, ?_, hm, hw, hys, fun i hi si p' hp' => ?_, ht, hq'⟩
        · exact congrArg (fun z : Nat → Int32 => (nI m, z, ys, yl)) (ur_e rl (a * 8 + p) x)
        · by_cases e : i * 8 + p' = a * 8 + p
          · rw [e, pk_us, ur_s]
          · rw [pk_un e, ur_n rl x e]
            exact hd i hi si p' hp'
      · exact br_f (by rw [ck]; exact z) (py_wno (by decide) (fun _ hp => py_r4 (n := x.toNat) ha hp8 hx (by rw [hys a ha]; exact z) hp) ⟨rfl, J⟩)
theorem i_vc_protect {k : Nat} {u : SX} {v : SY} (I : i_Rel k u v) (hk : k + 4 ≤ 2048) (v1 : Int32) : wpX_protect (fun r u' => wpY_protect (fun r' v' => r' = r ∧ i_Rel (k + 4) u' v') v v1) u v1 := by
  have J : i_Rel (k + 4) u v := I
  obtain ⟨m, rl, d, s, q, t, w, b, h, g, ys, yl, rfl, rfl, hm, hw, hys, hd, ht, hq⟩ := I
  unfold wpX_protect
  by_cases z : v1 < 0
  · exact br_t z (py_pbad (Or.inl z) ⟨rfl, J⟩)
  · refine br_f z ?_
    rcases pk_ix v1 (n := 5) (by decide) with hx | hx | ⟨n, hn, e⟩
    · exact absurd hx z
    · exact br_f (py_n4 hx) (py_pbad (Or.inr hx) ⟨rfl, J⟩)
    · subst e
      have c1 := pc_le (pc_b s) 6
      refine br_t (nI_le (b := 4) (by omega) (by decide)) (px_cb ?_)
      by_cases e : pc_n (pc_b s) 6 = 0
      · have hs : ∀ i, i < 6 → s i = 0 := fun i hi => pc_bf' (pc_0 e i hi)
        refine br_t (by rw [e]; decide) (px_mk (rl := rl) (m := n) (by omega) hw hs (fun i hi => hd i hi (hs i hi)) (fun q' t' hqt => ?_))
        refine py_pok hn (by rw [pr_B hys]; exact e) (fun yl' hyl => ⟨rfl, n, rl, d, s, q', t', w, b, h, g, ys, yl', rfl, rfl, by omega, hw, hys, hd, fun r hr => ⟨(hyl r (by omega)).trans (hqt r hr).1.symm, Or.inl (hqt r hr).1⟩, fun r hr _ => (hqt r hr).2⟩)
      · exact br_f (nI_nle (by omega) (by omega)) (py_pno hn (by rw [pr_B hys]; exact e) ⟨rfl, J⟩)
section
variable {c : Int32} {d s q t w b h g : Nat → Int32}
theorem px_gu {post : Int32 → SX → Prop} {rl : Nat → BitVec 8} (hd : ∀ i, i < 6 → s i = 0 → ∀ p, p < 8 → d (i * 8 + p) = cv_I (rl (i * 8 + p)))
    (hp : ∀ d' s', (∀ i, i < 6 → s' i = 0) → (∀ i, i < 6 → ∀ p, p < 8 → d' (i * 8 + p) = cv_I (if s i = 0 then rl (i * 8 + p) else 0#8)) → post (nI (pc_n (pc_b s) 6)) (0, d', s', q, t, w, b, h, g)) : wpX_giveUp post (c, d, s, q, t, w, b, h, g) := by
  unfold wpX_giveUp
  refine loop_0 (fun n i (x : (Nat → Int32) × (Nat → Int32)) => wX_giveUp_4 post n (nI (pc_n (pc_b s) i)) (nI i) c x.1 x.2 q t w b h g) (fun i x => (∀ a, a < i → x.2 a = 0) ∧ (∀ a, i ≤ a → x.2 a = s a) ∧ (∀ a, a < 6 → (a < i ∨ s a = 0) → ∀ p, p < 8 → x.1 (a * 8 + p) = cv_I (if s a = 0 then rl (a * 8 + p) else 0#8))) 6 (d, s) ⟨fun a ha => absurd ha (Nat.not_lt_zero a), fun _ _ => rfl, fun a ha hor p hp8 => ?_⟩ ?_ ?_
  · have z : s a = 0 := hor.elim (fun y => absurd y (Nat.not_lt_zero a)) id
    rw [if_pos z]
    exact hd a ha z p hp8
  · intro n x hI
    exact br_t (nI_le (a := 6) (b := 6) (by decide) (by decide)) (hp x.1 x.2 hI.1 (fun a ha => hI.2.2 a ha (Or.inl ha)))
  · intro n i x hi hI nx
    have ci : (nI i).toNatClampNeg = i := nI_clamp (by omega)
    have e0 := hI.2.1 i (Nat.le_refl i)
    refine br_f (nI_ge (b := 6) hi (by decide)) ⟨vp_in_nI hi (by decide), ?_⟩
    by_cases z : s i = 0
    · have nx' := nx x ⟨fun a ha => ?_, fun a ha => hI.2.1 a (by omega), fun a ha hor => hI.2.2 a ha ?_⟩
      · rw [pc_f (pc_bf z)] at nx'
        exact br_t (by rw [ci, e0]; exact z) (nm_r (nI_1 i) nx')
      · by_cases e : a = i
        · rw [e, e0]
          exact z
        · exact hI.1 a (by omega)
      · by_cases e : a = i
        · rw [e]
          exact Or.inr z
        · exact hor.elim (fun y => Or.inl (by omega)) Or.inr
    · refine br_f (by rw [ci, e0]; exact z) (px_clb hi (fun d' h1 h2 => ?_))
      have nx' := nx (d', upd x.2 i 0) ⟨py_u0 hI.1, fun a ha => ?_, fun a ha hor p hp8 => ?_⟩
      · rw [pc_t (pc_bt z)] at nx'
        exact And.intro (vp_in_nI hi (by decide)) (nm_r (e' := upd x.2 i 0) (by rw [ci]) (nm_r (nI_1 _) (nm_r (nI_1 i) nx')))
      · show upd x.2 i 0 a = s a
        rw [pk_un (by omega)]
        exact hI.2.1 a (by omega)
      · show d' (a * 8 + p) = _
        by_cases e : a = i
        · subst e
          rw [if_neg z, h1 p hp8, cv_0]
        · rw [h2 a e p hp8]
          exact hI.2.2 a ha (hor.elim (fun y => Or.inl (by omega)) Or.inr) p hp8
end
theorem i_vc_giveUp {k : Nat} {u : SX} {v : SY} (I : i_Rel k u v) (hk : k + 4 ≤ 2048) : wpX_giveUp (fun r u' => wpY_giveUp (fun r' v' => r' = r ∧ i_Rel (k + 4) u' v') v) u := by
  obtain ⟨m, rl, d, s, q, t, w, b, h, g, ys, yl, rfl, rfl, hm, hw, hys, hd, ht, hq⟩ := I
  refine px_gu hd (fun d' s' hs' hd' => ?_)
  refine py_gu (fun rl' ys' h1 h2 => ⟨by rw [pr_B hys], 0, rl', d', s', q, t, w, b, h, g, ys', yl, rfl, rfl, by decide, hw, fun i hi => by rw [h2 i hi, hs' i hi], fun i hi _ p hp8 => ?_, fun r hr => absurd hr (Nat.not_lt_zero r), fun r hr => absurd hr (Nat.not_lt_zero r)⟩)
  have e8 : (i * 8 + p) / 8 = i := by omega
  rw [hd' i hi p hp8, h1 (i * 8 + p) (by omega), e8, hys i hi]
def rp_f (s : Nat → Int32) (rl : Nat → BitVec 8) (hf bf : Nat → Nat) : Nat → Nat → BitVec 8 := fun i j => if j < 8 then gs_S rl (hf i) j ^^^ gf_sm (gs_f s rl (hf i) j) 6 else gf_W (hf i) (bf (j - 8))
theorem rp_a {s : Nat → Int32} {rl : Nat → BitVec 8} {hf bf : Nat → Nat} {i j : Nat} (h : j < 8) : rp_f s rl hf bf i j = gs_S rl (hf i) j ^^^ gf_sm (gs_f s rl (hf i) j) 6 := if_pos h
theorem rp_b {s : Nat → Int32} {rl : Nat → BitVec 8} {hf bf : Nat → Nat} {i j : Nat} : rp_f s rl hf bf i (8 + j) = gf_W (hf i) (bf j) := by
  show (if 8 + j < 8 then _ else gf_W (hf i) (bf (8 + j - 8))) = _
  rw [if_neg (by omega), Nat.add_sub_cancel_left]
theorem rp_s (s : Nat → Int32) (rl : Nat → BitVec 8) (r p : Nat) : gs_S rl r p ^^^ gf_sm (gs_f s rl r p) 6 = gf_sm (fun i => if pc_b s i then gf_M (gf_W r i) (rl (i * 8 + p)) else 0#8) 6 := by
  show gf_sm (fun i => gf_M (gf_W r i) (rl (i * 8 + p))) 6 ^^^ gf_sm (gs_f s rl r p) 6 = _
  rw [← gf_sm_x]
  refine gf_sm_c (fun i hi => ?_)
  show gf_M (gf_W r i) (rl (i * 8 + p)) ^^^ (if pc_b s i then 0#8 else gf_M (gf_W r i) (rl (i * 8 + p))) = _
  cases pc_b s i
  · exact BitVec.xor_self
  · exact BitVec.xor_zero
theorem rp_sol {s : Nat → Int32} {rl : Nat → BitVec 8} {hf bf : Nat → Nat} {k : Nat} (h4 : ∀ i, i < k → hf i < 4) (hd : ∀ i, i < k → ∀ j, j < k → i ≠ j → hf i ≠ hf j) (L : pc_L (pc_b s) 6 k bf) : ∀ i, i < k → ∀ p, p < 8 → gf_G (rp_f s rl hf bf) k i p = rl (bf i * 8 + p) := by
  intro i hi p hp8
  refine gf_solve (x := fun c => rl (bf c * 8 + p)) h4 (fun i hi => (L.1 i hi).1) hd L.2.1 (fun i _ j _ => rp_b) (fun i hi => ?_) i hi
  show gf_sm (fun c => gf_M (rp_f s rl hf bf i (8 + c)) (rl (bf c * 8 + p))) k = rp_f s rl hf bf i p
  rw [rp_a hp8, rp_s, L.2.2.2 (fun a => gf_M (gf_W (hf i) a) (rl (a * 8 + p)))]
  exact gf_sm_c (fun c _ => by rw [rp_b])
theorem i_vc_repair {k : Nat} {u : SX} {v : SY} (I : i_Rel k u v) (hk : k + 4 ≤ 2048) : wpX_repair (fun r u' => wpY_repair (fun r' v' => r' = r ∧ i_Rel (k + 4) u' v') v) u := by
  have J : i_Rel (k + 4) u v := I
  obtain ⟨m, rl, d, s, q, t, w, b, h, g, ys, yl, rfl, rfl, hm, hw, hys, hd, ht, hq⟩ := I
  unfold wpX_repair
  have c1 := pc_le (pc_b s) 6
  have c2 := pc_le (pc_g t) m
  refine px_cb (px_cg hm (pk_le (pc_n (pc_b s) 6) (pc_n (pc_g t) m) (fun hle => ?_) (fun hlt => ?_) rfl rfl (by omega) (by omega)))
  · refine px_lb (fun b' bf eb Lb => ?_)
    refine px_lh hm (fun h' hf eh Lh => ?_)
    have hk4 : pc_n (pc_b s) 6 ≤ 4 := by omega
    have h4 : ∀ i, i < pc_n (pc_b s) 6 → hf i < 4 := fun i hi => by
      have := (Lh.1 i (by omega)).1
      omega
    have h6 : ∀ i, i < pc_n (pc_b s) 6 → bf i < 6 := fun i hi => (Lb.1 i hi).1
    have sol := rp_sol (rl := rl) h4 (fun i hi j hj => Lh.2.1 i (by omega) j (by omega)) Lb
    refine px_fill (rl := rl) (f := rp_f s rl hf bf) hk4 hw h4 h6 (fun i hi => eh i (by omega)) eb hd (fun i hi => hq (hf i) (Lh.1 i (by omega)).1 (pc_gt' (Lh.1 i (by omega)).2)) (fun i _ p hp8 => rp_a hp8) (fun i _ j _ => rp_b) (fun g1 hg1 => ?_)
    refine px_solve hk4 hg1 (fun g2 hg2 => ?_)
    refine px_take (rl := rl) hk4 h6 eb (fun i hi p hp8 => (hg2 i hi p (by omega)).trans (congrArg cv_I (sol i hi p hp8))) hd (fun i hi => ?_) (fun d' s' hs' hd' => ?_)
    · by_cases z : s i = 0
      · exact Or.inl z
      · obtain ⟨j, hj, e⟩ := Lb.2.2.1 i hi (pc_bt z)
        exact Or.inr ⟨j, Nat.zero_le j, hj, e⟩
    · refine px_mk (rl := rl) hm hw hs' hd' (fun q' t' hqt => ?_)
      refine py_rep hm (fun _ ys' yl' hys' hyl' => ⟨by rw [pr_B hys], m, rl, d', s', q', t', w, b', h', g2, ys', yl', rfl, rfl, hm, hw, fun i hi => by rw [hys' i hi, hs' i hi], fun i hi _ => hd' i hi, fun r hr => ⟨(hyl' r (by omega)).trans (hqt r hr).1.symm, Or.inl (hqt r hr).1⟩, fun r hr _ => (hqt r hr).2⟩) (fun z => ?_)
      rw [pr_G ht, pr_B hys] at z
      omega
  · refine py_rep hm (fun z => ?_) (fun _ => ⟨rfl, J⟩)
    rw [pr_G ht, pr_B hys] at z
    omega
