/-! the reference's methods, and the component's two tests -/
theorem px_ib {post : Int32 → Prop} {x : Int32} (h0 : (x < 0 ∨ nI 6 ≤ x) → post 0) (h1 : ∀ k, k < 6 → x = nI k → post 1) : wpX_isBlock post x := by
  by_cases z : x < 0
  · exact br_t z (h0 (Or.inl z))
  · rcases pk_ix x (n := 6) (by decide) with hx | hx | ⟨k, hk, e⟩
    · exact absurd hx z
    · exact br_f z (br_t hx (h0 (Or.inr hx)))
    · subst e
      exact br_f z (br_f (nI_ge (b := 6) hk (by decide)) (h1 k hk rfl))
theorem px_ip {post : Int32 → Prop} {x : Int32} (h0 : (x < 0 ∨ nI 8 ≤ x) → post 0) (h1 : ∀ k, k < 8 → x = nI k → post 1) : wpX_isPlace post x := by
  by_cases z : x < 0
  · exact br_t z (h0 (Or.inl z))
  · rcases pk_ix x (n := 8) (by decide) with hx | hx | ⟨k, hk, e⟩
    · exact absurd hx z
    · exact br_f z (br_t hx (h0 (Or.inr hx)))
    · subst e
      exact br_f z (br_f (nI_ge (b := 8) hk (by decide)) (h1 k hk rfl))
theorem py_n5 {x : Int32} (h : nI 6 ≤ x) : ¬ x ≤ 5 := fun z => absurd (Int32.le_trans h z) (by decide)
theorem py_n7 {x : Int32} (h : nI 8 ≤ x) : ¬ x ≤ 7 := fun z => absurd (Int32.le_trans h z) (by decide)
theorem py_n255 {x : Int32} (h : nI 256 ≤ x) : ¬ x ≤ 255 := fun z => absurd (Int32.le_trans h z) (by decide)
theorem py_n4 {x : Int32} (h : nI 5 ≤ x) : ¬ x ≤ 4 := fun z => absurd (Int32.le_trans h z) (by decide)
theorem py_bad {x : Int32} {A B C : Prop} {y : Int32} (n : ¬ x < 0 → ¬ x ≤ y) (h1 : A) (h2 : C) : (x < 0 → A) ∧ (¬ x < 0 → (x ≤ y → B) ∧ (¬ x ≤ y → C)) :=
  ⟨fun _ => h1, fun z => br_f (n z) h2⟩
theorem py_b5 {x : Int32} (h : x < 0 ∨ nI 6 ≤ x) : ¬ x < 0 → ¬ x ≤ 5 := fun z => h.elim (fun y => absurd y z) py_n5
theorem py_b7 {x : Int32} (h : x < 0 ∨ nI 8 ≤ x) : ¬ x < 0 → ¬ x ≤ 7 := fun z => h.elim (fun y => absurd y z) py_n7
theorem py_b255 {x : Int32} (h : x < 0 ∨ nI 256 ≤ x) : ¬ x < 0 → ¬ x ≤ 255 := fun z => h.elim (fun y => absurd y z) py_n255
theorem py_b4 {x : Int32} (h : x < 0 ∨ nI 5 ≤ x) : ¬ x < 0 → ¬ x ≤ 4 := fun z => h.elim (fun y => absurd y z) py_n4
section
variable {f : Int32} {a ys yl : Nat → Int32} {x y z : Int32} {k p n : Nat}
theorem py_r1 {post : Int32 → Prop} (h : x < 0 ∨ nI 6 ≤ x) (hp : post (-1)) : wpY_refusal post (f, a, ys, yl) x y z := by
  unfold wpY_refusal
  exact py_bad (py_b5 h) hp hp
theorem py_r2 {post : Int32 → Prop} (hk : k < 6) (h : y < 0 ∨ nI 8 ≤ y) (hp : post (-2)) : wpY_refusal post (f, a, ys, yl) (nI k) y z := by
  unfold wpY_refusal
  exact br_f (nI_pos (by omega)) (br_t (nI_le (b := 5) (by omega) (by decide)) (py_bad (py_b7 h) hp hp))
theorem py_r3 {post : Int32 → Prop} (hk : k < 6) (h8 : p < 8) (h : z < 0 ∨ nI 256 ≤ z) (hp : post (-3)) : wpY_refusal post (f, a, ys, yl) (nI k) (nI p) z := by
  unfold wpY_refusal
  exact br_f (nI_pos (by omega)) (br_t (nI_le (b := 5) (by omega) (by decide)) (br_f (nI_pos (by omega)) (br_t (nI_le (b := 7) (by omega) (by decide)) (py_bad (py_b255 h) hp hp))))
theorem py_r4 {post : Int32 → Prop} (hk : k < 6) (h8 : p < 8) (hn : n < 256) (h : ¬ ys k = 0) (hp : post (-4)) : wpY_refusal post (f, a, ys, yl) (nI k) (nI p) (nI n) := by
  unfold wpY_refusal
  exact br_f (nI_pos (by omega)) (br_t (nI_le (b := 5) (by omega) (by decide)) (br_f (nI_pos (by omega)) (br_t (nI_le (b := 7) (by omega) (by decide)) (br_f (nI_pos (by omega)) (br_t (nI_le (b := 255) (by omega) (by decide)) ⟨vp_in_nI hk (by decide), br_f (by rw [nI_clamp (by omega)]; exact h) hp⟩)))))
theorem py_r0 {post : Int32 → Prop} (hk : k < 6) (h8 : p < 8) (hn : n < 256) (h : ys k = 0) (hp : post 0) : wpY_refusal post (f, a, ys, yl) (nI k) (nI p) (nI n) := by
  unfold wpY_refusal
  exact br_f (nI_pos (by omega)) (br_t (nI_le (b := 5) (by omega) (by decide)) (br_f (nI_pos (by omega)) (br_t (nI_le (b := 7) (by omega) (by decide)) (br_f (nI_pos (by omega)) (br_t (nI_le (b := 255) (by omega) (by decide)) ⟨vp_in_nI hk (by decide), br_t (by rw [nI_clamp (by omega)]; exact h) hp⟩)))))
theorem py_wno {post : Int32 → SY → Prop} {r : Int32} (hr : ¬ 0 ≤ r) (ref : ∀ post' : Int32 → Prop, post' r → wpY_refusal post' (f, a, ys, yl) x y z) (hp : post r (f, a, ys, yl)) : wpY_write post (f, a, ys, yl) x y z := by
  unfold wpY_write
  exact ref _ (br_f hr hp)
theorem py_wok {post : Int32 → SY → Prop} (hk : k < 6) (h8 : p < 8) (hn : n < 256) (h : ys k = 0) (hp : post (a (k * 8 + p)) (f, upd a (k * 8 + p) (nI n), ys, yl)) : wpY_write post (f, a, ys, yl) (nI k) (nI p) (nI n) := by
  unfold wpY_write
  exact py_r0 hk h8 hn h (br_t (by decide) ⟨ix_i8 (by omega) (by decide), nm_r (e' := a (k * 8 + p)) (by rw [ix_c8 (by omega) (by omega)]) ⟨ix_i8 (by omega) (by decide), nm_r (e' := upd a (k * 8 + p) (nI n)) (by rw [ix_c8 (by omega) (by omega)]) hp⟩⟩)
theorem py_rno {post : Int32 → Prop} {r : Int32} (hr : ¬ 0 ≤ r) (ref : ∀ post' : Int32 → Prop, post' r → wpY_refusal post' (f, a, ys, yl) x y 0) (hp : post r) : wpY_read post (f, a, ys, yl) x y := by
  unfold wpY_read
  exact ref _ (br_f hr hp)
theorem py_rok {post : Int32 → Prop} (hk : k < 6) (h8 : p < 8) (h : ys k = 0) (hp : post (a (k * 8 + p))) : wpY_read post (f, a, ys, yl) (nI k) (nI p) := by
  unfold wpY_read
  exact py_r0 (n := 0) hk h8 (by decide) h (br_t (by decide) ⟨ix_i8 (by omega) (by decide), by rw [ix_c8 (by omega) (by omega)]; exact hp⟩)
theorem py_sno {post : Int32 → SY → Prop} {r : Int32} (hr : ¬ 0 ≤ r) (ref : ∀ post' : Int32 → Prop, post' r → wpY_refusal post' (f, a, ys, yl) x y 0) (hp : post r (f, a, ys, yl)) : wpY_spoil post (f, a, ys, yl) x y z := by
  unfold wpY_spoil
  exact ref _ (br_f hr hp)
theorem py_s0 {post : Int32 → SY → Prop} (hk : k < 6) (h8 : p < 8) (h : ys k = 0) (hz : z &&& 255 = 0) (hp : post (ys k) (f, a, ys, yl)) : wpY_spoil post (f, a, ys, yl) (nI k) (nI p) z := by
  unfold wpY_spoil
  exact py_r0 (n := 0) hk h8 (by decide) h (br_t (by decide) (br_t hz ⟨vp_in_nI hk (by decide), by rw [nI_clamp (by omega)]; exact hp⟩))
theorem py_s1 {post : Int32 → SY → Prop} (hk : k < 6) (h8 : p < 8) (h : ys k = 0) (hz : ¬ z &&& 255 = 0) (hp : post 2 (f, a, upd ys k 2, yl)) : wpY_spoil post (f, a, ys, yl) (nI k) (nI p) z := by
  unfold wpY_spoil
  have ck : (nI k).toNatClampNeg = k := nI_clamp (by omega)
  refine py_r0 (n := 0) hk h8 (by decide) h (br_t (by decide) (br_f hz ⟨vp_in_nI hk (by decide), nm_r (e' := upd ys k 2) (by rw [ck]) ⟨vp_in_nI hk (by decide), ?_⟩⟩))
  rw [ck, pk_us]
  exact hp
theorem py_ng {post : Int32 → Prop} (hp : post (nI (pc_n (pc_b ys) 6))) : wpY_notGood post (f, a, ys, yl) := by
  have key : ∀ n i, i ≤ 6 → 6 - i < n → wY_notGood_4 post f a ys yl n (nI (pc_n (pc_b ys) i)) (nI i) := by
    intro n
    induction n with
    | zero => intro i _ h; omega
    | succ n ih =>
      intro i hi hn
      by_cases e : i = 6
      · subst e
        exact br_t (nI_le (a := 6) (b := 6) (by decide) (by decide)) hp
      · have nx := ih (i + 1) (by omega) (by omega)
        have ci : (nI i).toNatClampNeg = i := nI_clamp (by omega)
        refine br_f (nI_ge (b := 6) (by omega) (by decide)) ⟨vp_in_nI (by omega) (by decide), ?_⟩
        by_cases z : ys i = 0
        · rw [pc_f (pc_bf z)] at nx
          exact br_t (by rw [ci]; exact z) (nm_r (nI_1 i) nx)
        · rw [pc_t (pc_bt z)] at nx
          exact br_f (by rw [ci]; exact z) (nm_r (nI_1 _) (nm_r (nI_1 i) nx))
  exact ⟨7, key 7 0 (by omega) (by omega)⟩
theorem py_sp {post : Int32 → Prop} {m : Nat} (hm : m ≤ 4) (hp : post (nI (pc_n (pc_g yl) m))) : wpY_spare post (nI m, a, ys, yl) := by
  have key : ∀ n i, i ≤ m → m - i < n → wY_spare_4 post (nI m) a ys yl n (nI (pc_n (pc_g yl) i)) (nI i) := by
    intro n
    induction n with
    | zero => intro i _ h; omega
    | succ n ih =>
      intro i hi hn
      by_cases e : i = m
      · subst e
        exact br_t (nI_le (Nat.le_refl _) (by omega)) hp
      · have nx := ih (i + 1) (by omega) (by omega)
        have ci : (nI i).toNatClampNeg = i := nI_clamp (by omega)
        refine br_f (nI_ge (by omega) (by omega)) ⟨vp_in_nI (by omega) (by decide), ?_⟩
        by_cases z : yl i = 0
        · rw [pc_t (pc_gt z)] at nx
          exact br_t (by rw [ci]; exact z) (nm_r (nI_1 _) (nm_r (nI_1 i) nx))
        · rw [pc_f (pc_gf z)] at nx
          exact br_f (by rw [ci]; exact z) (nm_r (nI_1 i) nx)
  exact ⟨m + 1, key (m + 1) 0 (by omega) (by omega)⟩
theorem py_v0 : vp_nar .boolean 0 = 0 := by decide
theorem py_v1 : vp_nar .boolean 1 = 1 := by decide
theorem py_u0 {l : Nat → Int32} {i : Nat} (h : ∀ r, r < i → l r = 0) : ∀ r, r < i + 1 → upd l i 0 r = 0 := fun r hr => by
  by_cases e : r = i
  · subst e
    exact pk_us
  · rw [pk_un e]
    exact h r (by omega)
theorem py_pbad {post : Int32 → SY → Prop} (h : x < 0 ∨ nI 5 ≤ x) (hp : post (-3) (f, a, ys, yl)) : wpY_protect post (f, a, ys, yl) x := by
  unfold wpY_protect
  exact py_bad (py_b4 h) hp hp
theorem py_pno {post : Int32 → SY → Prop} (hn : n < 5) (h : ¬ pc_n (pc_b ys) 6 = 0) (hp : post (-4) (f, a, ys, yl)) : wpY_protect post (f, a, ys, yl) (nI n) := by
  unfold wpY_protect
  have hc := pc_le (pc_b ys) 6
  exact br_f (nI_pos (by omega)) (br_t (nI_le (b := 4) (by omega) (by decide)) (py_ng (br_f (nI_nle (by omega) (by omega)) hp)))
theorem py_pok {post : Int32 → SY → Prop} (hn : n < 5) (h : pc_n (pc_b ys) 6 = 0) (hp : ∀ yl', (∀ r, r < 4 → yl' r = 0) → post (nI n) (nI n, a, ys, yl')) : wpY_protect post (f, a, ys, yl) (nI n) := by
  unfold wpY_protect
  refine br_f (nI_pos (by omega)) (br_t (nI_le (b := 4) (by omega) (by decide)) (py_ng (br_t (by rw [h]; decide) ?_)))
  refine loop_0 (fun n' i l => wY_protect_29 post (nI n) (nI n) n' (nI i) a ys l) (fun i l => ∀ r, r < i → l r = 0) 4 yl (fun r hr => absurd hr (Nat.not_lt_zero r)) ?_ ?_
  · intro n' l hI
    exact br_t (nI_le (a := 4) (b := 4) (by decide) (by decide)) (hp l hI)
  · intro n' i l hi hI nx
    exact br_f (nI_ge (b := 4) hi (by decide)) ⟨vp_in_nI hi (by decide), nm_r (e' := upd l i 0) (by rw [nI_clamp (by omega), py_v0]) (nm_r (nI_1 i) (nx _ (py_u0 hI)))⟩
theorem py_lbad {post : Int32 → SY → Prop} (h : x < 0 ∨ nI 6 ≤ x) (hp : post (-1) (f, a, ys, yl)) : wpY_lose post (f, a, ys, yl) x := by
  unfold wpY_lose
  exact py_bad (py_b5 h) hp hp
theorem py_lok {post : Int32 → SY → Prop} (hk : k < 6) (hp : post (ys k) (f, a, upd ys k 1, yl)) : wpY_lose post (f, a, ys, yl) (nI k) := by
  unfold wpY_lose
  have ck : (nI k).toNatClampNeg = k := nI_clamp (by omega)
  exact br_f (nI_pos (by omega)) (br_t (nI_le (b := 5) (by omega) (by decide)) ⟨vp_in_nI hk (by decide), nm_r (e' := ys k) (by rw [ck]) ⟨vp_in_nI hk (by decide), nm_r (e' := upd ys k 1) (by rw [ck]) hp⟩⟩)
theorem py_stbad {post : Int32 → Prop} (h : x < 0 ∨ nI 6 ≤ x) (hp : post (-1)) : wpY_state post (f, a, ys, yl) x := by
  unfold wpY_state
  exact py_bad (py_b5 h) hp hp
theorem py_stok {post : Int32 → Prop} (hk : k < 6) (hp : post (ys k)) : wpY_state post (f, a, ys, yl) (nI k) := by
  unfold wpY_state
  exact br_f (nI_pos (by omega)) (br_t (nI_le (b := 5) (by omega) (by decide)) ⟨vp_in_nI hk (by decide), by rw [nI_clamp (by omega)]; exact hp⟩)
theorem py_lr {post : Int32 → SY → Prop} {m r : Nat} (hm : m ≤ 4) (hr : r < m) (h01 : yl r = 0 ∨ yl r = 1) (hp : post (yl r) (nI m, a, ys, upd yl r 1)) : wpY_loseRecovery post (nI m, a, ys, yl) (nI r) := by
  unfold wpY_loseRecovery
  have cr : (nI r).toNatClampNeg = r := nI_clamp (by omega)
  refine br_f (nI_pos (by omega)) (br_t (nI_lt hr (by omega)) ⟨vp_in_nI (by omega) (by decide), ?_⟩)
  rcases h01 with e | e
  · rw [e] at hp
    exact br_t (by rw [cr]; exact e) ⟨vp_in_nI (by omega) (by decide), nm_r (e' := upd yl r 1) (by rw [cr, py_v1]) hp⟩
  · rw [e] at hp
    exact br_f (by rw [cr, e]; decide) ⟨vp_in_nI (by omega) (by decide), nm_r (e' := upd yl r 1) (by rw [cr, py_v1]) hp⟩
theorem py_lrno {post : Int32 → SY → Prop} (h : ¬ x < 0 → ¬ x < f) (hp : post (-5) (f, a, ys, yl)) : wpY_loseRecovery post (f, a, ys, yl) x := by
  unfold wpY_loseRecovery
  exact ⟨fun _ => hp, fun z => br_f (h z) hp⟩
theorem py_rep {post : Int32 → SY → Prop} {m : Nat} (hm : m ≤ 4) (hn : pc_n (pc_b ys) 6 ≤ pc_n (pc_g yl) m → ∀ ys' yl', (∀ i, i < 6 → ys' i = 0) → (∀ r, r < 4 → yl' r = 0) → post (nI (pc_n (pc_b ys) 6)) (nI m, a, ys', yl')) (hno : pc_n (pc_g yl) m < pc_n (pc_b ys) 6 → post (-6) (nI m, a, ys, yl)) : wpY_repair post (nI m, a, ys, yl) := by
  unfold wpY_repair
  have c1 := pc_le (pc_b ys) 6
  have c2 := pc_le (pc_g yl) m
  refine py_ng (py_sp hm (pk_le (pc_n (pc_b ys) 6) (pc_n (pc_g yl) m) (fun hle => ?_) hno rfl rfl (by omega) (by omega)))
  refine loop_0 (fun n' i l => wY_repair_18 post (nI (pc_n (pc_b ys) 6)) (nI m) n' (nI i) a l yl) (fun i l => ∀ r, r < i → l r = 0) 6 ys (fun r hr => absurd hr (Nat.not_lt_zero r)) ?_ ?_
  · intro n' l hI
    refine br_t (nI_le (a := 6) (b := 6) (by decide) (by decide)) ?_
    refine loop_0 (fun n' i l' => wY_repair_39 post (nI (pc_n (pc_b ys) 6)) (nI m) n' (nI i) a l l') (fun i l => ∀ r, r < i → l r = 0) 4 yl (fun r hr => absurd hr (Nat.not_lt_zero r)) ?_ ?_
    · intro n3 l' hJ
      exact br_t (nI_le (a := 4) (b := 4) (by decide) (by decide)) (hn hle l l' hI hJ)
    · intro n3 i l' hi hJ nx
      exact br_f (nI_ge (b := 4) hi (by decide)) ⟨vp_in_nI hi (by decide), nm_r (e' := upd l' i 0) (by rw [nI_clamp (by omega), py_v0]) (nm_r (nI_1 i) (nx _ (py_u0 hJ)))⟩
  · intro n' i l hi hI nx
    exact br_f (nI_ge (b := 6) hi (by decide)) ⟨vp_in_nI hi (by decide), nm_r (e' := upd l i 0) (by rw [nI_clamp (by omega)]) (nm_r (nI_1 i) (nx _ (py_u0 hI)))⟩
def ur_u (rl : Nat → BitVec 8) (k : Nat) (x : BitVec 8) : Nat → BitVec 8 := fun j => if j = k then x else rl j
theorem ur_s (rl : Nat → BitVec 8) (k : Nat) (x : BitVec 8) : ur_u rl k x k = x := if_pos rfl
theorem ur_n (rl : Nat → BitVec 8) {k j : Nat} (x : BitVec 8) (h : j ≠ k) : ur_u rl k x j = rl j := if_neg h
theorem ur_e (rl : Nat → BitVec 8) (k : Nat) (x : BitVec 8) : upd (fun j => cv_I (rl j)) k (cv_I x) = fun j => cv_I (ur_u rl k x j) := by
  funext j
  by_cases e : j = k
  · subst e
    rw [pk_us, ur_s]
  · rw [pk_un e, ur_n rl x e]
theorem py_gu {post : Int32 → SY → Prop} {rl : Nat → BitVec 8} (hp : ∀ (rl' : Nat → BitVec 8) (ys' : Nat → Int32), (∀ j, j < 48 → rl' j = if ys (j / 8) = 0 then rl j else 0#8) → (∀ i, i < 6 → ys' i = 0) → post (nI (pc_n (pc_b ys) 6)) (0, (fun j => cv_I (rl' j)), ys', yl)) : wpY_giveUp post (f, (fun j => cv_I (rl j)), ys, yl) := by
  unfold wpY_giveUp
  refine py_ng ?_
  refine loop_0 (fun n' i a' => wY_giveUp_7 post (nI (pc_n (pc_b ys) 6)) f n' (nI i) a' ys yl) (fun i a' => ∃ rl' : Nat → BitVec 8, a' = (fun j => cv_I (rl' j)) ∧ (∀ j, j < i → rl' j = if ys (j / 8) = 0 then rl j else 0#8) ∧ (∀ j, i ≤ j → rl' j = rl j)) 48 (fun j => cv_I (rl j)) ⟨rl, rfl, fun j hj => absurd hj (Nat.not_lt_zero j), fun _ _ => rfl⟩ ?_ ?_
  · intro n' a' hI
    obtain ⟨rl', rfl, h1, _⟩ := hI
    refine br_t (nI_le (a := 48) (b := 48) (by decide) (by decide)) ?_
    refine loop_0 (fun n' i l => wY_giveUp_40 post (nI (pc_n (pc_b ys) 6)) f n' (nI i) (fun j => cv_I (rl' j)) l yl) (fun i l => ∀ r, r < i → l r = 0) 6 ys (fun r hr => absurd hr (Nat.not_lt_zero r)) ?_ ?_
    · intro n3 l hJ
      exact br_t (nI_le (a := 6) (b := 6) (by decide) (by decide)) (hp rl' l h1 hJ)
    · intro n3 i l hi hJ nx
      exact br_f (nI_ge (b := 6) hi (by decide)) ⟨vp_in_nI hi (by decide), nm_r (e' := upd l i 0) (by rw [nI_clamp (by omega)]) (nm_r (nI_1 i) (nx _ (py_u0 hJ)))⟩
  · intro n' i a' hi hI nx
    obtain ⟨rl', rfl, h1, h2⟩ := hI
    have ed : nI i / 8 = nI (i / 8) := pk_div (d := 8) (by omega) (by decide) (by decide)
    have c8 : (nI i / 8).toNatClampNeg = i / 8 := by rw [ed, nI_clamp (by omega)]
    refine br_f (nI_ge (b := 48) hi (by decide)) ⟨by decide, by rw [ed]; exact vp_in_nI (by omega) (by decide), ?_⟩
    by_cases z : ys (i / 8) = 0
    · refine br_t (by rw [c8]; exact z) (nm_r (nI_1 i) (nx _ ⟨rl', rfl, fun j hj => ?_, fun j hj => h2 j (by omega)⟩))
      by_cases e : j = i
      · subst e
        rw [if_pos z]
        exact h2 j (Nat.le_refl j)
      · exact h1 j (by omega)
    · refine br_f (by rw [c8]; exact z) ⟨vp_in_nI hi (by decide), nm_r (e' := fun j => cv_I (ur_u rl' i 0#8 j)) ?_ (nm_r (nI_1 i) (nx _ ⟨ur_u rl' i 0#8, rfl, fun j hj => ?_, fun j hj => ?_⟩))⟩
      · rw [nI_clamp (by omega), ← ur_e]
        rfl
      · by_cases e : j = i
        · subst e
          rw [if_neg z]
          exact ur_s _ _ _
        · rw [ur_n rl' _ e]
          exact h1 j (by omega)
      · rw [ur_n rl' _ (by omega)]
        exact h2 j (by omega)
theorem py_mg {post : Int32 → Prop} {m : Nat} (hm : m ≤ 4) (hn : pc_n (pc_b ys) 6 ≤ pc_n (pc_g yl) m → post (nI (pc_n (pc_g yl) m - pc_n (pc_b ys) 6))) (hno : pc_n (pc_g yl) m < pc_n (pc_b ys) 6 → post (-6)) : wpY_margin post (nI m, a, ys, yl) := by
  unfold wpY_margin
  have c1 := pc_le (pc_b ys) 6
  have c2 := pc_le (pc_g yl) m
  refine py_ng (py_sp hm (pk_le (pc_n (pc_b ys) 6) (pc_n (pc_g yl) m) (fun hle => ?_) hno rfl rfl (by omega) (by omega)))
  have e6 : (6 : Int32) - nI (pc_n (pc_b ys) 6) = nI (6 - pc_n (pc_b ys) 6) := pk_sub (a := 6) c1
  have key : ∀ n i, i ≤ pc_n (pc_g yl) m - pc_n (pc_b ys) 6 → pc_n (pc_g yl) m - pc_n (pc_b ys) 6 - i < n → wY_margin_18 post (nI (pc_n (pc_b ys) 6)) (nI m) a ys yl n (nI i) := by
    intro n
    induction n with
    | zero => intro i _ h; omega
    | succ n ih =>
      intro i hi hn'
      have e1 : nI (pc_n (pc_b ys) 6) + nI i + 1 = nI (pc_n (pc_b ys) 6 + i + 1) := by rw [nI_add, nI_1]
      refine br_f (by rw [e6]; exact nI_ge (by omega) (by omega)) (py_sp hm ?_)
      by_cases e : i = pc_n (pc_g yl) m - pc_n (pc_b ys) 6
      · rw [← e] at hn
        exact br_t (by rw [e1]; exact nI_lt (by omega) (by omega)) (hn hle)
      · exact br_f (by rw [e1]; exact nI_nlt (by omega) (by omega)) (nm_r (nI_1 i) (ih (i + 1) (by omega) (by omega)))
  exact ⟨pc_n (pc_g yl) m - pc_n (pc_b ys) 6 + 1, key _ 0 (by omega) (by omega)⟩
end
