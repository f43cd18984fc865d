/-! counting and listing the numbers below n that q takes -/
def pc_n (q : Nat → Bool) : Nat → Nat
  | 0 => 0
  | n + 1 => pc_n q n + (if q n then 1 else 0)
theorem pc_t {q : Nat → Bool} {n : Nat} (h : q n = true) : pc_n q (n + 1) = pc_n q n + 1 := by
  show pc_n q n + (if q n then 1 else 0) = _
  rw [if_pos h]
theorem pc_f {q : Nat → Bool} {n : Nat} (h : q n = false) : pc_n q (n + 1) = pc_n q n := by
  show pc_n q n + (if q n then 1 else 0) = _
  rw [h]
  rfl
theorem pc_le (q : Nat → Bool) : ∀ n, pc_n q n ≤ n
  | 0 => Nat.le_refl 0
  | n + 1 => by
    have h := pc_le q n
    by_cases e : q n = true
    · rw [pc_t e]; omega
    · rw [pc_f (by simpa using e)]; omega
theorem pc_mono (q : Nat → Bool) (n : Nat) : pc_n q n ≤ pc_n q (n + 1) := Nat.le_add_right _ _
theorem pc_mo (q : Nat → Bool) (n : Nat) : ∀ d, pc_n q n ≤ pc_n q (n + d)
  | 0 => Nat.le_refl _
  | d + 1 => Nat.le_trans (pc_mo q n d) (pc_mono q (n + d))
theorem pc_c {q q' : Nat → Bool} : ∀ {n : Nat}, (∀ i, i < n → q i = q' i) → pc_n q n = pc_n q' n
  | 0, _ => rfl
  | n + 1, h => by
    show pc_n q n + (if q n then 1 else 0) = pc_n q' n + (if q' n then 1 else 0)
    rw [pc_c (fun i hi => h i (by omega)), h n (by omega)]
theorem pc_0 {q : Nat → Bool} : ∀ {n : Nat}, pc_n q n = 0 → ∀ i, i < n → q i = false
  | 0, _, i, hi => absurd hi (Nat.not_lt_zero i)
  | n + 1, h, i, hi => by
    cases e : q n
    · rw [pc_f e] at h
      by_cases hn : i = n
      · rw [hn]; exact e
      · exact pc_0 h i (by omega)
    · rw [pc_t e] at h
      omega
def pc_L (q : Nat → Bool) (n c : Nat) (f : Nat → Nat) : Prop :=
  (∀ i, i < c → f i < n ∧ q (f i) = true) ∧ (∀ i, i < c → ∀ j, j < c → i ≠ j → f i ≠ f j) ∧ (∀ b, b < n → q b = true → ∃ i, i < c ∧ f i = b) ∧ (∀ F : Nat → BitVec 8, gf_sm (fun b => if q b then F b else 0#8) n = gf_sm (fun i => F (f i)) c)
theorem pc_L0 (q : Nat → Bool) (f : Nat → Nat) : pc_L q 0 0 f :=
  ⟨fun i hi => absurd hi (Nat.not_lt_zero i), fun i hi => absurd hi (Nat.not_lt_zero i), fun b hb => absurd hb (Nat.not_lt_zero b), fun _ => rfl⟩
theorem pc_Lf {q : Nat → Bool} {n c : Nat} {f : Nat → Nat} (e : q n = false) (h : pc_L q n c f) : pc_L q (n + 1) c f := by
  obtain ⟨h1, h2, h3, h4⟩ := h
  refine ⟨fun i hi => ⟨by have := (h1 i hi).1; omega, (h1 i hi).2⟩, h2, fun b hb hq => ?_, fun F => ?_⟩
  · by_cases eb : b = n
    · rw [eb, e] at hq
      exact absurd hq (by decide)
    · exact h3 b (by omega) hq
  · show gf_sm (fun b => if q b then F b else 0#8) n ^^^ (if q n then F n else 0#8) = _
    rw [e, h4 F]
    exact BitVec.xor_zero
theorem pc_Lt {q : Nat → Bool} {n c : Nat} {f f' : Nat → Nat} (e : q n = true) (h : pc_L q n c f) (hf : ∀ i, i < c → f' i = f i) (hc : f' c = n) : pc_L q (n + 1) (c + 1) f' := by
  obtain ⟨h1, h2, h3, h4⟩ := h
  have k : ∀ i, i < c → f' i < n := fun i hi => by rw [hf i hi]; exact (h1 i hi).1
  refine ⟨fun i hi => ?_, fun i hi j hj hne => ?_, fun b hb hq => ?_, fun F => ?_⟩
  · by_cases ei : i = c
    · rw [ei, hc]
      exact ⟨by omega, e⟩
    · have hi2 : i < c := by omega
      exact ⟨by have := k i hi2; omega, by rw [hf i hi2]; exact (h1 i hi2).2⟩
  · by_cases ei : i = c
    · have hj2 : j < c := by omega
      have := k j hj2
      rw [ei, hc]
      omega
    · have hi2 : i < c := by omega
      by_cases ej : j = c
      · have := k i hi2
        rw [ej, hc]
        omega
      · have hj2 : j < c := by omega
        rw [hf i hi2, hf j hj2]
        exact h2 i hi2 j hj2 hne
  · by_cases eb : b = n
    · exact ⟨c, by omega, by rw [hc, eb]⟩
    · obtain ⟨i, hi, ei⟩ := h3 b (by omega) hq
      exact ⟨i, by omega, by rw [hf i hi, ei]⟩
  · show gf_sm (fun b => if q b then F b else 0#8) n ^^^ (if q n then F n else 0#8) = gf_sm (fun i => F (f' i)) c ^^^ F (f' c)
    rw [if_pos e, h4 F, hc, gf_sm_c (f := fun i => F (f' i)) (g := fun i => F (f i)) (fun i hi => congrArg F (hf i hi))]
