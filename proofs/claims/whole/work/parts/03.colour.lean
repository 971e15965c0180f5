/-! colourings, counted: cq_N F k s, k colours, each part satisfies F -/
noncomputable def cq_N (F : Nat → Prop) : Nat → Nat → Nat
  | 0 => fun s => if s = 0 then 1 else 0
  | k + 1 => fun s => cq_S (fun a => cq_if (a &&& s = a ∧ F a) (cq_N F k (s ^^^ a))) (s + 1)
theorem cq_N_0 (F : Nat → Prop) (s : Nat) : cq_N F 0 s = if s = 0 then 1 else 0 := rfl
theorem cq_N_s (F : Nat → Prop) (k s : Nat) : cq_N F (k + 1) s = cq_S (fun a => cq_if (a &&& s = a ∧ F a) (cq_N F k (s ^^^ a))) (s + 1) := rfl
theorem cq_N_pos {F : Nat → Prop} {k s : Nat} : 0 < cq_N F (k + 1) s ↔ ∃ a, a &&& s = a ∧ F a ∧ 0 < cq_N F k (s ^^^ a) := by
  rw [cq_N_s]
  constructor
  · intro h
    obtain ⟨a, _, h2⟩ := cq_S_ex h
    by_cases z : a &&& s = a ∧ F a
    · rw [cq_if_t z] at h2
      exact ⟨a, z.1, z.2, h2⟩
    · rw [cq_if_f z] at h2
      exact absurd h2 (Nat.lt_irrefl 0)
  · intro h
    obtain ⟨a, h1, h2, h3⟩ := h
    have := cq_sub_le h1
    exact cq_S_pos (i := a) (by omega) (by rw [cq_if_t ⟨h1, h2⟩]; exact h3)
/-- xor with a part -/
theorem cq_xb {a s : Nat} (h : a &&& s = a) (i : Nat) : (s ^^^ a).testBit i = (s.testBit i && !a.testBit i) := by
  rw [Nat.testBit_xor]
  cases ha : a.testBit i
  · simp
  · rw [cq_sub.mp h i ha]; rfl
/-! the bound: at most k to the number of members -/
theorem cq_T {m : Nat} (k : Nat) (j : Nat) (hj : j ≤ m) : ∀ s, s < 2 ^ j → cq_S (fun a => cq_if (a &&& s = a) (k ^ cq_m (s ^^^ a) m)) (2 ^ j) = (k + 1) ^ cq_m s m := by
  induction j with
  | zero =>
    intro s hs
    have e : s = 0 := by simpa using hs
    rw [e, cq_m_0]
    show 0 + cq_if (0 &&& 0 = 0) (k ^ cq_m (0 ^^^ 0) m) = 1
    rw [cq_if_t (by rfl), show (0 ^^^ 0 : Nat) = 0 from rfl, cq_m_0]
    rfl
  | succ j ih =>
    intro s hs
    have hp : 0 < 2 ^ j := Nat.pow_pos (by decide)
    rw [Nat.pow_succ, Nat.mul_two] at hs
    rw [Nat.pow_succ, Nat.mul_two, cq_S_add]
    rcases Nat.lt_or_ge s (2 ^ j) with z | z
    · rw [ih (by omega) s z, cq_S_0, Nat.add_zero]
      intro u hu
      apply cq_if_f
      intro h
      have h1 := cq_sub.mp h j (by rw [cq_bj hu]; simp)
      rw [cq_bhi z (Nat.le_refl _)] at h1
      exact absurd h1 (by decide)
    · obtain ⟨t, rfl⟩ : ∃ t, s = 2 ^ j + t := ⟨s - 2 ^ j, by omega⟩
      have ht : t < 2 ^ j := by omega
      have e1 : cq_S (fun a => cq_if (a &&& (2 ^ j + t) = a) (k ^ cq_m ((2 ^ j + t) ^^^ a) m)) (2 ^ j) = k * (k + 1) ^ cq_m t m := by
        rw [← ih (by omega) t ht, ← cq_S_mul]
        apply cq_S_c
        intro a ha
        have x1 : a &&& (2 ^ j + t) = a ↔ a &&& t = a := by
          rw [cq_sub, cq_sub]
          constructor
          · intro h i hi
            have h1 := h i hi
            rw [cq_bj ht] at h1
            have hij : ¬ j = i := by
              intro e
              rw [← e, cq_bhi ha (Nat.le_refl _)] at hi
              exact absurd hi (by decide)
            simpa [hij] using h1
          · intro h i hi
            rw [cq_bj ht, h i hi]; simp
        have x2 : (2 ^ j + t) ^^^ a = 2 ^ j + (t ^^^ a) := by
          apply Nat.eq_of_testBit_eq
          intro i
          rw [Nat.testBit_xor, cq_bj ht, cq_bj (Nat.xor_lt_two_pow ht ha), Nat.testBit_xor]
          by_cases hij : j = i
          · rw [← hij, cq_bhi ht (Nat.le_refl _), cq_bhi ha (Nat.le_refl _)]; simp
          · simp [hij]
        by_cases c : a &&& t = a
        · rw [cq_if_t c, cq_if_t (x1.mpr c), x2, cq_m_j (by omega) (Nat.xor_lt_two_pow ht ha), Nat.add_comm 1, Nat.pow_succ, Nat.mul_comm]
        · rw [cq_if_f c, cq_if_f (fun z => c (x1.mp z)), Nat.mul_zero]
      have e2 : cq_S (fun u => cq_if ((2 ^ j + u) &&& (2 ^ j + t) = 2 ^ j + u) (k ^ cq_m ((2 ^ j + t) ^^^ (2 ^ j + u)) m)) (2 ^ j) = (k + 1) ^ cq_m t m := by
        rw [← ih (by omega) t ht]
        apply cq_S_c
        intro u hu
        have x1 : (2 ^ j + u) &&& (2 ^ j + t) = 2 ^ j + u ↔ u &&& t = u := by
          rw [cq_sub, cq_sub]
          constructor
          · intro h i hi
            have h1 := h i (by rw [cq_bj hu, hi]; simp)
            rw [cq_bj ht] at h1
            have hij : ¬ j = i := by
              intro e
              rw [← e, cq_bhi hu (Nat.le_refl _)] at hi
              exact absurd hi (by decide)
            simpa [hij] using h1
          · intro h i hi
            rw [cq_bj hu] at hi
            rw [cq_bj ht]
            by_cases hij : j = i
            · simp [hij]
            · have hi2 : u.testBit i = true := by simpa [hij] using hi
              rw [h i hi2]; simp
        have x2 : (2 ^ j + t) ^^^ (2 ^ j + u) = t ^^^ u := by
          apply Nat.eq_of_testBit_eq
          intro i
          rw [Nat.testBit_xor, cq_bj ht, cq_bj hu, Nat.testBit_xor]
          by_cases hij : j = i
          · rw [← hij, cq_bhi ht (Nat.le_refl _), cq_bhi hu (Nat.le_refl _)]; simp
          · simp [hij]
        rw [cq_if_c x1, x2]
      rw [e1, e2, cq_m_j (by omega) ht, Nat.add_comm 1, Nat.pow_succ, Nat.mul_comm, Nat.mul_succ]
theorem cq_N_le {F : Nat → Prop} {m : Nat} (k : Nat) : ∀ s, s < 2 ^ m → cq_N F k s ≤ k ^ cq_m s m := by
  induction k with
  | zero =>
    intro s _
    rw [cq_N_0]
    by_cases h : s = 0
    · rw [if_pos h, h, cq_m_0]; decide
    · rw [if_neg h]; exact Nat.zero_le _
  | succ k ih =>
    intro s hs
    rw [cq_N_s, ← cq_T k m (Nat.le_refl _) s hs]
    have h1 : cq_S (fun a => cq_if (a &&& s = a ∧ F a) (cq_N F k (s ^^^ a))) (s + 1) ≤ cq_S (fun a => cq_if (a &&& s = a) (k ^ cq_m (s ^^^ a) m)) (s + 1) := by
      apply cq_S_le
      intro a ha
      by_cases c : a &&& s = a
      · rw [cq_if_t c]
        by_cases d : F a
        · rw [cq_if_t ⟨c, d⟩]
          exact ih _ (Nat.xor_lt_two_pow hs (by omega))
        · rw [cq_if_f (fun z => d z.2)]; exact Nat.zero_le _
      · rw [cq_if_f (fun z => c z.1)]; exact Nat.zero_le _
    have h2 : cq_S (fun a => cq_if (a &&& s = a) (k ^ cq_m (s ^^^ a) m)) (s + 1 + (2 ^ m - (s + 1))) = cq_S (fun a => cq_if (a &&& s = a) (k ^ cq_m (s ^^^ a) m)) (s + 1) + _ := cq_S_add _ _ _
    rw [show s + 1 + (2 ^ m - (s + 1)) = 2 ^ m by omega] at h2
    omega
theorem cq_N_lt {F : Nat → Prop} {m k s : Nat} (hm : m ≤ 9) (hk : k ≤ 9) (hs : s < 2 ^ m) : cq_N F k s < 2 ^ 31 := by
  have h1 := cq_N_le (F := F) k s hs
  have h2 : k ^ cq_m s m ≤ 9 ^ cq_m s m := Nat.pow_le_pow_left hk _
  have h3 : 9 ^ cq_m s m ≤ 9 ^ 9 := Nat.pow_le_pow_right (by decide) (Nat.le_trans (cq_m_le s m) hm)
  have h4 : 9 ^ 9 < 2 ^ 31 := by decide
  omega
/-! as many colours as points are enough -/
theorem cq_N_all {F : Nat → Prop} (h0 : F 0) {m : Nat} (h1 : ∀ j, j < m → F (2 ^ j)) (j : Nat) (hj : j ≤ m) : ∀ s, s < 2 ^ j → 0 < cq_N F j s := by
  induction j with
  | zero =>
    intro s hs
    have e : s = 0 := by simpa using hs
    rw [cq_N_0, if_pos e]; decide
  | succ j ih =>
    intro s hs
    rw [Nat.pow_succ, Nat.mul_two] at hs
    rw [cq_N_pos]
    rcases Nat.lt_or_ge s (2 ^ j) with z | z
    · exact ⟨0, Nat.zero_and s, h0, by rw [Nat.xor_zero]; exact ih (by omega) s z⟩
    · obtain ⟨t, rfl⟩ : ∃ t, s = 2 ^ j + t := ⟨s - 2 ^ j, by omega⟩
      have ht : t < 2 ^ j := by omega
      have x1 : 2 ^ j &&& (2 ^ j + t) = 2 ^ j := by
        rw [cq_sub]
        intro i hi
        rw [Nat.testBit_two_pow] at hi
        rw [cq_bj ht, hi]; rfl
      have x2 : (2 ^ j + t) ^^^ 2 ^ j = t := by rw [← cq_minus x1]; omega
      exact ⟨2 ^ j, x1, h1 j (by omega), by rw [x2]; exact ih (by omega) t ht⟩
/-! the same colour for the members of T -/
theorem cq_N_out {F : Nat → Prop} {T : Nat} (k : Nat) : ∀ s, s &&& T = 0 → cq_N (fun a => (a &&& T = 0 ∨ a &&& T = T) ∧ F a) k s = cq_N F k s := by
  induction k with
  | zero => intro s _; rfl
  | succ k ih =>
    intro s hs
    have hd : ∀ a, a &&& s = a → a &&& T = 0 := by
      intro a ha
      rw [← ha, Nat.and_assoc, hs, Nat.and_zero]
    rw [cq_N_s, cq_N_s]
    apply cq_S_c
    intro a _
    by_cases c : a &&& s = a
    · have hx : (s ^^^ a) &&& T = 0 := by rw [Nat.and_xor_distrib_right, hs, hd a c]; rfl
      by_cases d : F a
      · rw [cq_if_t ⟨c, Or.inl (hd a c), d⟩, cq_if_t ⟨c, d⟩, ih _ hx]
      · rw [cq_if_f (fun z => d z.2.2), cq_if_f (fun z => d z.2)]
    · rw [cq_if_f (fun z => c z.1), cq_if_f (fun z => c z.1)]
theorem cq_x3 {a b s : Nat} : s ^^^ a ^^^ b = s ^^^ b ^^^ a := by rw [Nat.xor_assoc, Nat.xor_comm a, ← Nat.xor_assoc]
theorem cq_alike {F : Nat → Prop} {T : Nat} (hT : T ≠ 0) (k : Nat) : ∀ s, s &&& T = T → (0 < cq_N (fun a => (a &&& T = 0 ∨ a &&& T = T) ∧ F a) k s ↔ ∃ k', k = k' + 1 ∧ ∃ a, a &&& s = a ∧ a &&& T = T ∧ F a ∧ 0 < cq_N F k' (s ^^^ a)) := by
  induction k with
  | zero =>
    intro s hs
    have : s ≠ 0 := by
      intro e
      rw [e, Nat.zero_and] at hs
      exact hT hs.symm
    rw [cq_N_0, if_neg this]
    constructor
    · intro h; exact absurd h (Nat.lt_irrefl 0)
    · intro h; obtain ⟨k', e, _⟩ := h; omega
  | succ k ih =>
    intro s hs
    rw [cq_N_pos]
    constructor
    · intro h
      obtain ⟨a, h1, h2, h3⟩ := h
      refine ⟨k, rfl, ?_⟩
      rcases h2 with ⟨h2 | h2, h4⟩
      · have hx : (s ^^^ a) &&& T = T := by rw [Nat.and_xor_distrib_right, hs, h2, Nat.xor_zero]
        obtain ⟨k', rfl, b, b1, b2, b3, b4⟩ := (ih _ hx).mp h3
        have c1 : b &&& s = b := by
          rw [cq_sub]
          intro i hi
          have := cq_sub.mp b1 i hi
          rw [cq_xb h1] at this
          simp only [Bool.and_eq_true] at this
          exact this.1
        have c2 : a &&& (s ^^^ b) = a := by
          rw [cq_sub]
          intro i hi
          rw [cq_xb c1, cq_sub.mp h1 i hi]
          cases hb : b.testBit i
          · rfl
          · have := cq_sub.mp b1 i hb
            rw [cq_xb h1, hi] at this
            simp at this
        exact ⟨b, c1, b2, b3, cq_N_pos.mpr ⟨a, c2, h4, by rw [cq_x3]; exact b4⟩⟩
      · have hx : (s ^^^ a) &&& T = 0 := by rw [Nat.and_xor_distrib_right, hs, h2, Nat.xor_self]
        rw [cq_N_out k _ hx] at h3
        exact ⟨a, h1, h2, h4, h3⟩
    · intro h
      obtain ⟨k', e, a, h1, h2, h3, h4⟩ := h
      have e' : k' = k := by omega
      rw [e'] at h4
      have hx : (s ^^^ a) &&& T = 0 := by rw [Nat.and_xor_distrib_right, hs, h2, Nat.xor_self]
      exact ⟨a, h1, ⟨Or.inr h2, h3⟩, by rw [cq_N_out k _ hx]; exact h4⟩
