/-! bits of Int32 by naturals -/
theorem cq_or (a b : Nat) : nI a ||| nI b = nI (a ||| b) := by
  apply Int32.toBitVec_inj.1
  show BitVec.ofNat 32 a ||| BitVec.ofNat 32 b = BitVec.ofNat 32 (a ||| b)
  apply BitVec.eq_of_getLsbD_eq
  intro i hi
  simp [hi]
theorem cq_sh {p : Nat} (hp : p < 31) : (1 : Int32) <<< (nI p &&& 31) = nI (2 ^ p) := by
  have h : 1 * 2 ^ p < 2 ^ 32 := by
    rw [Nat.one_mul]; exact Nat.pow_lt_pow_right (by decide) (by omega)
  have e := pk_shlN (n := 1) (nI p &&& 31) p (s_l p (by omega)) h
  rw [Nat.one_mul] at e
  exact e
theorem cq_p9 {m : Nat} (hm : m ≤ 9) : 2 ^ m ≤ 512 := Nat.le_trans (Nat.pow_le_pow_right (by decide) hm) (by decide)
theorem cq_p0 (m : Nat) : 0 < 2 ^ m := Nat.pow_pos (by decide)
theorem cq_bit {s p : Nat} (hs : s < 2 ^ 31) (hp : p < 32) : (nI s >>> (nI p &&& 31)) &&& 1 = nI (s.testBit p).toNat := by
  rw [pk_shrN hs _ p (s_l p hp)]
  show nI (s / 2 ^ p) &&& nI 1 = _
  rw [nx_and, Nat.and_one_is_mod, Nat.testBit_eq_decide_div_mod_eq]
  congr 1
  have h : s / 2 ^ p % 2 < 2 := Nat.mod_lt _ (by decide)
  generalize s / 2 ^ p % 2 = z at h ⊢
  rcases (show z = 0 ∨ z = 1 by omega) with rfl | rfl <;> rfl
def cq_del (a p : Nat) : Nat := a &&& (2 ^ p ^^^ (2 ^ 32 - 1))
theorem cq_m1 : (-1 : Int32) = nI (2 ^ 32 - 1) := by decide +kernel
theorem cq_del_e (a : Nat) {p : Nat} (hp : p < 31) : nI a &&& (((1 : Int32) <<< (nI p &&& 31)) ^^^ (-1)) = nI (cq_del a p) := by
  rw [cq_sh hp, cq_m1, nx_xor, nx_and]
  rfl
theorem cq_del_b {a p i : Nat} (ha : a < 2 ^ 31) : (cq_del a p).testBit i = (a.testBit i && !decide (p = i)) := by
  unfold cq_del
  rw [Nat.testBit_and, Nat.testBit_xor, Nat.testBit_two_pow, Nat.testBit_two_pow_sub_one]
  rcases Nat.lt_or_ge i 32 with h | h
  · simp [h]
  · rw [cq_bhi (m := 31) ha (by omega)]; simp
theorem cq_del_le (a p : Nat) : cq_del a p ≤ a := Nat.and_le_left
theorem cq_ix (x : Int32) (n : Nat) : x < 0 ∨ (∃ j : Nat, n ≤ j ∧ j < 2 ^ 31 ∧ x = nI j) ∨ ∃ j : Nat, j < n ∧ x = nI j := by
  by_cases h : x < 0
  · exact Or.inl h
  · obtain ⟨j, hj, rfl⟩ := nI_of h
    by_cases h2 : j < n
    · exact Or.inr (Or.inr ⟨j, h2, rfl⟩)
    · exact Or.inr (Or.inl ⟨j, by omega, hj, rfl⟩)
theorem cq_t9 (p q : Nat) : nI p * 9 + nI q = nI (p * 9 + q) := by
  rw [show (9 : Int32) = nI 9 from rfl, pk_mul, nI_add]
theorem cq_lt_bit {m s q : Nat} (hs : s < 2 ^ m) (h : s.testBit q = true) : q < m := by
  rcases Nat.lt_or_ge q m with z | z
  · exact z
  · rw [cq_bhi hs z] at h; exact absurd h (by decide)
theorem cq_nb {m s i : Nat} {N : Nat → Nat} (hm : m ≤ 9) (hs : s < 2 ^ m) : N i &&& cq_del s i = cq_del s i ↔ ∀ q, q < m → i ≠ q → s.testBit q = true → (N i).testBit q = true := by
  have h9 := cq_p9 hm
  rw [Nat.and_comm, cq_sub]
  constructor
  · intro h q _ hiq hb
    exact h q (by rw [cq_del_b (by omega), hb, decide_eq_false hiq]; rfl)
  · intro h q hq
    rw [cq_del_b (by omega)] at hq
    simp only [Bool.and_eq_true, Bool.not_eq_true', decide_eq_false_iff_not] at hq
    exact h q (cq_lt_bit hs hq.1) hq.2 hq.1
theorem cq_n0 {m s i : Nat} {N : Nat → Nat} (hs : s < 2 ^ m) : N i &&& s = 0 ↔ ∀ q, q < m → s.testBit q = true → (N i).testBit q = false := by
  constructor
  · intro h q _ hb
    have e := congrArg (fun x => Nat.testBit x q) h
    simp only [Nat.testBit_and, hb, Bool.and_true, Nat.zero_testBit] at e
    exact e
  · intro h
    apply Nat.eq_of_testBit_eq
    intro q
    rw [Nat.testBit_and, Nat.zero_testBit]
    cases hb : s.testBit q
    · rw [Bool.and_false]
    · rw [h q (cq_lt_bit hs hb) hb]; rfl
/-! 'even', as the reference has it -/
def cq_ev (N : Nat → Nat) (m s : Nat) (b : Bool) : Prop := ∀ p q, q < p → p < m → s.testBit p = true → s.testBit q = true → (N p).testBit q = b
theorem cq_ev_t {m : Nat} {N : Nat → Nat} (hm : m ≤ 9) (hG : cq_G m N) (s : Nat) : cq_ev N m s true ↔ cq_cl N m s := by
  constructor
  · intro h p q hp hq hpq bp bq
    rcases Nat.lt_or_ge q p with z | z
    · exact h p q z hp bp bq
    · rw [hG.2.1 p q (by omega) (by omega)]
      exact h q p (by omega) hq bq bp
  · intro h p q hqp hp bp bq
    exact h p q hp (by omega) (by omega) bp bq
theorem cq_ev_f {m : Nat} {N : Nat → Nat} (hm : m ≤ 9) (hG : cq_G m N) (s : Nat) : cq_ev N m s false ↔ cq_in N m s := by
  constructor
  · intro h p q hp hq bp bq
    rcases Nat.lt_trichotomy q p with z | z | z
    · exact h p q z hp bp bq
    · rw [z]; exact hG.2.2 p (by omega)
    · rw [hG.2.1 p q (by omega) (by omega)]
      exact h q p z hq bq bp
  · intro h p q hqp hp bp bq
    exact h p q hp (by omega) bp bq
/-! full cliques -/
def cq_fu (N : Nat → Nat) (m s : Nat) : Prop := (∀ p, p < m → ¬ N p &&& s = s) ∧ cq_cl N m s
theorem cq_fu_y {m s : Nat} {N : Nat → Nat} (hm : m ≤ 9) (hG : cq_G m N) (hs : s < 2 ^ m) (hc : cq_cl N m s) : cq_fu N m s ↔ ∀ p, p < m → s.testBit p = false → ¬ cq_cl N m (s ||| 2 ^ p) := by
  have hb : ∀ p i, (s ||| 2 ^ p).testBit i = (s.testBit i || decide (p = i)) := fun p i => by rw [Nat.testBit_or, Nat.testBit_two_pow]
  constructor
  · intro h p hp bp hcl
    apply h.1 p hp
    rw [Nat.and_comm, cq_sub]
    intro i hi
    have him := cq_lt_bit hs hi
    refine hcl p i hp him ?_ (by rw [hb]; simp) (by rw [hb, hi]; rfl)
    intro e
    rw [e, hi] at bp
    exact absurd bp (by decide)
  · intro h
    refine ⟨fun p hp e => ?_, hc⟩
    rw [Nat.and_comm, cq_sub] at e
    have bp : s.testBit p = false := by
      cases z : s.testBit p
      · rfl
      · have := e p z
        rw [hG.2.2 p (by omega)] at this
        exact absurd this (by decide)
    apply h p hp bp
    intro a b ha hb' hab ba bb
    rw [hb] at ba bb
    simp only [Bool.or_eq_true, decide_eq_true_eq] at ba bb
    rcases ba with ba | ba
    · rcases bb with bb | bb
      · exact hc a b ha hb' hab ba bb
      · rw [← bb, hG.2.1 a p (by omega) (by omega)]
        exact e a ba
    · rcases bb with bb | bb
      · rw [← ba]; exact e b bb
      · exact absurd (ba.symm.trans bb) hab
