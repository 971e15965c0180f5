/-! sums and indicators over naturals -/
def cq_S (f : Nat → Nat) : Nat → Nat
  | 0 => 0
  | m + 1 => cq_S f m + f m
theorem cq_S_c {f g : Nat → Nat} {m : Nat} (h : ∀ i, i < m → f i = g i) : cq_S f m = cq_S g m := by
  induction m with
  | zero => rfl
  | succ m ih =>
    show cq_S f m + f m = cq_S g m + g m
    rw [ih (fun i hi => h i (by omega)), h m (by omega)]
theorem cq_S_le {f g : Nat → Nat} {m : Nat} (h : ∀ i, i < m → f i ≤ g i) : cq_S f m ≤ cq_S g m := by
  induction m with
  | zero => exact Nat.le_refl _
  | succ m ih => exact Nat.add_le_add (ih (fun i hi => h i (by omega))) (h m (by omega))
theorem cq_S_0 {f : Nat → Nat} {m : Nat} (h : ∀ i, i < m → f i = 0) : cq_S f m = 0 := by
  induction m with
  | zero => rfl
  | succ m ih =>
    show cq_S f m + f m = 0
    rw [ih (fun i hi => h i (by omega)), h m (by omega)]
theorem cq_S_add (f : Nat → Nat) (a b : Nat) : cq_S f (a + b) = cq_S f a + cq_S (fun i => f (a + i)) b := by
  induction b with
  | zero => rfl
  | succ b ih =>
    show cq_S f (a + b) + f (a + b) = cq_S f a + (cq_S (fun i => f (a + i)) b + f (a + b))
    rw [ih, Nat.add_assoc]
theorem cq_S_plus (f g : Nat → Nat) (m : Nat) : cq_S (fun i => f i + g i) m = cq_S f m + cq_S g m := by
  induction m with
  | zero => rfl
  | succ m ih =>
    show cq_S (fun i => f i + g i) m + (f m + g m) = (cq_S f m + f m) + (cq_S g m + g m)
    rw [ih]
    omega
theorem cq_S_mul (k : Nat) (f : Nat → Nat) (m : Nat) : cq_S (fun i => k * f i) m = k * cq_S f m := by
  induction m with
  | zero => rfl
  | succ m ih =>
    show cq_S (fun i => k * f i) m + k * f m = k * (cq_S f m + f m)
    rw [ih, Nat.mul_add]
theorem cq_S_pos {f : Nat → Nat} {m i : Nat} (hi : i < m) (h : 0 < f i) : 0 < cq_S f m := by
  induction m with
  | zero => omega
  | succ m ih =>
    show 0 < cq_S f m + f m
    rcases Nat.lt_or_ge i m with z | z
    · have := ih z
      omega
    · have e : i = m := by omega
      rw [e] at h
      omega
theorem cq_S_ex {f : Nat → Nat} {m : Nat} (h : 0 < cq_S f m) : ∃ i, i < m ∧ 0 < f i := by
  induction m with
  | zero => exact absurd h (Nat.lt_irrefl 0)
  | succ m ih =>
    have h' : 0 < cq_S f m + f m := h
    rcases Nat.eq_zero_or_pos (f m) with z | z
    · obtain ⟨i, hi, hf⟩ := ih (by omega)
      exact ⟨i, by omega, hf⟩
    · exact ⟨m, by omega, z⟩
noncomputable def cq_if (P : Prop) (a : Nat) : Nat := @ite Nat P (Classical.propDecidable P) a 0
theorem cq_if_t {P : Prop} (h : P) (a : Nat) : cq_if P a = a := @if_pos P (Classical.propDecidable P) h Nat a 0
theorem cq_if_f {P : Prop} (h : ¬ P) (a : Nat) : cq_if P a = 0 := @if_neg P (Classical.propDecidable P) h Nat a 0
theorem cq_if_c {P Q : Prop} (h : P ↔ Q) (a : Nat) : cq_if P a = cq_if Q a := by rw [propext h]
/-! bits -/
theorem cq_sub {a s : Nat} : a &&& s = a ↔ ∀ i, a.testBit i = true → s.testBit i = true := by
  constructor
  · intro h i hi
    have e := congrArg (fun x => Nat.testBit x i) h
    simp only [Nat.testBit_and, hi, Bool.true_and] at e
    exact e
  · intro h
    apply Nat.eq_of_testBit_eq
    intro i
    rw [Nat.testBit_and]
    cases ha : a.testBit i
    · rfl
    · rw [h i ha]; rfl
theorem cq_or_add (x : Nat) : ∀ y, x &&& y = 0 → x ||| y = x + y := by
  induction x using Nat.strongRecOn with
  | ind x ih =>
    intro y h
    by_cases hx : x = 0
    · rw [hx, Nat.zero_or, Nat.zero_add]
    · have h1 : x / 2 &&& y / 2 = 0 := by rw [← Nat.and_div_two, h]
      have h2 := ih (x / 2) (by omega) (y / 2) h1
      rw [← Nat.or_div_two] at h2
      have h3 : ¬ (x % 2 = 1 ∧ y % 2 = 1) := by rw [← Nat.and_mod_two_eq_one, h]; decide
      have h4 : (x ||| y) % 2 = 1 ↔ x % 2 = 1 ∨ y % 2 = 1 := Nat.or_mod_two_eq_one
      generalize x ||| y = z at h2 h4 ⊢
      omega
theorem cq_sub_le {a s : Nat} (h : a &&& s = a) : a ≤ s := Nat.le_of_testBit (cq_sub.mp h)
/-- taking a part away: by minus, by xor -/
theorem cq_minus {a s : Nat} (h : a &&& s = a) : s - a = s ^^^ a := by
  have e : (s ^^^ a) + a = s := by
    have d : (s ^^^ a) &&& a = 0 := by
      apply Nat.eq_of_testBit_eq
      intro i
      rw [Nat.testBit_and, Nat.testBit_xor, Nat.zero_testBit]
      cases ha : a.testBit i
      · simp
      · simp [cq_sub.mp h i ha]
    have o : (s ^^^ a) ||| a = s := by
      apply Nat.eq_of_testBit_eq
      intro i
      rw [Nat.testBit_or, Nat.testBit_xor]
      cases ha : a.testBit i
      · simp
      · simp [cq_sub.mp h i ha]
    rw [← cq_or_add _ _ d, o]
  omega
theorem cq_bj {j t : Nat} (ht : t < 2 ^ j) (i : Nat) : (2 ^ j + t).testBit i = (decide (j = i) || t.testBit i) := by
  have e : 2 ^ j + t = 2 ^ j ||| t := by
    have := Nat.two_pow_add_eq_or_of_lt ht 1
    rwa [Nat.mul_one] at this
  rw [e, Nat.testBit_or, Nat.testBit_two_pow]
theorem cq_bhi {m t i : Nat} (ht : t < 2 ^ m) (hi : m ≤ i) : t.testBit i = false :=
  Nat.testBit_lt_two_pow (Nat.lt_of_lt_of_le ht (Nat.pow_le_pow_right (by decide) hi))
/-! members, weight -/
def cq_m (s m : Nat) : Nat := cq_S (fun p => if s.testBit p = true then 1 else 0) m
def cq_w (w : Nat → Nat) (s m : Nat) : Nat := cq_S (fun p => if s.testBit p = true then w p else 0) m
theorem cq_m_0 (m : Nat) : cq_m 0 m = 0 := cq_S_0 (fun i _ => by simp)
theorem cq_S_one (j m : Nat) : cq_S (fun p => if j = p then 1 else 0) m = if j < m then 1 else 0 := by
  induction m with
  | zero => simp [cq_S]
  | succ m ih =>
    show cq_S (fun p => if j = p then 1 else 0) m + (if j = m then 1 else 0) = _
    rw [ih]
    split <;> split <;> split <;> omega
theorem cq_m_j {j t m : Nat} (hj : j < m) (ht : t < 2 ^ j) : cq_m (2 ^ j + t) m = 1 + cq_m t m := by
  have e : cq_m (2 ^ j + t) m = cq_S (fun p => (if j = p then 1 else 0) + (if t.testBit p = true then 1 else 0)) m := by
    apply cq_S_c
    intro p _
    show (if (2 ^ j + t).testBit p = true then 1 else 0) = _
    rw [cq_bj ht]
    by_cases h : j = p
    · have h2 : t.testBit p = false := by rw [← h]; exact cq_bhi ht (Nat.le_refl _)
      simp [h, h2]
    · simp [h]
  rw [e, cq_S_plus, cq_S_one, if_pos hj]
  rfl
theorem cq_m_le (s m : Nat) : cq_m s m ≤ m := by
  unfold cq_m
  induction m with
  | zero => exact Nat.le_refl _
  | succ m ih =>
    show cq_S _ m + (if s.testBit m = true then 1 else 0) ≤ m + 1
    have : (if s.testBit m = true then 1 else 0) ≤ 1 := by split <;> omega
    omega
theorem cq_m_z {u m : Nat} (hu : u < 2 ^ m) (h : cq_m u m = 0) : u = 0 := by
  apply Classical.byContradiction
  intro hz
  obtain ⟨i, hi⟩ := Nat.exists_testBit_of_ne_zero hz
  have him : i < m := by
    rcases Nat.lt_or_ge i m with z | z
    · exact z
    · rw [cq_bhi hu z] at hi; exact absurd hi (by decide)
  have : 0 < cq_m u m := cq_S_pos him (by show 0 < (if u.testBit i = true then 1 else 0); rw [if_pos hi]; decide)
  omega
/-! the graph: N p is the set of the points joined with p -/
def cq_G (m : Nat) (N : Nat → Nat) : Prop := (∀ p, p < 9 → N p < 2 ^ m) ∧ (∀ p q, p < 9 → q < 9 → (N p).testBit q = (N q).testBit p) ∧ (∀ p, p < 9 → (N p).testBit p = false)
def cq_cl (N : Nat → Nat) (m s : Nat) : Prop := ∀ p q, p < m → q < m → p ≠ q → s.testBit p = true → s.testBit q = true → (N p).testBit q = true
def cq_in (N : Nat → Nat) (m s : Nat) : Prop := ∀ p q, p < m → q < m → s.testBit p = true → s.testBit q = true → (N p).testBit q = false
def cq_e (N : Nat → Nat) (p q : Nat) : Nat := if (N p).testBit q = true then 1 else 0
/-! pairs, counted twice -/
def cq_E (N : Nat → Nat) (M : Nat) : Nat := cq_S (fun q => cq_S (fun p => cq_e N p q) q) M
theorem cq_D {m : Nat} {N : Nat → Nat} (hG : cq_G m N) (M : Nat) (hM : M ≤ 9) : cq_S (fun p => cq_S (fun q => cq_e N p q) M) M = 2 * cq_E N M := by
  induction M with
  | zero => rfl
  | succ M ih =>
    have h1 : cq_S (fun p => cq_S (fun q => cq_e N p q) (M + 1)) (M + 1) = cq_S (fun p => cq_S (fun q => cq_e N p q) M + cq_e N p M) M + (cq_S (fun q => cq_e N M q) M + cq_e N M M) := rfl
    have h2 : cq_E N (M + 1) = cq_E N M + cq_S (fun p => cq_e N p M) M := rfl
    have h3 : cq_S (fun q => cq_e N M q) M = cq_S (fun p => cq_e N p M) M := cq_S_c (fun i hi => by unfold cq_e; rw [hG.2.1 M i (by omega) (by omega)])
    have h4 : cq_e N M M = 0 := by unfold cq_e; rw [hG.2.2 M (by omega)]; rfl
    rw [h1, h2, cq_S_plus, ih (by omega), h3, h4]
    omega
theorem cq_S9 (f : Nat → Nat) (a : Nat) : cq_S f (a * 9) = cq_S (fun p => cq_S (fun q => f (p * 9 + q)) 9) a := by
  induction a with
  | zero => rfl
  | succ a ih =>
    rw [Nat.succ_mul, cq_S_add, ih]
    rfl
theorem cq_E9 {m : Nat} {N : Nat → Nat} (hG : cq_G m N) (hm : m ≤ 9) : cq_E N 9 = cq_E N m := by
  have e : cq_E N 9 = cq_E N (m + (9 - m)) := by rw [show m + (9 - m) = 9 by omega]
  rw [e]
  unfold cq_E
  rw [cq_S_add, cq_S_0 (f := fun i => cq_S (fun p => cq_e N p (m + i)) (m + i))]
  · rfl
  · intro i hi
    apply cq_S_0
    intro p hp
    unfold cq_e
    rw [cq_bhi (hG.1 p (by omega)) (by omega)]
    rfl
theorem cq_S_first {f : Nat → Nat} {M : Nat} (hM : 0 < M) (h : ∀ u, 0 < u → u < M → f u = 0) : cq_S f M = f 0 := by
  obtain ⟨d, rfl⟩ : ∃ d, M = 1 + d := ⟨M - 1, by omega⟩
  rw [cq_S_add, cq_S_0 (f := fun i => f (1 + i)) (fun i hi => h (1 + i) (by omega) (by omega))]
  show 0 + f 0 + 0 = f 0
  omega
theorem cq_cl2 {m i j : Nat} {N : Nat → Nat} (hG : cq_G m N) (hm : m ≤ 9) (hij : i < j) (hj : j < m) : cq_cl N m (2 ^ j + 2 ^ i) ↔ (N i).testBit j = true := by
  have hb : ∀ p, (2 ^ j + 2 ^ i).testBit p = (decide (j = p) || decide (i = p)) := fun p => by
    rw [cq_bj (Nat.pow_lt_pow_right (by decide) hij), Nat.testBit_two_pow]
  constructor
  · intro h
    exact h i j (by omega) hj (by omega) (by rw [hb]; simp) (by rw [hb]; simp)
  · intro h p q hp hq hpq bp bq
    rw [hb] at bp bq
    simp only [Bool.or_eq_true, decide_eq_true_eq] at bp bq
    rcases bp with rfl | rfl
    · rcases bq with rfl | rfl
      · exact absurd rfl hpq
      · rw [hG.2.1 _ _ (by omega) (by omega)]; exact h
    · rcases bq with rfl | rfl
      · exact h
      · exact absurd rfl hpq
theorem cq_B {m : Nat} {N : Nat → Nat} (hG : cq_G m N) (hm : m ≤ 9) {j : Nat} (hj : j < m) (i : Nat) (hi : i ≤ j) : cq_S (fun t => cq_if (cq_m t m = 1 ∧ cq_cl N m (2 ^ j + t)) 1) (2 ^ i) = cq_S (fun p => cq_e N p j) i := by
  induction i with
  | zero =>
    show 0 + cq_if (cq_m 0 m = 1 ∧ cq_cl N m (2 ^ j + 0)) 1 = 0
    rw [cq_if_f (by rw [cq_m_0]; intro z; exact absurd z.1 (by decide))]
  | succ i ih =>
    have hp : 0 < 2 ^ i := Nat.pow_pos (by decide)
    rw [Nat.pow_succ, Nat.mul_two, cq_S_add, ih (by omega)]
    show _ = cq_S (fun p => cq_e N p j) i + cq_e N i j
    congr 1
    rw [cq_S_first hp]
    · show cq_if (cq_m (2 ^ i + 0) m = 1 ∧ cq_cl N m (2 ^ j + (2 ^ i + 0))) 1 = _
      rw [cq_m_j (by omega) hp, cq_m_0, Nat.add_zero]
      unfold cq_e
      by_cases h : (N i).testBit j = true
      · rw [if_pos h, cq_if_t ⟨rfl, (cq_cl2 hG hm (by omega) hj).mpr h⟩]
      · rw [if_neg h, cq_if_f (fun z => h ((cq_cl2 hG hm (by omega) hj).mp z.2))]
    · intro u h0 hu
      show cq_if (cq_m (2 ^ i + u) m = 1 ∧ _) 1 = 0
      apply cq_if_f
      intro z
      rw [cq_m_j (by omega) hu] at z
      have hu2 : u < 2 ^ m := Nat.lt_trans hu (Nat.pow_lt_pow_right (by decide) (by omega))
      have := cq_m_z hu2 (by omega)
      omega
theorem cq_A {m : Nat} {N : Nat → Nat} (hG : cq_G m N) (hm : m ≤ 9) (j : Nat) (hj : j ≤ m) : cq_S (fun s => cq_if (cq_m s m = 2 ∧ cq_cl N m s) 1) (2 ^ j) = cq_E N j := by
  induction j with
  | zero =>
    show 0 + cq_if (cq_m 0 m = 2 ∧ cq_cl N m 0) 1 = 0
    rw [cq_if_f (by rw [cq_m_0]; intro z; exact absurd z.1 (by decide))]
  | succ j ih =>
    rw [Nat.pow_succ, Nat.mul_two, cq_S_add, ih (by omega)]
    show _ = cq_E N j + cq_S (fun p => cq_e N p j) j
    congr 1
    rw [← cq_B hG hm (by omega) j (Nat.le_refl _)]
    apply cq_S_c
    intro t ht
    apply cq_if_c
    rw [cq_m_j (by omega) ht]
    constructor
    · intro z; exact ⟨by omega, z.2⟩
    · intro z; exact ⟨by omega, z.2⟩
theorem cq_pairs {m : Nat} {N : Nat → Nat} (hG : cq_G m N) (hm : m ≤ 9) : cq_S (fun k => cq_e N (k / 9) (k % 9)) 81 = 2 * cq_S (fun s => cq_if (cq_m s m = 2 ∧ cq_cl N m s) 1) (2 ^ m) := by
  rw [cq_A hG hm m (Nat.le_refl _), ← cq_E9 hG hm, ← cq_D hG 9 (Nat.le_refl _), show 81 = 9 * 9 from rfl, cq_S9]
  apply cq_S_c
  intro p hp
  apply cq_S_c
  intro q hq
  show cq_e N ((p * 9 + q) / 9) ((p * 9 + q) % 9) = cq_e N p q
  rw [show (p * 9 + q) / 9 = p by omega, show (p * 9 + q) % 9 = q by omega]
