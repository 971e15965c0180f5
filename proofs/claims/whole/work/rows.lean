section
/-! pasted from kit/rows -/
theorem pk_us {f : Nat → Int32} {k : Nat} {x : Int32} : upd f k x k = x := if_pos rfl
theorem pk_un {f : Nat → Int32} {k j : Nat} {x : Int32} (h : j ≠ k) : upd f k x j = f j := if_neg h
theorem pk_sub {a b : Nat} (h : b ≤ a) : nI a - nI b = nI (a - b) := by
  obtain ⟨c, rfl⟩ : ∃ c, a = c + b := ⟨a - b, by omega⟩
  rw [← nI_add, Int32.add_sub_cancel, Nat.add_sub_cancel]
theorem pk_m1 (n : Nat) : nI (n + 1) + (-1) = nI n := by
  rw [← nI_1, Int32.add_assoc, show (1 : Int32) + (-1) = 0 from rfl, Int32.add_zero]
theorem pk_mul (a b : Nat) : nI a * nI b = nI (a * b) := (Int32.ofNat_mul a b).symm
theorem pk_div {a d : Nat} (ha : a < 2 ^ 31) (h0 : 0 < d) (hd : d < 2 ^ 31) : nI a / nI d = nI (a / d) := by
  apply Int32.toInt_inj.mp
  rw [lg_idiv_nonneg (by rw [nI_toInt ha]; omega) (by rw [nI_toInt hd]; omega), nI_toInt ha, nI_toInt hd, nI_toInt (Nat.lt_of_le_of_lt (Nat.div_le_self a d) ha)]
  first | rfl | exact (Int.natCast_ediv _ _).symm
theorem pk_rem {a d : Nat} (ha : a < 2 ^ 31) (h0 : 0 < d) (hd : d < 2 ^ 31) : nI a - nI a / nI d * nI d = nI (a % d) := by
  rw [pk_div ha h0 hd, pk_mul, pk_sub (Nat.div_mul_le_self a d)]
  exact congrArg nI (by have := Nat.div_add_mod' a d; omega)
theorem pk_ix (x : Int32) {n : Nat} (hn : n < 2 ^ 31) : x < 0 ∨ nI n ≤ x ∨ ∃ j : Nat, j < n ∧ x = nI j := by
  by_cases h : x < 0
  · exact Or.inl h
  · obtain ⟨j, hj, rfl⟩ := nI_of h
    by_cases h2 : j < n
    · exact Or.inr (Or.inr ⟨j, h2, rfl⟩)
    · exact Or.inr (Or.inl (nI_le (by omega) hj))
theorem pk_le {x y : Int32} {A B : Prop} (a b : Nat) (f : a ≤ b → A) (g : b < a → B) (hx : x = nI a := by rfl) (hy : y = nI b := by rfl) (ha : a < 2 ^ 31 := by omega) (hb : b < 2 ^ 31 := by omega) : (x ≤ y → A) ∧ (¬ x ≤ y → B) := by
  subst hx hy
  rw [nI_leI ha hb]
  exact ⟨f, fun z => g (by omega)⟩
theorem pk_lt {x y : Int32} {A B : Prop} (a b : Nat) (f : a < b → A) (g : b ≤ a → B) (hx : x = nI a := by rfl) (hy : y = nI b := by rfl) (ha : a < 2 ^ 31 := by omega) (hb : b < 2 ^ 31 := by omega) : (x < y → A) ∧ (¬ x < y → B) := by
  subst hx hy
  rw [nI_ltI ha hb]
  exact ⟨f, fun z => g (by omega)⟩
theorem pk_eq {x y : Int32} {A B : Prop} (a b : Nat) (f : a = b → A) (g : a ≠ b → B) (hx : x = nI a := by rfl) (hy : y = nI b := by rfl) (ha : a < 2 ^ 31 := by omega) (hb : b < 2 ^ 31 := by omega) : (x = y → A) ∧ (¬ x = y → B) := by
  subst hx hy
  rw [nI_eq ha hb]
  exact ⟨f, g⟩
theorem pk_in {x : Int32} (n N : Nat) (h : n < N) (hx : x = nI n := by rfl) (hN : N < 2 ^ 31 := by omega) : vp_in x N := by
  subst hx
  exact vp_in_nI h hN
theorem pk_cl {x : Int32} (n : Nat) (hx : x = nI n := by rfl) (h : n < 2 ^ 31 := by omega) : x.toNatClampNeg = n := by
  subst hx
  exact nI_clamp h
theorem pk_tn {n : Nat} (h : n < 2 ^ 32) : (nI n).toBitVec.toNat = n := Nat.mod_eq_of_lt h
theorem pk_shl (a s : Int32) (k : Nat) (hs : (s.toBitVec.smod 32).toNat = k) : (a <<< s).toBitVec.toNat = a.toBitVec.toNat * 2 ^ k % 2 ^ 32 := by
  show (a.toBitVec <<< (s.toBitVec.smod 32).toNat).toNat = _
  rw [hs, BitVec.toNat_shiftLeft, Nat.shiftLeft_eq]
theorem pk_shlN {n : Nat} (s : Int32) (k : Nat) (hs : (s.toBitVec.smod 32).toNat = k) (h : n * 2 ^ k < 2 ^ 32) : nI n <<< s = nI (n * 2 ^ k) := by
  apply Int32.toBitVec_inj.mp
  apply BitVec.eq_of_toNat_eq
  have hn : n < 2 ^ 32 := Nat.lt_of_le_of_lt (Nat.le_mul_of_pos_right n (Nat.two_pow_pos k)) h
  rw [pk_shl _ _ k hs, pk_tn hn, pk_tn h, Nat.mod_eq_of_lt h]
theorem pk_shr (a s : Int32) (k : Nat) (hs : (s.toBitVec.smod 32).toNat = k) : (a >>> s).toInt = a.toInt >>> k := by
  show (a.toBitVec.sshiftRight (s.toBitVec.smod 32).toNat).toInt = _
  rw [hs, BitVec.toInt_sshiftRight]
  rfl
theorem pk_shrN {n : Nat} (h : n < 2 ^ 31) (s : Int32) (k : Nat) (hs : (s.toBitVec.smod 32).toNat = k) : nI n >>> s = nI (n / 2 ^ k) := by
  apply Int32.toInt_inj.mp
  have h2 : n / 2 ^ k ≤ n := Nat.div_le_self _ _
  rw [pk_shr _ _ k hs, nI_toInt h, nI_toInt (by omega), Int.shiftRight_eq_div_pow]
  rfl
theorem s_l : ∀ n, n < 32 → ((nI n &&& 31).toBitVec.smod 32).toNat = n := by decide +kernel
theorem nx_and (a b : Nat) : nI a &&& nI b = nI (a &&& b) := by
  apply Int32.toBitVec_inj.1
  show BitVec.ofNat 32 a &&& BitVec.ofNat 32 b = BitVec.ofNat 32 (a &&& b)
  apply BitVec.eq_of_getLsbD_eq
  intro i hi
  simp [hi]
theorem nx_xor (a b : Nat) : nI a ^^^ nI b = nI (a ^^^ b) := by
  apply Int32.toBitVec_inj.1
  show BitVec.ofNat 32 a ^^^ BitVec.ofNat 32 b = BitVec.ofNat 32 (a ^^^ b)
  apply BitVec.eq_of_getLsbD_eq
  intro i hi
  simp [hi]
end
section
/-! sums and indicators over naturals -/
def cq_S (f : Nat → Nat) : Nat → Nat
  | 0 => 0
  | m + 1 => cq_S f m + f m
theorem cq_S_c {f g : Nat → Nat} {m : Nat} (h : ∀ i, i < m → f i = g i) : cq_S f m = cq_S g m := by
  induction m with
  | zero => rfl
  | succ m ih =>
    show cq_S f m + f m = cq_S g m + g m
    rw [ih (fun i hi => h i (by omega)), h m (by omega)]
theorem cq_S_le {f g : Nat → Nat} {m : Nat} (h : ∀ i, i < m → f i ≤ g i) : cq_S f m ≤ cq_S g m := by
  induction m with
  | zero => exact Nat.le_refl _
  | succ m ih => exact Nat.add_le_add (ih (fun i hi => h i (by omega))) (h m (by omega))
theorem cq_S_0 {f : Nat → Nat} {m : Nat} (h : ∀ i, i < m → f i = 0) : cq_S f m = 0 := by
  induction m with
  | zero => rfl
  | succ m ih =>
    show cq_S f m + f m = 0
    rw [ih (fun i hi => h i (by omega)), h m (by omega)]
theorem cq_S_add (f : Nat → Nat) (a b : Nat) : cq_S f (a + b) = cq_S f a + cq_S (fun i => f (a + i)) b := by
  induction b with
  | zero => rfl
  | succ b ih =>
    show cq_S f (a + b) + f (a + b) = cq_S f a + (cq_S (fun i => f (a + i)) b + f (a + b))
    rw [ih, Nat.add_assoc]
theorem cq_S_plus (f g : Nat → Nat) (m : Nat) : cq_S (fun i => f i + g i) m = cq_S f m + cq_S g m := by
  induction m with
  | zero => rfl
  | succ m ih =>
    show cq_S (fun i => f i + g i) m + (f m + g m) = (cq_S f m + f m) + (cq_S g m + g m)
    rw [ih]
    omega
theorem cq_S_mul (k : Nat) (f : Nat → Nat) (m : Nat) : cq_S (fun i => k * f i) m = k * cq_S f m := by
  induction m with
  | zero => rfl
  | succ m ih =>
    show cq_S (fun i => k * f i) m + k * f m = k * (cq_S f m + f m)
    rw [ih, Nat.mul_add]
theorem cq_S_pos {f : Nat → Nat} {m i : Nat} (hi : i < m) (h : 0 < f i) : 0 < cq_S f m := by
  induction m with
  | zero => omega
  | succ m ih =>
    show 0 < cq_S f m + f m
    rcases Nat.lt_or_ge i m with z | z
    · have := ih z
      omega
    · have e : i = m := by omega
      rw [e] at h
      omega
theorem cq_S_ex {f : Nat → Nat} {m : Nat} (h : 0 < cq_S f m) : ∃ i, i < m ∧ 0 < f i := by
  induction m with
  | zero => exact absurd h (Nat.lt_irrefl 0)
  | succ m ih =>
    have h' : 0 < cq_S f m + f m := h
    rcases Nat.eq_zero_or_pos (f m) with z | z
    · obtain ⟨i, hi, hf⟩ := ih (by omega)
      exact ⟨i, by omega, hf⟩
    · exact ⟨m, by omega, z⟩
noncomputable def cq_if (P : Prop) (a : Nat) : Nat := @ite Nat P (Classical.propDecidable P) a 0
theorem cq_if_t {P : Prop} (h : P) (a : Nat) : cq_if P a = a := @if_pos P (Classical.propDecidable P) h Nat a 0
theorem cq_if_f {P : Prop} (h : ¬ P) (a : Nat) : cq_if P a = 0 := @if_neg P (Classical.propDecidable P) h Nat a 0
theorem cq_if_c {P Q : Prop} (h : P ↔ Q) (a : Nat) : cq_if P a = cq_if Q a := by rw [propext h]
/-! bits -/
theorem cq_sub {a s : Nat} : a &&& s = a ↔ ∀ i, a.testBit i = true → s.testBit i = true := by
  constructor
  · intro h i hi
    have e := congrArg (fun x => Nat.testBit x i) h
    simp only [Nat.testBit_and, hi, Bool.true_and] at e
    exact e
  · intro h
    apply Nat.eq_of_testBit_eq
    intro i
    rw [Nat.testBit_and]
    cases ha : a.testBit i
    · rfl
    · rw [h i ha]; rfl
theorem cq_or_add (x : Nat) : ∀ y, x &&& y = 0 → x ||| y = x + y := by
  induction x using Nat.strongRecOn with
  | ind x ih =>
    intro y h
    by_cases hx : x = 0
    · rw [hx, Nat.zero_or, Nat.zero_add]
    · have h1 : x / 2 &&& y / 2 = 0 := by rw [← Nat.and_div_two, h]
      have h2 := ih (x / 2) (by omega) (y / 2) h1
      rw [← Nat.or_div_two] at h2
      have h3 : ¬ (x % 2 = 1 ∧ y % 2 = 1) := by rw [← Nat.and_mod_two_eq_one, h]; decide
      have h4 : (x ||| y) % 2 = 1 ↔ x % 2 = 1 ∨ y % 2 = 1 := Nat.or_mod_two_eq_one
      generalize x ||| y = z at h2 h4 ⊢
      omega
theorem cq_sub_le {a s : Nat} (h : a &&& s = a) : a ≤ s := Nat.le_of_testBit (cq_sub.mp h)
/-- taking a part away: by minus, by xor -/
theorem cq_minus {a s : Nat} (h : a &&& s = a) : s - a = s ^^^ a := by
  have e : (s ^^^ a) + a = s := by
    have d : (s ^^^ a) &&& a = 0 := by
      apply Nat.eq_of_testBit_eq
      intro i
      rw [Nat.testBit_and, Nat.testBit_xor, Nat.zero_testBit]
      cases ha : a.testBit i
      · simp
      · simp [cq_sub.mp h i ha]
    have o : (s ^^^ a) ||| a = s := by
      apply Nat.eq_of_testBit_eq
      intro i
      rw [Nat.testBit_or, Nat.testBit_xor]
      cases ha : a.testBit i
      · simp
      · simp [cq_sub.mp h i ha]
    rw [← cq_or_add _ _ d, o]
  omega
theorem cq_bj {j t : Nat} (ht : t < 2 ^ j) (i : Nat) : (2 ^ j + t).testBit i = (decide (j = i) || t.testBit i) := by
  have e : 2 ^ j + t = 2 ^ j ||| t := by
    have := Nat.two_pow_add_eq_or_of_lt ht 1
    rwa [Nat.mul_one] at this
  rw [e, Nat.testBit_or, Nat.testBit_two_pow]
theorem cq_bhi {m t i : Nat} (ht : t < 2 ^ m) (hi : m ≤ i) : t.testBit i = false :=
  Nat.testBit_lt_two_pow (Nat.lt_of_lt_of_le ht (Nat.pow_le_pow_right (by decide) hi))
/-! members, weight -/
def cq_m (s m : Nat) : Nat := cq_S (fun p => if s.testBit p = true then 1 else 0) m
def cq_w (w : Nat → Nat) (s m : Nat) : Nat := cq_S (fun p => if s.testBit p = true then w p else 0) m
theorem cq_m_0 (m : Nat) : cq_m 0 m = 0 := cq_S_0 (fun i _ => by simp)
theorem cq_S_one (j m : Nat) : cq_S (fun p => if j = p then 1 else 0) m = if j < m then 1 else 0 := by
  induction m with
  | zero => simp [cq_S]
  | succ m ih =>
    show cq_S (fun p => if j = p then 1 else 0) m + (if j = m then 1 else 0) = _
    rw [ih]
    split <;> split <;> split <;> omega
theorem cq_m_j {j t m : Nat} (hj : j < m) (ht : t < 2 ^ j) : cq_m (2 ^ j + t) m = 1 + cq_m t m := by
  have e : cq_m (2 ^ j + t) m = cq_S (fun p => (if j = p then 1 else 0) + (if t.testBit p = true then 1 else 0)) m := by
    apply cq_S_c
    intro p _
    show (if (2 ^ j + t).testBit p = true then 1 else 0) = _
    rw [cq_bj ht]
    by_cases h : j = p
    · have h2 : t.testBit p = false := by rw [← h]; exact cq_bhi ht (Nat.le_refl _)
      simp [h, h2]
    · simp [h]
  rw [e, cq_S_plus, cq_S_one, if_pos hj]
  rfl
theorem cq_m_le (s m : Nat) : cq_m s m ≤ m := by
  unfold cq_m
  induction m with
  | zero => exact Nat.le_refl _
  | succ m ih =>
    show cq_S _ m + (if s.testBit m = true then 1 else 0) ≤ m + 1
    have : (if s.testBit m = true then 1 else 0) ≤ 1 := by split <;> omega
    omega
theorem cq_m_z {u m : Nat} (hu : u < 2 ^ m) (h : cq_m u m = 0) : u = 0 := by
  apply Classical.byContradiction
  intro hz
  obtain ⟨i, hi⟩ := Nat.exists_testBit_of_ne_zero hz
  have him : i < m := by
    rcases Nat.lt_or_ge i m with z | z
    · exact z
    · rw [cq_bhi hu z] at hi; exact absurd hi (by decide)
  have : 0 < cq_m u m := cq_S_pos him (by show 0 < (if u.testBit i = true then 1 else 0); rw [if_pos hi]; decide)
  omega
/-! the graph: N p is the set of the points joined with p -/
def cq_G (m : Nat) (N : Nat → Nat) : Prop := (∀ p, p < 9 → N p < 2 ^ m) ∧ (∀ p q, p < 9 → q < 9 → (N p).testBit q = (N q).testBit p) ∧ (∀ p, p < 9 → (N p).testBit p = false)
def cq_cl (N : Nat → Nat) (m s : Nat) : Prop := ∀ p q, p < m → q < m → p ≠ q → s.testBit p = true → s.testBit q = true → (N p).testBit q = true
def cq_in (N : Nat → Nat) (m s : Nat) : Prop := ∀ p q, p < m → q < m → s.testBit p = true → s.testBit q = true → (N p).testBit q = false
def cq_e (N : Nat → Nat) (p q : Nat) : Nat := if (N p).testBit q = true then 1 else 0
/-! pairs, counted twice -/
def cq_E (N : Nat → Nat) (M : Nat) : Nat := cq_S (fun q => cq_S (fun p => cq_e N p q) q) M
theorem cq_D {m : Nat} {N : Nat → Nat} (hG : cq_G m N) (M : Nat) (hM : M ≤ 9) : cq_S (fun p => cq_S (fun q => cq_e N p q) M) M = 2 * cq_E N M := by
  induction M with
  | zero => rfl
  | succ M ih =>
    have h1 : cq_S (fun p => cq_S (fun q => cq_e N p q) (M + 1)) (M + 1) = cq_S (fun p => cq_S (fun q => cq_e N p q) M + cq_e N p M) M + (cq_S (fun q => cq_e N M q) M + cq_e N M M) := rfl
    have h2 : cq_E N (M + 1) = cq_E N M + cq_S (fun p => cq_e N p M) M := rfl
    have h3 : cq_S (fun q => cq_e N M q) M = cq_S (fun p => cq_e N p M) M := cq_S_c (fun i hi => by unfold cq_e; rw [hG.2.1 M i (by omega) (by omega)])
    have h4 : cq_e N M M = 0 := by unfold cq_e; rw [hG.2.2 M (by omega)]; rfl
    rw [h1, h2, cq_S_plus, ih (by omega), h3, h4]
    omega
theorem cq_S9 (f : Nat → Nat) (a : Nat) : cq_S f (a * 9) = cq_S (fun p => cq_S (fun q => f (p * 9 + q)) 9) a := by
  induction a with
  | zero => rfl
  | succ a ih =>
    rw [Nat.succ_mul, cq_S_add, ih]
    rfl
theorem cq_E9 {m : Nat} {N : Nat → Nat} (hG : cq_G m N) (hm : m ≤ 9) : cq_E N 9 = cq_E N m := by
  have e : cq_E N 9 = cq_E N (m + (9 - m)) := by rw [show m + (9 - m) = 9 by omega]
  rw [e]
  unfold cq_E
  rw [cq_S_add, cq_S_0 (f := fun i => cq_S (fun p => cq_e N p (m + i)) (m + i))]
  · rfl
  · intro i hi
    apply cq_S_0
    intro p hp
    unfold cq_e
    rw [cq_bhi (hG.1 p (by omega)) (by omega)]
    rfl
theorem cq_S_first {f : Nat → Nat} {M : Nat} (hM : 0 < M) (h : ∀ u, 0 < u → u < M → f u = 0) : cq_S f M = f 0 := by
  obtain ⟨d, rfl⟩ : ∃ d, M = 1 + d := ⟨M - 1, by omega⟩
  rw [cq_S_add, cq_S_0 (f := fun i => f (1 + i)) (fun i hi => h (1 + i) (by omega) (by omega))]
  show 0 + f 0 + 0 = f 0
  omega
theorem cq_cl2 {m i j : Nat} {N : Nat → Nat} (hG : cq_G m N) (hm : m ≤ 9) (hij : i < j) (hj : j < m) : cq_cl N m (2 ^ j + 2 ^ i) ↔ (N i).testBit j = true := by
  have hb : ∀ p, (2 ^ j + 2 ^ i).testBit p = (decide (j = p) || decide (i = p)) := fun p => by
    rw [cq_bj (Nat.pow_lt_pow_right (by decide) hij), Nat.testBit_two_pow]
  constructor
  · intro h
    exact h i j (by omega) hj (by omega) (by rw [hb]; simp) (by rw [hb]; simp)
  · intro h p q hp hq hpq bp bq
    rw [hb] at bp bq
    simp only [Bool.or_eq_true, decide_eq_true_eq] at bp bq
    rcases bp with rfl | rfl
    · rcases bq with rfl | rfl
      · exact absurd rfl hpq
      · rw [hG.2.1 _ _ (by omega) (by omega)]; exact h
    · rcases bq with rfl | rfl
      · exact h
      · exact absurd rfl hpq
theorem cq_B {m : Nat} {N : Nat → Nat} (hG : cq_G m N) (hm : m ≤ 9) {j : Nat} (hj : j < m) (i : Nat) (hi : i ≤ j) : cq_S (fun t => cq_if (cq_m t m = 1 ∧ cq_cl N m (2 ^ j + t)) 1) (2 ^ i) = cq_S (fun p => cq_e N p j) i := by
  induction i with
  | zero =>
    show 0 + cq_if (cq_m 0 m = 1 ∧ cq_cl N m (2 ^ j + 0)) 1 = 0
    rw [cq_if_f (by rw [cq_m_0]; intro z; exact absurd z.1 (by decide))]
  | succ i ih =>
    have hp : 0 < 2 ^ i := Nat.pow_pos (by decide)
    rw [Nat.pow_succ, Nat.mul_two, cq_S_add, ih (by omega)]
    show _ = cq_S (fun p => cq_e N p j) i + cq_e N i j
    congr 1
    rw [cq_S_first hp]
    · show cq_if (cq_m (2 ^ i + 0) m = 1 ∧ cq_cl N m (2 ^ j + (2 ^ i + 0))) 1 = _
      rw [cq_m_j (by omega) hp, cq_m_0, Nat.add_zero]
      unfold cq_e
      by_cases h : (N i).testBit j = true
      · rw [if_pos h, cq_if_t ⟨rfl, (cq_cl2 hG hm (by omega) hj).mpr h⟩]
      · rw [if_neg h, cq_if_f (fun z => h ((cq_cl2 hG hm (by omega) hj).mp z.2))]
    · intro u h0 hu
      show cq_if (cq_m (2 ^ i + u) m = 1 ∧ _) 1 = 0
      apply cq_if_f
      intro z
      rw [cq_m_j (by omega) hu] at z
      have hu2 : u < 2 ^ m := Nat.lt_trans hu (Nat.pow_lt_pow_right (by decide) (by omega))
      have := cq_m_z hu2 (by omega)
      omega
theorem cq_A {m : Nat} {N : Nat → Nat} (hG : cq_G m N) (hm : m ≤ 9) (j : Nat) (hj : j ≤ m) : cq_S (fun s => cq_if (cq_m s m = 2 ∧ cq_cl N m s) 1) (2 ^ j) = cq_E N j := by
  induction j with
  | zero =>
    show 0 + cq_if (cq_m 0 m = 2 ∧ cq_cl N m 0) 1 = 0
    rw [cq_if_f (by rw [cq_m_0]; intro z; exact absurd z.1 (by decide))]
  | succ j ih =>
    rw [Nat.pow_succ, Nat.mul_two, cq_S_add, ih (by omega)]
    show _ = cq_E N j + cq_S (fun p => cq_e N p j) j
    congr 1
    rw [← cq_B hG hm (by omega) j (Nat.le_refl _)]
    apply cq_S_c
    intro t ht
    apply cq_if_c
    rw [cq_m_j (by omega) ht]
    constructor
    · intro z; exact ⟨by omega, z.2⟩
    · intro z; exact ⟨by omega, z.2⟩
theorem cq_pairs {m : Nat} {N : Nat → Nat} (hG : cq_G m N) (hm : m ≤ 9) : cq_S (fun k => cq_e N (k / 9) (k % 9)) 81 = 2 * cq_S (fun s => cq_if (cq_m s m = 2 ∧ cq_cl N m s) 1) (2 ^ m) := by
  rw [cq_A hG hm m (Nat.le_refl _), ← cq_E9 hG hm, ← cq_D hG 9 (Nat.le_refl _), show 81 = 9 * 9 from rfl, cq_S9]
  apply cq_S_c
  intro p hp
  apply cq_S_c
  intro q hq
  show cq_e N ((p * 9 + q) / 9) ((p * 9 + q) % 9) = cq_e N p q
  rw [show (p * 9 + q) / 9 = p by omega, show (p * 9 + q) % 9 = q by omega]
end
section
/-! colourings, counted: cq_N F k s, k colours, each part satisfies F -/
noncomputable def cq_N (F : Nat → Prop) : Nat → Nat → Nat
  | 0 => fun s => if s = 0 then 1 else 0
  | k + 1 => fun s => cq_S (fun a => cq_if (a &&& s = a ∧ F a) (cq_N F k (s ^^^ a))) (s + 1)
theorem cq_N_0 (F : Nat → Prop) (s : Nat) : cq_N F 0 s = if s = 0 then 1 else 0 := rfl
theorem cq_N_s (F : Nat → Prop) (k s : Nat) : cq_N F (k + 1) s = cq_S (fun a => cq_if (a &&& s = a ∧ F a) (cq_N F k (s ^^^ a))) (s + 1) := rfl
theorem cq_N_pos {F : Nat → Prop} {k s : Nat} : 0 < cq_N F (k + 1) s ↔ ∃ a, a &&& s = a ∧ F a ∧ 0 < cq_N F k (s ^^^ a) := by
  rw [cq_N_s]
  constructor
  · intro h
    obtain ⟨a, _, h2⟩ := cq_S_ex h
    by_cases z : a &&& s = a ∧ F a
    · rw [cq_if_t z] at h2
      exact ⟨a, z.1, z.2, h2⟩
    · rw [cq_if_f z] at h2
      exact absurd h2 (Nat.lt_irrefl 0)
  · intro h
    obtain ⟨a, h1, h2, h3⟩ := h
    have := cq_sub_le h1
    exact cq_S_pos (i := a) (by omega) (by rw [cq_if_t ⟨h1, h2⟩]; exact h3)
/-- xor with a part -/
theorem cq_xb {a s : Nat} (h : a &&& s = a) (i : Nat) : (s ^^^ a).testBit i = (s.testBit i && !a.testBit i) := by
  rw [Nat.testBit_xor]
  cases ha : a.testBit i
  · simp
  · rw [cq_sub.mp h i ha]; rfl
/-! the bound: at most k to the number of members -/
theorem cq_T {m : Nat} (k : Nat) (j : Nat) (hj : j ≤ m) : ∀ s, s < 2 ^ j → cq_S (fun a => cq_if (a &&& s = a) (k ^ cq_m (s ^^^ a) m)) (2 ^ j) = (k + 1) ^ cq_m s m := by
  induction j with
  | zero =>
    intro s hs
    have e : s = 0 := by simpa using hs
    rw [e, cq_m_0]
    show 0 + cq_if (0 &&& 0 = 0) (k ^ cq_m (0 ^^^ 0) m) = 1
    rw [cq_if_t (by rfl), show (0 ^^^ 0 : Nat) = 0 from rfl, cq_m_0]
    rfl
  | succ j ih =>
    intro s hs
    have hp : 0 < 2 ^ j := Nat.pow_pos (by decide)
    rw [Nat.pow_succ, Nat.mul_two] at hs
    rw [Nat.pow_succ, Nat.mul_two, cq_S_add]
    rcases Nat.lt_or_ge s (2 ^ j) with z | z
    · rw [ih (by omega) s z, cq_S_0, Nat.add_zero]
      intro u hu
      apply cq_if_f
      intro h
      have h1 := cq_sub.mp h j (by rw [cq_bj hu]; simp)
      rw [cq_bhi z (Nat.le_refl _)] at h1
      exact absurd h1 (by decide)
    · obtain ⟨t, rfl⟩ : ∃ t, s = 2 ^ j + t := ⟨s - 2 ^ j, by omega⟩
      have ht : t < 2 ^ j := by omega
      have e1 : cq_S (fun a => cq_if (a &&& (2 ^ j + t) = a) (k ^ cq_m ((2 ^ j + t) ^^^ a) m)) (2 ^ j) = k * (k + 1) ^ cq_m t m := by
        rw [← ih (by omega) t ht, ← cq_S_mul]
        apply cq_S_c
        intro a ha
        have x1 : a &&& (2 ^ j + t) = a ↔ a &&& t = a := by
          rw [cq_sub, cq_sub]
          constructor
          · intro h i hi
            have h1 := h i hi
            rw [cq_bj ht] at h1
            have hij : ¬ j = i := by
              intro e
              rw [← e, cq_bhi ha (Nat.le_refl _)] at hi
              exact absurd hi (by decide)
            simpa [hij] using h1
          · intro h i hi
            rw [cq_bj ht, h i hi]; simp
        have x2 : (2 ^ j + t) ^^^ a = 2 ^ j + (t ^^^ a) := by
          apply Nat.eq_of_testBit_eq
          intro i
          rw [Nat.testBit_xor, cq_bj ht, cq_bj (Nat.xor_lt_two_pow ht ha), Nat.testBit_xor]
          by_cases hij : j = i
          · rw [← hij, cq_bhi ht (Nat.le_refl _), cq_bhi ha (Nat.le_refl _)]; simp
          · simp [hij]
        by_cases c : a &&& t = a
        · rw [cq_if_t c, cq_if_t (x1.mpr c), x2, cq_m_j (by omega) (Nat.xor_lt_two_pow ht ha), Nat.add_comm 1, Nat.pow_succ, Nat.mul_comm]
        · rw [cq_if_f c, cq_if_f (fun z => c (x1.mp z)), Nat.mul_zero]
      have e2 : cq_S (fun u => cq_if ((2 ^ j + u) &&& (2 ^ j + t) = 2 ^ j + u) (k ^ cq_m ((2 ^ j + t) ^^^ (2 ^ j + u)) m)) (2 ^ j) = (k + 1) ^ cq_m t m := by
        rw [← ih (by omega) t ht]
        apply cq_S_c
        intro u hu
        have x1 : (2 ^ j + u) &&& (2 ^ j + t) = 2 ^ j + u ↔ u &&& t = u := by
          rw [cq_sub, cq_sub]
          constructor
          · intro h i hi
            have h1 := h i (by rw [cq_bj hu, hi]; simp)
            rw [cq_bj ht] at h1
            have hij : ¬ j = i := by
              intro e
              rw [← e, cq_bhi hu (Nat.le_refl _)] at hi
              exact absurd hi (by decide)
            simpa [hij] using h1
          · intro h i hi
            rw [cq_bj hu] at hi
            rw [cq_bj ht]
            by_cases hij : j = i
            · simp [hij]
            · have hi2 : u.testBit i = true := by simpa [hij] using hi
              rw [h i hi2]; simp
        have x2 : (2 ^ j + t) ^^^ (2 ^ j + u) = t ^^^ u := by
          apply Nat.eq_of_testBit_eq
          intro i
          rw [Nat.testBit_xor, cq_bj ht, cq_bj hu, Nat.testBit_xor]
          by_cases hij : j = i
          · rw [← hij, cq_bhi ht (Nat.le_refl _), cq_bhi hu (Nat.le_refl _)]; simp
          · simp [hij]
        rw [cq_if_c x1, x2]
      rw [e1, e2, cq_m_j (by omega) ht, Nat.add_comm 1, Nat.pow_succ, Nat.mul_comm, Nat.mul_succ]
theorem cq_N_le {F : Nat → Prop} {m : Nat} (k : Nat) : ∀ s, s < 2 ^ m → cq_N F k s ≤ k ^ cq_m s m := by
  induction k with
  | zero =>
    intro s _
    rw [cq_N_0]
    by_cases h : s = 0
    · rw [if_pos h, h, cq_m_0]; decide
    · rw [if_neg h]; exact Nat.zero_le _
  | succ k ih =>
    intro s hs
    rw [cq_N_s, ← cq_T k m (Nat.le_refl _) s hs]
    have h1 : cq_S (fun a => cq_if (a &&& s = a ∧ F a) (cq_N F k (s ^^^ a))) (s + 1) ≤ cq_S (fun a => cq_if (a &&& s = a) (k ^ cq_m (s ^^^ a) m)) (s + 1) := by
      apply cq_S_le
      intro a ha
      by_cases c : a &&& s = a
      · rw [cq_if_t c]
        by_cases d : F a
        · rw [cq_if_t ⟨c, d⟩]
          exact ih _ (Nat.xor_lt_two_pow hs (by omega))
        · rw [cq_if_f (fun z => d z.2)]; exact Nat.zero_le _
      · rw [cq_if_f (fun z => c z.1)]; exact Nat.zero_le _
    have h2 : cq_S (fun a => cq_if (a &&& s = a) (k ^ cq_m (s ^^^ a) m)) (s + 1 + (2 ^ m - (s + 1))) = cq_S (fun a => cq_if (a &&& s = a) (k ^ cq_m (s ^^^ a) m)) (s + 1) + _ := cq_S_add _ _ _
    rw [show s + 1 + (2 ^ m - (s + 1)) = 2 ^ m by omega] at h2
    omega
theorem cq_N_lt {F : Nat → Prop} {m k s : Nat} (hm : m ≤ 9) (hk : k ≤ 9) (hs : s < 2 ^ m) : cq_N F k s < 2 ^ 31 := by
  have h1 := cq_N_le (F := F) k s hs
  have h2 : k ^ cq_m s m ≤ 9 ^ cq_m s m := Nat.pow_le_pow_left hk _
  have h3 : 9 ^ cq_m s m ≤ 9 ^ 9 := Nat.pow_le_pow_right (by decide) (Nat.le_trans (cq_m_le s m) hm)
  have h4 : 9 ^ 9 < 2 ^ 31 := by decide
  omega
/-! as many colours as points are enough -/
theorem cq_N_all {F : Nat → Prop} (h0 : F 0) {m : Nat} (h1 : ∀ j, j < m → F (2 ^ j)) (j : Nat) (hj : j ≤ m) : ∀ s, s < 2 ^ j → 0 < cq_N F j s := by
  induction j with
  | zero =>
    intro s hs
    have e : s = 0 := by simpa using hs
    rw [cq_N_0, if_pos e]; decide
  | succ j ih =>
    intro s hs
    rw [Nat.pow_succ, Nat.mul_two] at hs
    rw [cq_N_pos]
    rcases Nat.lt_or_ge s (2 ^ j) with z | z
    · exact ⟨0, Nat.zero_and s, h0, by rw [Nat.xor_zero]; exact ih (by omega) s z⟩
    · obtain ⟨t, rfl⟩ : ∃ t, s = 2 ^ j + t := ⟨s - 2 ^ j, by omega⟩
      have ht : t < 2 ^ j := by omega
      have x1 : 2 ^ j &&& (2 ^ j + t) = 2 ^ j := by
        rw [cq_sub]
        intro i hi
        rw [Nat.testBit_two_pow] at hi
        rw [cq_bj ht, hi]; rfl
      have x2 : (2 ^ j + t) ^^^ 2 ^ j = t := by rw [← cq_minus x1]; omega
      exact ⟨2 ^ j, x1, h1 j (by omega), by rw [x2]; exact ih (by omega) t ht⟩
/-! the same colour for the members of T -/
theorem cq_N_out {F : Nat → Prop} {T : Nat} (k : Nat) : ∀ s, s &&& T = 0 → cq_N (fun a => (a &&& T = 0 ∨ a &&& T = T) ∧ F a) k s = cq_N F k s := by
  induction k with
  | zero => intro s _; rfl
  | succ k ih =>
    intro s hs
    have hd : ∀ a, a &&& s = a → a &&& T = 0 := by
      intro a ha
      rw [← ha, Nat.and_assoc, hs, Nat.and_zero]
    rw [cq_N_s, cq_N_s]
    apply cq_S_c
    intro a _
    by_cases c : a &&& s = a
    · have hx : (s ^^^ a) &&& T = 0 := by rw [Nat.and_xor_distrib_right, hs, hd a c]; rfl
      by_cases d : F a
      · rw [cq_if_t ⟨c, Or.inl (hd a c), d⟩, cq_if_t ⟨c, d⟩, ih _ hx]
      · rw [cq_if_f (fun z => d z.2.2), cq_if_f (fun z => d z.2)]
    · rw [cq_if_f (fun z => c z.1), cq_if_f (fun z => c z.1)]
theorem cq_x3 {a b s : Nat} : s ^^^ a ^^^ b = s ^^^ b ^^^ a := by rw [Nat.xor_assoc, Nat.xor_comm a, ← Nat.xor_assoc]
theorem cq_alike {F : Nat → Prop} {T : Nat} (hT : T ≠ 0) (k : Nat) : ∀ s, s &&& T = T → (0 < cq_N (fun a => (a &&& T = 0 ∨ a &&& T = T) ∧ F a) k s ↔ ∃ k', k = k' + 1 ∧ ∃ a, a &&& s = a ∧ a &&& T = T ∧ F a ∧ 0 < cq_N F k' (s ^^^ a)) := by
  induction k with
  | zero =>
    intro s hs
    have : s ≠ 0 := by
      intro e
      rw [e, Nat.zero_and] at hs
      exact hT hs.symm
    rw [cq_N_0, if_neg this]
    constructor
    · intro h; exact absurd h (Nat.lt_irrefl 0)
    · intro h; obtain ⟨k', e, _⟩ := h; omega
  | succ k ih =>
    intro s hs
    rw [cq_N_pos]
    constructor
    · intro h
      obtain ⟨a, h1, h2, h3⟩ := h
      refine ⟨k, rfl, ?_⟩
      rcases h2 with ⟨h2 | h2, h4⟩
      · have hx : (s ^^^ a) &&& T = T := by rw [Nat.and_xor_distrib_right, hs, h2, Nat.xor_zero]
        obtain ⟨k', rfl, b, b1, b2, b3, b4⟩ := (ih _ hx).mp h3
        have c1 : b &&& s = b := by
          rw [cq_sub]
          intro i hi
          have := cq_sub.mp b1 i hi
          rw [cq_xb h1] at this
          simp only [Bool.and_eq_true] at this
          exact this.1
        have c2 : a &&& (s ^^^ b) = a := by
          rw [cq_sub]
          intro i hi
          rw [cq_xb c1, cq_sub.mp h1 i hi]
          cases hb : b.testBit i
          · rfl
          · have := cq_sub.mp b1 i hb
            rw [cq_xb h1, hi] at this
            simp at this
        exact ⟨b, c1, b2, b3, cq_N_pos.mpr ⟨a, c2, h4, by rw [cq_x3]; exact b4⟩⟩
      · have hx : (s ^^^ a) &&& T = 0 := by rw [Nat.and_xor_distrib_right, hs, h2, Nat.xor_self]
        rw [cq_N_out k _ hx] at h3
        exact ⟨a, h1, h2, h4, h3⟩
    · intro h
      obtain ⟨k', e, a, h1, h2, h3, h4⟩ := h
      have e' : k' = k := by omega
      rw [e'] at h4
      have hx : (s ^^^ a) &&& T = 0 := by rw [Nat.and_xor_distrib_right, hs, h2, Nat.xor_self]
      exact ⟨a, h1, ⟨Or.inr h2, h3⟩, by rw [cq_N_out k _ hx]; exact h4⟩
end
section
/-! bits of Int32 by naturals -/
theorem cq_or (a b : Nat) : nI a ||| nI b = nI (a ||| b) := by
  apply Int32.toBitVec_inj.1
  show BitVec.ofNat 32 a ||| BitVec.ofNat 32 b = BitVec.ofNat 32 (a ||| b)
  apply BitVec.eq_of_getLsbD_eq
  intro i hi
  simp [hi]
theorem cq_sh {p : Nat} (hp : p < 31) : (1 : Int32) <<< (nI p &&& 31) = nI (2 ^ p) := by
  have h : 1 * 2 ^ p < 2 ^ 32 := by
    rw [Nat.one_mul]; exact Nat.pow_lt_pow_right (by decide) (by omega)
  have e := pk_shlN (n := 1) (nI p &&& 31) p (s_l p (by omega)) h
  rw [Nat.one_mul] at e
  exact e
theorem cq_p9 {m : Nat} (hm : m ≤ 9) : 2 ^ m ≤ 512 := Nat.le_trans (Nat.pow_le_pow_right (by decide) hm) (by decide)
theorem cq_p0 (m : Nat) : 0 < 2 ^ m := Nat.pow_pos (by decide)
theorem cq_bit {s p : Nat} (hs : s < 2 ^ 31) (hp : p < 32) : (nI s >>> (nI p &&& 31)) &&& 1 = nI (s.testBit p).toNat := by
  rw [pk_shrN hs _ p (s_l p hp)]
  show nI (s / 2 ^ p) &&& nI 1 = _
  rw [nx_and, Nat.and_one_is_mod, Nat.testBit_eq_decide_div_mod_eq]
  congr 1
  have h : s / 2 ^ p % 2 < 2 := Nat.mod_lt _ (by decide)
  generalize s / 2 ^ p % 2 = z at h ⊢
  rcases (show z = 0 ∨ z = 1 by omega) with rfl | rfl <;> rfl
def cq_del (a p : Nat) : Nat := a &&& (2 ^ p ^^^ (2 ^ 32 - 1))
theorem cq_m1 : (-1 : Int32) = nI (2 ^ 32 - 1) := by decide +kernel
theorem cq_del_e (a : Nat) {p : Nat} (hp : p < 31) : nI a &&& (((1 : Int32) <<< (nI p &&& 31)) ^^^ (-1)) = nI (cq_del a p) := by
  rw [cq_sh hp, cq_m1, nx_xor, nx_and]
  rfl
theorem cq_del_b {a p i : Nat} (ha : a < 2 ^ 31) : (cq_del a p).testBit i = (a.testBit i && !decide (p = i)) := by
  unfold cq_del
  rw [Nat.testBit_and, Nat.testBit_xor, Nat.testBit_two_pow, Nat.testBit_two_pow_sub_one]
  rcases Nat.lt_or_ge i 32 with h | h
  · simp [h]
  · rw [cq_bhi (m := 31) ha (by omega)]; simp
theorem cq_del_le (a p : Nat) : cq_del a p ≤ a := Nat.and_le_left
theorem cq_ix (x : Int32) (n : Nat) : x < 0 ∨ (∃ j : Nat, n ≤ j ∧ j < 2 ^ 31 ∧ x = nI j) ∨ ∃ j : Nat, j < n ∧ x = nI j := by
  by_cases h : x < 0
  · exact Or.inl h
  · obtain ⟨j, hj, rfl⟩ := nI_of h
    by_cases h2 : j < n
    · exact Or.inr (Or.inr ⟨j, h2, rfl⟩)
    · exact Or.inr (Or.inl ⟨j, by omega, hj, rfl⟩)
theorem cq_t9 (p q : Nat) : nI p * 9 + nI q = nI (p * 9 + q) := by
  rw [show (9 : Int32) = nI 9 from rfl, pk_mul, nI_add]
theorem cq_lt_bit {m s q : Nat} (hs : s < 2 ^ m) (h : s.testBit q = true) : q < m := by
  rcases Nat.lt_or_ge q m with z | z
  · exact z
  · rw [cq_bhi hs z] at h; exact absurd h (by decide)
theorem cq_nb {m s i : Nat} {N : Nat → Nat} (hm : m ≤ 9) (hs : s < 2 ^ m) : N i &&& cq_del s i = cq_del s i ↔ ∀ q, q < m → i ≠ q → s.testBit q = true → (N i).testBit q = true := by
  have h9 := cq_p9 hm
  rw [Nat.and_comm, cq_sub]
  constructor
  · intro h q _ hiq hb
    exact h q (by rw [cq_del_b (by omega), hb, decide_eq_false hiq]; rfl)
  · intro h q hq
    rw [cq_del_b (by omega)] at hq
    simp only [Bool.and_eq_true, Bool.not_eq_true', decide_eq_false_iff_not] at hq
    exact h q (cq_lt_bit hs hq.1) hq.2 hq.1
theorem cq_n0 {m s i : Nat} {N : Nat → Nat} (hs : s < 2 ^ m) : N i &&& s = 0 ↔ ∀ q, q < m → s.testBit q = true → (N i).testBit q = false := by
  constructor
  · intro h q _ hb
    have e := congrArg (fun x => Nat.testBit x q) h
    simp only [Nat.testBit_and, hb, Bool.and_true, Nat.zero_testBit] at e
    exact e
  · intro h
    apply Nat.eq_of_testBit_eq
    intro q
    rw [Nat.testBit_and, Nat.zero_testBit]
    cases hb : s.testBit q
    · rw [Bool.and_false]
    · rw [h q (cq_lt_bit hs hb) hb]; rfl
/-! 'even', as the reference has it -/
def cq_ev (N : Nat → Nat) (m s : Nat) (b : Bool) : Prop := ∀ p q, q < p → p < m → s.testBit p = true → s.testBit q = true → (N p).testBit q = b
theorem cq_ev_t {m : Nat} {N : Nat → Nat} (hm : m ≤ 9) (hG : cq_G m N) (s : Nat) : cq_ev N m s true ↔ cq_cl N m s := by
  constructor
  · intro h p q hp hq hpq bp bq
    rcases Nat.lt_or_ge q p with z | z
    · exact h p q z hp bp bq
    · rw [hG.2.1 p q (by omega) (by omega)]
      exact h q p (by omega) hq bq bp
  · intro h p q hqp hp bp bq
    exact h p q hp (by omega) (by omega) bp bq
theorem cq_ev_f {m : Nat} {N : Nat → Nat} (hm : m ≤ 9) (hG : cq_G m N) (s : Nat) : cq_ev N m s false ↔ cq_in N m s := by
  constructor
  · intro h p q hp hq bp bq
    rcases Nat.lt_trichotomy q p with z | z | z
    · exact h p q z hp bp bq
    · rw [z]; exact hG.2.2 p (by omega)
    · rw [hG.2.1 p q (by omega) (by omega)]
      exact h q p z hq bq bp
  · intro h p q hqp hp bp bq
    exact h p q hp (by omega) bp bq
/-! full cliques -/
def cq_fu (N : Nat → Nat) (m s : Nat) : Prop := (∀ p, p < m → ¬ N p &&& s = s) ∧ cq_cl N m s
theorem cq_fu_y {m s : Nat} {N : Nat → Nat} (hm : m ≤ 9) (hG : cq_G m N) (hs : s < 2 ^ m) (hc : cq_cl N m s) : cq_fu N m s ↔ ∀ p, p < m → s.testBit p = false → ¬ cq_cl N m (s ||| 2 ^ p) := by
  have hb : ∀ p i, (s ||| 2 ^ p).testBit i = (s.testBit i || decide (p = i)) := fun p i => by rw [Nat.testBit_or, Nat.testBit_two_pow]
  constructor
  · intro h p hp bp hcl
    apply h.1 p hp
    rw [Nat.and_comm, cq_sub]
    intro i hi
    have him := cq_lt_bit hs hi
    refine hcl p i hp him ?_ (by rw [hb]; simp) (by rw [hb, hi]; rfl)
    intro e
    rw [e, hi] at bp
    exact absurd bp (by decide)
  · intro h
    refine ⟨fun p hp e => ?_, hc⟩
    rw [Nat.and_comm, cq_sub] at e
    have bp : s.testBit p = false := by
      cases z : s.testBit p
      · rfl
      · have := e p z
        rw [hG.2.2 p (by omega)] at this
        exact absurd this (by decide)
    apply h p hp bp
    intro a b ha hb' hab ba bb
    rw [hb] at ba bb
    simp only [Bool.or_eq_true, decide_eq_true_eq] at ba bb
    rcases ba with ba | ba
    · rcases bb with bb | bb
      · exact hc a b ha hb' hab ba bb
      · rw [← bb, hG.2.1 a p (by omega) (by omega)]
        exact e a ba
    · rcases bb with bb | bb
      · rw [← ba]; exact e b bb
      · exact absurd (ba.symm.trans bb) hab
end
section
/-! the component's readers -/
section
variable {m : Nat} {N w : Nat → Nat} {an aw ao ax : Nat → Int32}
theorem cq_hX {post : Int32 → Prop} {s p : Nat} (hs : s < 2 ^ 31) (hp : p < 32) (h1 : s.testBit p = true → post 1) (h0 : s.testBit p = false → post 0) : wpX_holds post (nI s) (nI p) := by
  unfold wpX_holds
  rw [cq_bit hs hp]
  cases hb : s.testBit p
  · exact br_t (by decide) (h0 hb)
  · exact br_f (by decide) (h1 hb)
theorem cq_allX (hm : m ≤ 9) (hN : ∀ p, p < 9 → an p = nI (N p)) {s : Nat} (hs : s < 2 ^ m) {post : Int32 → Prop} (h1 : cq_cl N m s → post 1) (h0 : ¬ cq_cl N m s → post 0) : wpX_allJoined post (nI m, nI (2 ^ m - 1), an, aw, ao, ax) (nI s) := by
  have h9 := cq_p9 hm
  refine loop_0 (σ := Unit) (fun n i _ => wX_allJoined_2 post (nI s) (nI m) (nI (2 ^ m - 1)) an aw ao ax n (nI i)) (fun i _ => ∀ p q, p < i → q < m → p ≠ q → s.testBit p = true → s.testBit q = true → (N p).testBit q = true) m () ?_ ?_ ?_
  · intro p q hp
    omega
  · intro n _ I
    exact br_t (Int32.le_refl _) (h1 I)
  · intro n i _ hi I ih
    refine br_f (nI_ge hi (by omega)) (nm_r (cq_del_e s (by omega)) ?_)
    refine cq_hX (by omega) (by omega) (fun hb => ?_) (fun hb => ?_)
    · refine br_f (by decide) ⟨vp_in_nI (by omega) (by decide), ?_⟩
      have hd := cq_del_le s i
      have ha : N i &&& cq_del s i ≤ cq_del s i := Nat.and_le_right
      rw [nI_clamp (by omega), hN i (by omega), nx_and]
      refine pk_eq (N i &&& cq_del s i) (cq_del s i) (fun h => ?_) (fun h => ?_)
      · refine nm_r (nI_1 i) (ih () ?_)
        intro p q hp hq hpq bp bq
        rcases Nat.lt_or_ge p i with z | z
        · exact I p q z hq hpq bp bq
        · have e : p = i := by omega
          rw [e] at hpq ⊢
          exact (cq_nb hm hs).mp h q hq hpq bq
      · exact h0 (fun hc => h ((cq_nb hm hs).mpr (fun q hq hiq bq => hc i q hi hq hiq hb bq)))
    · refine br_t rfl (nm_r (nI_1 i) (ih () ?_))
      intro p q hp hq hpq bp bq
      rcases Nat.lt_or_ge p i with z | z
      · exact I p q z hq hpq bp bq
      · have e : p = i := by omega
        rw [e, hb] at bp
        exact absurd bp (by decide)
theorem cq_noneX (hm : m ≤ 9) (hN : ∀ p, p < 9 → an p = nI (N p)) {s : Nat} (hs : s < 2 ^ m) {post : Int32 → Prop} (h1 : cq_in N m s → post 1) (h0 : ¬ cq_in N m s → post 0) : wpX_noneJoined post (nI m, nI (2 ^ m - 1), an, aw, ao, ax) (nI s) := by
  have h9 := cq_p9 hm
  refine loop_0 (σ := Unit) (fun n i _ => wX_noneJoined_2 post (nI s) (nI m) (nI (2 ^ m - 1)) an aw ao ax n (nI i)) (fun i _ => ∀ p q, p < i → q < m → s.testBit p = true → s.testBit q = true → (N p).testBit q = false) m () ?_ ?_ ?_
  · intro p q hp
    omega
  · intro n _ I
    exact br_t (Int32.le_refl _) (h1 I)
  · intro n i _ hi I ih
    refine br_f (nI_ge hi (by omega)) ?_
    refine cq_hX (by omega) (by omega) (fun hb => ?_) (fun hb => ?_)
    · refine br_f (by decide) ⟨vp_in_nI (by omega) (by decide), ?_⟩
      have ha : N i &&& s ≤ s := Nat.and_le_right
      rw [nI_clamp (by omega), hN i (by omega), nx_and]
      refine pk_eq (N i &&& s) 0 (fun h => ?_) (fun h => ?_)
      · refine nm_r (nI_1 i) (ih () ?_)
        intro p q hp hq bp bq
        rcases Nat.lt_or_ge p i with z | z
        · exact I p q z hq bp bq
        · have e : p = i := by omega
          rw [e]
          exact (cq_n0 hs).mp h q hq bq
      · exact h0 (fun hc => h ((cq_n0 hs).mpr (fun q hq bq => hc i q hi hq hb bq)))
    · refine br_t rfl (nm_r (nI_1 i) (ih () ?_))
      intro p q hp hq bp bq
      rcases Nat.lt_or_ge p i with z | z
      · exact I p q z hq bp bq
      · have e : p = i := by omega
        rw [e, hb] at bp
        exact absurd bp (by decide)
theorem cq_fullX (hm : m ≤ 9) (hN : ∀ p, p < 9 → an p = nI (N p)) {s : Nat} (hs : s < 2 ^ m) {post : Int32 → Prop} (h1 : cq_fu N m s → post 1) (h0 : ¬ cq_fu N m s → post 0) : wpX_isFull post (nI m, nI (2 ^ m - 1), an, aw, ao, ax) (nI s) := by
  have h9 := cq_p9 hm
  refine loop_0 (σ := Unit) (fun n i _ => wX_isFull_2 post (nI s) (nI m) (nI (2 ^ m - 1)) an aw ao ax n (nI i)) (fun i _ => ∀ p, p < i → ¬ N p &&& s = s) m () ?_ ?_ ?_
  · intro p hp
    omega
  · intro n _ I
    refine br_t (Int32.le_refl _) ?_
    exact cq_allX hm hN hs (fun hc => ⟨rfl, h1 ⟨I, hc⟩⟩) (fun hc => ⟨rfl, h0 (fun z => hc z.2)⟩)
  · intro n i _ hi I ih
    refine br_f (nI_ge hi (by omega)) ⟨vp_in_nI (by omega) (by decide), ?_⟩
    have ha : N i &&& s ≤ s := Nat.and_le_right
    rw [nI_clamp (by omega), hN i (by omega), nx_and]
    refine pk_eq (N i &&& s) s (fun h => ?_) (fun h => ?_)
    · exact h0 (fun z => z.1 i hi h)
    · refine nm_r (nI_1 i) (ih () ?_)
      intro p hp
      rcases Nat.lt_or_ge p i with z | z
      · exact I p z
      · have e : p = i := by omega
        rw [e]
        exact h
theorem cq_memX (hm : m ≤ 9) {s : Nat} (hs : s < 2 ^ m) {post : Int32 → Prop} (h : post (nI (cq_m s m))) : wpX_membersOf post (nI m, nI (2 ^ m - 1), an, aw, ao, ax) (nI s) := by
  have h9 := cq_p9 hm
  refine loop_0 (fun n i a => wX_membersOf_4 post (nI s) (nI m) (nI (2 ^ m - 1)) an aw ao ax n (nI a) (nI i)) (fun i a => a = cq_m s i) m 0 rfl ?_ ?_
  · intro n a ha
    refine br_t (Int32.le_refl _) ?_
    rw [ha]; exact h
  · intro n i a hi ha ih
    have hn : cq_m s (i + 1) = cq_m s i + (if s.testBit i = true then 1 else 0) := rfl
    refine br_f (nI_ge hi (by omega)) ?_
    refine cq_hX (by omega) (by omega) (fun hb => ?_) (fun hb => ?_)
    · exact br_f (by decide) (nm_r (nI_1 a) (nm_r (nI_1 i) (ih (a + 1) (by rw [hn, hb, ha]; rfl))))
    · exact br_t rfl (nm_r (nI_1 i) (ih a (by rw [hn, hb, ha]; rfl)))
theorem cq_weiX (hm : m ≤ 9) (hw : ∀ p, p < 9 → aw p = nI (w p)) {s : Nat} (hs : s < 2 ^ m) {post : Int32 → Prop} (h : post (nI (cq_w w s m))) : wpX_weightOf post (nI m, nI (2 ^ m - 1), an, aw, ao, ax) (nI s) := by
  have h9 := cq_p9 hm
  refine loop_0 (fun n i a => wX_weightOf_4 post (nI s) (nI m) (nI (2 ^ m - 1)) an aw ao ax n (nI a) (nI i)) (fun i a => a = cq_w w s i) m 0 rfl ?_ ?_
  · intro n a ha
    refine br_t (Int32.le_refl _) ?_
    rw [ha]; exact h
  · intro n i a hi ha ih
    have hn : cq_w w s (i + 1) = cq_w w s i + (if s.testBit i = true then w i else 0) := rfl
    refine br_f (nI_ge hi (by omega)) ?_
    refine cq_hX (by omega) (by omega) (fun hb => ?_) (fun hb => ?_)
    · refine br_f (by decide) ⟨vp_in_nI (by omega) (by decide), ?_⟩
      rw [nI_clamp (by omega), hw i (by omega), nI_add]
      exact nm_e (nm_r (nI_1 i) (ih (a + w i) (by rw [hn, hb, ha]; rfl)))
    · exact br_t rfl (nm_r (nI_1 i) (ih a (by rw [hn, hb, ha]; rfl)))
theorem cq_w_le (h : ∀ p, p < 9 → w p ≤ 20) (s : Nat) (hm : m ≤ 9) : cq_w w s m ≤ 20 * m := by
  unfold cq_w
  induction m with
  | zero => exact Nat.le_refl _
  | succ i ih =>
    have h1 := ih (by omega)
    have h2 := h i (by omega)
    show cq_S _ i + (if s.testBit i = true then w i else 0) ≤ 20 * (i + 1)
    have h3 : (if s.testBit i = true then w i else 0) ≤ 20 := by split <;> omega
    omega
theorem cq_gpX {post : Int32 → Prop} {p : Nat} (hm : m ≤ 9) (hp : p < m) (h : post 1) : wpX_isGoodPoint post (nI m, nI (2 ^ m - 1), an, aw, ao, ax) (nI p) := br_f (nI_pos (by omega)) (br_f (nI_ge hp (by omega)) h)
theorem cq_bpX {post : Int32 → Prop} {x : Int32} (hx : x < 0 ∨ ∃ j : Nat, m ≤ j ∧ j < 2 ^ 31 ∧ x = nI j) (h : post 0) : wpX_isGoodPoint post (nI m, nI (2 ^ m - 1), an, aw, ao, ax) x := by
  rcases hx with hx | ⟨j, h1, h2, rfl⟩
  · exact br_t hx h
  · exact br_f (nI_pos h2) (br_t (nI_le h1 h2) h)
theorem cq_gsX {post : Int32 → Prop} {s : Nat} (hm : m ≤ 9) (hs : s < 2 ^ m) (h : post 1) : wpX_isGoodSet post (nI m, nI (2 ^ m - 1), an, aw, ao, ax) (nI s) := by
  have h9 := cq_p9 hm
  exact br_f (nI_pos (by omega)) (br_f (nI_nlt (by omega) (by omega)) h)
theorem cq_bsX {post : Int32 → Prop} {x : Int32} (hx : x < 0 ∨ ∃ j : Nat, 2 ^ m ≤ j ∧ j < 2 ^ 31 ∧ x = nI j) (h : post 0) : wpX_isGoodSet post (nI m, nI (2 ^ m - 1), an, aw, ao, ax) x := by
  have h0 := cq_p0 m
  rcases hx with hx | ⟨j, h1, h2, rfl⟩
  · exact br_t hx h
  · exact br_f (nI_pos h2) (br_t (nI_lt (by omega) h2) h)
end
end
section
/-! the reference's readers -/
section
variable {m : Nat} {N w : Nat → Nat} {tt tw tx tp ta : Nat → Int32}
theorem cq_hY {post : Int32 → Prop} {v : SY} {s p : Nat} (hs : s < 2 ^ 31) (hp : p < 32) (h1 : s.testBit p = true → post 1) (h0 : s.testBit p = false → post 0) : wpY_holds post v (nI s) (nI p) := by
  obtain ⟨_, _, _, _, _, _⟩ := v
  show ((((nI s >>> (nI p &&& 31)) &&& 1) = 1 → (post 1)) ∧ (¬ ((nI s >>> (nI p &&& 31)) &&& 1) = 1 → (post 0)))
  rw [cq_bit hs hp]
  cases hb : s.testBit p
  · exact br_f (by decide) (h0 hb)
  · exact br_t (by decide) (h1 hb)
theorem cq_beq (a b : Bool) : nI a.toNat = nI b.toNat ↔ a = b := by
  cases a <;> cases b <;> decide
theorem cq_evY (hm : m ≤ 9) (hT : ∀ p q, p < 9 → q < 9 → tt (p * 9 + q) = nI ((N p).testBit q).toNat) {s : Nat} (hs : s < 2 ^ 31) (b : Bool) {post : Int32 → Prop} (h1 : cq_ev N m s b → post 1) (h0 : ¬ cq_ev N m s b → post 0) : wpY_even post (nI m, tt, tw, tx, tp, ta) (nI s) (nI b.toNat) := by
  refine loop_0 (σ := Unit) (fun n i _ => wY_even_2 post (nI s) (nI b.toNat) (nI m) tt tw tx tp ta n (nI i)) (fun i _ => ∀ p q, q < p → p < i → s.testBit p = true → s.testBit q = true → (N p).testBit q = b) m () ?_ ?_ ?_
  · intro p q hqp hp
    omega
  · intro n _ I
    exact br_t (Int32.le_refl _) (h1 I)
  · intro n i _ hi I ih
    refine br_f (nI_ge hi (by omega)) ?_
    refine loop_0 (σ := Unit) (fun n' j _ => wY_even_13 post (wY_even_2 post (nI s) (nI b.toNat) (nI m) tt tw tx tp ta n) (nI s) (nI b.toNat) (nI i) (nI m) tt tw tx tp ta n' (nI j)) (fun j _ => ∀ q, q < j → s.testBit i = true → s.testBit q = true → (N i).testBit q = b) i () ?_ ?_ ?_
    · intro q hq
      omega
    · intro n' _ I2
      refine br_t (Int32.le_refl _) (nm_r (nI_1 i) (ih () ?_))
      intro p q hqp hp bp bq
      rcases Nat.lt_or_ge p i with z | z
      · exact I p q hqp z bp bq
      · have e : p = i := by omega
        rw [e] at hqp bp ⊢
        exact I2 q hqp bp bq
    · intro n' j _ hj I2 ih2
      refine br_f (nI_ge hj (by omega)) ?_
      refine cq_hY hs (by omega) (fun hb => ?_) (fun hb => ?_)
      · refine br_f (by decide) ?_
        refine cq_hY hs (by omega) (fun hc => ?_) (fun hc => ?_)
        · refine br_f (by decide) ?_
          rw [cq_t9, nI_clamp (by omega), hT i j (by omega) (by omega)]
          refine ⟨vp_in_nI (by omega) (by decide), br_c (fun h => ?_) (fun h => ?_)⟩
          · refine nm_r (nI_1 j) (ih2 () ?_)
            intro q hq bi bq
            rcases Nat.lt_or_ge q j with z | z
            · exact I2 q z bi bq
            · have e : q = j := by omega
              rw [e]
              exact (cq_beq _ _).mp h
          · exact h0 (fun z => h ((cq_beq _ _).mpr (z i j hj hi hb hc)))
        · refine br_t rfl (nm_r (nI_1 j) (ih2 () ?_))
          intro q hq bi bq
          rcases Nat.lt_or_ge q j with z | z
          · exact I2 q z bi bq
          · have e : q = j := by omega
            rw [e, hc] at bq
            exact absurd bq (by decide)
      · refine br_t rfl (nm_r (nI_1 j) (ih2 () ?_))
        intro q hq bi bq
        rw [hb] at bi
        exact absurd bi (by decide)
theorem cq_clY (hm : m ≤ 9) (hG : cq_G m N) (hT : ∀ p q, p < 9 → q < 9 → tt (p * 9 + q) = nI ((N p).testBit q).toNat) {s : Nat} (hs : s < 2 ^ m) {post : Int32 → Prop} (h1 : cq_cl N m s → post 1) (h0 : ¬ cq_cl N m s → post 0) : wpY_even post (nI m, tt, tw, tx, tp, ta) (nI s) 1 := by
  have h9 := cq_p9 hm
  exact cq_evY hm hT (by omega) true (fun z => h1 ((cq_ev_t hm hG s).mp z)) (fun z => h0 (fun y => z ((cq_ev_t hm hG s).mpr y)))
theorem cq_inY (hm : m ≤ 9) (hG : cq_G m N) (hT : ∀ p q, p < 9 → q < 9 → tt (p * 9 + q) = nI ((N p).testBit q).toNat) {s : Nat} (hs : s < 2 ^ m) {post : Int32 → Prop} (h1 : cq_in N m s → post 1) (h0 : ¬ cq_in N m s → post 0) : wpY_even post (nI m, tt, tw, tx, tp, ta) (nI s) 0 := by
  have h9 := cq_p9 hm
  exact cq_evY hm hT (by omega) false (fun z => h1 ((cq_ev_f hm hG s).mp z)) (fun z => h0 (fun y => z ((cq_ev_f hm hG s).mpr y)))
theorem cq_memY (hm : m ≤ 9) {s : Nat} (hs : s < 2 ^ m) {post : Int32 → Prop} (h : post (nI (cq_m s m))) : wpY_members post (nI m, tt, tw, tx, tp, ta) (nI s) := by
  have h9 := cq_p9 hm
  refine loop_0 (fun n i a => wY_members_4 post (nI s) (nI m) tt tw tx tp ta n (nI a) (nI i)) (fun i a => a = cq_m s i) m 0 rfl ?_ ?_
  · intro n a ha
    refine br_t (Int32.le_refl _) ?_
    rw [ha]; exact h
  · intro n i a hi ha ih
    have hn : cq_m s (i + 1) = cq_m s i + (if s.testBit i = true then 1 else 0) := rfl
    refine br_f (nI_ge hi (by omega)) ?_
    refine cq_hY (by omega) (by omega) (fun hb => ?_) (fun hb => ?_)
    · exact br_f (by decide) (nm_r (nI_1 a) (nm_r (nI_1 i) (ih (a + 1) (by rw [hn, hb, ha]; rfl))))
    · exact br_t rfl (nm_r (nI_1 i) (ih a (by rw [hn, hb, ha]; rfl)))
theorem cq_weiY (hm : m ≤ 9) (hw : ∀ p, p < 9 → tw p = nI (w p)) {s : Nat} (hs : s < 2 ^ m) {post : Int32 → Prop} (h : post (nI (cq_w w s m))) : wpY_heavy post (nI m, tt, tw, tx, tp, ta) (nI s) := by
  have h9 := cq_p9 hm
  refine loop_0 (fun n i a => wY_heavy_4 post (nI s) (nI m) tt tw tx tp ta n (nI a) (nI i)) (fun i a => a = cq_w w s i) m 0 rfl ?_ ?_
  · intro n a ha
    refine br_t (Int32.le_refl _) ?_
    rw [ha]; exact h
  · intro n i a hi ha ih
    have hn : cq_w w s (i + 1) = cq_w w s i + (if s.testBit i = true then w i else 0) := rfl
    refine br_f (nI_ge hi (by omega)) ?_
    refine cq_hY (by omega) (by omega) (fun hb => ?_) (fun hb => ?_)
    · refine br_f (by decide) ⟨vp_in_nI (by omega) (by decide), ?_⟩
      rw [nI_clamp (by omega), hw i (by omega), nI_add]
      exact nm_e (nm_r (nI_1 i) (ih (a + w i) (by rw [hn, hb, ha]; rfl)))
    · exact br_t rfl (nm_r (nI_1 i) (ih a (by rw [hn, hb, ha]; rfl)))
theorem cq_or_lt {s p : Nat} (hs : s < 2 ^ m) (hp : p < m) : s ||| 2 ^ p < 2 ^ m := Nat.or_lt_two_pow hs (Nat.pow_lt_pow_right (by decide) hp)
theorem cq_fullY (hm : m ≤ 9) (hG : cq_G m N) (hT : ∀ p q, p < 9 → q < 9 → tt (p * 9 + q) = nI ((N p).testBit q).toNat) {s : Nat} (hs : s < 2 ^ m) {post : Int32 → Prop} (h1 : cq_fu N m s → post 1) (h0 : ¬ cq_fu N m s → post 0) : wpY_isFull post (nI m, tt, tw, tx, tp, ta) (nI s) := by
  have h9 := cq_p9 hm
  unfold wpY_isFull
  refine cq_clY hm hG hT hs (fun hc => ?_) (fun hc => ?_)
  · refine br_f (by decide) ?_
    refine loop_0 (σ := Unit) (fun n i _ => wY_isFull_13 post (nI s) (nI m) tt tw tx tp ta n (nI i)) (fun i _ => ∀ p, p < i → s.testBit p = false → ¬ cq_cl N m (s ||| 2 ^ p)) m () ?_ ?_ ?_
    · intro p hp
      omega
    · intro n _ I
      exact br_t (Int32.le_refl _) (h1 ((cq_fu_y hm hG hs hc).mpr I))
    · intro n i _ hi I ih
      refine br_f (nI_ge hi (by omega)) ?_
      refine cq_hY (by omega) (by omega) (fun hb => ?_) (fun hb => ?_)
      · refine br_f (by decide) (nm_r (nI_1 i) (ih () ?_))
        intro p hp bp
        rcases Nat.lt_or_ge p i with z | z
        · exact I p z bp
        · have e : p = i := by omega
          rw [e, hb] at bp
          exact absurd bp (by decide)
      · refine br_t rfl ?_
        rw [cq_sh (by omega), cq_or]
        refine cq_clY hm hG hT (cq_or_lt hs hi) (fun hd => ?_) (fun hd => ?_)
        · exact br_f (by decide) (h0 (fun z => (cq_fu_y hm hG hs hc).mp z i hi hb hd))
        · refine br_t rfl (nm_r (nI_1 i) (ih () ?_))
          intro p hp bp
          rcases Nat.lt_or_ge p i with z | z
          · exact I p z bp
          · have e : p = i := by omega
            rw [e]
            exact hd
  · exact br_t rfl (h0 (fun z => hc z.2))
theorem cq_gpY {post : Int32 → Prop} {p : Nat} (hm : m ≤ 9) (hp : p < m) (h : post 0) : wpY_bad post (nI m, tt, tw, tx, tp, ta) (nI p) := br_f (nI_pos (by omega)) (br_t (nI_lt hp (by omega)) h)
theorem cq_bpY {post : Int32 → Prop} {x : Int32} (hx : x < 0 ∨ ∃ j : Nat, m ≤ j ∧ j < 2 ^ 31 ∧ x = nI j) (h : post 1) : wpY_bad post (nI m, tt, tw, tx, tp, ta) x := by
  rcases hx with hx | ⟨j, h1, h2, rfl⟩
  · exact br_t hx h
  · exact br_f (nI_pos h2) (br_f (nI_nlt h1 h2) h)
theorem cq_gsY {post : Int32 → Prop} {s : Nat} (hm : m ≤ 9) (hs : s < 2 ^ m) (h : post 0) : wpY_badSet post (nI m, tt, tw, tx, tp, ta) (nI s) := by
  have h9 := cq_p9 hm
  unfold wpY_badSet
  dsimp only
  rw [cq_sh (by omega)]
  exact br_f (nI_pos (by omega)) (br_t (nI_lt hs (by omega)) h)
theorem cq_bsY {post : Int32 → Prop} {x : Int32} (hm : m ≤ 9) (hx : x < 0 ∨ ∃ j : Nat, 2 ^ m ≤ j ∧ j < 2 ^ 31 ∧ x = nI j) (h : post 1) : wpY_badSet post (nI m, tt, tw, tx, tp, ta) x := by
  unfold wpY_badSet
  dsimp only
  rw [cq_sh (by omega)]
  rcases hx with hx | ⟨j, h1, h2, rfl⟩
  · exact br_t hx h
  · exact br_f (nI_pos h2) (br_f (nI_nlt h1 h2) h)
end
end
section
/-! the relation; the questions about cliques -/
def cq_R (m : Nat) (N w : Nat → Nat) (an aw tt tw : Nat → Int32) : Prop := 2 ≤ m ∧ m ≤ 9 ∧ cq_G m N ∧ (∀ p, p < 9 → w p ≤ 20) ∧ (∀ p, p < 9 → an p = nI (N p)) ∧ (∀ p, p < 9 → aw p = nI (w p)) ∧ (∀ p q, p < 9 → q < 9 → tt (p * 9 + q) = nI ((N p).testBit q).toNat) ∧ (∀ p, p < 9 → tw p = nI (w p))
def i_Rel (_ : Nat) (u : SX) (v : SY) : Prop := ∃ (m : Nat) (N w : Nat → Nat) (an aw ao ax tt tw tx tp ta : Nat → Int32), cq_R m N w an aw tt tw ∧ u = (nI m, nI (2 ^ m - 1), an, aw, ao, ax) ∧ v = (nI m, tt, tw, tx, tp, ta)
theorem i_up {k : Nat} {u : SX} {v : SY} (h : i_Rel k u v) : i_Rel (k + 4) u v := h
theorem cq_mk {k m : Nat} {N w : Nat → Nat} {an aw ao ax tt tw tx tp ta : Nat → Int32} (h : cq_R m N w an aw tt tw) : i_Rel k (nI m, nI (2 ^ m - 1), an, aw, ao, ax) (nI m, tt, tw, tx, tp, ta) := ⟨m, N, w, an, aw, ao, ax, tt, tw, tx, tp, ta, h, rfl, rfl⟩
theorem cq_ix2 (x : Int32) (n : Nat) : (x < 0 ∨ ∃ j : Nat, n ≤ j ∧ j < 2 ^ 31 ∧ x = nI j) ∨ ∃ j : Nat, j < n ∧ x = nI j := by
  rcases cq_ix x n with h | h | h
  · exact Or.inl (Or.inl h)
  · exact Or.inl (Or.inr h)
  · exact Or.inr h
theorem cq_shle {m i : Nat} (hm : m ≤ 9) (h : 2 ^ m ≤ i) (hi : i < 2 ^ 31) : (1 : Int32) <<< (nI m &&& 31) ≤ nI i := by
  rw [cq_sh (by omega)]; exact nI_le h hi
theorem cq_shn {m i : Nat} (hm : m ≤ 9) (h : i < 2 ^ m) : ¬ (1 : Int32) <<< (nI m &&& 31) ≤ nI i := by
  have h9 := cq_p9 hm
  rw [cq_sh (by omega)]; exact nI_ge h (by omega)
theorem i_vc_points {k : Nat} {u : SX} {v : SY} (I : i_Rel k u v) (hk : k + 4 ≤ 2049) : wpX_points (fun r => wpY_points (fun r' => r' = r ∧ i_Rel (k + 4) u v) v) u := by
  have I' := i_up I
  obtain ⟨m, N, w, an, aw, ao, ax, tt, tw, tx, tp, ta, R, rfl, rfl⟩ := I
  exact ⟨rfl, I'⟩
theorem i_vc_isClique {k : Nat} {u : SX} {v : SY} (I : i_Rel k u v) (hk : k + 4 ≤ 2049) (v1 : Int32) : wpX_isClique (fun r => wpY_isClique (fun r' => r' = r ∧ i_Rel (k + 4) u v) v v1) u v1 := by
  have I' := i_up I
  obtain ⟨m, N, w, an, aw, ao, ax, tt, tw, tx, tp, ta, ⟨h2, hm, hG, hw, hN, hA, hT, hW⟩, rfl, rfl⟩ := I
  unfold wpX_isClique wpY_isClique
  dsimp only
  rcases cq_ix2 v1 (2 ^ m) with h | ⟨s, hs, rfl⟩
  · exact cq_bsX h (br_t rfl (cq_bsY hm h (br_f (by decide) ⟨rfl, I'⟩)))
  · refine cq_gsX hm hs (br_f (by decide) ?_)
    refine cq_allX hm hN hs (fun hc => br_f (by decide) ?_) (fun hc => br_t rfl ?_)
    · exact cq_gsY hm hs (br_t rfl (cq_clY hm hG hT hs (fun _ => br_f (by decide) ⟨rfl, I'⟩) (fun z => absurd hc z)))
    · exact cq_gsY hm hs (br_t rfl (cq_clY hm hG hT hs (fun z => absurd z hc) (fun _ => br_t rfl ⟨rfl, I'⟩)))
/-! joinedTo -/
theorem cq_modt {x i : Nat} (h : x.testBit i = true) : x % 2 ^ i ||| 2 ^ i = x % 2 ^ (i + 1) := by
  apply Nat.eq_of_testBit_eq
  intro j
  rw [Nat.testBit_or, Nat.testBit_mod_two_pow, Nat.testBit_two_pow, Nat.testBit_mod_two_pow]
  by_cases e : i = j
  · rw [← e, h]; simp
  · have : (j < i) ↔ (j < i + 1) := by omega
    simp [e, this]
theorem cq_modf {x i : Nat} (h : x.testBit i = false) : x % 2 ^ i = x % 2 ^ (i + 1) := by
  apply Nat.eq_of_testBit_eq
  intro j
  rw [Nat.testBit_mod_two_pow, Nat.testBit_mod_two_pow]
  by_cases e : i = j
  · rw [← e, h]; simp
  · have : (j < i) ↔ (j < i + 1) := by omega
    simp [this]
theorem cq_jtY {m : Nat} {N : Nat → Nat} {tt tw tx tp ta : Nat → Int32} (hm : m ≤ 9) (hT : ∀ p q, p < 9 → q < 9 → tt (p * 9 + q) = nI ((N p).testBit q).toNat) {p : Nat} (hp : p < 9) (hN : N p < 2 ^ m) {post : Int32 → Prop} (h : post (nI (N p))) : ∃ n, wY_joinedTo_14 post (nI p) (nI m) tt tw tx tp ta n 0 0 := by
  refine loop_0 (fun n i a => wY_joinedTo_14 post (nI p) (nI m) tt tw tx tp ta n (nI a) (nI i)) (fun i a => a = N p % 2 ^ i) m 0 ?_ ?_ ?_
  · rw [Nat.pow_zero, Nat.mod_one]
  · intro n a ha
    refine br_t (Int32.le_refl _) ?_
    rw [ha, Nat.mod_eq_of_lt hN]; exact h
  · intro n i a hi ha ih
    refine br_f (nI_ge hi (by omega)) ?_
    rw [cq_t9, nI_clamp (by omega), hT p i hp (by omega), cq_sh (by omega), cq_or]
    refine ⟨vp_in_nI (by omega) (by decide), ?_⟩
    cases hb : (N p).testBit i
    · exact br_t rfl (nm_r (nI_1 i) (ih a (by rw [ha, cq_modf hb])))
    · exact br_f (by decide) (nm_e (nm_r (nI_1 i) (ih (a ||| 2 ^ i) (by rw [ha, cq_modt hb]))))
theorem i_vc_joinedTo {k : Nat} {u : SX} {v : SY} (I : i_Rel k u v) (hk : k + 4 ≤ 2049) (v1 : Int32) : wpX_joinedTo (fun r => wpY_joinedTo (fun r' => r' = r ∧ i_Rel (k + 4) u v) v v1) u v1 := by
  have I' := i_up I
  obtain ⟨m, N, w, an, aw, ao, ax, tt, tw, tx, tp, ta, ⟨h2, hm, hG, hw, hN, hA, hT, hW⟩, rfl, rfl⟩ := I
  unfold wpX_joinedTo wpY_joinedTo
  dsimp only
  rcases cq_ix2 v1 m with h | ⟨p, hp, rfl⟩
  · exact cq_bpX h (br_t rfl (cq_bpY h (br_f (by decide) ⟨rfl, I'⟩)))
  · refine cq_gpX hm hp (br_f (by decide) ⟨vp_in_nI (by omega) (by decide), ?_⟩)
    refine cq_gpY hm hp (br_t rfl ?_)
    exact cq_jtY hm hT (by omega) (hG.1 p (by omega)) ⟨by rw [nI_clamp (by omega), hN p (by omega)], I'⟩
/-! counting full cliques, cliques -/
theorem cq_fcX {m : Nat} {N : Nat → Nat} {an aw ao ax : Nat → Int32} (hm : m ≤ 9) (hN : ∀ p, p < 9 → an p = nI (N p)) {post : Int32 → Prop} (h : post (nI (cq_S (fun s => cq_if (cq_fu N m s) 1) (2 ^ m)))) : wpX_fullCliques post (nI m, nI (2 ^ m - 1), an, aw, ao, ax) := by
  have h9 := cq_p9 hm
  have h0 := cq_p0 m
  refine loop_0 (fun n i a => wX_fullCliques_4 post (nI m) (nI (2 ^ m - 1)) an aw ao ax n (nI a) (nI i)) (fun i a => a = cq_S (fun s => cq_if (cq_fu N m s) 1) i) (2 ^ m) 0 rfl ?_ ?_
  · intro n a ha
    refine br_t (nI_lt (by omega) (by omega)) ?_
    rw [ha]; exact h
  · intro n i a hi ha ih
    have hn : cq_S (fun s => cq_if (cq_fu N m s) 1) (i + 1) = cq_S (fun s => cq_if (cq_fu N m s) 1) i + cq_if (cq_fu N m i) 1 := rfl
    refine br_f (nI_nlt (by omega) (by omega)) ?_
    refine cq_fullX hm hN hi (fun hb => ?_) (fun hb => ?_)
    · exact br_f (by decide) (nm_r (nI_1 a) (nm_r (nI_1 i) (ih (a + 1) (by rw [hn, cq_if_t hb, ha]))))
    · exact br_t rfl (nm_r (nI_1 i) (ih a (by rw [hn, cq_if_f hb, ha]; rfl)))
theorem cq_fcY {m : Nat} {N : Nat → Nat} {tt tw tx tp ta : Nat → Int32} (hm : m ≤ 9) (hG : cq_G m N) (hT : ∀ p q, p < 9 → q < 9 → tt (p * 9 + q) = nI ((N p).testBit q).toNat) {post : Int32 → Prop} (h : post (nI (cq_S (fun s => cq_if (cq_fu N m s) 1) (2 ^ m)))) : wpY_fullCliques post (nI m, tt, tw, tx, tp, ta) := by
  have h9 := cq_p9 hm
  refine loop_0 (fun n i a => wY_fullCliques_4 post (nI m) tt tw tx tp ta n (nI a) (nI i)) (fun i a => a = cq_S (fun s => cq_if (cq_fu N m s) 1) i) (2 ^ m) 0 rfl ?_ ?_
  · intro n a ha
    refine br_t (cq_shle hm (Nat.le_refl _) (by omega)) ?_
    rw [ha]; exact h
  · intro n i a hi ha ih
    have hn : cq_S (fun s => cq_if (cq_fu N m s) 1) (i + 1) = cq_S (fun s => cq_if (cq_fu N m s) 1) i + cq_if (cq_fu N m i) 1 := rfl
    refine br_f (cq_shn hm hi) ?_
    refine cq_fullY hm hG hT hi (fun hb => ?_) (fun hb => ?_)
    · exact br_f (by decide) (nm_r (nI_1 a) (nm_r (nI_1 i) (ih (a + 1) (by rw [hn, cq_if_t hb, ha]))))
    · exact br_t rfl (nm_r (nI_1 i) (ih a (by rw [hn, cq_if_f hb, ha]; rfl)))
theorem i_vc_fullCliques {k : Nat} {u : SX} {v : SY} (I : i_Rel k u v) (hk : k + 4 ≤ 2049) : wpX_fullCliques (fun r => wpY_fullCliques (fun r' => r' = r ∧ i_Rel (k + 4) u v) v) u := by
  have I' := i_up I
  obtain ⟨m, N, w, an, aw, ao, ax, tt, tw, tx, tp, ta, ⟨h2, hm, hG, hw, hN, hA, hT, hW⟩, rfl, rfl⟩ := I
  exact cq_fcX hm hN (cq_fcY hm hG hT ⟨rfl, I'⟩)
theorem cq_fscan {m : Nat} {N : Nat → Nat} {an aw ao ax tt tw tx tp ta : Nat → Int32} (hm : m ≤ 9) (hG : cq_G m N) (hN : ∀ p, p < 9 → an p = nI (N p)) (hT : ∀ p q, p < 9 → q < 9 → tt (p * 9 + q) = nI ((N p).testBit q).toNat) (x : Int32) : ∀ (d j : Nat) (c : Int32), j + d = 2 ^ m → ∃ r : Int32, (∀ post : Int32 → Prop, post r → wX_full_4 post x (nI m) (nI (2 ^ m - 1)) an aw ao ax (d + 1) c (nI j)) ∧ (∀ post : Int32 → Prop, post r → wY_full_4 post x (nI m) tt tw tx tp ta (d + 1) c (nI j)) := by
  have h9 := cq_p9 hm
  have h0 := cq_p0 m
  intro d
  induction d with
  | zero =>
    intro j c hj
    exact ⟨-1, fun _ hp => br_t (nI_lt (by omega) (by omega)) hp, fun _ hp => br_t (cq_shle hm (by omega) (by omega)) hp⟩
  | succ d ih =>
    intro j c hj
    have hX : ¬ nI (2 ^ m - 1) < nI j := nI_nlt (by omega) (by omega)
    have hY := cq_shn hm (show j < 2 ^ m by omega)
    have hjm : j < 2 ^ m := by omega
    by_cases hf : cq_fu N m j
    · by_cases hc : c = x
      · exact ⟨nI j, fun _ hp => br_f hX (cq_fullX hm hN hjm (fun _ => br_f (by decide) (br_t hc hp)) (fun z => absurd hf z)), fun _ hp => br_f hY (cq_fullY hm hG hT hjm (fun _ => br_f (by decide) (br_t hc hp)) (fun z => absurd hf z))⟩
      · obtain ⟨r, a, b⟩ := ih (j + 1) (c + 1) (by omega)
        exact ⟨r, fun _ hp => br_f hX (cq_fullX hm hN hjm (fun _ => br_f (by decide) (br_f hc (nm_e (nm_r (nI_1 j) (a _ hp))))) (fun z => absurd hf z)), fun _ hp => br_f hY (cq_fullY hm hG hT hjm (fun _ => br_f (by decide) (br_f hc (nm_e (nm_r (nI_1 j) (b _ hp))))) (fun z => absurd hf z))⟩
    · obtain ⟨r, a, b⟩ := ih (j + 1) c (by omega)
      exact ⟨r, fun _ hp => br_f hX (cq_fullX hm hN hjm (fun z => absurd z hf) (fun _ => br_t rfl (nm_r (nI_1 j) (a _ hp)))), fun _ hp => br_f hY (cq_fullY hm hG hT hjm (fun z => absurd z hf) (fun _ => br_t rfl (nm_r (nI_1 j) (b _ hp))))⟩
theorem i_vc_full {k : Nat} {u : SX} {v : SY} (I : i_Rel k u v) (hk : k + 4 ≤ 2049) (v1 : Int32) : wpX_full (fun r => wpY_full (fun r' => r' = r ∧ i_Rel (k + 4) u v) v v1) u v1 := by
  have I' := i_up I
  obtain ⟨m, N, w, an, aw, ao, ax, tt, tw, tx, tp, ta, ⟨h2, hm, hG, hw, hN, hA, hT, hW⟩, rfl, rfl⟩ := I
  obtain ⟨r, a, b⟩ := cq_fscan (an := an) (aw := aw) (ao := ao) (ax := ax) (tt := tt) (tw := tw) (tx := tx) (tp := tp) (ta := ta) hm hG hN hT v1 (2 ^ m) 0 0 (by omega)
  exact ⟨_, a _ ⟨_, b _ ⟨rfl, I'⟩⟩⟩
theorem cq_ccX {m : Nat} {N : Nat → Nat} {an aw ao ax : Nat → Int32} (hm : m ≤ 9) (hN : ∀ p, p < 9 → an p = nI (N p)) {k : Nat} (hk : k < 2 ^ 31) {post : Int32 → Prop} (h : post (nI (cq_S (fun s => cq_if (cq_m s m = k ∧ cq_cl N m s) 1) (2 ^ m)))) : wpX_countCliquesOf post (nI m, nI (2 ^ m - 1), an, aw, ao, ax) (nI k) := by
  have h9 := cq_p9 hm
  have h0 := cq_p0 m
  refine loop_0 (fun n i a => wX_countCliquesOf_4 post (nI k) (nI m) (nI (2 ^ m - 1)) an aw ao ax n (nI a) (nI i)) (fun i a => a = cq_S (fun s => cq_if (cq_m s m = k ∧ cq_cl N m s) 1) i) (2 ^ m) 0 rfl ?_ ?_
  · intro n a ha
    refine br_t (nI_lt (by omega) (by omega)) ?_
    rw [ha]; exact h
  · intro n i a hi ha ih
    have hn : cq_S (fun s => cq_if (cq_m s m = k ∧ cq_cl N m s) 1) (i + 1) = cq_S (fun s => cq_if (cq_m s m = k ∧ cq_cl N m s) 1) i + cq_if (cq_m i m = k ∧ cq_cl N m i) 1 := rfl
    have hl := cq_m_le i m
    refine br_f (nI_nlt (by omega) (by omega)) ?_
    refine cq_memX hm hi ?_
    refine pk_eq (cq_m i m) k (fun he => ?_) (fun he => ?_)
    · refine cq_allX hm hN hi (fun hb => ?_) (fun hb => ?_)
      · exact br_f (by decide) (nm_r (nI_1 a) (nm_r (nI_1 i) (ih (a + 1) (by rw [hn, cq_if_t ⟨he, hb⟩, ha]))))
      · exact br_t rfl (nm_r (nI_1 i) (ih a (by rw [hn, cq_if_f (fun z => hb z.2), ha]; rfl)))
    · exact nm_r (nI_1 i) (ih a (by rw [hn, cq_if_f (fun z => he z.1), ha]; rfl))
theorem cq_ccY {m : Nat} {N : Nat → Nat} {tt tw tx tp ta : Nat → Int32} (hm : m ≤ 9) (hG : cq_G m N) (hT : ∀ p q, p < 9 → q < 9 → tt (p * 9 + q) = nI ((N p).testBit q).toNat) {k : Nat} (hk : k < 2 ^ 31) {post : Int32 → Prop} (h : post (nI (cq_S (fun s => cq_if (cq_m s m = k ∧ cq_cl N m s) 1) (2 ^ m)))) : ∃ n, wY_cliques_16 post (nI k) (nI m) tt tw tx tp ta n 0 0 := by
  have h9 := cq_p9 hm
  refine loop_0 (fun n i a => wY_cliques_16 post (nI k) (nI m) tt tw tx tp ta n (nI a) (nI i)) (fun i a => a = cq_S (fun s => cq_if (cq_m s m = k ∧ cq_cl N m s) 1) i) (2 ^ m) 0 rfl ?_ ?_
  · intro n a ha
    refine br_t (cq_shle hm (Nat.le_refl _) (by omega)) ?_
    rw [ha]; exact h
  · intro n i a hi ha ih
    have hn : cq_S (fun s => cq_if (cq_m s m = k ∧ cq_cl N m s) 1) (i + 1) = cq_S (fun s => cq_if (cq_m s m = k ∧ cq_cl N m s) 1) i + cq_if (cq_m i m = k ∧ cq_cl N m i) 1 := rfl
    have hl := cq_m_le i m
    refine br_f (cq_shn hm hi) ?_
    refine cq_memY hm hi ?_
    refine pk_eq (cq_m i m) k (fun he => ?_) (fun he => ?_)
    · refine cq_clY hm hG hT hi (fun hb => ?_) (fun hb => ?_)
      · exact br_f (by decide) (nm_r (nI_1 a) (nm_r (nI_1 i) (ih (a + 1) (by rw [hn, cq_if_t ⟨he, hb⟩, ha]))))
      · exact br_t rfl (nm_r (nI_1 i) (ih a (by rw [hn, cq_if_f (fun z => hb z.2), ha]; rfl)))
    · exact nm_r (nI_1 i) (ih a (by rw [hn, cq_if_f (fun z => he z.1), ha]; rfl))
theorem i_vc_cliques {k : Nat} {u : SX} {v : SY} (I : i_Rel k u v) (hk : k + 4 ≤ 2049) (v1 : Int32) : wpX_cliques (fun r => wpY_cliques (fun r' => r' = r ∧ i_Rel (k + 4) u v) v v1) u v1 := by
  have I' := i_up I
  obtain ⟨m, N, w, an, aw, ao, ax, tt, tw, tx, tp, ta, ⟨h2, hm, hG, hw, hN, hA, hT, hW⟩, rfl, rfl⟩ := I
  rcases cq_ix v1 10 with h | ⟨j, h1, h3, rfl⟩ | ⟨j, hj, rfl⟩
  · exact br_t h (br_t h ⟨rfl, I'⟩)
  · have e : ¬ nI j ≤ 9 := nI_ge (b := j) (a := 9) (by omega) h3
    exact br_f (nI_pos h3) (br_f e (br_f (nI_pos h3) (br_f e ⟨rfl, I'⟩)))
  · have e : nI j ≤ 9 := nI_le (b := 9) (by omega) (by decide)
    refine br_f (nI_pos (by omega)) (br_t e ?_)
    exact cq_ccX hm hN (by omega) (br_f (nI_pos (by omega)) (br_t e (cq_ccY hm hG hT (by omega) ⟨rfl, I'⟩)))
end
section
/-! size -/
noncomputable def cq_mx (P : Nat → Prop) (f : Nat → Nat) : Nat → Nat
  | 0 => 0
  | i + 1 => @ite Nat (cq_mx P f i < f i ∧ P i) (Classical.propDecidable _) (f i) (cq_mx P f i)
theorem cq_mx_t {P : Nat → Prop} {f : Nat → Nat} {i : Nat} (h : cq_mx P f i < f i ∧ P i) : cq_mx P f (i + 1) = f i := @if_pos _ (Classical.propDecidable _) h Nat _ _
theorem cq_mx_f {P : Nat → Prop} {f : Nat → Nat} {i : Nat} (h : ¬ (cq_mx P f i < f i ∧ P i)) : cq_mx P f (i + 1) = cq_mx P f i := @if_neg _ (Classical.propDecidable _) h Nat _ _
theorem cq_mx_le {P : Nat → Prop} {f : Nat → Nat} {B : Nat} (h : ∀ i, f i ≤ B) (i : Nat) : cq_mx P f i ≤ B := by
  induction i with
  | zero => exact Nat.zero_le _
  | succ i ih =>
    by_cases c : cq_mx P f i < f i ∧ P i
    · rw [cq_mx_t c]; exact h i
    · rw [cq_mx_f c]; exact ih
theorem cq_mx_ub {P : Nat → Prop} {f : Nat → Nat} (i : Nat) : ∀ s, s < i → P s → f s ≤ cq_mx P f i := by
  induction i with
  | zero => intro s hs; omega
  | succ i ih =>
    intro s hs hp
    by_cases c : cq_mx P f i < f i ∧ P i
    · rw [cq_mx_t c]
      rcases Nat.lt_or_ge s i with z | z
      · have := ih s z hp
        omega
      · have e : s = i := by omega
        rw [e]; exact Nat.le_refl _
    · rw [cq_mx_f c]
      rcases Nat.lt_or_ge s i with z | z
      · exact ih s z hp
      · have e : s = i := by omega
        rw [e] at hp ⊢
        exact Nat.le_of_not_lt (fun y => c ⟨y, hp⟩)
theorem cq_mx_at {P : Nat → Prop} {f : Nat → Nat} (i : Nat) : cq_mx P f i = 0 ∨ ∃ s, s < i ∧ P s ∧ cq_mx P f i = f s := by
  induction i with
  | zero => exact Or.inl rfl
  | succ i ih =>
    by_cases c : cq_mx P f i < f i ∧ P i
    · exact Or.inr ⟨i, by omega, c.2, cq_mx_t c⟩
    · rw [cq_mx_f c]
      rcases ih with h | ⟨s, h1, h2, h3⟩
      · exact Or.inl h
      · exact Or.inr ⟨s, by omega, h2, h3⟩
theorem cq_szX {m : Nat} {N : Nat → Nat} {an aw ao ax : Nat → Int32} (hm : m ≤ 9) (hN : ∀ p, p < 9 → an p = nI (N p)) {post : Int32 → Prop} (h : post (nI (cq_mx (cq_cl N m) (fun s => cq_m s m) (2 ^ m)))) : wpX_size post (nI m, nI (2 ^ m - 1), an, aw, ao, ax) := by
  have h9 := cq_p9 hm
  have h0 := cq_p0 m
  refine loop_0 (fun n i a => wX_size_4 post (nI m) (nI (2 ^ m - 1)) an aw ao ax n (nI a) (nI i)) (fun i a => a = cq_mx (cq_cl N m) (fun s => cq_m s m) i) (2 ^ m) 0 rfl ?_ ?_
  · intro n a ha
    refine br_t (nI_lt (by omega) (by omega)) ?_
    rw [ha]; exact h
  · intro n i a hi ha ih
    have hl := cq_m_le i m
    have hb := cq_mx_le (P := cq_cl N m) (f := fun s => cq_m s m) (fun s => cq_m_le s m) i
    refine br_f (nI_nlt (by omega) (by omega)) ?_
    refine cq_memX hm hi ?_
    refine pk_le (cq_m i m) a (fun he => ?_) (fun he => ?_)
    · exact nm_r (nI_1 i) (ih a (by rw [cq_mx_f (fun z => by have := z.1; omega), ha]))
    · refine cq_allX hm hN hi (fun hc => ?_) (fun hc => ?_)
      · exact br_f (by decide) (nm_r (nI_1 i) (ih (cq_m i m) (by rw [cq_mx_t ⟨by show _ < cq_m i m; omega, hc⟩])))
      · exact br_t rfl (nm_r (nI_1 i) (ih a (by rw [cq_mx_f (fun z => hc z.2), ha])))
theorem cq_szY {m : Nat} {N : Nat → Nat} {tt tw tx tp ta : Nat → Int32} (hm : m ≤ 9) (hG : cq_G m N) (hT : ∀ p q, p < 9 → q < 9 → tt (p * 9 + q) = nI ((N p).testBit q).toNat) {post : Int32 → Prop} (h : post (nI (cq_mx (cq_cl N m) (fun s => cq_m s m) (2 ^ m)))) : wpY_size post (nI m, tt, tw, tx, tp, ta) := by
  have h9 := cq_p9 hm
  refine loop_0 (fun n i a => wY_size_4 post (nI m) tt tw tx tp ta n (nI a) (nI i)) (fun i a => a = cq_mx (cq_cl N m) (fun s => cq_m s m) i) (2 ^ m) 0 rfl ?_ ?_
  · intro n a ha
    refine br_t (cq_shle hm (Nat.le_refl _) (by omega)) ?_
    rw [ha]; exact h
  · intro n i a hi ha ih
    have hl := cq_m_le i m
    have hb := cq_mx_le (P := cq_cl N m) (f := fun s => cq_m s m) (fun s => cq_m_le s m) i
    refine br_f (cq_shn hm hi) ?_
    refine cq_memY hm hi ?_
    refine pk_le (cq_m i m) a (fun he => ?_) (fun he => ?_)
    · exact nm_r (nI_1 i) (ih a (by rw [cq_mx_f (fun z => by have := z.1; omega), ha]))
    · refine cq_clY hm hG hT hi (fun hc => ?_) (fun hc => ?_)
      · exact br_f (by decide) (nm_r (nI_1 i) (ih (cq_m i m) (by rw [cq_mx_t ⟨by show _ < cq_m i m; omega, hc⟩])))
      · exact br_t rfl (nm_r (nI_1 i) (ih a (by rw [cq_mx_f (fun z => hc z.2), ha])))
theorem i_vc_size {k : Nat} {u : SX} {v : SY} (I : i_Rel k u v) (hk : k + 4 ≤ 2049) : wpX_size (fun r => wpY_size (fun r' => r' = r ∧ i_Rel (k + 4) u v) v) u := by
  have I' := i_up I
  obtain ⟨m, N, w, an, aw, ao, ax, tt, tw, tx, tp, ta, ⟨h2, hm, hG, hw, hN, hA, hT, hW⟩, rfl, rfl⟩ := I
  exact cq_szX hm hN (cq_szY hm hG hT ⟨rfl, I'⟩)
/-! the best clique that holds c -/
def cq_bst (N w : Nat → Nat) (m c i b : Nat) : Prop := b < 2 ^ m ∧ b &&& c = c ∧ cq_cl N m b ∧ ∀ s, s < i → s &&& c = c → cq_cl N m s → cq_w w s m < cq_w w b m ∨ (cq_w w s m = cq_w w b m ∧ s ≤ b)
theorem cq_bst_u {N w : Nat → Nat} {m c b b' : Nat} (h : cq_bst N w m c (2 ^ m) b) (h' : cq_bst N w m c (2 ^ m) b') : b = b' := by
  have h1 := h.2.2.2 b' h'.1 h'.2.1 h'.2.2.1
  have h2 := h'.2.2.2 b h.1 h.2.1 h.2.2.1
  omega
theorem cq_bst_k {N w : Nat → Nat} {m c i b : Nat} (h : cq_bst N w m c i b) (hi : i &&& c = c → cq_cl N m i → cq_w w i m < cq_w w b m) : cq_bst N w m c (i + 1) b := by
  refine ⟨h.1, h.2.1, h.2.2.1, fun s hs h1 h2 => ?_⟩
  rcases Nat.lt_or_ge s i with z | z
  · exact h.2.2.2 s z h1 h2
  · have e : s = i := by omega
    rw [e] at h1 h2 ⊢
    exact Or.inl (hi h1 h2)
theorem cq_bst_n {N w : Nat → Nat} {m c i : Nat} (hi : i < 2 ^ m) (hc : i &&& c = c) (hl : cq_cl N m i) (h : ∀ s, s < i → s &&& c = c → cq_cl N m s → cq_w w s m ≤ cq_w w i m) : cq_bst N w m c (i + 1) i := by
  refine ⟨hi, hc, hl, fun s hs h1 h2 => ?_⟩
  rcases Nat.lt_or_ge s i with z | z
  · have := h s z h1 h2
    omega
  · have e : s = i := by omega
    rw [e]
    exact Or.inr ⟨rfl, Nat.le_refl _⟩
theorem cq_bhX {m : Nat} {N w : Nat → Nat} {an aw ao ax : Nat → Int32} (hm : m ≤ 9) (hw : ∀ p, p < 9 → w p ≤ 20) (hN : ∀ p, p < 9 → an p = nI (N p)) (hA : ∀ p, p < 9 → aw p = nI (w p)) {c : Nat} (hc : c < 2 ^ m) (hl : cq_cl N m c) {post : Int32 → Prop} (h : ∀ b, cq_bst N w m c (2 ^ m) b → post (nI b)) : wpX_bestHolding post (nI m, nI (2 ^ m - 1), an, aw, ao, ax) (nI c) := by
  have h9 := cq_p9 hm
  have h0 := cq_p0 m
  unfold wpX_bestHolding
  dsimp only
  refine cq_weiX hm hA hc ?_
  refine ⟨2 ^ m - c + 1, loop_i (fun n i b => wX_bestHolding_11 post (nI c) (nI m) (nI (2 ^ m - 1)) an aw ao ax n (nI b) (nI (cq_w w b m)) (nI i)) (fun i b => cq_bst N w m c i b) (2 ^ m) ?_ ?_ _ c c (by omega) (by omega) ?_⟩
  · intro n b hb
    exact br_t (nI_lt (by omega) (by omega)) (h b hb)
  · intro n i b hi hb ih
    have hwi := cq_w_le hw i hm
    have hwb := cq_w_le hw b hm
    have ha : i &&& c ≤ c := Nat.and_le_right
    refine br_f (nI_nlt (by omega) (by omega)) ?_
    rw [nx_and]
    refine pk_eq (i &&& c) c (fun he => ?_) (fun he => ?_)
    · refine cq_allX hm hN hi (fun hd => ?_) (fun hd => ?_)
      · refine br_f (by decide) (cq_weiX hm hA hi ?_)
        refine pk_lt (cq_w w i m) (cq_w w b m) (fun hf => ?_) (fun hf => ?_)
        · exact nm_r (nI_1 i) (ih b (cq_bst_k hb (fun _ _ => hf)))
        · refine nm_r (nI_1 i) (ih i (cq_bst_n hi he hd (fun s h1 h2 h3 => ?_)))
          have := hb.2.2.2 s h1 h2 h3
          omega
      · exact br_t rfl (nm_r (nI_1 i) (ih b (cq_bst_k hb (fun _ z => absurd z hd))))
    · exact nm_r (nI_1 i) (ih b (cq_bst_k hb (fun z => absurd z he)))
  · refine ⟨hc, Nat.and_self c, hl, fun s hs h1 _ => ?_⟩
    rw [Nat.and_comm] at h1
    have := cq_sub_le h1
    omega
theorem cq_bwY {m : Nat} {N w : Nat → Nat} {tt tw tx tp ta : Nat → Int32} (hm : m ≤ 9) (hG : cq_G m N) (hw : ∀ p, p < 9 → w p ≤ 20) (hT : ∀ p q, p < 9 → q < 9 → tt (p * 9 + q) = nI ((N p).testBit q).toNat) (hW : ∀ p, p < 9 → tw p = nI (w p)) {c : Nat} (hc : c < 2 ^ m) {post : Int32 → Prop} (h : ∀ b, cq_bst N w m c (2 ^ m) b → post (nI b)) (h' : (∀ s, s < 2 ^ m → s &&& c = c → ¬ cq_cl N m s) → post (-2)) : wpY_bestWith post (nI m, tt, tw, tx, tp, ta) (nI c) := by
  have h9 := cq_p9 hm
  unfold wpY_bestWith
  dsimp only
  refine cq_gsY hm hc (br_t rfl ?_)
  refine loop_0 (σ := Int32 × Int32) (fun n i a => wY_bestWith_18 post (nI c) (nI m) tt tw tx tp ta n a.1 a.2 (nI i)) (fun i a => (a = (-1, -2) ∧ ∀ s, s < i → s &&& c = c → ¬ cq_cl N m s) ∨ ∃ b, a = (nI (cq_w w b m), nI b) ∧ cq_bst N w m c i b) (2 ^ m) (-1, -2) ?_ ?_ ?_
  · exact Or.inl ⟨rfl, fun s hs => by omega⟩
  · intro n a ha
    refine br_t (cq_shle hm (Nat.le_refl _) (by omega)) ?_
    rcases ha with ⟨rfl, ha⟩ | ⟨b, rfl, hb⟩
    · exact h' ha
    · exact h b hb
  · intro n i a hi ha ih
    have hwi := cq_w_le hw i hm
    have hx : i &&& c ≤ c := Nat.and_le_right
    refine br_f (cq_shn hm hi) ?_
    rw [nx_and]
    refine pk_eq (i &&& c) c (fun he => ?_) (fun he => ?_)
    · refine cq_clY hm hG hT hi (fun hd => ?_) (fun hd => ?_)
      · refine br_f (by decide) (cq_weiY hm hW hi ?_)
        rcases ha with ⟨rfl, ha⟩ | ⟨b, rfl, hb⟩
        · refine br_f ?_ (nm_r (nI_1 i) (ih (nI (cq_w w i m), nI i) (Or.inr ⟨i, rfl, cq_bst_n hi he hd (fun s h1 h2 h3 => absurd h3 (ha s h1 h2))⟩)))
          show ¬ nI (cq_w w i m) < -1
          rw [Int32.lt_iff_toInt_lt, nI_toInt (by omega), show (-1 : Int32).toInt = -1 from by decide]
          omega
        · have hwb := cq_w_le hw b hm
          refine pk_lt (cq_w w i m) (cq_w w b m) (fun hf => ?_) (fun hf => ?_)
          · exact nm_r (nI_1 i) (ih (nI (cq_w w b m), nI b) (Or.inr ⟨b, rfl, cq_bst_k hb (fun _ _ => hf)⟩))
          · refine nm_r (nI_1 i) (ih (nI (cq_w w i m), nI i) (Or.inr ⟨i, rfl, cq_bst_n hi he hd (fun s h1 h2 h3 => ?_)⟩))
            have := hb.2.2.2 s h1 h2 h3
            omega
      · refine br_t rfl (nm_r (nI_1 i) (ih a ?_))
        rcases ha with ⟨e, ha⟩ | ⟨b, e, hb⟩
        · refine Or.inl ⟨e, fun s hs h1 => ?_⟩
          rcases Nat.lt_or_ge s i with z | z
          · exact ha s z h1
          · have e : s = i := by omega
            rw [e]; exact hd
        · exact Or.inr ⟨b, e, cq_bst_k hb (fun _ z => absurd z hd)⟩
    · refine nm_r (nI_1 i) (ih a ?_)
      rcases ha with ⟨e, ha⟩ | ⟨b, e, hb⟩
      · refine Or.inl ⟨e, fun s hs h1 => ?_⟩
        rcases Nat.lt_or_ge s i with z | z
        · exact ha s z h1
        · have e : s = i := by omega
          rw [e] at h1
          exact absurd h1 he
      · exact Or.inr ⟨b, e, cq_bst_k hb (fun z => absurd z he)⟩
theorem cq_cl_dn {m c s : Nat} {N : Nat → Nat} (h : s &&& c = c) (hs : cq_cl N m s) : cq_cl N m c := by
  rw [Nat.and_comm, cq_sub] at h
  intro p q hp hq hpq bp bq
  exact hs p q hp hq hpq (h p bp) (h q bq)
theorem i_vc_bestWith {k : Nat} {u : SX} {v : SY} (I : i_Rel k u v) (hk : k + 4 ≤ 2049) (v1 : Int32) : wpX_bestWith (fun r => wpY_bestWith (fun r' => r' = r ∧ i_Rel (k + 4) u v) v v1) u v1 := by
  have I' := i_up I
  obtain ⟨m, N, w, an, aw, ao, ax, tt, tw, tx, tp, ta, ⟨h2, hm, hG, hw, hN, hA, hT, hW⟩, rfl, rfl⟩ := I
  unfold wpX_bestWith
  dsimp only
  rcases cq_ix2 v1 (2 ^ m) with h | ⟨c, hc, rfl⟩
  · refine cq_bsX h (br_t rfl ?_)
    unfold wpY_bestWith
    dsimp only
    exact cq_bsY hm h (br_f (by decide) ⟨rfl, I'⟩)
  · refine cq_gsX hm hc (br_f (by decide) ?_)
    refine cq_allX hm hN hc (fun hl => br_f (by decide) ?_) (fun hl => br_t rfl ?_)
    · refine cq_bhX hm hw hN hA hc hl (fun b hb => ?_)
      exact cq_bwY hm hG hw hT hW hc (fun b' hb' => ⟨by rw [cq_bst_u hb hb'], I'⟩) (fun z => absurd hl (z c hc (Nat.and_self c)))
    · exact cq_bwY hm hG hw hT hW hc (fun b' hb' => absurd (cq_cl_dn hb'.2.1 hb'.2.2.1) hl) (fun _ => ⟨rfl, I'⟩)
theorem cq_cl0 (N : Nat → Nat) (m : Nat) : cq_cl N m 0 := fun p q _ _ _ bp => absurd bp (by rw [Nat.zero_testBit]; decide)
theorem i_vc_best {k : Nat} {u : SX} {v : SY} (I : i_Rel k u v) (hk : k + 4 ≤ 2049) : wpX_best (fun r => wpY_best (fun r' => r' = r ∧ i_Rel (k + 4) u v) v) u := by
  have I' := i_up I
  obtain ⟨m, N, w, an, aw, ao, ax, tt, tw, tx, tp, ta, ⟨h2, hm, hG, hw, hN, hA, hT, hW⟩, rfl, rfl⟩ := I
  unfold wpX_best wpY_best
  dsimp only
  refine cq_bhX (c := 0) hm hw hN hA (cq_p0 m) (cq_cl0 N m) (fun b hb => ?_)
  exact cq_bwY (c := 0) hm hG hw hT hW (cq_p0 m) (fun b' hb' => ⟨by rw [cq_bst_u hb hb'], I'⟩) (fun z => absurd (cq_cl0 N m) (z 0 (cq_p0 m) (Nat.and_self 0)))
theorem cq_hvY {m : Nat} {N w : Nat → Nat} {tt tw tx tp ta : Nat → Int32} (hm : m ≤ 9) (hG : cq_G m N) (hw : ∀ p, p < 9 → w p ≤ 20) (hT : ∀ p q, p < 9 → q < 9 → tt (p * 9 + q) = nI ((N p).testBit q).toNat) (hW : ∀ p, p < 9 → tw p = nI (w p)) {post : Int32 → Prop} (h : post (nI (cq_mx (cq_cl N m) (fun s => cq_w w s m) (2 ^ m)))) : wpY_heaviest post (nI m, tt, tw, tx, tp, ta) := by
  have h9 := cq_p9 hm
  refine loop_0 (fun n i a => wY_heaviest_4 post (nI m) tt tw tx tp ta n (nI a) (nI i)) (fun i a => a = cq_mx (cq_cl N m) (fun s => cq_w w s m) i) (2 ^ m) 0 rfl ?_ ?_
  · intro n a ha
    refine br_t (cq_shle hm (Nat.le_refl _) (by omega)) ?_
    rw [ha]; exact h
  · intro n i a hi ha ih
    have hl := cq_w_le hw i hm
    have hb := cq_mx_le (P := cq_cl N m) (f := fun s => cq_w w s m) (fun s => cq_w_le hw s hm) i
    refine br_f (cq_shn hm hi) ?_
    refine cq_weiY hm hW hi ?_
    refine pk_le (cq_w w i m) a (fun he => ?_) (fun he => ?_)
    · exact nm_r (nI_1 i) (ih a (by rw [cq_mx_f (fun z => by have := z.1; omega), ha]))
    · refine cq_clY hm hG hT hi (fun hc => ?_) (fun hc => ?_)
      · exact br_f (by decide) (nm_r (nI_1 i) (ih (cq_w w i m) (by rw [cq_mx_t ⟨by show _ < cq_w w i m; omega, hc⟩])))
      · exact br_t rfl (nm_r (nI_1 i) (ih a (by rw [cq_mx_f (fun z => hc z.2), ha])))
theorem i_vc_heaviest {k : Nat} {u : SX} {v : SY} (I : i_Rel k u v) (hk : k + 4 ≤ 2049) : wpX_heaviest (fun r => wpY_heaviest (fun r' => r' = r ∧ i_Rel (k + 4) u v) v) u := by
  have I' := i_up I
  obtain ⟨m, N, w, an, aw, ao, ax, tt, tw, tx, tp, ta, ⟨h2, hm, hG, hw, hN, hA, hT, hW⟩, rfl, rfl⟩ := I
  unfold wpX_heaviest
  dsimp only
  refine cq_bhX (c := 0) hm hw hN hA (cq_p0 m) (cq_cl0 N m) (fun b hb => ?_)
  refine cq_weiX hm hA hb.1 ?_
  refine cq_hvY hm hG hw hT hW ⟨congrArg nI ?_, I'⟩
  have h1 := cq_mx_ub (P := cq_cl N m) (f := fun s => cq_w w s m) (2 ^ m) b hb.1 hb.2.2.1
  rcases cq_mx_at (P := cq_cl N m) (f := fun s => cq_w w s m) (2 ^ m) with e | ⟨s, s1, s2, s3⟩
  · have h1' : cq_w w b m ≤ cq_mx (cq_cl N m) (fun s => cq_w w s m) (2 ^ m) := h1
    omega
  · have h1' : cq_w w b m ≤ cq_mx (cq_cl N m) (fun s => cq_w w s m) (2 ^ m) := h1
    have s3' : cq_mx (cq_cl N m) (fun s => cq_w w s m) (2 ^ m) = cq_w w s m := s3
    have := hb.2.2.2 s s1 (Nat.and_zero s) s2
    omega
end
section
/-! a new object -/
theorem cq_fill {aw : Nat → Int32} {i : Nat} (hi : i < 2 ^ 31) (h : ∀ p, p < i → aw p = nI 1) : ∀ p, p < i + 1 → upd aw (nI i).toNatClampNeg 1 p = nI 1 := by
  intro p hp
  rw [nI_clamp hi]
  by_cases e : p = i
  · rw [e, pk_us]; rfl
  · rw [pk_un e]; exact h p (by omega)
theorem cq_ctX {m : Nat} (hm : m ≤ 9) {post : SX → Prop} (h : ∀ aw : Nat → Int32, (∀ p, p < 9 → aw p = nI 1) → post (nI m, nI (2 ^ m - 1), fun _ => 0, aw, fun _ => 0, fun _ => 0)) : wX_init_60 post (nI m) 0 0 (fun _ => 0) (fun _ => 0) (fun _ => 0) (fun _ => 0) := by
  have h0 := cq_p0 m
  have e : ((1 : Int32) <<< (nI m &&& 31)) - 1 = nI (2 ^ m - 1) := by
    rw [cq_sh (by omega)]
    exact pk_sub (b := 1) h0
  unfold wX_init_60
  refine nm_r e ?_
  refine loop_0 (fun n i aw => wX_init_77 post (nI m) (nI (2 ^ m - 1)) n (nI i) (fun _ => 0) aw (fun _ => 0) (fun _ => 0)) (fun i aw => ∀ p, p < i → aw p = nI 1) 9 (fun _ => 0) ?_ ?_ ?_
  · intro p hp
    omega
  · intro n aw ha
    exact br_t (Int32.le_refl _) (h aw ha)
  · intro n i aw hi ha ih
    exact br_f (nI_ge (b := 9) hi (by decide)) ⟨vp_in_nI hi (by decide), nm_e (nm_r (nI_1 i) (ih _ (cq_fill (by omega) ha)))⟩
theorem cq_ctY {m : Nat} {post : SY → Prop} (h : ∀ tw : Nat → Int32, (∀ p, p < 9 → tw p = nI 1) → post (nI m, fun _ => 0, tw, fun _ => 0, fun _ => 0, fun _ => 0)) : ∃ n, wY_init_74 post (nI m) n 0 (fun _ => 0) (fun _ => 0) (fun _ => 0) (fun _ => 0) (fun _ => 0) := by
  refine loop_0 (fun n i tw => wY_init_74 post (nI m) n (nI i) (fun _ => 0) tw (fun _ => 0) (fun _ => 0) (fun _ => 0)) (fun i tw => ∀ p, p < i → tw p = nI 1) 9 (fun _ => 0) ?_ ?_ ?_
  · intro p hp
    omega
  · intro n tw ha
    exact br_t (Int32.le_refl _) (h tw ha)
  · intro n i tw hi ha ih
    exact br_f (nI_ge (b := 9) hi (by decide)) ⟨vp_in_nI hi (by decide), nm_e (nm_r (nI_1 i) (ih _ (cq_fill (by omega) ha)))⟩
theorem cq_new {m : Nat} (h2 : 2 ≤ m) (hm : m ≤ 9) {aw tw : Nat → Int32} (ha : ∀ p, p < 9 → aw p = nI 1) (ht : ∀ p, p < 9 → tw p = nI 1) : cq_R m (fun _ => 0) (fun _ => 1) (fun _ => 0) aw (fun _ => 0) tw :=
  ⟨h2, hm, ⟨fun _ _ => cq_p0 m, fun p q _ _ => by rw [Nat.zero_testBit, Nat.zero_testBit], fun p _ => Nat.zero_testBit p⟩, fun _ _ => show 1 ≤ 20 by decide, fun _ _ => rfl, ha, fun p q _ _ => by rw [Nat.zero_testBit]; rfl, ht⟩
theorem i_vc0 (k0 : Int32) : wpX_init (fun u => wpY_init (fun v => i_Rel 1 u v) k0) k0 := by
  by_cases h2 : 2 ≤ k0
  · by_cases h9 : k0 ≤ 9
    · obtain ⟨m, hm, rfl⟩ := nI_of2 (x := k0) (M := 9) (n := 9) (by decide) (Int32.not_lt.mpr (Int32.le_trans (by decide) h2)) h9
      have h2' : 2 ≤ m := (nI_leI (a := 2) (by decide) (by omega)).mp h2
      exact br_t h2 (br_t h9 (cq_ctX hm (fun aw ha => br_t h2 (br_t h9 (cq_ctY (fun tw ht => cq_mk (cq_new h2' hm ha ht)))))))
    · exact br_t h2 (br_f h9 (cq_ctX (m := 9) (by decide) (fun aw ha => br_t h2 (br_f h9 (cq_ctY (m := 9) (fun tw ht => cq_mk (cq_new (by decide) (by decide) ha ht)))))))
  · exact br_f h2 (cq_ctX (m := 2) (by decide) (fun aw ha => br_f h2 (cq_ctY (m := 2) (fun tw ht => cq_mk (cq_new (by decide) (by decide) ha ht)))))
/-! weigh -/
theorem cq_wup {w : Nat → Nat} {aw : Nat → Int32} (ha : ∀ p, p < 9 → aw p = nI (w p)) (p j : Nat) : ∀ r, r < 9 → upd aw p (nI j) r = nI (if r = p then j else w r) := by
  intro r hr
  by_cases e : r = p
  · rw [if_pos e, e, pk_us]
  · rw [if_neg e, pk_un e]; exact ha r hr
theorem i_vc_weigh {k : Nat} {u : SX} {v : SY} (I : i_Rel k u v) (hk : k + 4 ≤ 2049) (v1 : Int32) (v2 : Int32) : wpX_weigh (fun r u' => wpY_weigh (fun r' v' => r' = r ∧ i_Rel (k + 4) u' v') v v1 v2) u v1 v2 := by
  have I' := i_up I
  obtain ⟨m, N, w, an, aw, ao, ax, tt, tw, tx, tp, ta, ⟨h2, hm, hG, hw, hN, hA, hT, hW⟩, rfl, rfl⟩ := I
  unfold wpX_weigh wpY_weigh
  dsimp only
  rcases cq_ix2 v1 m with h | ⟨p, hp, rfl⟩
  · exact cq_bpX h (br_t rfl (cq_bpY h (br_f (by decide) ⟨rfl, I'⟩)))
  · refine cq_gpX hm hp (br_f (by decide) ?_)
    by_cases c1 : v2 < 1
    · exact br_t c1 (cq_gpY hm hp (br_t rfl (br_t c1 ⟨rfl, I'⟩)))
    · by_cases c2 : v2 ≤ 20
      · obtain ⟨j, hj, rfl⟩ := nI_of2 (x := v2) (M := 20) (n := 20) (by decide) (Int32.not_lt.mpr (Int32.le_trans (by decide) (Int32.not_lt.mp c1))) c2
        have hi : vp_in (nI p) 9 := vp_in_nI (by omega) (by decide)
        have e : (nI p).toNatClampNeg = p := nI_clamp (by omega)
        refine br_f c1 (br_t c2 ⟨hi, nm_e ⟨hi, nm_e ?_⟩⟩)
        refine cq_gpY hm hp (br_t rfl (br_f c1 (br_t c2 ⟨hi, nm_e ⟨hi, nm_e ⟨?_, ?_⟩⟩⟩)))
        · rw [e, hA p (by omega), hW p (by omega)]
        · rw [e]
          exact cq_mk (w := fun r => if r = p then j else w r) ⟨h2, hm, hG, fun r hr => by dsimp only; split; omega; exact hw r hr, hN, cq_wup hA p j, hT, cq_wup hW p j⟩
      · exact br_f c1 (br_f c2 (cq_gpY hm hp (br_t rfl (br_f c1 (br_f c2 ⟨rfl, I'⟩)))))
/-! setting a pair -/
def cq_st (a q : Nat) (b : Bool) : Nat := if b = true then a ||| 2 ^ q else cq_del a q
theorem cq_st_b {a q i : Nat} {b : Bool} (ha : a < 2 ^ 31) : (cq_st a q b).testBit i = if q = i then b else a.testBit i := by
  unfold cq_st
  cases b
  · rw [if_neg (by decide), cq_del_b ha]
    by_cases e : q = i <;> simp [e]
  · rw [if_pos rfl, Nat.testBit_or, Nat.testBit_two_pow]
    by_cases e : q = i <;> simp [e]
theorem cq_st_lt {a q m : Nat} {b : Bool} (ha : a < 2 ^ m) (hq : q < m) : cq_st a q b < 2 ^ m := by
  unfold cq_st
  split
  · exact cq_or_lt ha hq
  · exact Nat.lt_of_le_of_lt (cq_del_le a q) ha
def cq_sj (N : Nat → Nat) (p q : Nat) (b : Bool) (r : Nat) : Nat := if r = q then cq_st (N q) p b else if r = p then cq_st (N p) q b else N r
theorem cq_sj_b {m : Nat} {N : Nat → Nat} {p q : Nat} {b : Bool} (hm : m ≤ 9) (hG : cq_G m N) (hp : p < m) (hq : q < m) (hpq : p ≠ q) {r t : Nat} (hr : r < 9) : (cq_sj N p q b r).testBit t = if (r = p ∧ t = q) ∨ (r = q ∧ t = p) then b else (N r).testBit t := by
  have h9 := cq_p9 hm
  have hl : ∀ r, r < 9 → N r < 2 ^ 31 := fun r hr => Nat.lt_of_lt_of_le (hG.1 r hr) (by omega)
  unfold cq_sj
  by_cases e1 : r = q
  · rw [if_pos e1, cq_st_b (hl q (by omega))]
    by_cases e2 : p = t
    · rw [if_pos e2, if_pos (Or.inr ⟨e1, e2.symm⟩)]
    · rw [if_neg e2, if_neg (by omega), e1]
  · rw [if_neg e1]
    by_cases e2 : r = p
    · rw [if_pos e2, cq_st_b (hl p (by omega))]
      by_cases e3 : q = t
      · rw [if_pos e3, if_pos (Or.inl ⟨e2, e3.symm⟩)]
      · rw [if_neg e3, if_neg (by omega), e2]
    · rw [if_neg e2, if_neg (by omega)]
theorem cq_sj_G {m : Nat} {N : Nat → Nat} {p q : Nat} {b : Bool} (hm : m ≤ 9) (hG : cq_G m N) (hp : p < m) (hq : q < m) (hpq : p ≠ q) : cq_G m (cq_sj N p q b) := by
  refine ⟨fun r hr => ?_, fun r t hr ht => ?_, fun r hr => ?_⟩
  · unfold cq_sj
    split
    · exact cq_st_lt (hG.1 q (by omega)) hp
    · split
      · exact cq_st_lt (hG.1 p (by omega)) hq
      · exact hG.1 r hr
  · rw [cq_sj_b hm hG hp hq hpq hr, cq_sj_b hm hG hp hq hpq ht]
    by_cases c : (r = p ∧ t = q) ∨ (r = q ∧ t = p)
    · rw [if_pos c, if_pos (by omega)]
    · rw [if_neg c, if_neg (by omega), hG.2.1 r t hr ht]
  · rw [cq_sj_b hm hG hp hq hpq hr, if_neg (by omega), hG.2.2 r hr]
theorem cq_sjX {m : Nat} {N : Nat → Nat} {an aw ao ax : Nat → Int32} (hN : ∀ p, p < 9 → an p = nI (N p)) {p q : Nat} (hp : p < 9) (hq : q < 9) (hpq : p ≠ q) (b : Bool) {post : SX → Prop} (h : ∀ an' : Nat → Int32, (∀ r, r < 9 → an' r = nI (cq_sj N p q b r)) → post (nI m, nI (2 ^ m - 1), an', aw, ao, ax)) : wpX_setJoined post (nI m, nI (2 ^ m - 1), an, aw, ao, ax) (nI p) (nI q) (nI b.toNat) := by
  have ip : vp_in (nI p) 9 := vp_in_nI hp (by decide)
  have iq : vp_in (nI q) 9 := vp_in_nI hq (by decide)
  have ep : (nI p).toNatClampNeg = p := nI_clamp (by omega)
  have eq : (nI q).toNatClampNeg = q := nI_clamp (by omega)
  unfold wpX_setJoined
  dsimp only
  rw [ep, eq]
  cases b
  · refine br_t rfl ⟨ip, ip, nm_r (e' := upd an p (nI (cq_st (N p) q false))) ?_ ⟨iq, iq, nm_r (e' := upd (upd an p (nI (cq_st (N p) q false))) q (nI (cq_st (N q) p false))) ?_ (h _ (fun r hr => ?_))⟩⟩
    · rw [hN p hp, cq_del_e _ (by omega)]; rfl
    · rw [pk_un (Ne.symm hpq), hN q hq, cq_del_e _ (by omega)]; rfl
    · unfold cq_sj
      by_cases e1 : r = q
      · rw [if_pos e1, e1, pk_us]
      · rw [if_neg e1, pk_un e1]
        by_cases e2 : r = p
        · rw [if_pos e2, e2, pk_us]
        · rw [if_neg e2, pk_un e2, hN r hr]
  · refine br_f (by decide) ⟨ip, ip, nm_r (e' := upd an p (nI (cq_st (N p) q true))) ?_ ⟨iq, iq, nm_r (e' := upd (upd an p (nI (cq_st (N p) q true))) q (nI (cq_st (N q) p true))) ?_ (h _ (fun r hr => ?_))⟩⟩
    · rw [hN p hp, cq_sh (by omega), cq_or]; rfl
    · rw [pk_un (Ne.symm hpq), hN q hq, cq_sh (by omega), cq_or]; rfl
    · unfold cq_sj
      by_cases e1 : r = q
      · rw [if_pos e1, e1, pk_us]
      · rw [if_neg e1, pk_un e1]
        by_cases e2 : r = p
        · rw [if_pos e2, e2, pk_us]
        · rw [if_neg e2, pk_un e2, hN r hr]
theorem cq_ajX {m : Nat} {N : Nat → Nat} {an aw ao ax : Nat → Int32} (hm : m ≤ 9) (hG : cq_G m N) (hN : ∀ p, p < 9 → an p = nI (N p)) {p q : Nat} (hp : p < 9) (hq : q < 9) {post : Int32 → Prop} (h1 : (N p).testBit q = true → post 1) (h0 : (N p).testBit q = false → post 0) : wpX_areJoined post (nI m, nI (2 ^ m - 1), an, aw, ao, ax) (nI p) (nI q) := by
  have h9 := cq_p9 hm
  have hl := hG.1 p hp
  unfold wpX_areJoined
  dsimp only
  refine ⟨vp_in_nI hp (by decide), ?_⟩
  rw [nI_clamp (by omega), hN p hp]
  exact cq_hX (by omega) (by omega) (fun z => ⟨rfl, h1 z⟩) (fun z => ⟨rfl, h0 z⟩)
theorem cq_nar (b : Bool) : vp_nar .boolean (nI b.toNat) = nI b.toNat := by cases b <;> rfl
theorem cq_jnX {m : Nat} {N : Nat → Nat} {an aw ao ax : Nat → Int32} (hN : ∀ p, p < 9 → an p = nI (N p)) {p q : Nat} (hp : p < 9) (hq : q < 9) (hpq : p ≠ q) (x old : Int32) {post : Int32 → SX → Prop} (h : ∀ an' : Nat → Int32, (∀ r, r < 9 → an' r = nI (cq_sj N p q (decide (x ≠ 0)) r)) → post old (nI m, nI (2 ^ m - 1), an', aw, ao, ax)) : wX_join_40 post (nI p) (nI q) x old (nI m) (nI (2 ^ m - 1)) an aw ao ax := by
  unfold wX_join_40 wX_join_54
  by_cases c : x = 0
  · refine br_t c (cq_sjX hN hp hq hpq false (fun an' h' => ?_))
    rw [decide_eq_false (by simp [c])] at h
    exact h an' h'
  · refine br_f c (cq_sjX hN hp hq hpq true (fun an' h' => ?_))
    rw [decide_eq_true c] at h
    exact h an' h'
theorem cq_jup {N : Nat → Nat} {tt : Nat → Int32} (hT : ∀ p q, p < 9 → q < 9 → tt (p * 9 + q) = nI ((N p).testBit q).toNat) {p q : Nat} (hp : p < 9) (hq : q < 9) (b : Bool) : ∀ r t, r < 9 → t < 9 → upd (upd tt (p * 9 + q) (nI b.toNat)) (q * 9 + p) (nI b.toNat) (r * 9 + t) = nI (if (r = p ∧ t = q) ∨ (r = q ∧ t = p) then b else (N r).testBit t).toNat := by
  intro r t hr ht
  by_cases c : r = q ∧ t = p
  · rw [if_pos (Or.inr c), c.1, c.2, pk_us]
  · rw [pk_un (by omega)]
    by_cases d : r = p ∧ t = q
    · rw [if_pos (Or.inl d), d.1, d.2, pk_us]
    · rw [pk_un (by omega), if_neg (by omega), hT r t hr ht]
theorem cq_jnY {m : Nat} {N : Nat → Nat} {tt tw tx tp ta : Nat → Int32} (hT : ∀ p q, p < 9 → q < 9 → tt (p * 9 + q) = nI ((N p).testBit q).toNat) {p q : Nat} (hp : p < 9) (hq : q < 9) (x old : Int32) {post : Int32 → SY → Prop} (h : ∀ tt' : Nat → Int32, (∀ r t, r < 9 → t < 9 → tt' (r * 9 + t) = nI (if (r = p ∧ t = q) ∨ (r = q ∧ t = p) then decide (x ≠ 0) else (N r).testBit t).toNat) → post old (nI m, tt', tw, tx, tp, ta)) : wY_join_45 post (nI p) (nI q) x old (nI m) tt tw tx tp ta := by
  have i1 : vp_in (nI (p * 9 + q)) 81 := vp_in_nI (by omega) (by decide)
  have i2 : vp_in (nI (q * 9 + p)) 81 := vp_in_nI (by omega) (by decide)
  have n0 : vp_nar .boolean 0 = nI false.toNat := cq_nar false
  have n1 : vp_nar .boolean 1 = nI true.toNat := cq_nar true
  unfold wY_join_45 wY_join_66
  rw [cq_t9, cq_t9, nI_clamp (by omega), nI_clamp (by omega), n0, n1]
  by_cases c : x = 0
  · rw [decide_eq_false (by simp [c])] at h
    exact br_t c ⟨i1, nm_e (br_t c ⟨i2, nm_e (h _ (cq_jup hT hp hq false))⟩)⟩
  · rw [decide_eq_true c] at h
    exact br_f c ⟨i1, nm_e (br_f c ⟨i2, nm_e (h _ (cq_jup hT hp hq true))⟩)⟩
theorem i_vc_join {k : Nat} {u : SX} {v : SY} (I : i_Rel k u v) (hk : k + 4 ≤ 2049) (v1 : Int32) (v2 : Int32) (v3 : Int32) : wpX_join (fun r u' => wpY_join (fun r' v' => r' = r ∧ i_Rel (k + 4) u' v') v v1 v2 v3) u v1 v2 v3 := by
  have I' := i_up I
  obtain ⟨m, N, w, an, aw, ao, ax, tt, tw, tx, tp, ta, ⟨h2, hm, hG, hw, hN, hA, hT, hW⟩, rfl, rfl⟩ := I
  unfold wpX_join wpY_join
  dsimp only
  rcases cq_ix2 v1 m with h | ⟨p, hp, rfl⟩
  · exact cq_bpX h (br_t rfl (cq_bpY h (br_f (by decide) ⟨rfl, I'⟩)))
  · refine cq_gpX hm hp (br_f (by decide) ?_)
    rcases cq_ix2 v2 m with h | ⟨q, hq, rfl⟩
    · exact cq_bpX h (br_t rfl (cq_gpY hm hp (br_t rfl (cq_bpY h (br_f (by decide) ⟨rfl, I'⟩)))))
    · refine cq_gpX hm hq (br_f (by decide) ?_)
      by_cases c : nI p = nI q
      · exact br_t c (cq_gpY hm hp (br_t rfl (cq_gpY hm hq (br_t rfl (br_t c ⟨rfl, I'⟩)))))
      · have hpq : p ≠ q := fun z => c (by rw [z])
        have i1 : vp_in (nI p * 9 + nI q) 81 := by rw [cq_t9]; exact vp_in_nI (by omega) (by decide)
        have e1 : tt (nI p * 9 + nI q).toNatClampNeg = nI ((N p).testBit q).toNat := by rw [cq_t9, nI_clamp (by omega), hT p q (by omega) (by omega)]
        refine br_f c (cq_ajX hm hG hN (by omega) (by omega) (fun hb => br_f (by decide) ?_) (fun hb => br_t rfl ?_))
        · refine cq_jnX hN (by omega) (by omega) hpq v3 1 (fun an' ha' => ?_)
          refine cq_gpY hm hp (br_t rfl (cq_gpY hm hq (br_t rfl (br_f c ⟨i1, br_f ?_ ?_⟩))))
          · rw [e1, hb]; decide
          · refine cq_jnY hT (by omega) (by omega) v3 1 (fun tt' ht' => ⟨rfl, cq_mk (N := cq_sj N p q (decide (v3 ≠ 0))) ⟨h2, hm, cq_sj_G hm hG hp hq hpq, hw, ha', hA, fun r t hr ht => ?_, hW⟩⟩)
            rw [ht' r t hr ht, cq_sj_b hm hG hp hq hpq hr]
        · refine cq_jnX hN (by omega) (by omega) hpq v3 0 (fun an' ha' => ?_)
          refine cq_gpY hm hp (br_t rfl (cq_gpY hm hq (br_t rfl (br_f c ⟨i1, br_t ?_ ?_⟩))))
          · rw [e1, hb]; rfl
          · refine cq_jnY hT (by omega) (by omega) v3 0 (fun tt' ht' => ⟨rfl, cq_mk (N := cq_sj N p q (decide (v3 ≠ 0))) ⟨h2, hm, cq_sj_G hm hG hp hq hpq, hw, ha', hA, fun r t hr ht => ?_, hW⟩⟩)
            rw [ht' r t hr ht, cq_sj_b hm hG hp hq hpq hr]
end
section
/-! pairs -/
theorem cq_S_le1 {f : Nat → Nat} (h : ∀ i, f i ≤ 1) (n : Nat) : cq_S f n ≤ n := by
  induction n with
  | zero => exact Nat.le_refl _
  | succ n ih => exact Nat.add_le_add ih (h n)
theorem cq_prY {m : Nat} {N : Nat → Nat} {tt tw tx tp ta : Nat → Int32} (hm : m ≤ 9) (hG : cq_G m N) (hT : ∀ p q, p < 9 → q < 9 → tt (p * 9 + q) = nI ((N p).testBit q).toNat) {post : Int32 → Prop} (h : post (nI (cq_S (fun s => cq_if (cq_m s m = 2 ∧ cq_cl N m s) 1) (2 ^ m)))) : wpY_pairs post (nI m, tt, tw, tx, tp, ta) := by
  have hp := cq_pairs hG hm
  have hb := cq_S_le1 (f := fun k => cq_e N (k / 9) (k % 9)) (fun i => by unfold cq_e; split <;> decide) 81
  refine loop_0 (fun n i a => wY_pairs_4 post (nI m) tt tw tx tp ta n (nI a) (nI i)) (fun i a => a = cq_S (fun k => cq_e N (k / 9) (k % 9)) i) 81 0 rfl ?_ ?_
  · intro n a ha
    refine br_t (Int32.le_refl _) ⟨by decide, ?_⟩
    rw [hp] at ha hb
    have e : nI a / nI 2 = nI (a / 2) := pk_div (by omega) (by decide) (by decide)
    rw [show a / 2 = cq_S (fun s => cq_if (cq_m s m = 2 ∧ cq_cl N m s) 1) (2 ^ m) by omega] at e
    show post (nI a / nI 2)
    rw [e]; exact h
  · intro n i a hi ha ih
    have hn : cq_S (fun k => cq_e N (k / 9) (k % 9)) (i + 1) = cq_S (fun k => cq_e N (k / 9) (k % 9)) i + cq_e N (i / 9) (i % 9) := rfl
    have ei := hT (i / 9) (i % 9) (by omega) (by omega)
    rw [show i / 9 * 9 + i % 9 = i by omega] at ei
    refine br_f (nI_ge (b := 81) hi (by decide)) ⟨vp_in_nI hi (by decide), ?_⟩
    rw [nI_clamp (by omega), ei]
    unfold cq_e at hn
    cases hb : (N (i / 9)).testBit (i % 9)
    · exact br_t rfl (nm_r (nI_1 i) (ih a (by rw [ha]; unfold cq_e; rw [hn, hb]; rfl)))
    · exact br_f (by decide) (nm_r (nI_1 a) (nm_r (nI_1 i) (ih (a + 1) (by rw [ha]; unfold cq_e; rw [hn, hb]; rfl))))
/-! the reference's table, cell by cell -/
def cq_YI (m : Nat) (N : Nat → Nat) (H : Nat → Nat → Bool) (p q : Nat) (tt : Nat → Int32) : Prop := ∀ r t, r < 9 → t < 9 → tt (r * 9 + t) = nI (if t < m ∧ (r < p ∨ (r = p ∧ t < q)) then (decide (r ≠ t) && H r t) else (N r).testBit t).toNat
theorem cq_YI_0 {m : Nat} {N : Nat → Nat} {H : Nat → Nat → Bool} {tt : Nat → Int32} (hT : ∀ p q, p < 9 → q < 9 → tt (p * 9 + q) = nI ((N p).testBit q).toNat) : cq_YI m N H 0 0 tt := by
  intro r t hr ht
  rw [if_neg (by omega)]
  exact hT r t hr ht
theorem cq_YI_s {m : Nat} {N : Nat → Nat} {H : Nat → Nat → Bool} {tt : Nat → Int32} {p q : Nat} (h : cq_YI m N H p q tt) (hm : m ≤ 9) (hp : p < m) (hq : q < m) {b : Bool} (hb : b = (decide (p ≠ q) && H p q)) : cq_YI m N H p (q + 1) (upd tt (p * 9 + q) (nI b.toNat)) := by
  intro r t hr ht
  by_cases c : r = p ∧ t = q
  · rw [if_pos (by omega), c.1, c.2, pk_us, hb]
  · rw [pk_un (by omega), h r t hr ht]
    by_cases d : t < m ∧ (r < p ∨ (r = p ∧ t < q))
    · rw [if_pos d, if_pos (by omega)]
    · rw [if_neg d, if_neg (by omega)]
theorem cq_YI_o {m : Nat} {N : Nat → Nat} {H : Nat → Nat → Bool} {tt : Nat → Int32} {p : Nat} (h : cq_YI m N H p m tt) : cq_YI m N H (p + 1) 0 tt := by
  intro r t hr ht
  rw [h r t hr ht]
  by_cases d : t < m ∧ (r < p ∨ (r = p ∧ t < m))
  · rw [if_pos d, if_pos (by omega)]
  · rw [if_neg d, if_neg (by omega)]
def cq_FS (m : Nat) (N : Nat → Nat) (H : Nat → Nat → Bool) (N' : Nat → Nat) : Prop := ∀ r t, r < 9 → t < 9 → (N' r).testBit t = if r < m ∧ t < m then (decide (r ≠ t) && H r t) else (N r).testBit t
theorem cq_YI_e {m : Nat} {N N' : Nat → Nat} {H : Nat → Nat → Bool} {tt : Nat → Int32} (h : cq_YI m N H m 0 tt) (hF : cq_FS m N H N') : ∀ r t, r < 9 → t < 9 → tt (r * 9 + t) = nI ((N' r).testBit t).toNat := by
  intro r t hr ht
  rw [h r t hr ht, hF r t hr ht]
  by_cases d : r < m ∧ t < m
  · rw [if_pos d, if_pos (by omega)]
  · rw [if_neg d, if_neg (by omega)]
theorem cq_FS_G {m : Nat} {N N' : Nat → Nat} {H : Nat → Nat → Bool} (hG : cq_G m N) (hF : cq_FS m N H N') (hb : ∀ r, r < 9 → N' r < 2 ^ m) (hH : ∀ r t, r < 9 → t < 9 → H r t = H t r) : cq_G m N' := by
  refine ⟨hb, fun r t hr ht => ?_, fun r hr => ?_⟩
  · rw [hF r t hr ht, hF t r ht hr]
    by_cases d : r < m ∧ t < m
    · rw [if_pos d, if_pos (by omega), hH r t hr ht, show decide (r ≠ t) = decide (t ≠ r) from decide_eq_decide.mpr ⟨Ne.symm, Ne.symm⟩]
    · rw [if_neg d, if_neg (by omega), hG.2.1 r t hr ht]
  · rw [hF r r hr hr]
    split
    · simp
    · exact hG.2.2 r hr
/-! weave -/
def cq_F (sd sh r t : Nat) : Bool := decide ((r * r + r * t + t * t + sd) % 7 < sh)
theorem cq_F_s (sd sh r t : Nat) : cq_F sd sh r t = cq_F sd sh t r := by
  unfold cq_F
  rw [show r * r + r * t + t * t = t * t + t * r + r * r by rw [Nat.mul_comm r t]; omega]
theorem cq_rem {p q sd : Nat} (hp : p < 9) (hq : q < 9) (hs : sd < 7) : (((nI p * nI p) + (nI p * nI q)) + (nI q * nI q)) + nI sd - ((((nI p * nI p) + (nI p * nI q)) + (nI q * nI q)) + nI sd) / 7 * 7 = nI ((p * p + p * q + q * q + sd) % 7) := by
  have h1 : p * p ≤ 8 * 8 := Nat.mul_le_mul (by omega) (by omega)
  have h2 : p * q ≤ 8 * 8 := Nat.mul_le_mul (by omega) (by omega)
  have h3 : q * q ≤ 8 * 8 := Nat.mul_le_mul (by omega) (by omega)
  rw [pk_mul p p, pk_mul p q, pk_mul q q, nI_add, nI_add, nI_add]
  exact pk_rem (d := 7) (by omega) (by decide) (by decide)
theorem cq_rcm {p q sd sh : Nat} {A B : Prop} (hp : p < 9) (hq : q < 9) (hs : sd < 7) (hh : sh < 8) (f : cq_F sd sh p q = false → A) (g : cq_F sd sh p q = true → B) : (nI sh ≤ (((nI p * nI p) + (nI p * nI q)) + (nI q * nI q)) + nI sd - ((((nI p * nI p) + (nI p * nI q)) + (nI q * nI q)) + nI sd) / 7 * 7 → A) ∧ (¬ nI sh ≤ (((nI p * nI p) + (nI p * nI q)) + (nI q * nI q)) + nI sd - ((((nI p * nI p) + (nI p * nI q)) + (nI q * nI q)) + nI sd) / 7 * 7 → B) := by
  rw [cq_rem hp hq hs]
  have hl : (p * p + p * q + q * q + sd) % 7 < 7 := Nat.mod_lt _ (by decide)
  refine pk_le sh ((p * p + p * q + q * q + sd) % 7) (fun h => f ?_) (fun h => g ?_)
  · exact decide_eq_false (by omega)
  · exact decide_eq_true h
def cq_WI (m : Nat) (N : Nat → Nat) (F : Nat → Nat → Bool) (q p : Nat) (an : Nat → Int32) : Prop := ∃ N', (∀ r, r < 9 → an r = nI (N' r)) ∧ cq_G m N' ∧ ∀ r t, r < 9 → t < 9 → (N' r).testBit t = if r ≠ t ∧ ((r < q ∧ t < q) ∨ (r = q ∧ t < p) ∨ (t = q ∧ r < p)) then F r t else (N r).testBit t
theorem cq_WI_c {m : Nat} {N : Nat → Nat} {F : Nat → Nat → Bool} {q p q' p' : Nat} {an : Nat → Int32} (h : cq_WI m N F q p an) (hc : ∀ r t : Nat, (r ≠ t ∧ ((r < q ∧ t < q) ∨ (r = q ∧ t < p) ∨ (t = q ∧ r < p))) ↔ (r ≠ t ∧ ((r < q' ∧ t < q') ∨ (r = q' ∧ t < p') ∨ (t = q' ∧ r < p')))) : cq_WI m N F q' p' an := by
  obtain ⟨N', h1, h2, h3⟩ := h
  refine ⟨N', h1, h2, fun r t hr ht => ?_⟩
  rw [h3 r t hr ht]
  by_cases d : r ≠ t ∧ ((r < q ∧ t < q) ∨ (r = q ∧ t < p) ∨ (t = q ∧ r < p))
  · rw [if_pos d, if_pos ((hc r t).mp d)]
  · rw [if_neg d, if_neg (fun z => d ((hc r t).mpr z))]
theorem cq_WI_s {m : Nat} {N N1 : Nat → Nat} {F : Nat → Nat → Bool} (hF : ∀ r t, F r t = F t r) (hm : m ≤ 9) {q p : Nat} (hpq : p < q) (hq : q < m) {an' : Nat → Int32} (h2 : cq_G m N1) (h3 : ∀ r t, r < 9 → t < 9 → (N1 r).testBit t = if r ≠ t ∧ ((r < q ∧ t < q) ∨ (r = q ∧ t < p) ∨ (t = q ∧ r < p)) then F r t else (N r).testBit t) {b : Bool} (hb : F p q = b) (ha : ∀ r, r < 9 → an' r = nI (cq_sj N1 p q b r)) : cq_WI m N F q (p + 1) an' := by
  refine ⟨cq_sj N1 p q b, ha, cq_sj_G hm h2 (by omega) hq (by omega), fun r t hr ht => ?_⟩
  rw [cq_sj_b hm h2 (by omega) hq (by omega) hr]
  by_cases c : (r = p ∧ t = q) ∨ (r = q ∧ t = p)
  · rw [if_pos c, if_pos (by omega)]
    rcases c with ⟨c1, c2⟩ | ⟨c1, c2⟩
    · rw [c1, c2, hb]
    · rw [c1, c2, hF, hb]
  · rw [if_neg c, h3 r t hr ht]
    by_cases d : r ≠ t ∧ ((r < q ∧ t < q) ∨ (r = q ∧ t < p) ∨ (t = q ∧ r < p))
    · rw [if_pos d, if_pos (by omega)]
    · rw [if_neg d, if_neg (by omega)]
theorem cq_WI_e {m : Nat} {N : Nat → Nat} {F : Nat → Nat → Bool} (hG : cq_G m N) {an : Nat → Int32} (h : cq_WI m N F m 0 an) : ∃ N', (∀ r, r < 9 → an r = nI (N' r)) ∧ cq_G m N' ∧ cq_FS m N F N' := by
  obtain ⟨N', h1, h2, h3⟩ := h
  refine ⟨N', h1, h2, fun r t hr ht => ?_⟩
  rw [h3 r t hr ht]
  by_cases e : r = t
  · rw [if_neg (by omega), e, hG.2.2 t ht]
    split <;> simp
  · by_cases d : r < m ∧ t < m
    · rw [if_pos ⟨e, Or.inl d⟩, if_pos d, decide_eq_true e, Bool.true_and]
    · rw [if_neg (by omega), if_neg d]
theorem cq_wvX {m : Nat} {N : Nat → Nat} {an aw ao ax : Nat → Int32} (h2 : 2 ≤ m) (hm : m ≤ 9) (hG : cq_G m N) (hN : ∀ p, p < 9 → an p = nI (N p)) {sd sh : Nat} (hs : sd < 7) (hh : sh < 8) {post : Int32 → SX → Prop} (h : ∀ (an' : Nat → Int32) (N' : Nat → Nat), (∀ r, r < 9 → an' r = nI (N' r)) → cq_G m N' → cq_FS m N (cq_F sd sh) N' → post (nI (cq_S (fun s => cq_if (cq_m s m = 2 ∧ cq_cl N' m s) 1) (2 ^ m))) (nI m, nI (2 ^ m - 1), an', aw, ao, ax)) : ∃ n, wX_weave_27 post (nI sd) (nI sh) n 1 (nI m) (nI (2 ^ m - 1)) an aw ao ax := by
  refine ⟨m, loop_i (fun n q an => wX_weave_27 post (nI sd) (nI sh) n (nI q) (nI m) (nI (2 ^ m - 1)) an aw ao ax) (fun q an => cq_WI m N (cq_F sd sh) q 0 an) m ?_ ?_ _ 1 an (by omega) (by omega) ?_⟩
  · intro n an' I
    obtain ⟨N', a, b, c⟩ := cq_WI_e hG I
    exact br_t (Int32.le_refl _) (cq_ccX (k := 2) hm a (by decide) (h an' N' a b c))
  · intro n q an' hq I ih
    refine br_f (nI_ge hq (by omega)) ?_
    refine loop_0 (fun n' p an => wX_weave_38 post (wX_weave_27 post (nI sd) (nI sh) n) (nI sd) (nI sh) (nI q) n' (nI p) (nI m) (nI (2 ^ m - 1)) an aw ao ax) (fun p an => cq_WI m N (cq_F sd sh) q p an) q an' I ?_ ?_
    · intro n' a2 I2
      exact br_t (Int32.le_refl _) (nm_r (nI_1 q) (ih a2 (cq_WI_c I2 (fun r t => by omega))))
    · intro n' p a2 hp I2 ih2
      obtain ⟨N1, a, b, c⟩ := I2
      refine br_f (nI_ge hp (by omega)) ⟨by decide, cq_rcm (by omega) (by omega) hs hh (fun hb => ?_) (fun hb => ?_)⟩
      · unfold wX_weave_76
        refine cq_sjX a (by omega) (by omega) (by omega) false (fun a3 h3 => ?_)
        exact nm_r (nI_1 p) (ih2 a3 (cq_WI_s (cq_F_s sd sh) hm hp hq b c hb h3))
      · unfold wX_weave_76
        refine cq_sjX a (by omega) (by omega) (by omega) true (fun a3 h3 => ?_)
        exact nm_r (nI_1 p) (ih2 a3 (cq_WI_s (cq_F_s sd sh) hm hp hq b c hb h3))
  · exact ⟨N, hN, hG, fun r t _ _ => by rw [if_neg (by omega)]⟩
theorem cq_wvY {m : Nat} {N : Nat → Nat} {tt tw tx tp ta : Nat → Int32} (hm : m ≤ 9) (hT : ∀ p q, p < 9 → q < 9 → tt (p * 9 + q) = nI ((N p).testBit q).toNat) {sd sh : Nat} (hs : sd < 7) (hh : sh < 8) {post : Int32 → SY → Prop} (h : ∀ tt' : Nat → Int32, cq_YI m N (cq_F sd sh) m 0 tt' → wpY_pairs (fun r => post r (nI m, tt', tw, tx, tp, ta)) (nI m, tt', tw, tx, tp, ta)) : ∃ n, wY_weave_27 post (nI sd) (nI sh) (nI m) n 0 tt tw tx tp ta := by
  have n0 : vp_nar .boolean 0 = nI false.toNat := cq_nar false
  have n1 : vp_nar .boolean 1 = nI true.toNat := cq_nar true
  refine loop_0 (fun n p tt => wY_weave_27 post (nI sd) (nI sh) (nI m) n (nI p) tt tw tx tp ta) (fun p tt => cq_YI m N (cq_F sd sh) p 0 tt) m tt (cq_YI_0 hT) ?_ ?_
  · intro n t1 I
    exact br_t (Int32.le_refl _) (h t1 I)
  · intro n p t1 hp I ih
    refine br_f (nI_ge hp (by omega)) ?_
    refine loop_0 (fun n' q tt => wY_weave_38 post (wY_weave_27 post (nI sd) (nI sh) (nI m) n) (nI sd) (nI sh) (nI p) (nI m) n' (nI q) tt tw tx tp ta) (fun q tt => cq_YI m N (cq_F sd sh) p q tt) m t1 I ?_ ?_
    · intro n' t2 I2
      exact br_t (Int32.le_refl _) (nm_r (nI_1 p) (ih t2 (cq_YI_o I2)))
    · intro n' q t2 hq I2 ih2
      have iv : vp_in (nI p * 9 + nI q) 81 := by rw [cq_t9]; exact vp_in_nI (by omega) (by decide)
      have ec : (nI p * 9 + nI q).toNatClampNeg = p * 9 + q := by rw [cq_t9]; exact nI_clamp (by omega)
      refine br_f (nI_ge hq (by omega)) (pk_eq p q (fun e => ?_) (fun e => ?_))
      · exact ⟨iv, nm_r (by rw [ec, n0]) (nm_r (nI_1 q) (ih2 _ (cq_YI_s I2 hm hp hq (by simp [e]))))⟩
      · refine ⟨by decide, cq_rcm (by omega) (by omega) hs hh (fun hb => ?_) (fun hb => ?_)⟩
        · exact ⟨iv, nm_r (by rw [ec, n0]) (nm_r (nI_1 q) (ih2 _ (cq_YI_s I2 hm hp hq (by simp [hb]))))⟩
        · exact ⟨iv, nm_r (by rw [ec, n1]) (nm_r (nI_1 q) (ih2 _ (cq_YI_s I2 hm hp hq (by simp [hb, e]))))⟩
theorem i_vc_weave {k : Nat} {u : SX} {v : SY} (I : i_Rel k u v) (hk : k + 4 ≤ 2049) (v1 : Int32) (v2 : Int32) : wpX_weave (fun r u' => wpY_weave (fun r' v' => r' = r ∧ i_Rel (k + 4) u' v') v v1 v2) u v1 v2 := by
  have I' := i_up I
  obtain ⟨m, N, w, an, aw, ao, ax, tt, tw, tx, tp, ta, ⟨h2, hm, hG, hw, hN, hA, hT, hW⟩, rfl, rfl⟩ := I
  unfold wpX_weave wpY_weave
  dsimp only
  rcases cq_ix v1 7 with h | ⟨j, h1, h3, rfl⟩ | ⟨sd, hs, rfl⟩
  · exact br_t h (br_t h ⟨rfl, I'⟩)
  · have e1 : ¬ nI j < 7 := nI_nlt (b := 7) h1 h3
    have e2 : ¬ nI j ≤ 6 := nI_ge (a := 6) (by omega) h3
    exact br_f (nI_pos h3) (br_f e1 (br_f (nI_pos h3) (br_f e2 ⟨rfl, I'⟩)))
  · have e0 : ¬ nI sd < 0 := nI_pos (by omega)
    have e1 : nI sd < 7 := nI_lt (b := 7) hs (by decide)
    have e2 : nI sd ≤ 6 := nI_le (b := 6) (by omega) (by decide)
    refine br_f e0 (br_t e1 ?_)
    rcases cq_ix v2 8 with h | ⟨j, h1, h3, rfl⟩ | ⟨sh, hh, rfl⟩
    · exact br_t h (br_f e0 (br_t e2 (br_t h ⟨rfl, I'⟩)))
    · have e3 : ¬ nI j ≤ 7 := nI_ge (a := 7) (by omega) h3
      exact br_f (nI_pos h3) (br_f e3 (br_f e0 (br_t e2 (br_f (nI_pos h3) (br_f e3 ⟨rfl, I'⟩)))))
    · have e3 : nI sh ≤ 7 := nI_le (b := 7) (by omega) (by decide)
      have e4 : ¬ nI sh < 0 := nI_pos (by omega)
      refine br_f e4 (br_t e3 (cq_wvX h2 hm hG hN hs hh (fun an' N' a b c => ?_)))
      refine br_f e0 (br_t e2 (br_f e4 (br_t e3 (cq_wvY hm hT hs hh (fun tt' d => ?_)))))
      have hT' := cq_YI_e d c
      exact cq_prY hm b hT' ⟨rfl, cq_mk (N := N') ⟨h2, hm, b, hw, a, hA, hT', hW⟩⟩
/-! invert -/
def cq_iv (m : Nat) (N : Nat → Nat) (p : Nat) : Nat := ((2 ^ m - 1) ^^^ 2 ^ p) &&& (N p ^^^ (2 ^ 32 - 1))
theorem cq_iv_lt {m p : Nat} (N : Nat → Nat) (hp : p < m) : cq_iv m N p < 2 ^ m := by
  have h0 := cq_p0 m
  exact Nat.lt_of_le_of_lt Nat.and_le_left (Nat.xor_lt_two_pow (by omega) (Nat.pow_lt_pow_right (by decide) hp))
theorem cq_iv_b {m p t : Nat} {N : Nat → Nat} (hp : p < m) (ht : t < 9) : (cq_iv m N p).testBit t = (decide (t < m) && (decide (p ≠ t) && !(N p).testBit t)) := by
  unfold cq_iv
  rw [Nat.testBit_and, Nat.testBit_xor, Nat.testBit_xor, Nat.testBit_two_pow_sub_one, Nat.testBit_two_pow_sub_one, Nat.testBit_two_pow, decide_eq_true (show t < 32 by omega)]
  by_cases e : p = t
  · have : t < m := by omega
    simp [e, this]
  · simp [e]
theorem cq_ivX {m : Nat} {N : Nat → Nat} {an aw ao ax : Nat → Int32} (hm : m ≤ 9) (hN : ∀ p, p < 9 → an p = nI (N p)) {post : Int32 → SX → Prop} (h : ∀ an' : Nat → Int32, (∀ r, r < 9 → an' r = nI (if r < m then cq_iv m N r else N r)) → wpX_countCliquesOf (fun r => post r (nI m, nI (2 ^ m - 1), an', aw, ao, ax)) (nI m, nI (2 ^ m - 1), an', aw, ao, ax) 2) : wpX_invert post (nI m, nI (2 ^ m - 1), an, aw, ao, ax) := by
  refine loop_0 (fun n i an => wX_invert_2 post (nI m) (nI (2 ^ m - 1)) n (nI i) an aw ao ax) (fun i an => ∀ r, r < 9 → an r = nI (if r < i then cq_iv m N r else N r)) m an ?_ ?_ ?_
  · intro r hr
    rw [if_neg (by omega)]; exact hN r hr
  · intro n a1 I
    exact br_t (Int32.le_refl _) (h a1 I)
  · intro n i a1 hi I ih
    have iv : vp_in (nI i) 9 := vp_in_nI (by omega) (by decide)
    refine br_f (nI_ge hi (by omega)) ⟨iv, iv, ?_⟩
    rw [nI_clamp (by omega), I i (by omega), if_neg (by omega), cq_sh (by omega), cq_m1, nx_xor, nx_xor, nx_and]
    refine nm_e (nm_r (nI_1 i) (ih _ (fun r hr => ?_)))
    by_cases e : r = i
    · rw [e, pk_us, if_pos (by omega)]; rfl
    · rw [pk_un e, I r hr]
      by_cases d : r < i
      · rw [if_pos d, if_pos (by omega)]
      · rw [if_neg d, if_neg (by omega)]
theorem cq_ivY {m : Nat} {N : Nat → Nat} {tt tw tx tp ta : Nat → Int32} (hm : m ≤ 9) (hT : ∀ p q, p < 9 → q < 9 → tt (p * 9 + q) = nI ((N p).testBit q).toNat) {post : Int32 → SY → Prop} (h : ∀ tt' : Nat → Int32, cq_YI m N (fun r t => !(N r).testBit t) m 0 tt' → wpY_pairs (fun r => post r (nI m, tt', tw, tx, tp, ta)) (nI m, tt', tw, tx, tp, ta)) : wpY_invert post (nI m, tt, tw, tx, tp, ta) := by
  have n0 : vp_nar .boolean 0 = nI false.toNat := cq_nar false
  have n1 : vp_nar .boolean 1 = nI true.toNat := cq_nar true
  refine loop_0 (fun n p tt => wY_invert_2 post (nI m) n (nI p) tt tw tx tp ta) (fun p tt => cq_YI m N (fun r t => !(N r).testBit t) p 0 tt) m tt (cq_YI_0 hT) ?_ ?_
  · intro n t1 I
    exact br_t (Int32.le_refl _) (h t1 I)
  · intro n p t1 hp I ih
    refine br_f (nI_ge hp (by omega)) ?_
    refine loop_0 (fun n' q tt => wY_invert_12 post (wY_invert_2 post (nI m) n) (nI p) (nI m) n' (nI q) tt tw tx tp ta) (fun q tt => cq_YI m N (fun r t => !(N r).testBit t) p q tt) m t1 I ?_ ?_
    · intro n' t2 I2
      exact br_t (Int32.le_refl _) (nm_r (nI_1 p) (ih t2 (cq_YI_o I2)))
    · intro n' q t2 hq I2 ih2
      have iv : vp_in (nI p * 9 + nI q) 81 := by rw [cq_t9]; exact vp_in_nI (by omega) (by decide)
      have ec : (nI p * 9 + nI q).toNatClampNeg = p * 9 + q := by rw [cq_t9]; exact nI_clamp (by omega)
      have et : t2 (nI p * 9 + nI q).toNatClampNeg = nI ((N p).testBit q).toNat := by
        rw [ec, I2 p q (by omega) (by omega), if_neg (by omega)]
      refine br_f (nI_ge hq (by omega)) (pk_eq p q (fun e => ?_) (fun e => ⟨iv, ?_⟩))
      · exact ⟨iv, nm_r (by rw [ec, n0]) (nm_r (nI_1 q) (ih2 _ (cq_YI_s I2 hm hp hq (by simp [e]))))⟩
      · rw [et]
        cases hb : (N p).testBit q
        · exact br_t rfl ⟨iv, nm_r (by rw [ec, n1]) (nm_r (nI_1 q) (ih2 _ (cq_YI_s I2 hm hp hq (by simp [hb, e]))))⟩
        · exact br_f (by decide) ⟨iv, nm_r (by rw [ec, n0]) (nm_r (nI_1 q) (ih2 _ (cq_YI_s I2 hm hp hq (by simp [hb]))))⟩
theorem i_vc_invert {k : Nat} {u : SX} {v : SY} (I : i_Rel k u v) (hk : k + 4 ≤ 2049) : wpX_invert (fun r u' => wpY_invert (fun r' v' => r' = r ∧ i_Rel (k + 4) u' v') v) u := by
  obtain ⟨m, N, w, an, aw, ao, ax, tt, tw, tx, tp, ta, ⟨h2, hm, hG, hw, hN, hA, hT, hW⟩, rfl, rfl⟩ := I
  have hF : cq_FS m N (fun r t => !(N r).testBit t) (fun r => if r < m then cq_iv m N r else N r) := by
    intro r t hr ht
    dsimp only
    by_cases d : r < m
    · rw [if_pos d, cq_iv_b d ht]
      by_cases e : t < m
      · rw [if_pos ⟨d, e⟩, decide_eq_true e, Bool.true_and]
      · rw [if_neg (by omega), decide_eq_false e, Bool.false_and, cq_bhi (hG.1 r hr) (by omega)]
    · rw [if_neg d, if_neg (by omega)]
  have hG' := cq_FS_G hG hF (fun r hr => by
    split
    · exact cq_iv_lt N (by omega)
    · exact hG.1 r hr) (fun r t hr ht => by rw [hG.2.1 r t hr ht])
  refine cq_ivX hm hN (fun an' a => ?_)
  refine cq_ccX (k := 2) hm (N := fun r => if r < m then cq_iv m N r else N r) a (by decide) ?_
  refine cq_ivY hm hT (fun tt' d => ?_)
  have hT' := cq_YI_e d hF
  exact cq_prY hm hG' hT' ⟨rfl, cq_mk ⟨h2, hm, hG', hw, a, hA, hT', hW⟩⟩
end
section
/-! colourings: both sides' tables -/
def cq_CX (m : Nat) (F : Nat → Prop) (k : Nat) (ao ax : Nat → Int32) : Prop := (∀ a, a < 2 ^ m → ao a = nI (cq_if (F a) 1)) ∧ (∀ s, s < 2 ^ m → ax s = nI (cq_N F k s))
theorem cq_fit {F : Nat → Prop} {ao : Nat → Int32} {i : Nat} (h : ∀ a, a < i → ao a = nI (cq_if (F a) 1)) {b : Bool} (hb : b = true ↔ F i) : ∀ a, a < i + 1 → upd ao i (nI b.toNat) a = nI (cq_if (F a) 1) := by
  intro a ha
  by_cases e : a = i
  · rw [e, pk_us]
    by_cases c : F i
    · rw [hb.mpr c, cq_if_t c]; rfl
    · rw [Bool.eq_false_iff.mpr (fun z => c (hb.mp z)), cq_if_f c]; rfl
  · rw [pk_un e]; exact h a (by omega)
section
variable {m : Nat} {N : Nat → Nat} {an aw ao ax : Nat → Int32}
theorem cq_sc41 {i : Nat} (hi : i < 512) (b : Bool) {post : SX → Prop} {J2 : Int32 → (Nat → Int32) → (Nat → Int32) → (Nat → Int32) → (Nat → Int32) → Prop} {x1 : Int32} (h : J2 (nI (i + 1)) an aw (upd ao i (nI b.toNat)) (upd ax i 0)) : wX_startColouring_41 post J2 x1 (nI i) (nI b.toNat) (nI i) (nI m) (nI (2 ^ m - 1)) an aw ao ax := by
  have iv : vp_in (nI i) 512 := vp_in_nI hi (by decide)
  unfold wX_startColouring_41
  rw [cq_nar, nI_clamp (by omega)]
  exact ⟨iv, nm_e ⟨iv, nm_e (nm_r (nI_1 i) h)⟩⟩
def cq_FT (N : Nat → Nat) (m T a : Nat) : Prop := (a &&& T = 0 ∨ a &&& T = T) ∧ cq_in N m a
theorem cq_scX (hm : m ≤ 9) (hN : ∀ p, p < 9 → an p = nI (N p)) {T : Nat} (hT : T < 2 ^ m) {post : SX → Prop} (h : ∀ ao' ax', cq_CX m (cq_FT N m T) 0 ao' ax' → post (nI m, nI (2 ^ m - 1), an, aw, ao', ax')) : wpX_startColouring post (nI m, nI (2 ^ m - 1), an, aw, ao, ax) (nI T) := by
  have h9 := cq_p9 hm
  have h0 := cq_p0 m
  refine loop_0 (σ := (Nat → Int32) × (Nat → Int32)) (fun n i s => wX_startColouring_2 post (nI T) (nI m) (nI (2 ^ m - 1)) n (nI i) an aw s.1 s.2) (fun i s => (∀ a, a < i → s.1 a = nI (cq_if (cq_FT N m T a) 1)) ∧ ∀ a, a < i → s.2 a = 0) (2 ^ m) (ao, ax) ?_ ?_ ?_
  · exact ⟨fun a ha => by omega, fun a ha => by omega⟩
  · intro n s I
    refine br_t (nI_lt (by omega) (by omega)) (nm_e (h _ _ ⟨I.1, fun t ht => ?_⟩))
    rw [cq_N_0]
    by_cases e : t = 0
    · rw [if_pos e, e, pk_us]; rfl
    · rw [if_neg e, pk_un e, I.2 t ht]; rfl
  · intro n i s hi I ih
    have hz : ∀ a, a < i + 1 → upd s.2 i 0 a = 0 := by
      intro a ha
      by_cases e : a = i
      · rw [e, pk_us]
      · rw [pk_un e]; exact I.2 a (by omega)
    have ha : i &&& T ≤ T := Nat.and_le_right
    have hJ : ∀ b : Bool, (b = true ↔ cq_FT N m T i) → wX_startColouring_2 post (nI T) (nI m) (nI (2 ^ m - 1)) n (nI (i + 1)) an aw (upd s.1 i (nI b.toNat)) (upd s.2 i 0) := fun b hb => ih (_, _) ⟨cq_fit I.1 hb, hz⟩
    have h28 : (i &&& T = 0 ∨ i &&& T = T) → wX_startColouring_28 post (wX_startColouring_2 post (nI T) (nI m) (nI (2 ^ m - 1)) n) (nI T) (nI i) (nI i) (nI m) (nI (2 ^ m - 1)) an aw s.1 s.2 := by
      intro hs
      unfold wX_startColouring_28
      refine cq_noneX hm hN hi (fun hc => br_f (by decide) ?_) (fun hc => br_t rfl ?_)
      · exact cq_sc41 (by omega) true (hJ true ⟨fun _ => ⟨hs, hc⟩, fun _ => rfl⟩)
      · unfold wX_startColouring_40
        exact cq_sc41 (by omega) false (hJ false ⟨fun z => absurd z (by decide), fun z => absurd z.2 hc⟩)
    refine br_f (nI_nlt (by omega) (by omega)) (nm_r (nx_and i T) ?_)
    refine pk_eq (i &&& T) 0 (fun e => h28 (Or.inl e)) (fun e => ?_)
    refine pk_eq (i &&& T) T (fun e' => h28 (Or.inr e')) (fun e' => ?_)
    unfold wX_startColouring_40
    refine cq_sc41 (by omega) false (hJ false ⟨fun z => absurd z (by decide), fun z => ?_⟩)
    rcases z.1 with y | y
    · exact absurd y e
    · exact absurd y e'
theorem cq_acX (hm : m ≤ 9) {F : Nat → Prop} {k : Nat} (hF : ∀ a, a < 2 ^ m → ao a = nI (cq_if (F a) 1)) {post : SX → Prop} (h : ∀ ax', (∀ s, s < 2 ^ m → ax' s = nI (cq_N F (k + 1) s)) → post (nI m, nI (2 ^ m - 1), an, aw, ao, ax')) : ∀ (j : Nat), j ≤ 2 ^ m → ∀ ax : Nat → Int32, (∀ t, t < j → ax t = nI (cq_N F k t)) → (∀ t, j ≤ t → t < 2 ^ m → ax t = nI (cq_N F (k + 1) t)) → wX_addColour_5 post (nI m) (nI (2 ^ m - 1)) (j + 1) (nI j + (-1)) an aw ao ax := by
  have h9 := cq_p9 hm
  intro j
  induction j with
  | zero =>
    intro _ ax h1 h2
    exact br_t (by decide) (h ax (fun s hs => h2 s (by omega) hs))
  | succ j ih =>
    intro hj ax h1 h2
    rw [pk_m1]
    refine br_f (nI_pos (by omega)) ?_
    refine loop_0 (fun n i a => wX_addColour_13 post (wX_addColour_5 post (nI m) (nI (2 ^ m - 1)) (j + 1)) (nI j) (nI m) (nI (2 ^ m - 1)) an aw ao ax n (nI a) (nI i)) (fun i a => a = cq_S (fun a => cq_if (a &&& j = a ∧ F a) (cq_N F k (j ^^^ a))) i) (j + 1) 0 rfl ?_ ?_
    · intro n a ha
      refine br_t (nI_lt (by omega) (by omega)) ⟨vp_in_nI (by omega) (by decide), ?_⟩
      rw [nI_clamp (by omega)]
      refine nm_e (nm_e (ih (by omega) _ (fun t ht => ?_) (fun t ht hs => ?_)))
      · rw [pk_un (by omega)]; exact h1 t (by omega)
      · by_cases e : t = j
        · rw [e, pk_us, ha, cq_N_s]
        · rw [pk_un e]; exact h2 t (by omega) hs
    · intro n i a hi ha ih2
      have hn : cq_S (fun a => cq_if (a &&& j = a ∧ F a) (cq_N F k (j ^^^ a))) (i + 1) = cq_S (fun a => cq_if (a &&& j = a ∧ F a) (cq_N F k (j ^^^ a))) i + cq_if (i &&& j = i ∧ F i) (cq_N F k (j ^^^ i)) := rfl
      have hx : i &&& j ≤ i := Nat.and_le_left
      refine br_f (nI_nlt (by omega) (by omega)) ?_
      rw [nx_and]
      refine pk_eq (i &&& j) i (fun e => ⟨vp_in_nI (by omega) (by decide), ?_⟩) (fun e => ?_)
      · have hm1 := cq_minus e
        have hle := cq_sub_le e
        rw [nI_clamp (by omega), hF i (by omega)]
        by_cases c : F i
        · rw [cq_if_t c, nx_xor, nI_clamp (by omega), h1 (j ^^^ i) (by omega), nI_add]
          exact br_f (by decide) ⟨vp_in_nI (by omega) (by decide), nm_e (nm_r (nI_1 i) (ih2 _ (by rw [hn, cq_if_t ⟨e, c⟩, ha])))⟩
        · rw [cq_if_f c]
          exact br_t rfl (nm_r (nI_1 i) (ih2 a (by rw [hn, cq_if_f (fun z => c z.2), ha]; rfl)))
      · exact nm_r (nI_1 i) (ih2 a (by rw [hn, cq_if_f (fun z => e z.1), ha]; rfl))
theorem cq_addX (hm : m ≤ 9) {F : Nat → Prop} {k : Nat} (hC : cq_CX m F k ao ax) {post : SX → Prop} (h : ∀ ax', cq_CX m F (k + 1) ao ax' → post (nI m, nI (2 ^ m - 1), an, aw, ao, ax')) : wpX_addColour post (nI m, nI (2 ^ m - 1), an, aw, ao, ax) := by
  have h0 := cq_p0 m
  have e : nI (2 ^ m - 1) = nI (2 ^ m) + (-1) := by
    have := pk_m1 (2 ^ m - 1)
    rw [show 2 ^ m - 1 + 1 = 2 ^ m by omega] at this
    exact this.symm
  refine ⟨2 ^ m + 1, ?_⟩
  have hh := cq_acX (an := an) (aw := aw) (post := post) hm hC.1 (fun ax' hx => h ax' ⟨hC.1, hx⟩) (2 ^ m) (Nat.le_refl _) ax hC.2 (fun t h1 h2 => by omega)
  rw [← e] at hh
  exact hh
theorem cq_cnX (hm : m ≤ 9) (hN : ∀ p, p < 9 → an p = nI (N p)) {T k : Nat} (hT : T < 2 ^ m) (hk : k < 2 ^ 31) {post : Int32 → SX → Prop} (h : ∀ ao' ax', post (nI (cq_N (cq_FT N m T) k (2 ^ m - 1))) (nI m, nI (2 ^ m - 1), an, aw, ao', ax')) : wpX_countColourings post (nI m, nI (2 ^ m - 1), an, aw, ao, ax) (nI k) (nI T) := by
  have h9 := cq_p9 hm
  have h0 := cq_p0 m
  unfold wpX_countColourings
  dsimp only
  refine cq_scX hm hN hT (fun ao1 ax1 hC => ?_)
  refine loop_0 (fun n i ax => wX_countColourings_7 post (nI k) n (nI i) (nI m) (nI (2 ^ m - 1)) an aw ao1 ax) (fun i ax => cq_CX m (cq_FT N m T) i ao1 ax) k ax1 hC ?_ ?_
  · intro n ax2 hC2
    refine br_t (Int32.le_refl _) ⟨vp_in_nI (by omega) (by decide), ?_⟩
    rw [nI_clamp (by omega), hC2.2 _ (by omega)]
    exact h ao1 ax2
  · intro n i ax2 hi hC2 ih
    refine br_f (nI_ge hi hk) ?_
    exact cq_addX hm hC2 (fun ax3 hC3 => nm_r (nI_1 i) (ih ax3 hC3))
end
/-! the reference -/
section
variable {m : Nat} {N : Nat → Nat} {tt tw tx tp ta : Nat → Int32}
theorem cq_moreY (hm : m ≤ 9) {F : Nat → Prop} {k : Nat} (hF : ∀ a, a < 2 ^ m → ta a = nI (cq_if (F a) 1)) (hp : ∀ s, s < 2 ^ m → tp s = nI (cq_N F k s)) {s : Nat} (hs : s < 2 ^ m) {post : Int32 → Prop} (h : post (nI (cq_N F (k + 1) s))) : wpY_more post (nI m, tt, tw, tx, tp, ta) (nI s) := by
  have h9 := cq_p9 hm
  refine loop_0 (fun n i a => wY_more_4 post (nI s) (nI m) tt tw tx tp ta n (nI a) (nI i)) (fun i a => a = cq_S (fun a => cq_if (a &&& s = a ∧ F a) (cq_N F k (s ^^^ a))) i) (s + 1) 0 rfl ?_ ?_
  · intro n a ha
    refine br_t (nI_lt (by omega) (by omega)) ?_
    rw [ha, ← cq_N_s]; exact h
  · intro n i a hi ha ih
    have hn : cq_S (fun a => cq_if (a &&& s = a ∧ F a) (cq_N F k (s ^^^ a))) (i + 1) = cq_S (fun a => cq_if (a &&& s = a ∧ F a) (cq_N F k (s ^^^ a))) i + cq_if (i &&& s = i ∧ F i) (cq_N F k (s ^^^ i)) := rfl
    have hx : i &&& s ≤ i := Nat.and_le_left
    refine br_f (nI_nlt (by omega) (by omega)) ?_
    rw [nx_and]
    refine pk_eq (i &&& s) i (fun e => ?_) (fun e => ?_)
    · unfold wY_more_21
      refine br_f (by decide) ⟨vp_in_nI (by omega) (by decide), ?_⟩
      have hm1 := cq_minus e
      have hle := cq_sub_le e
      rw [nI_clamp (by omega), hF i (by omega)]
      by_cases c : F i
      · rw [cq_if_t c, pk_sub hle, nI_clamp (by omega), hp (s - i) (by omega), nI_add]
        exact br_f (by decide) ⟨vp_in_nI (by omega) (by decide), nm_e (nm_r (nI_1 i) (ih _ (by rw [hn, cq_if_t ⟨e, c⟩, ha, hm1])))⟩
      · rw [cq_if_f c]
        exact br_t rfl (nm_r (nI_1 i) (ih a (by rw [hn, cq_if_f (fun z => c z.2), ha]; rfl)))
    · unfold wY_more_21
      exact br_t rfl (nm_r (nI_1 i) (ih a (by rw [hn, cq_if_f (fun z => e z.1), ha]; rfl)))
theorem cq_addY (hm : m ≤ 9) {F : Nat → Prop} {k : Nat} (hC : cq_CX m F k ta tx) {post : SY → Prop} (h : ∀ tx' tp', cq_CX m F (k + 1) ta tx' → post (nI m, tt, tw, tx', tp', ta)) : wpY_addColour post (nI m, tt, tw, tx, tp, ta) := by
  have h9 := cq_p9 hm
  refine loop_0 (fun n i tp => wY_addColour_2 post (nI m) n (nI i) tt tw tx tp ta) (fun i tp => ∀ s, s < i → tp s = nI (cq_N F k s)) (2 ^ m) tp (fun s hs => by omega) ?_ ?_
  · intro n tp1 hp
    refine br_t (cq_shle hm (Nat.le_refl _) (by omega)) ?_
    refine loop_0 (fun n i tx => wY_addColour_32 post (nI m) n (nI i) tt tw tx tp1 ta) (fun i tx => ∀ s, s < i → tx s = nI (cq_N F (k + 1) s)) (2 ^ m) tx (fun s hs => by omega) ?_ ?_
    · intro n tx1 hx
      exact br_t (cq_shle hm (Nat.le_refl _) (by omega)) (h tx1 tp1 ⟨hC.1, hx⟩)
    · intro n i tx1 hi hx ih
      refine br_f (cq_shn hm hi) (cq_moreY hm hC.1 hp hi ⟨vp_in_nI (by omega) (by decide), ?_⟩)
      rw [nI_clamp (by omega)]
      refine nm_e (nm_r (nI_1 i) (ih _ (fun s hs => ?_)))
      by_cases e : s = i
      · rw [e, pk_us]
      · rw [pk_un e]; exact hx s (by omega)
  · intro n i tp1 hi hp ih
    have iv : vp_in (nI i) 512 := vp_in_nI (by omega) (by decide)
    refine br_f (cq_shn hm hi) ⟨iv, iv, ?_⟩
    rw [nI_clamp (by omega), hC.2 i hi]
    refine nm_e (nm_r (nI_1 i) (ih _ (fun s hs => ?_)))
    by_cases e : s = i
    · rw [e, pk_us]
    · rw [pk_un e]; exact hp s (by omega)
theorem cq_paY (hm : m ≤ 9) (hG : cq_G m N) (hT : ∀ p q, p < 9 → q < 9 → tt (p * 9 + q) = nI ((N p).testBit q).toNat) {k : Nat} (hk : k < 2 ^ 31) {post : SY → Prop} (h : ∀ tx' tp' ta', cq_CX m (cq_in N m) k ta' tx' → post (nI m, tt, tw, tx', tp', ta')) : wpY_paint post (nI m, tt, tw, tx, tp, ta) (nI k) := by
  have h9 := cq_p9 hm
  refine loop_0 (σ := (Nat → Int32) × (Nat → Int32)) (fun n i s => wY_paint_2 post (nI k) (nI m) n (nI i) tt tw s.1 tp s.2) (fun i s => (∀ a, a < i → s.2 a = nI (cq_if (cq_in N m a) 1)) ∧ ∀ a, a < i → s.1 a = nI (cq_N (cq_in N m) 0 a)) (2 ^ m) (tx, ta) ?_ ?_ ?_
  · exact ⟨fun a ha => by omega, fun a ha => by omega⟩
  · intro n s I
    refine br_t (cq_shle hm (Nat.le_refl _) (by omega)) ?_
    refine loop_0 (σ := (Nat → Int32) × (Nat → Int32)) (fun n i t => wY_paint_47 post (nI k) n (nI i) (nI m) tt tw t.1 t.2 s.2) (fun i t => cq_CX m (cq_in N m) i s.2 t.1) k (s.1, tp) I ?_ ?_
    · intro n t C
      exact br_t (Int32.le_refl _) (h t.1 t.2 s.2 C)
    · intro n i t hi C ih
      exact br_f (nI_ge hi hk) (cq_addY hm C (fun tx' tp' C' => nm_r (nI_1 i) (ih (tx', tp') C')))
  · intro n i s hi I ih
    have iv : vp_in (nI i) 512 := vp_in_nI (by omega) (by decide)
    have h26 : ∀ z : Int32, z = nI (cq_N (cq_in N m) 0 i) → wY_paint_26 post (wY_paint_2 post (nI k) (nI m) n) (nI k) (nI i) z (nI i) (nI m) tt tw s.1 tp s.2 := by
      intro z hz
      have hx : ∀ a, a < i + 1 → upd s.1 i z a = nI (cq_N (cq_in N m) 0 a) := by
        intro a ha
        by_cases e : a = i
        · rw [e, pk_us, hz]
        · rw [pk_un e]; exact I.2 a (by omega)
      unfold wY_paint_26
      rw [nI_clamp (by omega)]
      refine ⟨iv, nm_e (cq_inY hm hG hT hi (fun hc => ⟨iv, ?_⟩) (fun hc => ⟨iv, ?_⟩))⟩
      · refine nm_r (e' := upd s.2 i (nI true.toNat)) (by rw [← cq_nar]; rfl) (nm_r (nI_1 i) (ih (upd s.1 i z, upd s.2 i (nI true.toNat)) ⟨cq_fit I.1 ⟨fun _ => hc, fun _ => rfl⟩, hx⟩))
      · refine nm_r (e' := upd s.2 i (nI false.toNat)) (by rw [← cq_nar]; rfl) (nm_r (nI_1 i) (ih (upd s.1 i z, upd s.2 i (nI false.toNat)) ⟨cq_fit I.1 ⟨fun z => absurd z (by decide), fun z => absurd z hc⟩, hx⟩))
    refine br_f (cq_shn hm hi) (pk_eq i 0 (fun e => h26 1 ?_) (fun e => h26 0 ?_))
    · rw [cq_N_0, if_pos e]; rfl
    · rw [cq_N_0, if_neg e]; rfl
end
end
section
/-! colourings, colours, alike -/
theorem cq_FT0 (N : Nat → Nat) (m : Nat) : cq_FT N m 0 = cq_in N m := funext fun a => propext ⟨fun h => h.2, fun h => ⟨Or.inl (Nat.and_zero a), h⟩⟩
theorem cq_all {m : Nat} (hm : m ≤ 9) : ((1 : Int32) <<< (nI m &&& 31)) - 1 = nI (2 ^ m - 1) := by
  rw [cq_sh (by omega)]
  exact pk_sub (b := 1) (cq_p0 m)
theorem cq_in0 (N : Nat → Nat) (m : Nat) : cq_in N m 0 := fun p q _ _ bp => absurd bp (by rw [Nat.zero_testBit]; decide)
theorem cq_in1 {N : Nat → Nat} {m : Nat} (hm : m ≤ 9) (hG : cq_G m N) : ∀ j, j < m → cq_in N m (2 ^ j) := by
  intro j hj p q hp hq bp bq
  rw [Nat.testBit_two_pow, decide_eq_true_eq] at bp bq
  rw [← bp, ← bq]
  exact hG.2.2 j (by omega)
theorem i_vc_colourings {k : Nat} {u : SX} {v : SY} (I : i_Rel k u v) (hk : k + 4 ≤ 2049) (v1 : Int32) : wpX_colourings (fun r u' => wpY_colourings (fun r' v' => r' = r ∧ i_Rel (k + 4) u' v') v v1) u v1 := by
  have I' := i_up I
  obtain ⟨m, N, w, an, aw, ao, ax, tt, tw, tx, tp, ta, R, rfl, rfl⟩ := I
  have R' := R
  obtain ⟨h2, hm, hG, hw, hN, hA, hT, hW⟩ := R'
  have h9 := cq_p9 hm
  have h0 := cq_p0 m
  unfold wpX_colourings wpY_colourings
  dsimp only
  rcases cq_ix v1 5 with h | ⟨j, h1, h3, rfl⟩ | ⟨j, hj, rfl⟩
  · exact br_t h (br_t h ⟨rfl, I'⟩)
  · have e : ¬ nI j ≤ 4 := nI_ge (a := 4) (by omega) h3
    exact br_f (nI_pos h3) (br_f e (br_f (nI_pos h3) (br_f e ⟨rfl, I'⟩)))
  · have e : nI j ≤ 4 := nI_le (b := 4) (by omega) (by decide)
    have e0 : ¬ nI j < 0 := nI_pos (by omega)
    refine br_f e0 (br_t e (cq_cnX (T := 0) hm hN h0 (by omega) (fun ao' ax' => ?_)))
    refine br_f e0 (br_t e (cq_paY hm hG hT (by omega) (fun tx' tp' ta' C => ?_)))
    dsimp only
    rw [cq_all hm, nI_clamp (by omega), C.2 _ (by omega), cq_FT0]
    exact ⟨vp_in_nI (by omega) (by decide), rfl, cq_mk R⟩
theorem cq_colX {m : Nat} {N : Nat → Nat} {an aw ao ax : Nat → Int32} (hm : m ≤ 9) (hG : cq_G m N) (hN : ∀ p, p < 9 → an p = nI (N p)) {post : Int32 → SX → Prop} (h : ∀ K ao' ax', 0 < cq_N (cq_in N m) K (2 ^ m - 1) → (∀ j, j < K → cq_N (cq_in N m) j (2 ^ m - 1) = 0) → post (nI K) (nI m, nI (2 ^ m - 1), an, aw, ao', ax')) : wpX_colours post (nI m, nI (2 ^ m - 1), an, aw, ao, ax) := by
  have h9 := cq_p9 hm
  have h0 := cq_p0 m
  unfold wpX_colours
  dsimp only
  refine cq_scX (T := 0) hm hN h0 (fun ao1 ax1 C => ?_)
  rw [cq_FT0] at C
  refine loop_0 (fun n i ax => wX_colours_7 post n (nI i) (nI m) (nI (2 ^ m - 1)) an aw ao1 ax) (fun i ax => cq_CX m (cq_in N m) i ao1 ax ∧ ∀ j, j < i → cq_N (cq_in N m) j (2 ^ m - 1) = 0) m ax1 ⟨C, fun j hj => by omega⟩ ?_ ?_
  · intro n ax2 I
    exact br_t (Int32.le_refl _) (h m ao1 ax2 (cq_N_all (cq_in0 N m) (cq_in1 hm hG) m (Nat.le_refl _) _ (by omega)) I.2)
  · intro n i ax2 hi I ih
    have hl := cq_N_lt (F := cq_in N m) (k := i) (s := 2 ^ m - 1) hm (by omega) (by omega)
    refine br_f (nI_ge hi (by omega)) ⟨vp_in_nI (by omega) (by decide), ?_⟩
    rw [nI_clamp (by omega), I.1.2 _ (by omega)]
    refine pk_eq (cq_N (cq_in N m) i (2 ^ m - 1)) 0 (fun e => ?_) (fun e => ?_)
    · refine cq_addX hm I.1 (fun ax3 C3 => nm_r (nI_1 i) (ih ax3 ⟨C3, fun j hj => ?_⟩))
      rcases Nat.lt_or_ge j i with z | z
      · exact I.2 j z
      · rw [show j = i by omega]; exact e
    · exact h i ao1 ax2 (by omega) I.2
theorem cq_colY {m : Nat} {N : Nat → Nat} {tt tw tx tp ta : Nat → Int32} (hm : m ≤ 9) (hG : cq_G m N) (hT : ∀ p q, p < 9 → q < 9 → tt (p * 9 + q) = nI ((N p).testBit q).toNat) {post : Int32 → SY → Prop} (h : ∀ K tx' tp' ta', 0 < cq_N (cq_in N m) K (2 ^ m - 1) → (∀ j, j < K → cq_N (cq_in N m) j (2 ^ m - 1) = 0) → post (nI K) (nI m, tt, tw, tx', tp', ta')) : wpY_colours post (nI m, tt, tw, tx, tp, ta) := by
  have h9 := cq_p9 hm
  have h0 := cq_p0 m
  unfold wpY_colours
  dsimp only
  refine nm_r (cq_all hm) ?_
  refine cq_paY (k := 0) hm hG hT (by decide) (fun tx1 tp1 ta1 C => ?_)
  refine loop_0 (σ := (Nat → Int32) × (Nat → Int32)) (fun n i t => wY_colours_16 post (nI (2 ^ m - 1)) n (nI i) (nI m) tt tw t.1 t.2 ta1) (fun i t => cq_CX m (cq_in N m) i ta1 t.1 ∧ ∀ j, j < i → cq_N (cq_in N m) j (2 ^ m - 1) = 0) 9 (tx1, tp1) ⟨C, fun j hj => by omega⟩ ?_ ?_
  · intro n t I
    have ha := cq_N_all (cq_in0 N m) (cq_in1 hm hG) m (Nat.le_refl _) (2 ^ m - 1) (by omega)
    have e : m = 9 := by
      rcases Nat.lt_or_ge m 9 with z | z
      · have := I.2 m z
        omega
      · omega
    exact br_t (Int32.le_refl _) (h 9 t.1 t.2 ta1 (by rw [e] at ha ⊢; exact ha) I.2)
  · intro n i t hi I ih
    have hl := cq_N_lt (F := cq_in N m) (k := i) (s := 2 ^ m - 1) hm (by omega) (by omega)
    refine br_f (nI_ge (b := 9) hi (by decide)) ⟨vp_in_nI (by omega) (by decide), ?_⟩
    rw [nI_clamp (by omega), I.1.2 _ (by omega)]
    refine pk_le (cq_N (cq_in N m) i (2 ^ m - 1)) 0 (fun e => ?_) (fun e => ?_)
    · refine cq_addY hm I.1 (fun tx3 tp3 C3 => nm_r (nI_1 i) (ih (tx3, tp3) ⟨C3, fun j hj => ?_⟩))
      rcases Nat.lt_or_ge j i with z | z
      · exact I.2 j z
      · rw [show j = i by omega]; omega
    · exact h i t.1 t.2 ta1 e I.2
theorem i_vc_colours {k : Nat} {u : SX} {v : SY} (I : i_Rel k u v) (hk : k + 4 ≤ 2049) : wpX_colours (fun r u' => wpY_colours (fun r' v' => r' = r ∧ i_Rel (k + 4) u' v') v) u := by
  obtain ⟨m, N, w, an, aw, ao, ax, tt, tw, tx, tp, ta, R, rfl, rfl⟩ := I
  have R' := R
  obtain ⟨h2, hm, hG, hw, hN, hA, hT, hW⟩ := R'
  refine cq_colX hm hG hN (fun K ao' ax' k1 k2 => ?_)
  refine cq_colY hm hG hT (fun K' tx' tp' ta' j1 j2 => ⟨congrArg nI ?_, cq_mk R⟩)
  rcases Nat.lt_trichotomy K K' with z | z | z
  · have := j2 K z
    omega
  · exact z.symm
  · have := k2 K' z
    omega
/-! alike -/
theorem cq_and2 {a p q : Nat} : a &&& (2 ^ p ||| 2 ^ q) = 2 ^ p ||| 2 ^ q ↔ a.testBit p = true ∧ a.testBit q = true := by
  rw [Nat.and_comm, cq_sub]
  constructor
  · intro h
    exact ⟨h p (by rw [Nat.testBit_or, Nat.testBit_two_pow]; simp), h q (by rw [Nat.testBit_or, Nat.testBit_two_pow, Nat.testBit_two_pow]; simp)⟩
  · intro h i hi
    rw [Nat.testBit_or, Nat.testBit_two_pow, Nat.testBit_two_pow] at hi
    simp only [Bool.or_eq_true, decide_eq_true_eq] at hi
    rcases hi with rfl | rfl
    · exact h.1
    · exact h.2
theorem cq_alY {m : Nat} {N : Nat → Nat} {tt tw tx tp ta : Nat → Int32} (hm : m ≤ 9) {c p q : Nat} (hc : c ≤ 9) (hp : p < m) (hq : q < m) (C : cq_CX m (cq_in N m) c ta tx) {post : Int32 → SY → Prop} (h1 : (∃ a, a < 2 ^ m ∧ (a.testBit p = true ∧ a.testBit q = true) ∧ cq_in N m a ∧ 0 < cq_N (cq_in N m) c (2 ^ m - 1 - a)) → post 1 (nI m, tt, tw, tx, tp, ta)) (h0 : (¬ ∃ a, a < 2 ^ m ∧ (a.testBit p = true ∧ a.testBit q = true) ∧ cq_in N m a ∧ 0 < cq_N (cq_in N m) c (2 ^ m - 1 - a)) → post 0 (nI m, tt, tw, tx, tp, ta)) : ∃ n, wY_alike_57 post (nI p) (nI q) (nI (2 ^ m - 1)) (nI m) tt tw tx tp ta n 0 := by
  have h9 := cq_p9 hm
  have hz := cq_p0 m
  refine loop_0 (σ := Unit) (fun n i _ => wY_alike_57 post (nI p) (nI q) (nI (2 ^ m - 1)) (nI m) tt tw tx tp ta n (nI i)) (fun i _ => ∀ a, a < i → ¬ ((a.testBit p = true ∧ a.testBit q = true) ∧ cq_in N m a ∧ 0 < cq_N (cq_in N m) c (2 ^ m - 1 - a))) (2 ^ m) () ?_ ?_ ?_
  · intro a ha
    omega
  · intro n _ I
    exact br_t (nI_lt (by omega) (by omega)) (h0 (fun ⟨a, a1, a2⟩ => I a a1 a2))
  · intro n i _ hi I ih
    have hJ : ¬ ((i.testBit p = true ∧ i.testBit q = true) ∧ cq_in N m i ∧ 0 < cq_N (cq_in N m) c (2 ^ m - 1 - i)) → wY_alike_57 post (nI p) (nI q) (nI (2 ^ m - 1)) (nI m) tt tw tx tp ta n (nI (i + 1)) := by
      intro hn
      refine ih () (fun a ha => ?_)
      rcases Nat.lt_or_ge a i with z | z
      · exact I a z
      · rw [show a = i by omega]; exact hn
    have hl := cq_N_lt (F := cq_in N m) (k := c) (s := 2 ^ m - 1 - i) hm hc (by omega)
    refine br_f (nI_nlt (by omega) (by omega)) ?_
    refine cq_hY (by omega) (by omega) (fun b1 => br_f (by decide) ?_) (fun b1 => br_t rfl ?_)
    · refine cq_hY (by omega) (by omega) (fun b2 => br_f (by decide) ?_) (fun b2 => br_t rfl ?_)
      · unfold wY_alike_89
        refine br_f (by decide) ?_
        rw [pk_sub (by omega), nI_clamp (by omega), nI_clamp (by omega), C.2 _ (by omega), C.1 i hi]
        refine ⟨vp_in_nI (by omega) (by decide), pk_le (cq_N (cq_in N m) c (2 ^ m - 1 - i)) 0 (fun e => ?_) (fun e => ⟨vp_in_nI (by omega) (by decide), ?_⟩)⟩
        · exact nm_r (nI_1 i) (hJ (fun z => by have := z.2.2; omega))
        · by_cases f : cq_in N m i
          · rw [cq_if_t f]
            exact br_f (by decide) (h1 ⟨i, hi, ⟨b1, b2⟩, f, e⟩)
          · rw [cq_if_f f]
            exact br_t rfl (nm_r (nI_1 i) (hJ (fun z => f z.2.1)))
      · unfold wY_alike_88 wY_alike_89
        exact br_t rfl (nm_r (nI_1 i) (hJ (fun z => by rw [b2] at z; exact absurd z.1.2 (by decide))))
    · unfold wY_alike_88 wY_alike_89
      exact br_t rfl (nm_r (nI_1 i) (hJ (fun z => by rw [b1] at z; exact absurd z.1.1 (by decide))))
theorem cq_alk {m : Nat} {N : Nat → Nat} {p q : Nat} (hp : p < m) (hq : q < m) (c : Nat) : 0 < cq_N (cq_FT N m (2 ^ p ||| 2 ^ q)) (c + 1) (2 ^ m - 1) ↔ ∃ a, a < 2 ^ m ∧ (a.testBit p = true ∧ a.testBit q = true) ∧ cq_in N m a ∧ 0 < cq_N (cq_in N m) c (2 ^ m - 1 - a) := by
  have hz := cq_p0 m
  have hT : 2 ^ p ||| 2 ^ q ≠ 0 := by
    intro e
    have := congrArg (fun x => Nat.testBit x p) e
    simp at this
  have hs : (2 ^ m - 1) &&& (2 ^ p ||| 2 ^ q) = 2 ^ p ||| 2 ^ q := by
    rw [cq_and2, Nat.testBit_two_pow_sub_one, Nat.testBit_two_pow_sub_one]
    exact ⟨decide_eq_true hp, decide_eq_true hq⟩
  have hk := cq_alike (F := cq_in N m) hT (c + 1) (2 ^ m - 1) hs
  have hk' : 0 < cq_N (cq_FT N m (2 ^ p ||| 2 ^ q)) (c + 1) (2 ^ m - 1) ↔ _ := hk
  rw [hk']
  constructor
  · intro ⟨k', e, a, a1, a2, a3, a4⟩
    have e' : k' = c := by omega
    rw [e', ← cq_minus a1] at a4
    have := cq_sub_le a1
    exact ⟨a, by omega, cq_and2.mp a2, a3, a4⟩
  · intro ⟨a, a1, a2, a3, a4⟩
    have ha : a &&& (2 ^ m - 1) = a := by rw [Nat.and_two_pow_sub_one_eq_mod, Nat.mod_eq_of_lt a1]
    exact ⟨c, rfl, a, ha, cq_and2.mpr a2, a3, by rw [← cq_minus ha]; exact a4⟩
theorem i_vc_alike {k : Nat} {u : SX} {v : SY} (I : i_Rel k u v) (hk : k + 4 ≤ 2049) (v1 : Int32) (v2 : Int32) (v3 : Int32) : wpX_alike (fun r u' => wpY_alike (fun r' v' => r' = r ∧ i_Rel (k + 4) u' v') v v1 v2 v3) u v1 v2 v3 := by
  have I' := i_up I
  obtain ⟨m, N, w, an, aw, ao, ax, tt, tw, tx, tp, ta, R, rfl, rfl⟩ := I
  have R' := R
  obtain ⟨h2, hm, hG, hw, hN, hA, hT, hW⟩ := R'
  have h9 := cq_p9 hm
  have hz := cq_p0 m
  unfold wpX_alike wpY_alike
  dsimp only
  rcases cq_ix2 v1 m with h | ⟨p, hp, rfl⟩
  · exact cq_bpX h (br_t rfl (cq_bpY h (br_f (by decide) ⟨rfl, I'⟩)))
  · refine cq_gpX hm hp (br_f (by decide) ?_)
    rcases cq_ix2 v2 m with h | ⟨q, hq, rfl⟩
    · exact cq_bpX h (br_t rfl (cq_gpY hm hp (br_t rfl (cq_bpY h (br_f (by decide) ⟨rfl, I'⟩)))))
    · refine cq_gpX hm hq (br_f (by decide) ?_)
      rcases cq_ix v3 10 with h | ⟨j, h1, h3, rfl⟩ | ⟨j, hj, rfl⟩
      · exact br_t h (cq_gpY hm hp (br_t rfl (cq_gpY hm hq (br_t rfl (br_t h ⟨rfl, I'⟩)))))
      · have e : ¬ nI j ≤ 9 := nI_ge (a := 9) (by omega) h3
        exact br_f (nI_pos h3) (br_f e (cq_gpY hm hp (br_t rfl (cq_gpY hm hq (br_t rfl (br_f (nI_pos h3) (br_f e ⟨rfl, I'⟩)))))))
      · have e : nI j ≤ 9 := nI_le (b := 9) (by omega) (by decide)
        have e0 : ¬ nI j < 0 := nI_pos (by omega)
        have hTl : 2 ^ p ||| 2 ^ q < 2 ^ m := Nat.or_lt_two_pow (Nat.pow_lt_pow_right (by decide) hp) (Nat.pow_lt_pow_right (by decide) hq)
        have hl := cq_N_lt (F := cq_FT N m (2 ^ p ||| 2 ^ q)) (k := j) (s := 2 ^ m - 1) hm (by omega) (by omega)
        refine br_f e0 (br_t e ?_)
        rw [cq_sh (by omega), cq_sh (by omega), cq_or]
        refine cq_cnX hm hN hTl (by omega) (fun ao' ax' => ?_)
        refine pk_le (cq_N (cq_FT N m (2 ^ p ||| 2 ^ q)) j (2 ^ m - 1)) 0 (fun f => ?_) (fun f => ?_)
        · refine cq_gpY hm hp (br_t rfl (cq_gpY hm hq (br_t rfl (br_f e0 (br_t e ?_)))))
          cases j with
          | zero => exact br_t rfl ⟨rfl, cq_mk R⟩
          | succ c =>
            refine br_f (nI_ne0 (by omega) (by omega)) ?_
            have ep : nI (c + 1) - 1 = nI c := nI_pred c
            rw [ep]
            refine cq_paY hm hG hT (by omega) (fun tx' tp' ta' C => nm_r (cq_all hm) ?_)
            refine cq_alY hm (by omega) hp hq C (fun z => ?_) (fun _ => ⟨rfl, cq_mk R⟩)
            have := (cq_alk hp hq c).mpr z
            omega
        · refine cq_gpY hm hp (br_t rfl (cq_gpY hm hq (br_t rfl (br_f e0 (br_t e ?_)))))
          cases j with
          | zero =>
            have h4 : 2 ^ 2 ≤ 2 ^ m := Nat.pow_le_pow_right (by decide) h2
            rw [cq_N_0, if_neg (by omega)] at f
            omega
          | succ c =>
            refine br_f (nI_ne0 (by omega) (by omega)) ?_
            have ep : nI (c + 1) - 1 = nI c := nI_pred c
            rw [ep]
            refine cq_paY hm hG hT (by omega) (fun tx' tp' ta' C => nm_r (cq_all hm) ?_)
            exact cq_alY hm (by omega) hp hq C (fun _ => ⟨rfl, cq_mk R⟩) (fun z => absurd ((cq_alk hp hq c).mp f) z)
end
