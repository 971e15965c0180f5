/-! the component's readers -/
section
variable {m : Nat} {N w : Nat → Nat} {an aw ao ax : Nat → Int32}
theorem cq_hX {post : Int32 → Prop} {s p : Nat} (hs : s < 2 ^ 31) (hp : p < 32) (h1 : s.testBit p = true → post 1) (h0 : s.testBit p = false → post 0) : wpX_holds post (nI s) (nI p) := by
  unfold wpX_holds
  rw [cq_bit hs hp]
  cases hb : s.testBit p
  · exact br_t (by decide) (h0 hb)
  · exact br_f (by decide) (h1 hb)
theorem cq_allX (hm : m ≤ 9) (hN : ∀ p, p < 9 → an p = nI (N p)) {s : Nat} (hs : s < 2 ^ m) {post : Int32 → Prop} (h1 : cq_cl N m s → post 1) (h0 : ¬ cq_cl N m s → post 0) : wpX_allJoined post (nI m, nI (2 ^ m - 1), an, aw, ao, ax) (nI s) := by
  have h9 := cq_p9 hm
  refine loop_0 (σ := Unit) (fun n i _ => wX_allJoined_2 post (nI s) (nI m) (nI (2 ^ m - 1)) an aw ao ax n (nI i)) (fun i _ => ∀ p q, p < i → q < m → p ≠ q → s.testBit p = true → s.testBit q = true → (N p).testBit q = true) m () ?_ ?_ ?_
  · intro p q hp
    omega
  · intro n _ I
    exact br_t (Int32.le_refl _) (h1 I)
  · intro n i _ hi I ih
    refine br_f (nI_ge hi (by omega)) (nm_r (cq_del_e s (by omega)) ?_)
    refine cq_hX (by omega) (by omega) (fun hb => ?_) (fun hb => ?_)
    · refine br_f (by decide) ⟨vp_in_nI (by omega) (by decide), ?_⟩
      have hd := cq_del_le s i
      have ha : N i &&& cq_del s i ≤ cq_del s i := Nat.and_le_right
      rw [nI_clamp (by omega), hN i (by omega), nx_and]
      refine pk_eq (N i &&& cq_del s i) (cq_del s i) (fun h => ?_) (fun h => ?_)
      · refine nm_r (nI_1 i) (ih () ?_)
        intro p q hp hq hpq bp bq
        rcases Nat.lt_or_ge p i with z | z
        · exact I p q z hq hpq bp bq
        · have e : p = i := by omega
          rw [e] at hpq ⊢
          exact (cq_nb hm hs).mp h q hq hpq bq
      · exact h0 (fun hc => h ((cq_nb hm hs).mpr (fun q hq hiq bq => hc i q hi hq hiq hb bq)))
    · refine br_t rfl (nm_r (nI_1 i) (ih () ?_))
      intro p q hp hq hpq bp bq
      rcases Nat.lt_or_ge p i with z | z
      · exact I p q z hq hpq bp bq
      · have e : p = i := by omega
        rw [e, hb] at bp
        exact absurd bp (by decide)
theorem cq_noneX (hm : m ≤ 9) (hN : ∀ p, p < 9 → an p = nI (N p)) {s : Nat} (hs : s < 2 ^ m) {post : Int32 → Prop} (h1 : cq_in N m s → post 1) (h0 : ¬ cq_in N m s → post 0) : wpX_noneJoined post (nI m, nI (2 ^ m - 1), an, aw, ao, ax) (nI s) := by
  have h9 := cq_p9 hm
  refine loop_0 (σ := Unit) (fun n i _ => wX_noneJoined_2 post (nI s) (nI m) (nI (2 ^ m - 1)) an aw ao ax n (nI i)) (fun i _ => ∀ p q, p < i → q < m → s.testBit p = true → s.testBit q = true → (N p).testBit q = false) m () ?_ ?_ ?_
  · intro p q hp
    omega
  · intro n _ I
    exact br_t (Int32.le_refl _) (h1 I)
  · intro n i _ hi I ih
    refine br_f (nI_ge hi (by omega)) ?_
    refine cq_hX (by omega) (by omega) (fun hb => ?_) (fun hb => ?_)
    · refine br_f (by decide) ⟨vp_in_nI (by omega) (by decide), ?_⟩
      have ha : N i &&& s ≤ s := Nat.and_le_right
      rw [nI_clamp (by omega), hN i (by omega), nx_and]
      refine pk_eq (N i &&& s) 0 (fun h => ?_) (fun h => ?_)
      · refine nm_r (nI_1 i) (ih () ?_)
        intro p q hp hq bp bq
        rcases Nat.lt_or_ge p i with z | z
        · exact I p q z hq bp bq
        · have e : p = i := by omega
          rw [e]
          exact (cq_n0 hs).mp h q hq bq
      · exact h0 (fun hc => h ((cq_n0 hs).mpr (fun q hq bq => hc i q hi hq hb bq)))
    · refine br_t rfl (nm_r (nI_1 i) (ih () ?_))
      intro p q hp hq bp bq
      rcases Nat.lt_or_ge p i with z | z
      · exact I p q z hq bp bq
      · have e : p = i := by omega
        rw [e, hb] at bp
        exact absurd bp (by decide)
theorem cq_fullX (hm : m ≤ 9) (hN : ∀ p, p < 9 → an p = nI (N p)) {s : Nat} (hs : s < 2 ^ m) {post : Int32 → Prop} (h1 : cq_fu N m s → post 1) (h0 : ¬ cq_fu N m s → post 0) : wpX_isFull post (nI m, nI (2 ^ m - 1), an, aw, ao, ax) (nI s) := by
  have h9 := cq_p9 hm
  refine loop_0 (σ := Unit) (fun n i _ => wX_isFull_2 post (nI s) (nI m) (nI (2 ^ m - 1)) an aw ao ax n (nI i)) (fun i _ => ∀ p, p < i → ¬ N p &&& s = s) m () ?_ ?_ ?_
  · intro p hp
    omega
  · intro n _ I
    refine br_t (Int32.le_refl _) ?_
    exact cq_allX hm hN hs (fun hc => ⟨rfl, h1 ⟨I, hc⟩⟩) (fun hc => ⟨rfl, h0 (fun z => hc z.2)⟩)
  · intro n i _ hi I ih
    refine br_f (nI_ge hi (by omega)) ⟨vp_in_nI (by omega) (by decide), ?_⟩
    have ha : N i &&& s ≤ s := Nat.and_le_right
    rw [nI_clamp (by omega), hN i (by omega), nx_and]
    refine pk_eq (N i &&& s) s (fun h => ?_) (fun h => ?_)
    · exact h0 (fun z => z.1 i hi h)
    · refine nm_r (nI_1 i) (ih () ?_)
      intro p hp
      rcases Nat.lt_or_ge p i with z | z
      · exact I p z
      · have e : p = i := by omega
        rw [e]
        exact h
theorem cq_memX (hm : m ≤ 9) {s : Nat} (hs : s < 2 ^ m) {post : Int32 → Prop} (h : post (nI (cq_m s m))) : wpX_membersOf post (nI m, nI (2 ^ m - 1), an, aw, ao, ax) (nI s) := by
  have h9 := cq_p9 hm
  refine loop_0 (fun n i a => wX_membersOf_4 post (nI s) (nI m) (nI (2 ^ m - 1)) an aw ao ax n (nI a) (nI i)) (fun i a => a = cq_m s i) m 0 rfl ?_ ?_
  · intro n a ha
    refine br_t (Int32.le_refl _) ?_
    rw [ha]; exact h
  · intro n i a hi ha ih
    have hn : cq_m s (i + 1) = cq_m s i + (if s.testBit i = true then 1 else 0) := rfl
    refine br_f (nI_ge hi (by omega)) ?_
    refine cq_hX (by omega) (by omega) (fun hb => ?_) (fun hb => ?_)
    · exact br_f (by decide) (nm_r (nI_1 a) (nm_r (nI_1 i) (ih (a + 1) (by rw [hn, hb, ha]; rfl))))
    · exact br_t rfl (nm_r (nI_1 i) (ih a (by rw [hn, hb, ha]; rfl)))
theorem cq_weiX (hm : m ≤ 9) (hw : ∀ p, p < 9 → aw p = nI (w p)) {s : Nat} (hs : s < 2 ^ m) {post : Int32 → Prop} (h : post (nI (cq_w w s m))) : wpX_weightOf post (nI m, nI (2 ^ m - 1), an, aw, ao, ax) (nI s) := by
  have h9 := cq_p9 hm
  refine loop_0 (fun n i a => wX_weightOf_4 post (nI s) (nI m) (nI (2 ^ m - 1)) an aw ao ax n (nI a) (nI i)) (fun i a => a = cq_w w s i) m 0 rfl ?_ ?_
  · intro n a ha
    refine br_t (Int32.le_refl _) ?_
    rw [ha]; exact h
  · intro n i a hi ha ih
    have hn : cq_w w s (i + 1) = cq_w w s i + (if s.testBit i = true then w i else 0) := rfl
    refine br_f (nI_ge hi (by omega)) ?_
    refine cq_hX (by omega) (by omega) (fun hb => ?_) (fun hb => ?_)
    · refine br_f (by decide) ⟨vp_in_nI (by omega) (by decide), ?_⟩
      rw [nI_clamp (by omega), hw i (by omega), nI_add]
      exact nm_e (nm_r (nI_1 i) (ih (a + w i) (by rw [hn, hb, ha]; rfl)))
    · exact br_t rfl (nm_r (nI_1 i) (ih a (by rw [hn, hb, ha]; rfl)))
theorem cq_w_le (h : ∀ p, p < 9 → w p ≤ 20) (s : Nat) (hm : m ≤ 9) : cq_w w s m ≤ 20 * m := by
  unfold cq_w
  induction m with
  | zero => exact Nat.le_refl _
  | succ i ih =>
    have h1 := ih (by omega)
    have h2 := h i (by omega)
    show cq_S _ i + (if s.testBit i = true then w i else 0) ≤ 20 * (i + 1)
    have h3 : (if s.testBit i = true then w i else 0) ≤ 20 := by split <;> omega
    omega
theorem cq_gpX {post : Int32 → Prop} {p : Nat} (hm : m ≤ 9) (hp : p < m) (h : post 1) : wpX_isGoodPoint post (nI m, nI (2 ^ m - 1), an, aw, ao, ax) (nI p) := br_f (nI_pos (by omega)) (br_f (nI_ge hp (by omega)) h)
theorem cq_bpX {post : Int32 → Prop} {x : Int32} (hx : x < 0 ∨ ∃ j : Nat, m ≤ j ∧ j < 2 ^ 31 ∧ x = nI j) (h : post 0) : wpX_isGoodPoint post (nI m, nI (2 ^ m - 1), an, aw, ao, ax) x := by
  rcases hx with hx | ⟨j, h1, h2, rfl⟩
  · exact br_t hx h
  · exact br_f (nI_pos h2) (br_t (nI_le h1 h2) h)
theorem cq_gsX {post : Int32 → Prop} {s : Nat} (hm : m ≤ 9) (hs : s < 2 ^ m) (h : post 1) : wpX_isGoodSet post (nI m, nI (2 ^ m - 1), an, aw, ao, ax) (nI s) := by
  have h9 := cq_p9 hm
  exact br_f (nI_pos (by omega)) (br_f (nI_nlt (by omega) (by omega)) h)
theorem cq_bsX {post : Int32 → Prop} {x : Int32} (hx : x < 0 ∨ ∃ j : Nat, 2 ^ m ≤ j ∧ j < 2 ^ 31 ∧ x = nI j) (h : post 0) : wpX_isGoodSet post (nI m, nI (2 ^ m - 1), an, aw, ao, ax) x := by
  have h0 := cq_p0 m
  rcases hx with hx | ⟨j, h1, h2, rfl⟩
  · exact br_t hx h
  · exact br_f (nI_pos h2) (br_t (nI_lt (by omega) h2) h)
end
