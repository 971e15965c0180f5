/-! the reference's readers -/
section
variable {m : Nat} {N w : Nat → Nat} {tt tw tx tp ta : Nat → Int32}
theorem cq_hY {post : Int32 → Prop} {v : SY} {s p : Nat} (hs : s < 2 ^ 31) (hp : p < 32) (h1 : s.testBit p = true → post 1) (h0 : s.testBit p = false → post 0) : wpY_holds post v (nI s) (nI p) := by
  obtain ⟨_, _, _, _, _, _⟩ := v
  show ((((nI s >>> (nI p &&& 31)) &&& 1) = 1 → (post 1)) ∧ (¬ ((nI s >>> (nI p &&& 31)) &&& 1) = 1 → (post 0)))
  rw [cq_bit hs hp]
  cases hb : s.testBit p
  · exact br_f (by decide) (h0 hb)
  · exact br_t (by decide) (h1 hb)
theorem cq_beq (a b : Bool) : nI a.toNat = nI b.toNat ↔ a = b := by
  cases a <;> cases b <;> decide
theorem cq_evY (hm : m ≤ 9) (hT : ∀ p q, p < 9 → q < 9 → tt (p * 9 + q) = nI ((N p).testBit q).toNat) {s : Nat} (hs : s < 2 ^ 31) (b : Bool) {post : Int32 → Prop} (h1 : cq_ev N m s b → post 1) (h0 : ¬ cq_ev N m s b → post 0) : wpY_even post (nI m, tt, tw, tx, tp, ta) (nI s) (nI b.toNat) := by
  refine loop_0 (σ := Unit) (fun n i _ => wY_even_2 post (nI s) (nI b.toNat) (nI m) tt tw tx tp ta n (nI i)) (fun i _ => ∀ p q, q < p → p < i → s.testBit p = true → s.testBit q = true → (N p).testBit q = b) m () ?_ ?_ ?_
  · intro p q hqp hp
    omega
  · intro n _ I
    exact br_t (Int32.le_refl _) (h1 I)
  · intro n i _ hi I ih
    refine br_f (nI_ge hi (by omega)) ?_
    refine loop_0 (σ := Unit) (fun n' j _ => wY_even_13 post (wY_even_2 post (nI s) (nI b.toNat) (nI m) tt tw tx tp ta n) (nI s) (nI b.toNat) (nI i) (nI m) tt tw tx tp ta n' (nI j)) (fun j _ => ∀ q, q < j → s.testBit i = true → s.testBit q = true → (N i).testBit q = b) i () ?_ ?_ ?_
    · intro q hq
      omega
    · intro n' _ I2
      refine br_t (Int32.le_refl _) (nm_r (nI_1 i) (ih () ?_))
      intro p q hqp hp bp bq
      rcases Nat.lt_or_ge p i with z | z
      · exact I p q hqp z bp bq
      · have e : p = i := by omega
        rw [e] at hqp bp ⊢
        exact I2 q hqp bp bq
    · intro n' j _ hj I2 ih2
      refine br_f (nI_ge hj (by omega)) ?_
      refine cq_hY hs (by omega) (fun hb => ?_) (fun hb => ?_)
      · refine br_f (by decide) ?_
        refine cq_hY hs (by omega) (fun hc => ?_) (fun hc => ?_)
        · refine br_f (by decide) ?_
          rw [cq_t9, nI_clamp (by omega), hT i j (by omega) (by omega)]
          refine ⟨vp_in_nI (by omega) (by decide), br_c (fun h => ?_) (fun h => ?_)⟩
          · refine nm_r (nI_1 j) (ih2 () ?_)
            intro q hq bi bq
            rcases Nat.lt_or_ge q j with z | z
            · exact I2 q z bi bq
            · have e : q = j := by omega
              rw [e]
              exact (cq_beq _ _).mp h
          · exact h0 (fun z => h ((cq_beq _ _).mpr (z i j hj hi hb hc)))
        · refine br_t rfl (nm_r (nI_1 j) (ih2 () ?_))
          intro q hq bi bq
          rcases Nat.lt_or_ge q j with z | z
          · exact I2 q z bi bq
          · have e : q = j := by omega
            rw [e, hc] at bq
            exact absurd bq (by decide)
      · refine br_t rfl (nm_r (nI_1 j) (ih2 () ?_))
        intro q hq bi bq
        rw [hb] at bi
        exact absurd bi (by decide)
theorem cq_clY (hm : m ≤ 9) (hG : cq_G m N) (hT : ∀ p q, p < 9 → q < 9 → tt (p * 9 + q) = nI ((N p).testBit q).toNat) {s : Nat} (hs : s < 2 ^ m) {post : Int32 → Prop} (h1 : cq_cl N m s → post 1) (h0 : ¬ cq_cl N m s → post 0) : wpY_even post (nI m, tt, tw, tx, tp, ta) (nI s) 1 := by
  have h9 := cq_p9 hm
  exact cq_evY hm hT (by omega) true (fun z => h1 ((cq_ev_t hm hG s).mp z)) (fun z => h0 (fun y => z ((cq_ev_t hm hG s).mpr y)))
theorem cq_inY (hm : m ≤ 9) (hG : cq_G m N) (hT : ∀ p q, p < 9 → q < 9 → tt (p * 9 + q) = nI ((N p).testBit q).toNat) {s : Nat} (hs : s < 2 ^ m) {post : Int32 → Prop} (h1 : cq_in N m s → post 1) (h0 : ¬ cq_in N m s → post 0) : wpY_even post (nI m, tt, tw, tx, tp, ta) (nI s) 0 := by
  have h9 := cq_p9 hm
  exact cq_evY hm hT (by omega) false (fun z => h1 ((cq_ev_f hm hG s).mp z)) (fun z => h0 (fun y => z ((cq_ev_f hm hG s).mpr y)))
theorem cq_memY (hm : m ≤ 9) {s : Nat} (hs : s < 2 ^ m) {post : Int32 → Prop} (h : post (nI (cq_m s m))) : wpY_members post (nI m, tt, tw, tx, tp, ta) (nI s) := by
  have h9 := cq_p9 hm
  refine loop_0 (fun n i a => wY_members_4 post (nI s) (nI m) tt tw tx tp ta n (nI a) (nI i)) (fun i a => a = cq_m s i) m 0 rfl ?_ ?_
  · intro n a ha
    refine br_t (Int32.le_refl _) ?_
    rw [ha]; exact h
  · intro n i a hi ha ih
    have hn : cq_m s (i + 1) = cq_m s i + (if s.testBit i = true then 1 else 0) := rfl
    refine br_f (nI_ge hi (by omega)) ?_
    refine cq_hY (by omega) (by omega) (fun hb => ?_) (fun hb => ?_)
    · exact br_f (by decide) (nm_r (nI_1 a) (nm_r (nI_1 i) (ih (a + 1) (by rw [hn, hb, ha]; rfl))))
    · exact br_t rfl (nm_r (nI_1 i) (ih a (by rw [hn, hb, ha]; rfl)))
theorem cq_weiY (hm : m ≤ 9) (hw : ∀ p, p < 9 → tw p = nI (w p)) {s : Nat} (hs : s < 2 ^ m) {post : Int32 → Prop} (h : post (nI (cq_w w s m))) : wpY_heavy post (nI m, tt, tw, tx, tp, ta) (nI s) := by
  have h9 := cq_p9 hm
  refine loop_0 (fun n i a => wY_heavy_4 post (nI s) (nI m) tt tw tx tp ta n (nI a) (nI i)) (fun i a => a = cq_w w s i) m 0 rfl ?_ ?_
  · intro n a ha
    refine br_t (Int32.le_refl _) ?_
    rw [ha]; exact h
  · intro n i a hi ha ih
    have hn : cq_w w s (i + 1) = cq_w w s i + (if s.testBit i = true then w i else 0) := rfl
    refine br_f (nI_ge hi (by omega)) ?_
    refine cq_hY (by omega) (by omega) (fun hb => ?_) (fun hb => ?_)
    · refine br_f (by decide) ⟨vp_in_nI (by omega) (by decide), ?_⟩
      rw [nI_clamp (by omega), hw i (by omega), nI_add]
      exact nm_e (nm_r (nI_1 i) (ih (a + w i) (by rw [hn, hb, ha]; rfl)))
    · exact br_t rfl (nm_r (nI_1 i) (ih a (by rw [hn, hb, ha]; rfl)))
theorem cq_or_lt {s p : Nat} (hs : s < 2 ^ m) (hp : p < m) : s ||| 2 ^ p < 2 ^ m := Nat.or_lt_two_pow hs (Nat.pow_lt_pow_right (by decide) hp)
theorem cq_fullY (hm : m ≤ 9) (hG : cq_G m N) (hT : ∀ p q, p < 9 → q < 9 → tt (p * 9 + q) = nI ((N p).testBit q).toNat) {s : Nat} (hs : s < 2 ^ m) {post : Int32 → Prop} (h1 : cq_fu N m s → post 1) (h0 : ¬ cq_fu N m s → post 0) : wpY_isFull post (nI m, tt, tw, tx, tp, ta) (nI s) := by
  have h9 := cq_p9 hm
  unfold wpY_isFull
  refine cq_clY hm hG hT hs (fun hc => ?_) (fun hc => ?_)
  · refine br_f (by decide) ?_
    refine loop_0 (σ := Unit) (fun n i _ => wY_isFull_13 post (nI s) (nI m) tt tw tx tp ta n (nI i)) (fun i _ => ∀ p, p < i → s.testBit p = false → ¬ cq_cl N m (s ||| 2 ^ p)) m () ?_ ?_ ?_
    · intro p hp
      omega
    · intro n _ I
      exact br_t (Int32.le_refl _) (h1 ((cq_fu_y hm hG hs hc).mpr I))
    · intro n i _ hi I ih
      refine br_f (nI_ge hi (by omega)) ?_
      refine cq_hY (by omega) (by omega) (fun hb => ?_) (fun hb => ?_)
      · refine br_f (by decide) (nm_r (nI_1 i) (ih () ?_))
        intro p hp bp
        rcases Nat.lt_or_ge p i with z | z
        · exact I p z bp
        · have e : p = i := by omega
          rw [e, hb] at bp
          exact absurd bp (by decide)
      · refine br_t rfl ?_
        rw [cq_sh (by omega), cq_or]
        refine cq_clY hm hG hT (cq_or_lt hs hi) (fun hd => ?_) (fun hd => ?_)
        · exact br_f (by decide) (h0 (fun z => (cq_fu_y hm hG hs hc).mp z i hi hb hd))
        · refine br_t rfl (nm_r (nI_1 i) (ih () ?_))
          intro p hp bp
          rcases Nat.lt_or_ge p i with z | z
          · exact I p z bp
          · have e : p = i := by omega
            rw [e]
            exact hd
  · exact br_t rfl (h0 (fun z => hc z.2))
theorem cq_gpY {post : Int32 → Prop} {p : Nat} (hm : m ≤ 9) (hp : p < m) (h : post 0) : wpY_bad post (nI m, tt, tw, tx, tp, ta) (nI p) := br_f (nI_pos (by omega)) (br_t (nI_lt hp (by omega)) h)
theorem cq_bpY {post : Int32 → Prop} {x : Int32} (hx : x < 0 ∨ ∃ j : Nat, m ≤ j ∧ j < 2 ^ 31 ∧ x = nI j) (h : post 1) : wpY_bad post (nI m, tt, tw, tx, tp, ta) x := by
  rcases hx with hx | ⟨j, h1, h2, rfl⟩
  · exact br_t hx h
  · exact br_f (nI_pos h2) (br_f (nI_nlt h1 h2) h)
theorem cq_gsY {post : Int32 → Prop} {s : Nat} (hm : m ≤ 9) (hs : s < 2 ^ m) (h : post 0) : wpY_badSet post (nI m, tt, tw, tx, tp, ta) (nI s) := by
  have h9 := cq_p9 hm
  unfold wpY_badSet
  dsimp only
  rw [cq_sh (by omega)]
  exact br_f (nI_pos (by omega)) (br_t (nI_lt hs (by omega)) h)
theorem cq_bsY {post : Int32 → Prop} {x : Int32} (hm : m ≤ 9) (hx : x < 0 ∨ ∃ j : Nat, 2 ^ m ≤ j ∧ j < 2 ^ 31 ∧ x = nI j) (h : post 1) : wpY_badSet post (nI m, tt, tw, tx, tp, ta) x := by
  unfold wpY_badSet
  dsimp only
  rw [cq_sh (by omega)]
  rcases hx with hx | ⟨j, h1, h2, rfl⟩
  · exact br_t hx h
  · exact br_f (nI_pos h2) (br_f (nI_nlt h1 h2) h)
end
