/-! the relation; the questions about cliques -/
def cq_R (m : Nat) (N w : Nat → Nat) (an aw tt tw : Nat → Int32) : Prop := 2 ≤ m ∧ m ≤ 9 ∧ cq_G m N ∧ (∀ p, p < 9 → w p ≤ 20) ∧ (∀ p, p < 9 → an p = nI (N p)) ∧ (∀ p, p < 9 → aw p = nI (w p)) ∧ (∀ p q, p < 9 → q < 9 → tt (p * 9 + q) = nI ((N p).testBit q).toNat) ∧ (∀ p, p < 9 → tw p = nI (w p))
def i_Rel (_ : Nat) (u : SX) (v : SY) : Prop := ∃ (m : Nat) (N w : Nat → Nat) (an aw ao ax tt tw tx tp ta : Nat → Int32), cq_R m N w an aw tt tw ∧ u = (nI m, nI (2 ^ m - 1), an, aw, ao, ax) ∧ v = (nI m, tt, tw, tx, tp, ta)
theorem i_up {k : Nat} {u : SX} {v : SY} (h : i_Rel k u v) : i_Rel (k + 4) u v := h
theorem cq_mk {k m : Nat} {N w : Nat → Nat} {an aw ao ax tt tw tx tp ta : Nat → Int32} (h : cq_R m N w an aw tt tw) : i_Rel k (nI m, nI (2 ^ m - 1), an, aw, ao, ax) (nI m, tt, tw, tx, tp, ta) := ⟨m, N, w, an, aw, ao, ax, tt, tw, tx, tp, ta, h, rfl, rfl⟩
theorem cq_ix2 (x : Int32) (n : Nat) : (x < 0 ∨ ∃ j : Nat, n ≤ j ∧ j < 2 ^ 31 ∧ x = nI j) ∨ ∃ j : Nat, j < n ∧ x = nI j := by
  rcases cq_ix x n with h | h | h
  · exact Or.inl (Or.inl h)
  · exact Or.inl (Or.inr h)
  · exact Or.inr h
theorem cq_shle {m i : Nat} (hm : m ≤ 9) (h : 2 ^ m ≤ i) (hi : i < 2 ^ 31) : (1 : Int32) <<< (nI m &&& 31) ≤ nI i := by
  rw [cq_sh (by omega)]; exact nI_le h hi
theorem cq_shn {m i : Nat} (hm : m ≤ 9) (h : i < 2 ^ m) : ¬ (1 : Int32) <<< (nI m &&& 31) ≤ nI i := by
  have h9 := cq_p9 hm
  rw [cq_sh (by omega)]; exact nI_ge h (by omega)
theorem i_vc_points {k : Nat} {u : SX} {v : SY} (I : i_Rel k u v) (hk : k + 4 ≤ 2049) : wpX_points (fun r => wpY_points (fun r' => r' = r ∧ i_Rel (k + 4) u v) v) u := by
  have I' := i_up I
  obtain ⟨m, N, w, an, aw, ao, ax, tt, tw, tx, tp, ta, R, rfl, rfl⟩ := I
  exact ⟨rfl, I'⟩
theorem i_vc_isClique {k : Nat} {u : SX} {v : SY} (I : i_Rel k u v) (hk : k + 4 ≤ 2049) (v1 : Int32) : wpX_isClique (fun r => wpY_isClique (fun r' => r' = r ∧ i_Rel (k + 4) u v) v v1) u v1 := by
  have I' := i_up I
  obtain ⟨m, N, w, an, aw, ao, ax, tt, tw, tx, tp, ta, ⟨h2, hm, hG, hw, hN, hA, hT, hW⟩, rfl, rfl⟩ := I
  unfold wpX_isClique wpY_isClique
  dsimp only
  rcases cq_ix2 v1 (2 ^ m) with h | ⟨s, hs, rfl⟩
  · exact cq_bsX h (br_t rfl (cq_bsY hm h (br_f (by decide) ⟨rfl, I'⟩)))
  · refine cq_gsX hm hs (br_f (by decide) ?_)
    refine cq_allX hm hN hs (fun hc => br_f (by decide) ?_) (fun hc => br_t rfl ?_)
    · exact cq_gsY hm hs (br_t rfl (cq_clY hm hG hT hs (fun _ => br_f (by decide) ⟨rfl, I'⟩) (fun z => absurd hc z)))
    · exact cq_gsY hm hs (br_t rfl (cq_clY hm hG hT hs (fun z => absurd z hc) (fun _ => br_t rfl ⟨rfl, I'⟩)))
/-! joinedTo -/
theorem cq_modt {x i : Nat} (h : x.testBit i = true) : x % 2 ^ i ||| 2 ^ i = x % 2 ^ (i + 1) := by
  apply Nat.eq_of_testBit_eq
  intro j
  rw [Nat.testBit_or, Nat.testBit_mod_two_pow, Nat.testBit_two_pow, Nat.testBit_mod_two_pow]
  by_cases e : i = j
  · rw [← e, h]; simp
  · have : (j < i) ↔ (j < i + 1) := by omega
    simp [e, this]
theorem cq_modf {x i : Nat} (h : x.testBit i = false) : x % 2 ^ i = x % 2 ^ (i + 1) := by
  apply Nat.eq_of_testBit_eq
  intro j
  rw [Nat.testBit_mod_two_pow, Nat.testBit_mod_two_pow]
  by_cases e : i = j
  · rw [← e, h]; simp
  · have : (j < i) ↔ (j < i + 1) := by omega
    simp [this]
theorem cq_jtY {m : Nat} {N : Nat → Nat} {tt tw tx tp ta : Nat → Int32} (hm : m ≤ 9) (hT : ∀ p q, p < 9 → q < 9 → tt (p * 9 + q) = nI ((N p).testBit q).toNat) {p : Nat} (hp : p < 9) (hN : N p < 2 ^ m) {post : Int32 → Prop} (h : post (nI (N p))) : ∃ n, wY_joinedTo_14 post (nI p) (nI m) tt tw tx tp ta n 0 0 := by
  refine loop_0 (fun n i a => wY_joinedTo_14 post (nI p) (nI m) tt tw tx tp ta n (nI a) (nI i)) (fun i a => a = N p % 2 ^ i) m 0 ?_ ?_ ?_
  · rw [Nat.pow_zero, Nat.mod_one]
  · intro n a ha
    refine br_t (Int32.le_refl _) ?_
    rw [ha, Nat.mod_eq_of_lt hN]; exact h
  · intro n i a hi ha ih
    refine br_f (nI_ge hi (by omega)) ?_
    rw [cq_t9, nI_clamp (by omega), hT p i hp (by omega), cq_sh (by omega), cq_or]
    refine ⟨vp_in_nI (by omega) (by decide), ?_⟩
    cases hb : (N p).testBit i
    · exact br_t rfl (nm_r (nI_1 i) (ih a (by rw [ha, cq_modf hb])))
    · exact br_f (by decide) (nm_e (nm_r (nI_1 i) (ih (a ||| 2 ^ i) (by rw [ha, cq_modt hb]))))
theorem i_vc_joinedTo {k : Nat} {u : SX} {v : SY} (I : i_Rel k u v) (hk : k + 4 ≤ 2049) (v1 : Int32) : wpX_joinedTo (fun r => wpY_joinedTo (fun r' => r' = r ∧ i_Rel (k + 4) u v) v v1) u v1 := by
  have I' := i_up I
  obtain ⟨m, N, w, an, aw, ao, ax, tt, tw, tx, tp, ta, ⟨h2, hm, hG, hw, hN, hA, hT, hW⟩, rfl, rfl⟩ := I
  unfold wpX_joinedTo wpY_joinedTo
  dsimp only
  rcases cq_ix2 v1 m with h | ⟨p, hp, rfl⟩
  · exact cq_bpX h (br_t rfl (cq_bpY h (br_f (by decide) ⟨rfl, I'⟩)))
  · refine cq_gpX hm hp (br_f (by decide) ⟨vp_in_nI (by omega) (by decide), ?_⟩)
    refine cq_gpY hm hp (br_t rfl ?_)
    exact cq_jtY hm hT (by omega) (hG.1 p (by omega)) ⟨by rw [nI_clamp (by omega), hN p (by omega)], I'⟩
/-! counting full cliques, cliques -/
theorem cq_fcX {m : Nat} {N : Nat → Nat} {an aw ao ax : Nat → Int32} (hm : m ≤ 9) (hN : ∀ p, p < 9 → an p = nI (N p)) {post : Int32 → Prop} (h : post (nI (cq_S (fun s => cq_if (cq_fu N m s) 1) (2 ^ m)))) : wpX_fullCliques post (nI m, nI (2 ^ m - 1), an, aw, ao, ax) := by
  have h9 := cq_p9 hm
  have h0 := cq_p0 m
  refine loop_0 (fun n i a => wX_fullCliques_4 post (nI m) (nI (2 ^ m - 1)) an aw ao ax n (nI a) (nI i)) (fun i a => a = cq_S (fun s => cq_if (cq_fu N m s) 1) i) (2 ^ m) 0 rfl ?_ ?_
  · intro n a ha
    refine br_t (nI_lt (by omega) (by omega)) ?_
    rw [ha]; exact h
  · intro n i a hi ha ih
    have hn : cq_S (fun s => cq_if (cq_fu N m s) 1) (i + 1) = cq_S (fun s => cq_if (cq_fu N m s) 1) i + cq_if (cq_fu N m i) 1 := rfl
    refine br_f (nI_nlt (by omega) (by omega)) ?_
    refine cq_fullX hm hN hi (fun hb => ?_) (fun hb => ?_)
    · exact br_f (by decide) (nm_r (nI_1 a) (nm_r (nI_1 i) (ih (a + 1) (by rw [hn, cq_if_t hb, ha]))))
    · exact br_t rfl (nm_r (nI_1 i) (ih a (by rw [hn, cq_if_f hb, ha]; rfl)))
theorem cq_fcY {m : Nat} {N : Nat → Nat} {tt tw tx tp ta : Nat → Int32} (hm : m ≤ 9) (hG : cq_G m N) (hT : ∀ p q, p < 9 → q < 9 → tt (p * 9 + q) = nI ((N p).testBit q).toNat) {post : Int32 → Prop} (h : post (nI (cq_S (fun s => cq_if (cq_fu N m s) 1) (2 ^ m)))) : wpY_fullCliques post (nI m, tt, tw, tx, tp, ta) := by
  have h9 := cq_p9 hm
  refine loop_0 (fun n i a => wY_fullCliques_4 post (nI m) tt tw tx tp ta n (nI a) (nI i)) (fun i a => a = cq_S (fun s => cq_if (cq_fu N m s) 1) i) (2 ^ m) 0 rfl ?_ ?_
  · intro n a ha
    refine br_t (cq_shle hm (Nat.le_refl _) (by omega)) ?_
    rw [ha]; exact h
  · intro n i a hi ha ih
    have hn : cq_S (fun s => cq_if (cq_fu N m s) 1) (i + 1) = cq_S (fun s => cq_if (cq_fu N m s) 1) i + cq_if (cq_fu N m i) 1 := rfl
    refine br_f (cq_shn hm hi) ?_
    refine cq_fullY hm hG hT hi (fun hb => ?_) (fun hb => ?_)
    · exact br_f (by decide) (nm_r (nI_1 a) (nm_r (nI_1 i) (ih (a + 1) (by rw [hn, cq_if_t hb, ha]))))
    · exact br_t rfl (nm_r (nI_1 i) (ih a (by rw [hn, cq_if_f hb, ha]; rfl)))
theorem i_vc_fullCliques {k : Nat} {u : SX} {v : SY} (I : i_Rel k u v) (hk : k + 4 ≤ 2049) : wpX_fullCliques (fun r => wpY_fullCliques (fun r' => r' = r ∧ i_Rel (k + 4) u v) v) u := by
  have I' := i_up I
  obtain ⟨m, N, w, an, aw, ao, ax, tt, tw, tx, tp, ta, ⟨h2, hm, hG, hw, hN, hA, hT, hW⟩, rfl, rfl⟩ := I
  exact cq_fcX hm hN (cq_fcY hm hG hT ⟨rfl, I'⟩)
theorem cq_fscan {m : Nat} {N : Nat → Nat} {an aw ao ax tt tw tx tp ta : Nat → Int32} (hm : m ≤ 9) (hG : cq_G m N) (hN : ∀ p, p < 9 → an p = nI (N p)) (hT : ∀ p q, p < 9 → q < 9 → tt (p * 9 + q) = nI ((N p).testBit q).toNat) (x : Int32) : ∀ (d j : Nat) (c : Int32), j + d = 2 ^ m → ∃ r : Int32, (∀ post : Int32 → Prop, post r → wX_full_4 post x (nI m) (nI (2 ^ m - 1)) an aw ao ax (d + 1) c (nI j)) ∧ (∀ post : Int32 → Prop, post r → wY_full_4 post x (nI m) tt tw tx tp ta (d + 1) c (nI j)) := by
  have h9 := cq_p9 hm
  have h0 := cq_p0 m
  intro d
  induction d with
  | zero =>
    intro j c hj
    exact ⟨-1, fun _ hp => br_t (nI_lt (by omega) (by omega)) hp, fun _ hp => br_t (cq_shle hm (by omega) (by omega)) hp⟩
  | succ d ih =>
    intro j c hj
    have hX : ¬ nI (2 ^ m - 1) < nI j := nI_nlt (by omega) (by omega)
    have hY := cq_shn hm (show j < 2 ^ m by omega)
    have hjm : j < 2 ^ m := by omega
    by_cases hf : cq_fu N m j
    · by_cases hc : c = x
      · exact ⟨nI j, fun _ hp => br_f hX (cq_fullX hm hN hjm (fun _ => br_f (by decide) (br_t hc hp)) (fun z => absurd hf z)), fun _ hp => br_f hY (cq_fullY hm hG hT hjm (fun _ => br_f (by decide) (br_t hc hp)) (fun z => absurd hf z))⟩
      · obtain ⟨r, a, b⟩ := ih (j + 1) (c + 1) (by omega)
        exact ⟨r, fun _ hp => br_f hX (cq_fullX hm hN hjm (fun _ => br_f (by decide) (br_f hc (nm_e (nm_r (nI_1 j) (a _ hp))))) (fun z => absurd hf z)), fun _ hp => br_f hY (cq_fullY hm hG hT hjm (fun _ => br_f (by decide) (br_f hc (nm_e (nm_r (nI_1 j) (b _ hp))))) (fun z => absurd hf z))⟩
    · obtain ⟨r, a, b⟩ := ih (j + 1) c (by omega)
      exact ⟨r, fun _ hp => br_f hX (cq_fullX hm hN hjm (fun z => absurd z hf) (fun _ => br_t rfl (nm_r (nI_1 j) (a _ hp)))), fun _ hp => br_f hY (cq_fullY hm hG hT hjm (fun z => absurd z hf) (fun _ => br_t rfl (nm_r (nI_1 j) (b _ hp))))⟩
theorem i_vc_full {k : Nat} {u : SX} {v : SY} (I : i_Rel k u v) (hk : k + 4 ≤ 2049) (v1 : Int32) : wpX_full (fun r => wpY_full (fun r' => r' = r ∧ i_Rel (k + 4) u v) v v1) u v1 := by
  have I' := i_up I
  obtain ⟨m, N, w, an, aw, ao, ax, tt, tw, tx, tp, ta, ⟨h2, hm, hG, hw, hN, hA, hT, hW⟩, rfl, rfl⟩ := I
  obtain ⟨r, a, b⟩ := cq_fscan (an := an) (aw := aw) (ao := ao) (ax := ax) (tt := tt) (tw := tw) (tx := tx) (tp := tp) (ta := ta) hm hG hN hT v1 (2 ^ m) 0 0 (by omega)
  exact ⟨_, a _ ⟨_, b _ ⟨rfl, I'⟩⟩⟩
theorem cq_ccX {m : Nat} {N : Nat → Nat} {an aw ao ax : Nat → Int32} (hm : m ≤ 9) (hN : ∀ p, p < 9 → an p = nI (N p)) {k : Nat} (hk : k < 2 ^ 31) {post : Int32 → Prop} (h : post (nI (cq_S (fun s => cq_if (cq_m s m = k ∧ cq_cl N m s) 1) (2 ^ m)))) : wpX_countCliquesOf post (nI m, nI (2 ^ m - 1), an, aw, ao, ax) (nI k) := by
  have h9 := cq_p9 hm
  have h0 := cq_p0 m
  refine loop_0 (fun n i a => wX_countCliquesOf_4 post (nI k) (nI m) (nI (2 ^ m - 1)) an aw ao ax n (nI a) (nI i)) (fun i a => a = cq_S (fun s => cq_if (cq_m s m = k ∧ cq_cl N m s) 1) i) (2 ^ m) 0 rfl ?_ ?_
  · intro n a ha
    refine br_t (nI_lt (by omega) (by omega)) ?_
    rw [ha]; exact h
  · intro n i a hi ha ih
    have hn : cq_S (fun s => cq_if (cq_m s m = k ∧ cq_cl N m s) 1) (i + 1) = cq_S (fun s => cq_if (cq_m s m = k ∧ cq_cl N m s) 1) i + cq_if (cq_m i m = k ∧ cq_cl N m i) 1 := rfl
    have hl := cq_m_le i m
    refine br_f (nI_nlt (by omega) (by omega)) ?_
    refine cq_memX hm hi ?_
    refine pk_eq (cq_m i m) k (fun he => ?_) (fun he => ?_)
    · refine cq_allX hm hN hi (fun hb => ?_) (fun hb => ?_)
      · exact br_f (by decide) (nm_r (nI_1 a) (nm_r (nI_1 i) (ih (a + 1) (by rw [hn, cq_if_t ⟨he, hb⟩, ha]))))
      · exact br_t rfl (nm_r (nI_1 i) (ih a (by rw [hn, cq_if_f (fun z => hb z.2), ha]; rfl)))
    · exact nm_r (nI_1 i) (ih a (by rw [hn, cq_if_f (fun z => he z.1), ha]; rfl))
theorem cq_ccY {m : Nat} {N : Nat → Nat} {tt tw tx tp ta : Nat → Int32} (hm : m ≤ 9) (hG : cq_G m N) (hT : ∀ p q, p < 9 → q < 9 → tt (p * 9 + q) = nI ((N p).testBit q).toNat) {k : Nat} (hk : k < 2 ^ 31) {post : Int32 → Prop} (h : post (nI (cq_S (fun s => cq_if (cq_m s m = k ∧ cq_cl N m s) 1) (2 ^ m)))) : ∃ n, wY_cliques_16 post (nI k) (nI m) tt tw tx tp ta n 0 0 := by
  have h9 := cq_p9 hm
  refine loop_0 (fun n i a => wY_cliques_16 post (nI k) (nI m) tt tw tx tp ta n (nI a) (nI i)) (fun i a => a = cq_S (fun s => cq_if (cq_m s m = k ∧ cq_cl N m s) 1) i) (2 ^ m) 0 rfl ?_ ?_
  · intro n a ha
    refine br_t (cq_shle hm (Nat.le_refl _) (by omega)) ?_
    rw [ha]; exact h
  · intro n i a hi ha ih
    have hn : cq_S (fun s => cq_if (cq_m s m = k ∧ cq_cl N m s) 1) (i + 1) = cq_S (fun s => cq_if (cq_m s m = k ∧ cq_cl N m s) 1) i + cq_if (cq_m i m = k ∧ cq_cl N m i) 1 := rfl
    have hl := cq_m_le i m
    refine br_f (cq_shn hm hi) ?_
    refine cq_memY hm hi ?_
    refine pk_eq (cq_m i m) k (fun he => ?_) (fun he => ?_)
    · refine cq_clY hm hG hT hi (fun hb => ?_) (fun hb => ?_)
      · exact br_f (by decide) (nm_r (nI_1 a) (nm_r (nI_1 i) (ih (a + 1) (by rw [hn, cq_if_t ⟨he, hb⟩, ha]))))
      · exact br_t rfl (nm_r (nI_1 i) (ih a (by rw [hn, cq_if_f (fun z => hb z.2), ha]; rfl)))
    · exact nm_r (nI_1 i) (ih a (by rw [hn, cq_if_f (fun z => he z.1), ha]; rfl))
theorem i_vc_cliques {k : Nat} {u : SX} {v : SY} (I : i_Rel k u v) (hk : k + 4 ≤ 2049) (v1 : Int32) : wpX_cliques (fun r => wpY_cliques (fun r' => r' = r ∧ i_Rel (k + 4) u v) v v1) u v1 := by
  have I' := i_up I
  obtain ⟨m, N, w, an, aw, ao, ax, tt, tw, tx, tp, ta, ⟨h2, hm, hG, hw, hN, hA, hT, hW⟩, rfl, rfl⟩ := I
  rcases cq_ix v1 10 with h | ⟨j, h1, h3, rfl⟩ | ⟨j, hj, rfl⟩
  · exact br_t h (br_t h ⟨rfl, I'⟩)
  · have e : ¬ nI j ≤ 9 := nI_ge (b := j) (a := 9) (by omega) h3
    exact br_f (nI_pos h3) (br_f e (br_f (nI_pos h3) (br_f e ⟨rfl, I'⟩)))
  · have e : nI j ≤ 9 := nI_le (b := 9) (by omega) (by decide)
    refine br_f (nI_pos (by omega)) (br_t e ?_)
    exact cq_ccX hm hN (by omega) (br_f (nI_pos (by omega)) (br_t e (cq_ccY hm hG hT (by omega) ⟨rfl, I'⟩)))
