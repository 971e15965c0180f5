/-! colourings, colours, alike -/
theorem cq_FT0 (N : Nat → Nat) (m : Nat) : cq_FT N m 0 = cq_in N m := funext fun a => propext ⟨fun h => h.2, fun h => ⟨Or.inl (Nat.and_zero a), h⟩⟩
theorem cq_all {m : Nat} (hm : m ≤ 9) : ((1 : Int32) <<< (nI m &&& 31)) - 1 = nI (2 ^ m - 1) := by
  rw [cq_sh (by omega)]
  exact pk_sub (b := 1) (cq_p0 m)
theorem cq_in0 (N : Nat → Nat) (m : Nat) : cq_in N m 0 := fun p q _ _ bp => absurd bp (by rw [Nat.zero_testBit]; decide)
theorem cq_in1 {N : Nat → Nat} {m : Nat} (hm : m ≤ 9) (hG : cq_G m N) : ∀ j, j < m → cq_in N m (2 ^ j) := by
  intro j hj p q hp hq bp bq
  rw [Nat.testBit_two_pow, decide_eq_true_eq] at bp bq
  rw [← bp, ← bq]
  exact hG.2.2 j (by omega)
theorem i_vc_colourings {k : Nat} {u : SX} {v : SY} (I : i_Rel k u v) (hk : k + 4 ≤ 2049) (v1 : Int32) : wpX_colourings (fun r u' => wpY_colourings (fun r' v' => r' = r ∧ i_Rel (k + 4) u' v') v v1) u v1 := by
  have I' := i_up I
  obtain ⟨m, N, w, an, aw, ao, ax, tt, tw, tx, tp, ta, R, rfl, rfl⟩ := I
  have R' := R
  obtain ⟨h2, hm, hG, hw, hN, hA, hT, hW⟩ := R'
  have h9 := cq_p9 hm
  have h0 := cq_p0 m
  unfold wpX_colourings wpY_colourings
  dsimp only
  rcases cq_ix v1 5 with h | ⟨j, h1, h3, rfl⟩ | ⟨j, hj, rfl⟩
  · exact br_t h (br_t h ⟨rfl, I'⟩)
  · have e : ¬ nI j ≤ 4 := nI_ge (a := 4) (by omega) h3
    exact br_f (nI_pos h3) (br_f e (br_f (nI_pos h3) (br_f e ⟨rfl, I'⟩)))
  · have e : nI j ≤ 4 := nI_le (b := 4) (by omega) (by decide)
    have e0 : ¬ nI j < 0 := nI_pos (by omega)
    refine br_f e0 (br_t e (cq_cnX (T := 0) hm hN h0 (by omega) (fun ao' ax' => ?_)))
    refine br_f e0 (br_t e (cq_paY hm hG hT (by omega) (fun tx' tp' ta' C => ?_)))
    dsimp only
    rw [cq_all hm, nI_clamp (by omega), C.2 _ (by omega), cq_FT0]
    exact ⟨vp_in_nI (by omega) (by decide), rfl, cq_mk R⟩
theorem cq_colX {m : Nat} {N : Nat → Nat} {an aw ao ax : Nat → Int32} (hm : m ≤ 9) (hG : cq_G m N) (hN : ∀ p, p < 9 → an p = nI (N p)) {post : Int32 → SX → Prop} (h : ∀ K ao' ax', 0 < cq_N (cq_in N m) K (2 ^ m - 1) → (∀ j, j < K → cq_N (cq_in N m) j (2 ^ m - 1) = 0) → post (nI K) (nI m, nI (2 ^ m - 1), an, aw, ao', ax')) : wpX_colours post (nI m, nI (2 ^ m - 1), an, aw, ao, ax) := by
  have h9 := cq_p9 hm
  have h0 := cq_p0 m
  unfold wpX_colours
  dsimp only
  refine cq_scX (T := 0) hm hN h0 (fun ao1 ax1 C => ?_)
  rw [cq_FT0] at C
  refine loop_0 (fun n i ax => wX_colours_7 post n (nI i) (nI m) (nI (2 ^ m - 1)) an aw ao1 ax) (fun i ax => cq_CX m (cq_in N m) i ao1 ax ∧ ∀ j, j < i → cq_N (cq_in N m) j (2 ^ m - 1) = 0) m ax1 ⟨C, fun j hj => by omega⟩ ?_ ?_
  · intro n ax2 I
    exact br_t (Int32.le_refl _) (h m ao1 ax2 (cq_N_all (cq_in0 N m) (cq_in1 hm hG) m (Nat.le_refl _) _ (by omega)) I.2)
  · intro n i ax2 hi I ih
    have hl := cq_N_lt (F := cq_in N m) (k := i) (s := 2 ^ m - 1) hm (by omega) (by omega)
    refine br_f (nI_ge hi (by omega)) ⟨vp_in_nI (by omega) (by decide), ?_⟩
    rw [nI_clamp (by omega), I.1.2 _ (by omega)]
    refine pk_eq (cq_N (cq_in N m) i (2 ^ m - 1)) 0 (fun e => ?_) (fun e => ?_)
    · refine cq_addX hm I.1 (fun ax3 C3 => nm_r (nI_1 i) (ih ax3 ⟨C3, fun j hj => ?_⟩))
      rcases Nat.lt_or_ge j i with z | z
      · exact I.2 j z
      · rw [show j = i by omega]; exact e
    · exact h i ao1 ax2 (by omega) I.2
theorem cq_colY {m : Nat} {N : Nat → Nat} {tt tw tx tp ta : Nat → Int32} (hm : m ≤ 9) (hG : cq_G m N) (hT : ∀ p q, p < 9 → q < 9 → tt (p * 9 + q) = nI ((N p).testBit q).toNat) {post : Int32 → SY → Prop} (h : ∀ K tx' tp' ta', 0 < cq_N (cq_in N m) K (2 ^ m - 1) → (∀ j, j < K → cq_N (cq_in N m) j (2 ^ m - 1) = 0) → post (nI K) (nI m, tt, tw, tx', tp', ta')) : wpY_colours post (nI m, tt, tw, tx, tp, ta) := by
  have h9 := cq_p9 hm
  have h0 := cq_p0 m
  unfold wpY_colours
  dsimp only
  refine nm_r (cq_all hm) ?_
  refine cq_paY (k := 0) hm hG hT (by decide) (fun tx1 tp1 ta1 C => ?_)
  refine loop_0 (σ := (Nat → Int32) × (Nat → Int32)) (fun n i t => wY_colours_16 post (nI (2 ^ m - 1)) n (nI i) (nI m) tt tw t.1 t.2 ta1) (fun i t => cq_CX m (cq_in N m) i ta1 t.1 ∧ ∀ j, j < i → cq_N (cq_in N m) j (2 ^ m - 1) = 0) 9 (tx1, tp1) ⟨C, fun j hj => by omega⟩ ?_ ?_
  · intro n t I
    have ha := cq_N_all (cq_in0 N m) (cq_in1 hm hG) m (Nat.le_refl _) (2 ^ m - 1) (by omega)
    have e : m = 9 := by
      rcases Nat.lt_or_ge m 9 with z | z
      · have := I.2 m z
        omega
      · omega
    exact br_t (Int32.le_refl _) (h 9 t.1 t.2 ta1 (by rw [e] at ha ⊢; exact ha) I.2)
  · intro n i t hi I ih
    have hl := cq_N_lt (F := cq_in N m) (k := i) (s := 2 ^ m - 1) hm (by omega) (by omega)
    refine br_f (nI_ge (b := 9) hi (by decide)) ⟨vp_in_nI (by omega) (by decide), ?_⟩
    rw [nI_clamp (by omega), I.1.2 _ (by omega)]
    refine pk_le (cq_N (cq_in N m) i (2 ^ m - 1)) 0 (fun e => ?_) (fun e => ?_)
    · refine cq_addY hm I.1 (fun tx3 tp3 C3 => nm_r (nI_1 i) (ih (tx3, tp3) ⟨C3, fun j hj => ?_⟩))
      rcases Nat.lt_or_ge j i with z | z
      · exact I.2 j z
      · rw [show j = i by omega]; omega
    · exact h i t.1 t.2 ta1 e I.2
theorem i_vc_colours {k : Nat} {u : SX} {v : SY} (I : i_Rel k u v) (hk : k + 4 ≤ 2049) : wpX_colours (fun r u' => wpY_colours (fun r' v' => r' = r ∧ i_Rel (k + 4) u' v') v) u := by
  obtain ⟨m, N, w, an, aw, ao, ax, tt, tw, tx, tp, ta, R, rfl, rfl⟩ := I
  have R' := R
  obtain ⟨h2, hm, hG, hw, hN, hA, hT, hW⟩ := R'
  refine cq_colX hm hG hN (fun K ao' ax' k1 k2 => ?_)
  refine cq_colY hm hG hT (fun K' tx' tp' ta' j1 j2 => ⟨congrArg nI ?_, cq_mk R⟩)
  rcases Nat.lt_trichotomy K K' with z | z | z
  · have := j2 K z
    omega
  · exact z.symm
  · have := k2 K' z
    omega
/-! alike -/
theorem cq_and2 {a p q : Nat} : a &&& (2 ^ p ||| 2 ^ q) = 2 ^ p ||| 2 ^ q ↔ a.testBit p = true ∧ a.testBit q = true := by
  rw [Nat.and_comm, cq_sub]
  constructor
  · intro h
    exact ⟨h p (by rw [Nat.testBit_or, Nat.testBit_two_pow]; simp), h q (by rw [Nat.testBit_or, Nat.testBit_two_pow, Nat.testBit_two_pow]; simp)⟩
  · intro h i hi
    rw [Nat.testBit_or, Nat.testBit_two_pow, Nat.testBit_two_pow] at hi
    simp only [Bool.or_eq_true, decide_eq_true_eq] at hi
    rcases hi with rfl | rfl
    · exact h.1
    · exact h.2
theorem cq_alY {m : Nat} {N : Nat → Nat} {tt tw tx tp ta : Nat → Int32} (hm : m ≤ 9) {c p q : Nat} (hc : c ≤ 9) (hp : p < m) (hq : q < m) (C : cq_CX m (cq_in N m) c ta tx) {post : Int32 → SY → Prop} (h1 : (∃ a, a < 2 ^ m ∧ (a.testBit p = true ∧ a.testBit q = true) ∧ cq_in N m a ∧ 0 < cq_N (cq_in N m) c (2 ^ m - 1 - a)) → post 1 (nI m, tt, tw, tx, tp, ta)) (h0 : (¬ ∃ a, a < 2 ^ m ∧ (a.testBit p = true ∧ a.testBit q = true) ∧ cq_in N m a ∧ 0 < cq_N (cq_in N m) c (2 ^ m - 1 - a)) → post 0 (nI m, tt, tw, tx, tp, ta)) : ∃ n, wY_alike_57 post (nI p) (nI q) (nI (2 ^ m - 1)) (nI m) tt tw tx tp ta n 0 := by
  have h9 := cq_p9 hm
  have hz := cq_p0 m
  refine loop_0 (σ := Unit) (fun n i _ => wY_alike_57 post (nI p) (nI q) (nI (2 ^ m - 1)) (nI m) tt tw tx tp ta n (nI i)) (fun i _ => ∀ a, a < i → ¬ ((a.testBit p = true ∧ a.testBit q = true) ∧ cq_in N m a ∧ 0 < cq_N (cq_in N m) c (2 ^ m - 1 - a))) (2 ^ m) () ?_ ?_ ?_
  · intro a ha
    omega
  · intro n _ I
    exact br_t (nI_lt (by omega) (by omega)) (h0 (fun ⟨a, a1, a2⟩ => I a a1 a2))
  · intro n i _ hi I ih
    have hJ : ¬ ((i.testBit p = true ∧ i.testBit q = true) ∧ cq_in N m i ∧ 0 < cq_N (cq_in N m) c (2 ^ m - 1 - i)) → wY_alike_57 post (nI p) (nI q) (nI (2 ^ m - 1)) (nI m) tt tw tx tp ta n (nI (i + 1)) := by
      intro hn
      refine ih () (fun a ha => ?_)
      rcases Nat.lt_or_ge a i with z | z
      · exact I a z
      · rw [show a = i by omega]; exact hn
    have hl := cq_N_lt (F := cq_in N m) (k := c) (s := 2 ^ m - 1 - i) hm hc (by omega)
    refine br_f (nI_nlt (by omega) (by omega)) ?_
    refine cq_hY (by omega) (by omega) (fun b1 => br_f (by decide) ?_) (fun b1 => br_t rfl ?_)
    · refine cq_hY (by omega) (by omega) (fun b2 => br_f (by decide) ?_) (fun b2 => br_t rfl ?_)
      · unfold wY_alike_89
        refine br_f (by decide) ?_
        rw [pk_sub (by omega), nI_clamp (by omega), nI_clamp (by omega), C.2 _ (by omega), C.1 i hi]
        refine ⟨vp_in_nI (by omega) (by decide), pk_le (cq_N (cq_in N m) c (2 ^ m - 1 - i)) 0 (fun e => ?_) (fun e => ⟨vp_in_nI (by omega) (by decide), ?_⟩)⟩
        · exact nm_r (nI_1 i) (hJ (fun z => by have := z.2.2; omega))
        · by_cases f : cq_in N m i
          · rw [cq_if_t f]
            exact br_f (by decide) (h1 ⟨i, hi, ⟨b1, b2⟩, f, e⟩)
          · rw [cq_if_f f]
            exact br_t rfl (nm_r (nI_1 i) (hJ (fun z => f z.2.1)))
      · unfold wY_alike_88 wY_alike_89
        exact br_t rfl (nm_r (nI_1 i) (hJ (fun z => by rw [b2] at z; exact absurd z.1.2 (by decide))))
    · unfold wY_alike_88 wY_alike_89
      exact br_t rfl (nm_r (nI_1 i) (hJ (fun z => by rw [b1] at z; exact absurd z.1.1 (by decide))))
theorem cq_alk {m : Nat} {N : Nat → Nat} {p q : Nat} (hp : p < m) (hq : q < m) (c : Nat) : 0 < cq_N (cq_FT N m (2 ^ p ||| 2 ^ q)) (c + 1) (2 ^ m - 1) ↔ ∃ a, a < 2 ^ m ∧ (a.testBit p = true ∧ a.testBit q = true) ∧ cq_in N m a ∧ 0 < cq_N (cq_in N m) c (2 ^ m - 1 - a) := by
  have hz := cq_p0 m
  have hT : 2 ^ p ||| 2 ^ q ≠ 0 := by
    intro e
    have := congrArg (fun x => Nat.testBit x p) e
    simp at this
  have hs : (2 ^ m - 1) &&& (2 ^ p ||| 2 ^ q) = 2 ^ p ||| 2 ^ q := by
    rw [cq_and2, Nat.testBit_two_pow_sub_one, Nat.testBit_two_pow_sub_one]
    exact ⟨decide_eq_true hp, decide_eq_true hq⟩
  have hk := cq_alike (F := cq_in N m) hT (c + 1) (2 ^ m - 1) hs
  have hk' : 0 < cq_N (cq_FT N m (2 ^ p ||| 2 ^ q)) (c + 1) (2 ^ m - 1) ↔ _ := hk
  rw [hk']
  constructor
  · intro ⟨k', e, a, a1, a2, a3, a4⟩
    have e' : k' = c := by omega
    rw [e', ← cq_minus a1] at a4
    have := cq_sub_le a1
    exact ⟨a, by omega, cq_and2.mp a2, a3, a4⟩
  · intro ⟨a, a1, a2, a3, a4⟩
    have ha : a &&& (2 ^ m - 1) = a := by rw [Nat.and_two_pow_sub_one_eq_mod, Nat.mod_eq_of_lt a1]
    exact ⟨c, rfl, a, ha, cq_and2.mpr a2, a3, by rw [← cq_minus ha]; exact a4⟩
theorem i_vc_alike {k : Nat} {u : SX} {v : SY} (I : i_Rel k u v) (hk : k + 4 ≤ 2049) (v1 : Int32) (v2 : Int32) (v3 : Int32) : wpX_alike (fun r u' => wpY_alike (fun r' v' => r' = r ∧ i_Rel (k + 4) u' v') v v1 v2 v3) u v1 v2 v3 := by
  have I' := i_up I
  obtain ⟨m, N, w, an, aw, ao, ax, tt, tw, tx, tp, ta, R, rfl, rfl⟩ := I
  have R' := R
  obtain ⟨h2, hm, hG, hw, hN, hA, hT, hW⟩ := R'
  have h9 := cq_p9 hm
  have hz := cq_p0 m
  unfold wpX_alike wpY_alike
  dsimp only
  rcases cq_ix2 v1 m with h | ⟨p, hp, rfl⟩
  · exact cq_bpX h (br_t rfl (cq_bpY h (br_f (by decide) ⟨rfl, I'⟩)))
  · refine cq_gpX hm hp (br_f (by decide) ?_)
    rcases cq_ix2 v2 m with h | ⟨q, hq, rfl⟩
    · exact cq_bpX h (br_t rfl (cq_gpY hm hp (br_t rfl (cq_bpY h (br_f (by decide) ⟨rfl, I'⟩)))))
    · refine cq_gpX hm hq (br_f (by decide) ?_)
      rcases cq_ix v3 10 with h | ⟨j, h1, h3, rfl⟩ | ⟨j, hj, rfl⟩
      · exact br_t h (cq_gpY hm hp (br_t rfl (cq_gpY hm hq (br_t rfl (br_t h ⟨rfl, I'⟩)))))
      · have e : ¬ nI j ≤ 9 := nI_ge (a := 9) (by omega) h3
        exact br_f (nI_pos h3) (br_f e (cq_gpY hm hp (br_t rfl (cq_gpY hm hq (br_t rfl (br_f (nI_pos h3) (br_f e ⟨rfl, I'⟩)))))))
      · have e : nI j ≤ 9 := nI_le (b := 9) (by omega) (by decide)
        have e0 : ¬ nI j < 0 := nI_pos (by omega)
        have hTl : 2 ^ p ||| 2 ^ q < 2 ^ m := Nat.or_lt_two_pow (Nat.pow_lt_pow_right (by decide) hp) (Nat.pow_lt_pow_right (by decide) hq)
        have hl := cq_N_lt (F := cq_FT N m (2 ^ p ||| 2 ^ q)) (k := j) (s := 2 ^ m - 1) hm (by omega) (by omega)
        refine br_f e0 (br_t e ?_)
        rw [cq_sh (by omega), cq_sh (by omega), cq_or]
        refine cq_cnX hm hN hTl (by omega) (fun ao' ax' => ?_)
        refine pk_le (cq_N (cq_FT N m (2 ^ p ||| 2 ^ q)) j (2 ^ m - 1)) 0 (fun f => ?_) (fun f => ?_)
        · refine cq_gpY hm hp (br_t rfl (cq_gpY hm hq (br_t rfl (br_f e0 (br_t e ?_)))))
          cases j with
          | zero => exact br_t rfl ⟨rfl, cq_mk R⟩
          | succ c =>
            refine br_f (nI_ne0 (by omega) (by omega)) ?_
            have ep : nI (c + 1) - 1 = nI c := nI_pred c
            rw [ep]
            refine cq_paY hm hG hT (by omega) (fun tx' tp' ta' C => nm_r (cq_all hm) ?_)
            refine cq_alY hm (by omega) hp hq C (fun z => ?_) (fun _ => ⟨rfl, cq_mk R⟩)
            have := (cq_alk hp hq c).mpr z
            omega
        · refine cq_gpY hm hp (br_t rfl (cq_gpY hm hq (br_t rfl (br_f e0 (br_t e ?_)))))
          cases j with
          | zero =>
            have h4 : 2 ^ 2 ≤ 2 ^ m := Nat.pow_le_pow_right (by decide) h2
            rw [cq_N_0, if_neg (by omega)] at f
            omega
          | succ c =>
            refine br_f (nI_ne0 (by omega) (by omega)) ?_
            have ep : nI (c + 1) - 1 = nI c := nI_pred c
            rw [ep]
            refine cq_paY hm hG hT (by omega) (fun tx' tp' ta' C => nm_r (cq_all hm) ?_)
            exact cq_alY hm (by omega) hp hq C (fun _ => ⟨rfl, cq_mk R⟩) (fun z => absurd ((cq_alk hp hq c).mp f) z)
