/-! size -/
noncomputable def cq_mx (P : Nat → Prop) (f : Nat → Nat) : Nat → Nat
  | 0 => 0
  | i + 1 => @ite Nat (cq_mx P f i < f i ∧ P i) (Classical.propDecidable _) (f i) (cq_mx P f i)
theorem cq_mx_t {P : Nat → Prop} {f : Nat → Nat} {i : Nat} (h : cq_mx P f i < f i ∧ P i) : cq_mx P f (i + 1) = f i := @if_pos _ (Classical.propDecidable _) h Nat _ _
theorem cq_mx_f {P : Nat → Prop} {f : Nat → Nat} {i : Nat} (h : ¬ (cq_mx P f i < f i ∧ P i)) : cq_mx P f (i + 1) = cq_mx P f i := @if_neg _ (Classical.propDecidable _) h Nat _ _
theorem cq_mx_le {P : Nat → Prop} {f : Nat → Nat} {B : Nat} (h : ∀ i, f i ≤ B) (i : Nat) : cq_mx P f i ≤ B := by
  induction i with
  | zero => exact Nat.zero_le _
  | succ i ih =>
    by_cases c : cq_mx P f i < f i ∧ P i
    · rw [cq_mx_t c]; exact h i
    · rw [cq_mx_f c]; exact ih
theorem cq_mx_ub {P : Nat → Prop} {f : Nat → Nat} (i : Nat) : ∀ s, s < i → P s → f s ≤ cq_mx P f i := by
  induction i with
  | zero => intro s hs; omega
  | succ i ih =>
    intro s hs hp
    by_cases c : cq_mx P f i < f i ∧ P i
    · rw [cq_mx_t c]
      rcases Nat.lt_or_ge s i with z | z
      · have := ih s z hp
        omega
      · have e : s = i := by omega
        rw [e]; exact Nat.le_refl _
    · rw [cq_mx_f c]
      rcases Nat.lt_or_ge s i with z | z
      · exact ih s z hp
      · have e : s = i := by omega
        rw [e] at hp ⊢
        exact Nat.le_of_not_lt (fun y => c ⟨y, hp⟩)
theorem cq_mx_at {P : Nat → Prop} {f : Nat → Nat} (i : Nat) : cq_mx P f i = 0 ∨ ∃ s, s < i ∧ P s ∧ cq_mx P f i = f s := by
  induction i with
  | zero => exact Or.inl rfl
  | succ i ih =>
    by_cases c : cq_mx P f i < f i ∧ P i
    · exact Or.inr ⟨i, by omega, c.2, cq_mx_t c⟩
    · rw [cq_mx_f c]
      rcases ih with h | ⟨s, h1, h2, h3⟩
      · exact Or.inl h
      · exact Or.inr ⟨s, by omega, h2, h3⟩
theorem cq_szX {m : Nat} {N : Nat → Nat} {an aw ao ax : Nat → Int32} (hm : m ≤ 9) (hN : ∀ p, p < 9 → an p = nI (N p)) {post : Int32 → Prop} (h : post (nI (cq_mx (cq_cl N m) (fun s => cq_m s m) (2 ^ m)))) : wpX_size post (nI m, nI (2 ^ m - 1), an, aw, ao, ax) := by
  have h9 := cq_p9 hm
  have h0 := cq_p0 m
  refine loop_0 (fun n i a => wX_size_4 post (nI m) (nI (2 ^ m - 1)) an aw ao ax n (nI a) (nI i)) (fun i a => a = cq_mx (cq_cl N m) (fun s => cq_m s m) i) (2 ^ m) 0 rfl ?_ ?_
  · intro n a ha
    refine br_t (nI_lt (by omega) (by omega)) ?_
    rw [ha]; exact h
  · intro n i a hi ha ih
    have hl := cq_m_le i m
    have hb := cq_mx_le (P := cq_cl N m) (f := fun s => cq_m s m) (fun s => cq_m_le s m) i
    refine br_f (nI_nlt (by omega) (by omega)) ?_
    refine cq_memX hm hi ?_
    refine pk_le (cq_m i m) a (fun he => ?_) (fun he => ?_)
    · exact nm_r (nI_1 i) (ih a (by rw [cq_mx_f (fun z => by have := z.1; omega), ha]))
    · refine cq_allX hm hN hi (fun hc => ?_) (fun hc => ?_)
      · exact br_f (by decide) (nm_r (nI_1 i) (ih (cq_m i m) (by rw [cq_mx_t ⟨by show _ < cq_m i m; omega, hc⟩])))
      · exact br_t rfl (nm_r (nI_1 i) (ih a (by rw [cq_mx_f (fun z => hc z.2), ha])))
theorem cq_szY {m : Nat} {N : Nat → Nat} {tt tw tx tp ta : Nat → Int32} (hm : m ≤ 9) (hG : cq_G m N) (hT : ∀ p q, p < 9 → q < 9 → tt (p * 9 + q) = nI ((N p).testBit q).toNat) {post : Int32 → Prop} (h : post (nI (cq_mx (cq_cl N m) (fun s => cq_m s m) (2 ^ m)))) : wpY_size post (nI m, tt, tw, tx, tp, ta) := by
  have h9 := cq_p9 hm
  refine loop_0 (fun n i a => wY_size_4 post (nI m) tt tw tx tp ta n (nI a) (nI i)) (fun i a => a = cq_mx (cq_cl N m) (fun s => cq_m s m) i) (2 ^ m) 0 rfl ?_ ?_
  · intro n a ha
    refine br_t (cq_shle hm (Nat.le_refl _) (by omega)) ?_
    rw [ha]; exact h
  · intro n i a hi ha ih
    have hl := cq_m_le i m
    have hb := cq_mx_le (P := cq_cl N m) (f := fun s => cq_m s m) (fun s => cq_m_le s m) i
    refine br_f (cq_shn hm hi) ?_
    refine cq_memY hm hi ?_
    refine pk_le (cq_m i m) a (fun he => ?_) (fun he => ?_)
    · exact nm_r (nI_1 i) (ih a (by rw [cq_mx_f (fun z => by have := z.1; omega), ha]))
    · refine cq_clY hm hG hT hi (fun hc => ?_) (fun hc => ?_)
      · exact br_f (by decide) (nm_r (nI_1 i) (ih (cq_m i m) (by rw [cq_mx_t ⟨by show _ < cq_m i m; omega, hc⟩])))
      · exact br_t rfl (nm_r (nI_1 i) (ih a (by rw [cq_mx_f (fun z => hc z.2), ha])))
theorem i_vc_size {k : Nat} {u : SX} {v : SY} (I : i_Rel k u v) (hk : k + 4 ≤ 2049) : wpX_size (fun r => wpY_size (fun r' => r' = r ∧ i_Rel (k + 4) u v) v) u := by
  have I' := i_up I
  obtain ⟨m, N, w, an, aw, ao, ax, tt, tw, tx, tp, ta, ⟨h2, hm, hG, hw, hN, hA, hT, hW⟩, rfl, rfl⟩ := I
  exact cq_szX hm hN (cq_szY hm hG hT ⟨rfl, I'⟩)
/-! the best clique that holds c -/
def cq_bst (N w : Nat → Nat) (m c i b : Nat) : Prop := b < 2 ^ m ∧ b &&& c = c ∧ cq_cl N m b ∧ ∀ s, s < i → s &&& c = c → cq_cl N m s → cq_w w s m < cq_w w b m ∨ (cq_w w s m = cq_w w b m ∧ s ≤ b)
theorem cq_bst_u {N w : Nat → Nat} {m c b b' : Nat} (h : cq_bst N w m c (2 ^ m) b) (h' : cq_bst N w m c (2 ^ m) b') : b = b' := by
  have h1 := h.2.2.2 b' h'.1 h'.2.1 h'.2.2.1
  have h2 := h'.2.2.2 b h.1 h.2.1 h.2.2.1
  omega
theorem cq_bst_k {N w : Nat → Nat} {m c i b : Nat} (h : cq_bst N w m c i b) (hi : i &&& c = c → cq_cl N m i → cq_w w i m < cq_w w b m) : cq_bst N w m c (i + 1) b := by
  refine ⟨h.1, h.2.1, h.2.2.1, fun s hs h1 h2 => ?_⟩
  rcases Nat.lt_or_ge s i with z | z
  · exact h.2.2.2 s z h1 h2
  · have e : s = i := by omega
    rw [e] at h1 h2 ⊢
    exact Or.inl (hi h1 h2)
theorem cq_bst_n {N w : Nat → Nat} {m c i : Nat} (hi : i < 2 ^ m) (hc : i &&& c = c) (hl : cq_cl N m i) (h : ∀ s, s < i → s &&& c = c → cq_cl N m s → cq_w w s m ≤ cq_w w i m) : cq_bst N w m c (i + 1) i := by
  refine ⟨hi, hc, hl, fun s hs h1 h2 => ?_⟩
  rcases Nat.lt_or_ge s i with z | z
  · have := h s z h1 h2
    omega
  · have e : s = i := by omega
    rw [e]
    exact Or.inr ⟨rfl, Nat.le_refl _⟩
theorem cq_bhX {m : Nat} {N w : Nat → Nat} {an aw ao ax : Nat → Int32} (hm : m ≤ 9) (hw : ∀ p, p < 9 → w p ≤ 20) (hN : ∀ p, p < 9 → an p = nI (N p)) (hA : ∀ p, p < 9 → aw p = nI (w p)) {c : Nat} (hc : c < 2 ^ m) (hl : cq_cl N m c) {post : Int32 → Prop} (h : ∀ b, cq_bst N w m c (2 ^ m) b → post (nI b)) : wpX_bestHolding post (nI m, nI (2 ^ m - 1), an, aw, ao, ax) (nI c) := by
  have h9 := cq_p9 hm
  have h0 := cq_p0 m
  unfold wpX_bestHolding
  dsimp only
  refine cq_weiX hm hA hc ?_
  refine ⟨2 ^ m - c + 1, loop_i (fun n i b => wX_bestHolding_11 post (nI c) (nI m) (nI (2 ^ m - 1)) an aw ao ax n (nI b) (nI (cq_w w b m)) (nI i)) (fun i b => cq_bst N w m c i b) (2 ^ m) ?_ ?_ _ c c (by omega) (by omega) ?_⟩
  · intro n b hb
    exact br_t (nI_lt (by omega) (by omega)) (h b hb)
  · intro n i b hi hb ih
    have hwi := cq_w_le hw i hm
    have hwb := cq_w_le hw b hm
    have ha : i &&& c ≤ c := Nat.and_le_right
    refine br_f (nI_nlt (by omega) (by omega)) ?_
    rw [nx_and]
    refine pk_eq (i &&& c) c (fun he => ?_) (fun he => ?_)
    · refine cq_allX hm hN hi (fun hd => ?_) (fun hd => ?_)
      · refine br_f (by decide) (cq_weiX hm hA hi ?_)
        refine pk_lt (cq_w w i m) (cq_w w b m) (fun hf => ?_) (fun hf => ?_)
        · exact nm_r (nI_1 i) (ih b (cq_bst_k hb (fun _ _ => hf)))
        · refine nm_r (nI_1 i) (ih i (cq_bst_n hi he hd (fun s h1 h2 h3 => ?_)))
          have := hb.2.2.2 s h1 h2 h3
          omega
      · exact br_t rfl (nm_r (nI_1 i) (ih b (cq_bst_k hb (fun _ z => absurd z hd))))
    · exact nm_r (nI_1 i) (ih b (cq_bst_k hb (fun z => absurd z he)))
  · refine ⟨hc, Nat.and_self c, hl, fun s hs h1 _ => ?_⟩
    rw [Nat.and_comm] at h1
    have := cq_sub_le h1
    omega
theorem cq_bwY {m : Nat} {N w : Nat → Nat} {tt tw tx tp ta : Nat → Int32} (hm : m ≤ 9) (hG : cq_G m N) (hw : ∀ p, p < 9 → w p ≤ 20) (hT : ∀ p q, p < 9 → q < 9 → tt (p * 9 + q) = nI ((N p).testBit q).toNat) (hW : ∀ p, p < 9 → tw p = nI (w p)) {c : Nat} (hc : c < 2 ^ m) {post : Int32 → Prop} (h : ∀ b, cq_bst N w m c (2 ^ m) b → post (nI b)) (h' : (∀ s, s < 2 ^ m → s &&& c = c → ¬ cq_cl N m s) → post (-2)) : wpY_bestWith post (nI m, tt, tw, tx, tp, ta) (nI c) := by
  have h9 := cq_p9 hm
  unfold wpY_bestWith
  dsimp only
  refine cq_gsY hm hc (br_t rfl ?_)
  refine loop_0 (σ := Int32 × Int32) (fun n i a => wY_bestWith_18 post (nI c) (nI m) tt tw tx tp ta n a.1 a.2 (nI i)) (fun i a => (a = (-1, -2) ∧ ∀ s, s < i → s &&& c = c → ¬ cq_cl N m s) ∨ ∃ b, a = (nI (cq_w w b m), nI b) ∧ cq_bst N w m c i b) (2 ^ m) (-1, -2) ?_ ?_ ?_
  · exact Or.inl ⟨rfl, fun s hs => by omega⟩
  · intro n a ha
    refine br_t (cq_shle hm (Nat.le_refl _) (by omega)) ?_
    rcases ha with ⟨rfl, ha⟩ | ⟨b, rfl, hb⟩
    · exact h' ha
    · exact h b hb
  · intro n i a hi ha ih
    have hwi := cq_w_le hw i hm
    have hx : i &&& c ≤ c := Nat.and_le_right
    refine br_f (cq_shn hm hi) ?_
    rw [nx_and]
    refine pk_eq (i &&& c) c (fun he => ?_) (fun he => ?_)
    · refine cq_clY hm hG hT hi (fun hd => ?_) (fun hd => ?_)
      · refine br_f (by decide) (cq_weiY hm hW hi ?_)
        rcases ha with ⟨rfl, ha⟩ | ⟨b, rfl, hb⟩
        · refine br_f ?_ (nm_r (nI_1 i) (ih (nI (cq_w w i m), nI i) (Or.inr ⟨i, rfl, cq_bst_n hi he hd (fun s h1 h2 h3 => absurd h3 (ha s h1 h2))⟩)))
          show ¬ nI (cq_w w i m) < -1
          rw [Int32.lt_iff_toInt_lt, nI_toInt (by omega), show (-1 : Int32).toInt = -1 from by decide]
          omega
        · have hwb := cq_w_le hw b hm
          refine pk_lt (cq_w w i m) (cq_w w b m) (fun hf => ?_) (fun hf => ?_)
          · exact nm_r (nI_1 i) (ih (nI (cq_w w b m), nI b) (Or.inr ⟨b, rfl, cq_bst_k hb (fun _ _ => hf)⟩))
          · refine nm_r (nI_1 i) (ih (nI (cq_w w i m), nI i) (Or.inr ⟨i, rfl, cq_bst_n hi he hd (fun s h1 h2 h3 => ?_)⟩))
            have := hb.2.2.2 s h1 h2 h3
            omega
      · refine br_t rfl (nm_r (nI_1 i) (ih a ?_))
        rcases ha with ⟨e, ha⟩ | ⟨b, e, hb⟩
        · refine Or.inl ⟨e, fun s hs h1 => ?_⟩
          rcases Nat.lt_or_ge s i with z | z
          · exact ha s z h1
          · have e : s = i := by omega
            rw [e]; exact hd
        · exact Or.inr ⟨b, e, cq_bst_k hb (fun _ z => absurd z hd)⟩
    · refine nm_r (nI_1 i) (ih a ?_)
      rcases ha with ⟨e, ha⟩ | ⟨b, e, hb⟩
      · refine Or.inl ⟨e, fun s hs h1 => ?_⟩
        rcases Nat.lt_or_ge s i with z | z
        · exact ha s z h1
        · have e : s = i := by omega
          rw [e] at h1
          exact absurd h1 he
      · exact Or.inr ⟨b, e, cq_bst_k hb (fun z => absurd z he)⟩
theorem cq_cl_dn {m c s : Nat} {N : Nat → Nat} (h : s &&& c = c) (hs : cq_cl N m s) : cq_cl N m c := by
  rw [Nat.and_comm, cq_sub] at h
  intro p q hp hq hpq bp bq
  exact hs p q hp hq hpq (h p bp) (h q bq)
theorem i_vc_bestWith {k : Nat} {u : SX} {v : SY} (I : i_Rel k u v) (hk : k + 4 ≤ 2049) (v1 : Int32) : wpX_bestWith (fun r => wpY_bestWith (fun r' => r' = r ∧ i_Rel (k + 4) u v) v v1) u v1 := by
  have I' := i_up I
  obtain ⟨m, N, w, an, aw, ao, ax, tt, tw, tx, tp, ta, ⟨h2, hm, hG, hw, hN, hA, hT, hW⟩, rfl, rfl⟩ := I
  unfold wpX_bestWith
  dsimp only
  rcases cq_ix2 v1 (2 ^ m) with h | ⟨c, hc, rfl⟩
  · refine cq_bsX h (br_t rfl ?_)
    unfold wpY_bestWith
    dsimp only
    exact cq_bsY hm h (br_f (by decide) ⟨rfl, I'⟩)
  · refine cq_gsX hm hc (br_f (by decide) ?_)
    refine cq_allX hm hN hc (fun hl => br_f (by decide) ?_) (fun hl => br_t rfl ?_)
    · refine cq_bhX hm hw hN hA hc hl (fun b hb => ?_)
      exact cq_bwY hm hG hw hT hW hc (fun b' hb' => ⟨by rw [cq_bst_u hb hb'], I'⟩) (fun z => absurd hl (z c hc (Nat.and_self c)))
    · exact cq_bwY hm hG hw hT hW hc (fun b' hb' => absurd (cq_cl_dn hb'.2.1 hb'.2.2.1) hl) (fun _ => ⟨rfl, I'⟩)
theorem cq_cl0 (N : Nat → Nat) (m : Nat) : cq_cl N m 0 := fun p q _ _ _ bp => absurd bp (by rw [Nat.zero_testBit]; decide)
theorem i_vc_best {k : Nat} {u : SX} {v : SY} (I : i_Rel k u v) (hk : k + 4 ≤ 2049) : wpX_best (fun r => wpY_best (fun r' => r' = r ∧ i_Rel (k + 4) u v) v) u := by
  have I' := i_up I
  obtain ⟨m, N, w, an, aw, ao, ax, tt, tw, tx, tp, ta, ⟨h2, hm, hG, hw, hN, hA, hT, hW⟩, rfl, rfl⟩ := I
  unfold wpX_best wpY_best
  dsimp only
  refine cq_bhX (c := 0) hm hw hN hA (cq_p0 m) (cq_cl0 N m) (fun b hb => ?_)
  exact cq_bwY (c := 0) hm hG hw hT hW (cq_p0 m) (fun b' hb' => ⟨by rw [cq_bst_u hb hb'], I'⟩) (fun z => absurd (cq_cl0 N m) (z 0 (cq_p0 m) (Nat.and_self 0)))
theorem cq_hvY {m : Nat} {N w : Nat → Nat} {tt tw tx tp ta : Nat → Int32} (hm : m ≤ 9) (hG : cq_G m N) (hw : ∀ p, p < 9 → w p ≤ 20) (hT : ∀ p q, p < 9 → q < 9 → tt (p * 9 + q) = nI ((N p).testBit q).toNat) (hW : ∀ p, p < 9 → tw p = nI (w p)) {post : Int32 → Prop} (h : post (nI (cq_mx (cq_cl N m) (fun s => cq_w w s m) (2 ^ m)))) : wpY_heaviest post (nI m, tt, tw, tx, tp, ta) := by
  have h9 := cq_p9 hm
  refine loop_0 (fun n i a => wY_heaviest_4 post (nI m) tt tw tx tp ta n (nI a) (nI i)) (fun i a => a = cq_mx (cq_cl N m) (fun s => cq_w w s m) i) (2 ^ m) 0 rfl ?_ ?_
  · intro n a ha
    refine br_t (cq_shle hm (Nat.le_refl _) (by omega)) ?_
    rw [ha]; exact h
  · intro n i a hi ha ih
    have hl := cq_w_le hw i hm
    have hb := cq_mx_le (P := cq_cl N m) (f := fun s => cq_w w s m) (fun s => cq_w_le hw s hm) i
    refine br_f (cq_shn hm hi) ?_
    refine cq_weiY hm hW hi ?_
    refine pk_le (cq_w w i m) a (fun he => ?_) (fun he => ?_)
    · exact nm_r (nI_1 i) (ih a (by rw [cq_mx_f (fun z => by have := z.1; omega), ha]))
    · refine cq_clY hm hG hT hi (fun hc => ?_) (fun hc => ?_)
      · exact br_f (by decide) (nm_r (nI_1 i) (ih (cq_w w i m) (by rw [cq_mx_t ⟨by show _ < cq_w w i m; omega, hc⟩])))
      · exact br_t rfl (nm_r (nI_1 i) (ih a (by rw [cq_mx_f (fun z => hc z.2), ha])))
theorem i_vc_heaviest {k : Nat} {u : SX} {v : SY} (I : i_Rel k u v) (hk : k + 4 ≤ 2049) : wpX_heaviest (fun r => wpY_heaviest (fun r' => r' = r ∧ i_Rel (k + 4) u v) v) u := by
  have I' := i_up I
  obtain ⟨m, N, w, an, aw, ao, ax, tt, tw, tx, tp, ta, ⟨h2, hm, hG, hw, hN, hA, hT, hW⟩, rfl, rfl⟩ := I
  unfold wpX_heaviest
  dsimp only
  refine cq_bhX (c := 0) hm hw hN hA (cq_p0 m) (cq_cl0 N m) (fun b hb => ?_)
  refine cq_weiX hm hA hb.1 ?_
  refine cq_hvY hm hG hw hT hW ⟨congrArg nI ?_, I'⟩
  have h1 := cq_mx_ub (P := cq_cl N m) (f := fun s => cq_w w s m) (2 ^ m) b hb.1 hb.2.2.1
  rcases cq_mx_at (P := cq_cl N m) (f := fun s => cq_w w s m) (2 ^ m) with e | ⟨s, s1, s2, s3⟩
  · have h1' : cq_w w b m ≤ cq_mx (cq_cl N m) (fun s => cq_w w s m) (2 ^ m) := h1
    omega
  · have h1' : cq_w w b m ≤ cq_mx (cq_cl N m) (fun s => cq_w w s m) (2 ^ m) := h1
    have s3' : cq_mx (cq_cl N m) (fun s => cq_w w s m) (2 ^ m) = cq_w w s m := s3
    have := hb.2.2.2 s s1 (Nat.and_zero s) s2
    omega
