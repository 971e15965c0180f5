/-! colourings: both sides' tables -/
def cq_CX (m : Nat) (F : Nat → Prop) (k : Nat) (ao ax : Nat → Int32) : Prop := (∀ a, a < 2 ^ m → ao a = nI (cq_if (F a) 1)) ∧ (∀ s, s < 2 ^ m → ax s = nI (cq_N F k s))
theorem cq_fit {F : Nat → Prop} {ao : Nat → Int32} {i : Nat} (h : ∀ a, a < i → ao a = nI (cq_if (F a) 1)) {b : Bool} (hb : b = true ↔ F i) : ∀ a, a < i + 1 → upd ao i (nI b.toNat) a = nI (cq_if (F a) 1) := by
  intro a ha
  by_cases e : a = i
  · rw [e, pk_us]
    by_cases c : F i
    · rw [hb.mpr c, cq_if_t c]; rfl
    · rw [Bool.eq_false_iff.mpr (fun z => c (hb.mp z)), cq_if_f c]; rfl
  · rw [pk_un e]; exact h a (by omega)
section
variable {m : Nat} {N : Nat → Nat} {an aw ao ax : Nat → Int32}
theorem cq_sc41 {i : Nat} (hi : i < 512) (b : Bool) {post : SX → Prop} {J2 : Int32 → (Nat → Int32) → (Nat → Int32) → (Nat → Int32) → (Nat → Int32) → Prop} {x1 : Int32} (h : J2 (nI (i + 1)) an aw (upd ao i (nI b.toNat)) (upd ax i 0)) : wX_startColouring_41 post J2 x1 (nI i) (nI b.toNat) (nI i) (nI m) (nI (2 ^ m - 1)) an aw ao ax := by
  have iv : vp_in (nI i) 512 := vp_in_nI hi (by decide)
  unfold wX_startColouring_41
  rw [cq_nar, nI_clamp (by omega)]
  exact ⟨iv, nm_e ⟨iv, nm_e (nm_r (nI_1 i) h)⟩⟩
def cq_FT (N : Nat → Nat) (m T a : Nat) : Prop := (a &&& T = 0 ∨ a &&& T = T) ∧ cq_in N m a
theorem cq_scX (hm : m ≤ 9) (hN : ∀ p, p < 9 → an p = nI (N p)) {T : Nat} (hT : T < 2 ^ m) {post : SX → Prop} (h : ∀ ao' ax', cq_CX m (cq_FT N m T) 0 ao' ax' → post (nI m, nI (2 ^ m - 1), an, aw, ao', ax')) : wpX_startColouring post (nI m, nI (2 ^ m - 1), an, aw, ao, ax) (nI T) := by
  have h9 := cq_p9 hm
  have h0 := cq_p0 m
  refine loop_0 (σ := (Nat → Int32) × (Nat → Int32)) (fun n i s => wX_startColouring_2 post (nI T) (nI m) (nI (2 ^ m - 1)) n (nI i) an aw s.1 s.2) (fun i s => (∀ a, a < i → s.1 a = nI (cq_if (cq_FT N m T a) 1)) ∧ ∀ a, a < i → s.2 a = 0) (2 ^ m) (ao, ax) ?_ ?_ ?_
  · exact ⟨fun a ha => by omega, fun a ha => by omega⟩
  · intro n s I
    refine br_t (nI_lt (by omega) (by omega)) (nm_e (h _ _ ⟨I.1, fun t ht => ?_⟩))
    rw [cq_N_0]
    by_cases e : t = 0
    · rw [if_pos e, e, pk_us]; rfl
    · rw [if_neg e, pk_un e, I.2 t ht]; rfl
  · intro n i s hi I ih
    have hz : ∀ a, a < i + 1 → upd s.2 i 0 a = 0 := by
      intro a ha
      by_cases e : a = i
      · rw [e, pk_us]
      · rw [pk_un e]; exact I.2 a (by omega)
    have ha : i &&& T ≤ T := Nat.and_le_right
    have hJ : ∀ b : Bool, (b = true ↔ cq_FT N m T i) → wX_startColouring_2 post (nI T) (nI m) (nI (2 ^ m - 1)) n (nI (i + 1)) an aw (upd s.1 i (nI b.toNat)) (upd s.2 i 0) := fun b hb => ih (_, _) ⟨cq_fit I.1 hb, hz⟩
    have h28 : (i &&& T = 0 ∨ i &&& T = T) → wX_startColouring_28 post (wX_startColouring_2 post (nI T) (nI m) (nI (2 ^ m - 1)) n) (nI T) (nI i) (nI i) (nI m) (nI (2 ^ m - 1)) an aw s.1 s.2 := by
      intro hs
      unfold wX_startColouring_28
      refine cq_noneX hm hN hi (fun hc => br_f (by decide) ?_) (fun hc => br_t rfl ?_)
      · exact cq_sc41 (by omega) true (hJ true ⟨fun _ => ⟨hs, hc⟩, fun _ => rfl⟩)
      · unfold wX_startColouring_40
        exact cq_sc41 (by omega) false (hJ false ⟨fun z => absurd z (by decide), fun z => absurd z.2 hc⟩)
    refine br_f (nI_nlt (by omega) (by omega)) (nm_r (nx_and i T) ?_)
    refine pk_eq (i &&& T) 0 (fun e => h28 (Or.inl e)) (fun e => ?_)
    refine pk_eq (i &&& T) T (fun e' => h28 (Or.inr e')) (fun e' => ?_)
    unfold wX_startColouring_40
    refine cq_sc41 (by omega) false (hJ false ⟨fun z => absurd z (by decide), fun z => ?_⟩)
    rcases z.1 with y | y
    · exact absurd y e
    · exact absurd y e'
theorem cq_acX (hm : m ≤ 9) {F : Nat → Prop} {k : Nat} (hF : ∀ a, a < 2 ^ m → ao a = nI (cq_if (F a) 1)) {post : SX → Prop} (h : ∀ ax', (∀ s, s < 2 ^ m → ax' s = nI (cq_N F (k + 1) s)) → post (nI m, nI (2 ^ m - 1), an, aw, ao, ax')) : ∀ (j : Nat), j ≤ 2 ^ m → ∀ ax : Nat → Int32, (∀ t, t < j → ax t = nI (cq_N F k t)) → (∀ t, j ≤ t → t < 2 ^ m → ax t = nI (cq_N F (k + 1) t)) → wX_addColour_5 post (nI m) (nI (2 ^ m - 1)) (j + 1) (nI j + (-1)) an aw ao ax := by
  have h9 := cq_p9 hm
  intro j
  induction j with
  | zero =>
    intro _ ax h1 h2
    exact br_t (by decide) (h ax (fun s hs => h2 s (by omega) hs))
  | succ j ih =>
    intro hj ax h1 h2
    rw [pk_m1]
    refine br_f (nI_pos (by omega)) ?_
    refine loop_0 (fun n i a => wX_addColour_13 post (wX_addColour_5 post (nI m) (nI (2 ^ m - 1)) (j + 1)) (nI j) (nI m) (nI (2 ^ m - 1)) an aw ao ax n (nI a) (nI i)) (fun i a => a = cq_S (fun a => cq_if (a &&& j = a ∧ F a) (cq_N F k (j ^^^ a))) i) (j + 1) 0 rfl ?_ ?_
    · intro n a ha
      refine br_t (nI_lt (by omega) (by omega)) ⟨vp_in_nI (by omega) (by decide), ?_⟩
      rw [nI_clamp (by omega)]
      refine nm_e (nm_e (ih (by omega) _ (fun t ht => ?_) (fun t ht hs => ?_)))
      · rw [pk_un (by omega)]; exact h1 t (by omega)
      · by_cases e : t = j
        · rw [e, pk_us, ha, cq_N_s]
        · rw [pk_un e]; exact h2 t (by omega) hs
    · intro n i a hi ha ih2
      have hn : cq_S (fun a => cq_if (a &&& j = a ∧ F a) (cq_N F k (j ^^^ a))) (i + 1) = cq_S (fun a => cq_if (a &&& j = a ∧ F a) (cq_N F k (j ^^^ a))) i + cq_if (i &&& j = i ∧ F i) (cq_N F k (j ^^^ i)) := rfl
      have hx : i &&& j ≤ i := Nat.and_le_left
      refine br_f (nI_nlt (by omega) (by omega)) ?_
      rw [nx_and]
      refine pk_eq (i &&& j) i (fun e => ⟨vp_in_nI (by omega) (by decide), ?_⟩) (fun e => ?_)
      · have hm1 := cq_minus e
        have hle := cq_sub_le e
        rw [nI_clamp (by omega), hF i (by omega)]
        by_cases c : F i
        · rw [cq_if_t c, nx_xor, nI_clamp (by omega), h1 (j ^^^ i) (by omega), nI_add]
          exact br_f (by decide) ⟨vp_in_nI (by omega) (by decide), nm_e (nm_r (nI_1 i) (ih2 _ (by rw [hn, cq_if_t ⟨e, c⟩, ha])))⟩
        · rw [cq_if_f c]
          exact br_t rfl (nm_r (nI_1 i) (ih2 a (by rw [hn, cq_if_f (fun z => c z.2), ha]; rfl)))
      · exact nm_r (nI_1 i) (ih2 a (by rw [hn, cq_if_f (fun z => e z.1), ha]; rfl))
theorem cq_addX (hm : m ≤ 9) {F : Nat → Prop} {k : Nat} (hC : cq_CX m F k ao ax) {post : SX → Prop} (h : ∀ ax', cq_CX m F (k + 1) ao ax' → post (nI m, nI (2 ^ m - 1), an, aw, ao, ax')) : wpX_addColour post (nI m, nI (2 ^ m - 1), an, aw, ao, ax) := by
  have h0 := cq_p0 m
  have e : nI (2 ^ m - 1) = nI (2 ^ m) + (-1) := by
    have := pk_m1 (2 ^ m - 1)
    rw [show 2 ^ m - 1 + 1 = 2 ^ m by omega] at this
    exact this.symm
  refine ⟨2 ^ m + 1, ?_⟩
  have hh := cq_acX (an := an) (aw := aw) (post := post) hm hC.1 (fun ax' hx => h ax' ⟨hC.1, hx⟩) (2 ^ m) (Nat.le_refl _) ax hC.2 (fun t h1 h2 => by omega)
  rw [← e] at hh
  exact hh
theorem cq_cnX (hm : m ≤ 9) (hN : ∀ p, p < 9 → an p = nI (N p)) {T k : Nat} (hT : T < 2 ^ m) (hk : k < 2 ^ 31) {post : Int32 → SX → Prop} (h : ∀ ao' ax', post (nI (cq_N (cq_FT N m T) k (2 ^ m - 1))) (nI m, nI (2 ^ m - 1), an, aw, ao', ax')) : wpX_countColourings post (nI m, nI (2 ^ m - 1), an, aw, ao, ax) (nI k) (nI T) := by
  have h9 := cq_p9 hm
  have h0 := cq_p0 m
  unfold wpX_countColourings
  dsimp only
  refine cq_scX hm hN hT (fun ao1 ax1 hC => ?_)
  refine loop_0 (fun n i ax => wX_countColourings_7 post (nI k) n (nI i) (nI m) (nI (2 ^ m - 1)) an aw ao1 ax) (fun i ax => cq_CX m (cq_FT N m T) i ao1 ax) k ax1 hC ?_ ?_
  · intro n ax2 hC2
    refine br_t (Int32.le_refl _) ⟨vp_in_nI (by omega) (by decide), ?_⟩
    rw [nI_clamp (by omega), hC2.2 _ (by omega)]
    exact h ao1 ax2
  · intro n i ax2 hi hC2 ih
    refine br_f (nI_ge hi hk) ?_
    exact cq_addX hm hC2 (fun ax3 hC3 => nm_r (nI_1 i) (ih ax3 hC3))
end
/-! the reference -/
section
variable {m : Nat} {N : Nat → Nat} {tt tw tx tp ta : Nat → Int32}
theorem cq_moreY (hm : m ≤ 9) {F : Nat → Prop} {k : Nat} (hF : ∀ a, a < 2 ^ m → ta a = nI (cq_if (F a) 1)) (hp : ∀ s, s < 2 ^ m → tp s = nI (cq_N F k s)) {s : Nat} (hs : s < 2 ^ m) {post : Int32 → Prop} (h : post (nI (cq_N F (k + 1) s))) : wpY_more post (nI m, tt, tw, tx, tp, ta) (nI s) := by
  have h9 := cq_p9 hm
  refine loop_0 (fun n i a => wY_more_4 post (nI s) (nI m) tt tw tx tp ta n (nI a) (nI i)) (fun i a => a = cq_S (fun a => cq_if (a &&& s = a ∧ F a) (cq_N F k (s ^^^ a))) i) (s + 1) 0 rfl ?_ ?_
  · intro n a ha
    refine br_t (nI_lt (by omega) (by omega)) ?_
    rw [ha, ← cq_N_s]; exact h
  · intro n i a hi ha ih
    have hn : cq_S (fun a => cq_if (a &&& s = a ∧ F a) (cq_N F k (s ^^^ a))) (i + 1) = cq_S (fun a => cq_if (a &&& s = a ∧ F a) (cq_N F k (s ^^^ a))) i + cq_if (i &&& s = i ∧ F i) (cq_N F k (s ^^^ i)) := rfl
    have hx : i &&& s ≤ i := Nat.and_le_left
    refine br_f (nI_nlt (by omega) (by omega)) ?_
    rw [nx_and]
    refine pk_eq (i &&& s) i (fun e => ?_) (fun e => ?_)
    · unfold wY_more_21
      refine br_f (by decide) ⟨vp_in_nI (by omega) (by decide), ?_⟩
      have hm1 := cq_minus e
      have hle := cq_sub_le e
      rw [nI_clamp (by omega), hF i (by omega)]
      by_cases c : F i
      · rw [cq_if_t c, pk_sub hle, nI_clamp (by omega), hp (s - i) (by omega), nI_add]
        exact br_f (by decide) ⟨vp_in_nI (by omega) (by decide), nm_e (nm_r (nI_1 i) (ih _ (by rw [hn, cq_if_t ⟨e, c⟩, ha, hm1])))⟩
      · rw [cq_if_f c]
        exact br_t rfl (nm_r (nI_1 i) (ih a (by rw [hn, cq_if_f (fun z => c z.2), ha]; rfl)))
    · unfold wY_more_21
      exact br_t rfl (nm_r (nI_1 i) (ih a (by rw [hn, cq_if_f (fun z => e z.1), ha]; rfl)))
theorem cq_addY (hm : m ≤ 9) {F : Nat → Prop} {k : Nat} (hC : cq_CX m F k ta tx) {post : SY → Prop} (h : ∀ tx' tp', cq_CX m F (k + 1) ta tx' → post (nI m, tt, tw, tx', tp', ta)) : wpY_addColour post (nI m, tt, tw, tx, tp, ta) := by
  have h9 := cq_p9 hm
  refine loop_0 (fun n i tp => wY_addColour_2 post (nI m) n (nI i) tt tw tx tp ta) (fun i tp => ∀ s, s < i → tp s = nI (cq_N F k s)) (2 ^ m) tp (fun s hs => by omega) ?_ ?_
  · intro n tp1 hp
    refine br_t (cq_shle hm (Nat.le_refl _) (by omega)) ?_
    refine loop_0 (fun n i tx => wY_addColour_32 post (nI m) n (nI i) tt tw tx tp1 ta) (fun i tx => ∀ s, s < i → tx s = nI (cq_N F (k + 1) s)) (2 ^ m) tx (fun s hs => by omega) ?_ ?_
    · intro n tx1 hx
      exact br_t (cq_shle hm (Nat.le_refl _) (by omega)) (h tx1 tp1 ⟨hC.1, hx⟩)
    · intro n i tx1 hi hx ih
      refine br_f (cq_shn hm hi) (cq_moreY hm hC.1 hp hi ⟨vp_in_nI (by omega) (by decide), ?_⟩)
      rw [nI_clamp (by omega)]
      refine nm_e (nm_r (nI_1 i) (ih _ (fun s hs => ?_)))
      by_cases e : s = i
      · rw [e, pk_us]
      · rw [pk_un e]; exact hx s (by omega)
  · intro n i tp1 hi hp ih
    have iv : vp_in (nI i) 512 := vp_in_nI (by omega) (by decide)
    refine br_f (cq_shn hm hi) ⟨iv, iv, ?_⟩
    rw [nI_clamp (by omega), hC.2 i hi]
    refine nm_e (nm_r (nI_1 i) (ih _ (fun s hs => ?_)))
    by_cases e : s = i
    · rw [e, pk_us]
    · rw [pk_un e]; exact hp s (by omega)
theorem cq_paY (hm : m ≤ 9) (hG : cq_G m N) (hT : ∀ p q, p < 9 → q < 9 → tt (p * 9 + q) = nI ((N p).testBit q).toNat) {k : Nat} (hk : k < 2 ^ 31) {post : SY → Prop} (h : ∀ tx' tp' ta', cq_CX m (cq_in N m) k ta' tx' → post (nI m, tt, tw, tx', tp', ta')) : wpY_paint post (nI m, tt, tw, tx, tp, ta) (nI k) := by
  have h9 := cq_p9 hm
  refine loop_0 (σ := (Nat → Int32) × (Nat → Int32)) (fun n i s => wY_paint_2 post (nI k) (nI m) n (nI i) tt tw s.1 tp s.2) (fun i s => (∀ a, a < i → s.2 a = nI (cq_if (cq_in N m a) 1)) ∧ ∀ a, a < i → s.1 a = nI (cq_N (cq_in N m) 0 a)) (2 ^ m) (tx, ta) ?_ ?_ ?_
  · exact ⟨fun a ha => by omega, fun a ha => by omega⟩
  · intro n s I
    refine br_t (cq_shle hm (Nat.le_refl _) (by omega)) ?_
    refine loop_0 (σ := (Nat → Int32) × (Nat → Int32)) (fun n i t => wY_paint_47 post (nI k) n (nI i) (nI m) tt tw t.1 t.2 s.2) (fun i t => cq_CX m (cq_in N m) i s.2 t.1) k (s.1, tp) I ?_ ?_
    · intro n t C
      exact br_t (Int32.le_refl _) (h t.1 t.2 s.2 C)
    · intro n i t hi C ih
      exact br_f (nI_ge hi hk) (cq_addY hm C (fun tx' tp' C' => nm_r (nI_1 i) (ih (tx', tp') C')))
  · intro n i s hi I ih
    have iv : vp_in (nI i) 512 := vp_in_nI (by omega) (by decide)
    have h26 : ∀ z : Int32, z = nI (cq_N (cq_in N m) 0 i) → wY_paint_26 post (wY_paint_2 post (nI k) (nI m) n) (nI k) (nI i) z (nI i) (nI m) tt tw s.1 tp s.2 := by
      intro z hz
      have hx : ∀ a, a < i + 1 → upd s.1 i z a = nI (cq_N (cq_in N m) 0 a) := by
        intro a ha
        by_cases e : a = i
        · rw [e, pk_us, hz]
        · rw [pk_un e]; exact I.2 a (by omega)
      unfold wY_paint_26
      rw [nI_clamp (by omega)]
      refine ⟨iv, nm_e (cq_inY hm hG hT hi (fun hc => ⟨iv, ?_⟩) (fun hc => ⟨iv, ?_⟩))⟩
      · refine nm_r (e' := upd s.2 i (nI true.toNat)) (by rw [← cq_nar]; rfl) (nm_r (nI_1 i) (ih (upd s.1 i z, upd s.2 i (nI true.toNat)) ⟨cq_fit I.1 ⟨fun _ => hc, fun _ => rfl⟩, hx⟩))
      · refine nm_r (e' := upd s.2 i (nI false.toNat)) (by rw [← cq_nar]; rfl) (nm_r (nI_1 i) (ih (upd s.1 i z, upd s.2 i (nI false.toNat)) ⟨cq_fit I.1 ⟨fun z => absurd z (by decide), fun z => absurd z hc⟩, hx⟩))
    refine br_f (cq_shn hm hi) (pk_eq i 0 (fun e => h26 1 ?_) (fun e => h26 0 ?_))
    · rw [cq_N_0, if_pos e]; rfl
    · rw [cq_N_0, if_neg e]; rfl
end
