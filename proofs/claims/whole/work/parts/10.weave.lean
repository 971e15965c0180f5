/-! pairs -/
theorem cq_S_le1 {f : Nat → Nat} (h : ∀ i, f i ≤ 1) (n : Nat) : cq_S f n ≤ n := by
  induction n with
  | zero => exact Nat.le_refl _
  | succ n ih => exact Nat.add_le_add ih (h n)
theorem cq_prY {m : Nat} {N : Nat → Nat} {tt tw tx tp ta : Nat → Int32} (hm : m ≤ 9) (hG : cq_G m N) (hT : ∀ p q, p < 9 → q < 9 → tt (p * 9 + q) = nI ((N p).testBit q).toNat) {post : Int32 → Prop} (h : post (nI (cq_S (fun s => cq_if (cq_m s m = 2 ∧ cq_cl N m s) 1) (2 ^ m)))) : wpY_pairs post (nI m, tt, tw, tx, tp, ta) := by
  have hp := cq_pairs hG hm
  have hb := cq_S_le1 (f := fun k => cq_e N (k / 9) (k % 9)) (fun i => by unfold cq_e; split <;> decide) 81
  refine loop_0 (fun n i a => wY_pairs_4 post (nI m) tt tw tx tp ta n (nI a) (nI i)) (fun i a => a = cq_S (fun k => cq_e N (k / 9) (k % 9)) i) 81 0 rfl ?_ ?_
  · intro n a ha
    refine br_t (Int32.le_refl _) ⟨by decide, ?_⟩
    rw [hp] at ha hb
    have e : nI a / nI 2 = nI (a / 2) := pk_div (by omega) (by decide) (by decide)
    rw [show a / 2 = cq_S (fun s => cq_if (cq_m s m = 2 ∧ cq_cl N m s) 1) (2 ^ m) by omega] at e
    show post (nI a / nI 2)
    rw [e]; exact h
  · intro n i a hi ha ih
    have hn : cq_S (fun k => cq_e N (k / 9) (k % 9)) (i + 1) = cq_S (fun k => cq_e N (k / 9) (k % 9)) i + cq_e N (i / 9) (i % 9) := rfl
    have ei := hT (i / 9) (i % 9) (by omega) (by omega)
    rw [show i / 9 * 9 + i % 9 = i by omega] at ei
    refine br_f (nI_ge (b := 81) hi (by decide)) ⟨vp_in_nI hi (by decide), ?_⟩
    rw [nI_clamp (by omega), ei]
    unfold cq_e at hn
    cases hb : (N (i / 9)).testBit (i % 9)
    · exact br_t rfl (nm_r (nI_1 i) (ih a (by rw [ha]; unfold cq_e; rw [hn, hb]; rfl)))
    · exact br_f (by decide) (nm_r (nI_1 a) (nm_r (nI_1 i) (ih (a + 1) (by rw [ha]; unfold cq_e; rw [hn, hb]; rfl))))
/-! the reference's table, cell by cell -/
def cq_YI (m : Nat) (N : Nat → Nat) (H : Nat → Nat → Bool) (p q : Nat) (tt : Nat → Int32) : Prop := ∀ r t, r < 9 → t < 9 → tt (r * 9 + t) = nI (if t < m ∧ (r < p ∨ (r = p ∧ t < q)) then (decide (r ≠ t) && H r t) else (N r).testBit t).toNat
theorem cq_YI_0 {m : Nat} {N : Nat → Nat} {H : Nat → Nat → Bool} {tt : Nat → Int32} (hT : ∀ p q, p < 9 → q < 9 → tt (p * 9 + q) = nI ((N p).testBit q).toNat) : cq_YI m N H 0 0 tt := by
  intro r t hr ht
  rw [if_neg (by omega)]
  exact hT r t hr ht
theorem cq_YI_s {m : Nat} {N : Nat → Nat} {H : Nat → Nat → Bool} {tt : Nat → Int32} {p q : Nat} (h : cq_YI m N H p q tt) (hm : m ≤ 9) (hp : p < m) (hq : q < m) {b : Bool} (hb : b = (decide (p ≠ q) && H p q)) : cq_YI m N H p (q + 1) (upd tt (p * 9 + q) (nI b.toNat)) := by
  intro r t hr ht
  by_cases c : r = p ∧ t = q
  · rw [if_pos (by omega), c.1, c.2, pk_us, hb]
  · rw [pk_un (by omega), h r t hr ht]
    by_cases d : t < m ∧ (r < p ∨ (r = p ∧ t < q))
    · rw [if_pos d, if_pos (by omega)]
    · rw [if_neg d, if_neg (by omega)]
theorem cq_YI_o {m : Nat} {N : Nat → Nat} {H : Nat → Nat → Bool} {tt : Nat → Int32} {p : Nat} (h : cq_YI m N H p m tt) : cq_YI m N H (p + 1) 0 tt := by
  intro r t hr ht
  rw [h r t hr ht]
  by_cases d : t < m ∧ (r < p ∨ (r = p ∧ t < m))
  · rw [if_pos d, if_pos (by omega)]
  · rw [if_neg d, if_neg (by omega)]
def cq_FS (m : Nat) (N : Nat → Nat) (H : Nat → Nat → Bool) (N' : Nat → Nat) : Prop := ∀ r t, r < 9 → t < 9 → (N' r).testBit t = if r < m ∧ t < m then (decide (r ≠ t) && H r t) else (N r).testBit t
theorem cq_YI_e {m : Nat} {N N' : Nat → Nat} {H : Nat → Nat → Bool} {tt : Nat → Int32} (h : cq_YI m N H m 0 tt) (hF : cq_FS m N H N') : ∀ r t, r < 9 → t < 9 → tt (r * 9 + t) = nI ((N' r).testBit t).toNat := by
  intro r t hr ht
  rw [h r t hr ht, hF r t hr ht]
  by_cases d : r < m ∧ t < m
  · rw [if_pos d, if_pos (by omega)]
  · rw [if_neg d, if_neg (by omega)]
theorem cq_FS_G {m : Nat} {N N' : Nat → Nat} {H : Nat → Nat → Bool} (hG : cq_G m N) (hF : cq_FS m N H N') (hb : ∀ r, r < 9 → N' r < 2 ^ m) (hH : ∀ r t, r < 9 → t < 9 → H r t = H t r) : cq_G m N' := by
  refine ⟨hb, fun r t hr ht => ?_, fun r hr => ?_⟩
  · rw [hF r t hr ht, hF t r ht hr]
    by_cases d : r < m ∧ t < m
    · rw [if_pos d, if_pos (by omega), hH r t hr ht, show decide (r ≠ t) = decide (t ≠ r) from decide_eq_decide.mpr ⟨Ne.symm, Ne.symm⟩]
    · rw [if_neg d, if_neg (by omega), hG.2.1 r t hr ht]
  · rw [hF r r hr hr]
    split
    · simp
    · exact hG.2.2 r hr
/-! weave -/
def cq_F (sd sh r t : Nat) : Bool := decide ((r * r + r * t + t * t + sd) % 7 < sh)
theorem cq_F_s (sd sh r t : Nat) : cq_F sd sh r t = cq_F sd sh t r := by
  unfold cq_F
  rw [show r * r + r * t + t * t = t * t + t * r + r * r by rw [Nat.mul_comm r t]; omega]
theorem cq_rem {p q sd : Nat} (hp : p < 9) (hq : q < 9) (hs : sd < 7) : (((nI p * nI p) + (nI p * nI q)) + (nI q * nI q)) + nI sd - ((((nI p * nI p) + (nI p * nI q)) + (nI q * nI q)) + nI sd) / 7 * 7 = nI ((p * p + p * q + q * q + sd) % 7) := by
  have h1 : p * p ≤ 8 * 8 := Nat.mul_le_mul (by omega) (by omega)
  have h2 : p * q ≤ 8 * 8 := Nat.mul_le_mul (by omega) (by omega)
  have h3 : q * q ≤ 8 * 8 := Nat.mul_le_mul (by omega) (by omega)
  rw [pk_mul p p, pk_mul p q, pk_mul q q, nI_add, nI_add, nI_add]
  exact pk_rem (d := 7) (by omega) (by decide) (by decide)
theorem cq_rcm {p q sd sh : Nat} {A B : Prop} (hp : p < 9) (hq : q < 9) (hs : sd < 7) (hh : sh < 8) (f : cq_F sd sh p q = false → A) (g : cq_F sd sh p q = true → B) : (nI sh ≤ (((nI p * nI p) + (nI p * nI q)) + (nI q * nI q)) + nI sd - ((((nI p * nI p) + (nI p * nI q)) + (nI q * nI q)) + nI sd) / 7 * 7 → A) ∧ (¬ nI sh ≤ (((nI p * nI p) + (nI p * nI q)) + (nI q * nI q)) + nI sd - ((((nI p * nI p) + (nI p * nI q)) + (nI q * nI q)) + nI sd) / 7 * 7 → B) := by
  rw [cq_rem hp hq hs]
  have hl : (p * p + p * q + q * q + sd) % 7 < 7 := Nat.mod_lt _ (by decide)
  refine pk_le sh ((p * p + p * q + q * q + sd) % 7) (fun h => f ?_) (fun h => g ?_)
  · exact decide_eq_false (by omega)
  · exact decide_eq_true h
def cq_WI (m : Nat) (N : Nat → Nat) (F : Nat → Nat → Bool) (q p : Nat) (an : Nat → Int32) : Prop := ∃ N', (∀ r, r < 9 → an r = nI (N' r)) ∧ cq_G m N' ∧ ∀ r t, r < 9 → t < 9 → (N' r).testBit t = if r ≠ t ∧ ((r < q ∧ t < q) ∨ (r = q ∧ t < p) ∨ (t = q ∧ r < p)) then F r t else (N r).testBit t
theorem cq_WI_c {m : Nat} {N : Nat → Nat} {F : Nat → Nat → Bool} {q p q' p' : Nat} {an : Nat → Int32} (h : cq_WI m N F q p an) (hc : ∀ r t : Nat, (r ≠ t ∧ ((r < q ∧ t < q) ∨ (r = q ∧ t < p) ∨ (t = q ∧ r < p))) ↔ (r ≠ t ∧ ((r < q' ∧ t < q') ∨ (r = q' ∧ t < p') ∨ (t = q' ∧ r < p')))) : cq_WI m N F q' p' an := by
  obtain ⟨N', h1, h2, h3⟩ := h
  refine ⟨N', h1, h2, fun r t hr ht => ?_⟩
  rw [h3 r t hr ht]
  by_cases d : r ≠ t ∧ ((r < q ∧ t < q) ∨ (r = q ∧ t < p) ∨ (t = q ∧ r < p))
  · rw [if_pos d, if_pos ((hc r t).mp d)]
  · rw [if_neg d, if_neg (fun z => d ((hc r t).mpr z))]
theorem cq_WI_s {m : Nat} {N N1 : Nat → Nat} {F : Nat → Nat → Bool} (hF : ∀ r t, F r t = F t r) (hm : m ≤ 9) {q p : Nat} (hpq : p < q) (hq : q < m) {an' : Nat → Int32} (h2 : cq_G m N1) (h3 : ∀ r t, r < 9 → t < 9 → (N1 r).testBit t = if r ≠ t ∧ ((r < q ∧ t < q) ∨ (r = q ∧ t < p) ∨ (t = q ∧ r < p)) then F r t else (N r).testBit t) {b : Bool} (hb : F p q = b) (ha : ∀ r, r < 9 → an' r = nI (cq_sj N1 p q b r)) : cq_WI m N F q (p + 1) an' := by
  refine ⟨cq_sj N1 p q b, ha, cq_sj_G hm h2 (by omega) hq (by omega), fun r t hr ht => ?_⟩
  rw [cq_sj_b hm h2 (by omega) hq (by omega) hr]
  by_cases c : (r = p ∧ t = q) ∨ (r = q ∧ t = p)
  · rw [if_pos c, if_pos (by omega)]
    rcases c with ⟨c1, c2⟩ | ⟨c1, c2⟩
    · rw [c1, c2, hb]
    · rw [c1, c2, hF, hb]
  · rw [if_neg c, h3 r t hr ht]
    by_cases d : r ≠ t ∧ ((r < q ∧ t < q) ∨ (r = q ∧ t < p) ∨ (t = q ∧ r < p))
    · rw [if_pos d, if_pos (by omega)]
    · rw [if_neg d, if_neg (by omega)]
theorem cq_WI_e {m : Nat} {N : Nat → Nat} {F : Nat → Nat → Bool} (hG : cq_G m N) {an : Nat → Int32} (h : cq_WI m N F m 0 an) : ∃ N', (∀ r, r < 9 → an r = nI (N' r)) ∧ cq_G m N' ∧ cq_FS m N F N' := by
  obtain ⟨N', h1, h2, h3⟩ := h
  refine ⟨N', h1, h2, fun r t hr ht => ?_⟩
  rw [h3 r t hr ht]
  by_cases e : r = t
  · rw [if_neg (by omega), e, hG.2.2 t ht]
    split <;> simp
  · by_cases d : r < m ∧ t < m
    · rw [if_pos ⟨e, Or.inl d⟩, if_pos d, decide_eq_true e, Bool.true_and]
    · rw [if_neg (by omega), if_neg d]
theorem cq_wvX {m : Nat} {N : Nat → Nat} {an aw ao ax : Nat → Int32} (h2 : 2 ≤ m) (hm : m ≤ 9) (hG : cq_G m N) (hN : ∀ p, p < 9 → an p = nI (N p)) {sd sh : Nat} (hs : sd < 7) (hh : sh < 8) {post : Int32 → SX → Prop} (h : ∀ (an' : Nat → Int32) (N' : Nat → Nat), (∀ r, r < 9 → an' r = nI (N' r)) → cq_G m N' → cq_FS m N (cq_F sd sh) N' → post (nI (cq_S (fun s => cq_if (cq_m s m = 2 ∧ cq_cl N' m s) 1) (2 ^ m))) (nI m, nI (2 ^ m - 1), an', aw, ao, ax)) : ∃ n, wX_weave_27 post (nI sd) (nI sh) n 1 (nI m) (nI (2 ^ m - 1)) an aw ao ax := by
  refine ⟨m, loop_i (fun n q an => wX_weave_27 post (nI sd) (nI sh) n (nI q) (nI m) (nI (2 ^ m - 1)) an aw ao ax) (fun q an => cq_WI m N (cq_F sd sh) q 0 an) m ?_ ?_ _ 1 an (by omega) (by omega) ?_⟩
  · intro n an' I
    obtain ⟨N', a, b, c⟩ := cq_WI_e hG I
    exact br_t (Int32.le_refl _) (cq_ccX (k := 2) hm a (by decide) (h an' N' a b c))
  · intro n q an' hq I ih
    refine br_f (nI_ge hq (by omega)) ?_
    refine loop_0 (fun n' p an => wX_weave_38 post (wX_weave_27 post (nI sd) (nI sh) n) (nI sd) (nI sh) (nI q) n' (nI p) (nI m) (nI (2 ^ m - 1)) an aw ao ax) (fun p an => cq_WI m N (cq_F sd sh) q p an) q an' I ?_ ?_
    · intro n' a2 I2
      exact br_t (Int32.le_refl _) (nm_r (nI_1 q) (ih a2 (cq_WI_c I2 (fun r t => by omega))))
    · intro n' p a2 hp I2 ih2
      obtain ⟨N1, a, b, c⟩ := I2
      refine br_f (nI_ge hp (by omega)) ⟨by decide, cq_rcm (by omega) (by omega) hs hh (fun hb => ?_) (fun hb => ?_)⟩
      · unfold wX_weave_76
        refine cq_sjX a (by omega) (by omega) (by omega) false (fun a3 h3 => ?_)
        exact nm_r (nI_1 p) (ih2 a3 (cq_WI_s (cq_F_s sd sh) hm hp hq b c hb h3))
      · unfold wX_weave_76
        refine cq_sjX a (by omega) (by omega) (by omega) true (fun a3 h3 => ?_)
        exact nm_r (nI_1 p) (ih2 a3 (cq_WI_s (cq_F_s sd sh) hm hp hq b c hb h3))
  · exact ⟨N, hN, hG, fun r t _ _ => by rw [if_neg (by omega)]⟩
theorem cq_wvY {m : Nat} {N : Nat → Nat} {tt tw tx tp ta : Nat → Int32} (hm : m ≤ 9) (hT : ∀ p q, p < 9 → q < 9 → tt (p * 9 + q) = nI ((N p).testBit q).toNat) {sd sh : Nat} (hs : sd < 7) (hh : sh < 8) {post : Int32 → SY → Prop} (h : ∀ tt' : Nat → Int32, cq_YI m N (cq_F sd sh) m 0 tt' → wpY_pairs (fun r => post r (nI m, tt', tw, tx, tp, ta)) (nI m, tt', tw, tx, tp, ta)) : ∃ n, wY_weave_27 post (nI sd) (nI sh) (nI m) n 0 tt tw tx tp ta := by
  have n0 : vp_nar .boolean 0 = nI false.toNat := cq_nar false
  have n1 : vp_nar .boolean 1 = nI true.toNat := cq_nar true
  refine loop_0 (fun n p tt => wY_weave_27 post (nI sd) (nI sh) (nI m) n (nI p) tt tw tx tp ta) (fun p tt => cq_YI m N (cq_F sd sh) p 0 tt) m tt (cq_YI_0 hT) ?_ ?_
  · intro n t1 I
    exact br_t (Int32.le_refl _) (h t1 I)
  · intro n p t1 hp I ih
    refine br_f (nI_ge hp (by omega)) ?_
    refine loop_0 (fun n' q tt => wY_weave_38 post (wY_weave_27 post (nI sd) (nI sh) (nI m) n) (nI sd) (nI sh) (nI p) (nI m) n' (nI q) tt tw tx tp ta) (fun q tt => cq_YI m N (cq_F sd sh) p q tt) m t1 I ?_ ?_
    · intro n' t2 I2
      exact br_t (Int32.le_refl _) (nm_r (nI_1 p) (ih t2 (cq_YI_o I2)))
    · intro n' q t2 hq I2 ih2
      have iv : vp_in (nI p * 9 + nI q) 81 := by rw [cq_t9]; exact vp_in_nI (by omega) (by decide)
      have ec : (nI p * 9 + nI q).toNatClampNeg = p * 9 + q := by rw [cq_t9]; exact nI_clamp (by omega)
      refine br_f (nI_ge hq (by omega)) (pk_eq p q (fun e => ?_) (fun e => ?_))
      · exact ⟨iv, nm_r (by rw [ec, n0]) (nm_r (nI_1 q) (ih2 _ (cq_YI_s I2 hm hp hq (by simp [e]))))⟩
      · refine ⟨by decide, cq_rcm (by omega) (by omega) hs hh (fun hb => ?_) (fun hb => ?_)⟩
        · exact ⟨iv, nm_r (by rw [ec, n0]) (nm_r (nI_1 q) (ih2 _ (cq_YI_s I2 hm hp hq (by simp [hb]))))⟩
        · exact ⟨iv, nm_r (by rw [ec, n1]) (nm_r (nI_1 q) (ih2 _ (cq_YI_s I2 hm hp hq (by simp [hb, e]))))⟩
theorem i_vc_weave {k : Nat} {u : SX} {v : SY} (I : i_Rel k u v) (hk : k + 4 ≤ 2049) (v1 : Int32) (v2 : Int32) : wpX_weave (fun r u' => wpY_weave (fun r' v' => r' = r ∧ i_Rel (k + 4) u' v') v v1 v2) u v1 v2 := by
  have I' := i_up I
  obtain ⟨m, N, w, an, aw, ao, ax, tt, tw, tx, tp, ta, ⟨h2, hm, hG, hw, hN, hA, hT, hW⟩, rfl, rfl⟩ := I
  unfold wpX_weave wpY_weave
  dsimp only
  rcases cq_ix v1 7 with h | ⟨j, h1, h3, rfl⟩ | ⟨sd, hs, rfl⟩
  · exact br_t h (br_t h ⟨rfl, I'⟩)
  · have e1 : ¬ nI j < 7 := nI_nlt (b := 7) h1 h3
    have e2 : ¬ nI j ≤ 6 := nI_ge (a := 6) (by omega) h3
    exact br_f (nI_pos h3) (br_f e1 (br_f (nI_pos h3) (br_f e2 ⟨rfl, I'⟩)))
  · have e0 : ¬ nI sd < 0 := nI_pos (by omega)
    have e1 : nI sd < 7 := nI_lt (b := 7) hs (by decide)
    have e2 : nI sd ≤ 6 := nI_le (b := 6) (by omega) (by decide)
    refine br_f e0 (br_t e1 ?_)
    rcases cq_ix v2 8 with h | ⟨j, h1, h3, rfl⟩ | ⟨sh, hh, rfl⟩
    · exact br_t h (br_f e0 (br_t e2 (br_t h ⟨rfl, I'⟩)))
    · have e3 : ¬ nI j ≤ 7 := nI_ge (a := 7) (by omega) h3
      exact br_f (nI_pos h3) (br_f e3 (br_f e0 (br_t e2 (br_f (nI_pos h3) (br_f e3 ⟨rfl, I'⟩)))))
    · have e3 : nI sh ≤ 7 := nI_le (b := 7) (by omega) (by decide)
      have e4 : ¬ nI sh < 0 := nI_pos (by omega)
      refine br_f e4 (br_t e3 (cq_wvX h2 hm hG hN hs hh (fun an' N' a b c => ?_)))
      refine br_f e0 (br_t e2 (br_f e4 (br_t e3 (cq_wvY hm hT hs hh (fun tt' d => ?_)))))
      have hT' := cq_YI_e d c
      exact cq_prY hm b hT' ⟨rfl, cq_mk (N := N') ⟨h2, hm, b, hw, a, hA, hT', hW⟩⟩
/-! invert -/
def cq_iv (m : Nat) (N : Nat → Nat) (p : Nat) : Nat := ((2 ^ m - 1) ^^^ 2 ^ p) &&& (N p ^^^ (2 ^ 32 - 1))
theorem cq_iv_lt {m p : Nat} (N : Nat → Nat) (hp : p < m) : cq_iv m N p < 2 ^ m := by
  have h0 := cq_p0 m
  exact Nat.lt_of_le_of_lt Nat.and_le_left (Nat.xor_lt_two_pow (by omega) (Nat.pow_lt_pow_right (by decide) hp))
theorem cq_iv_b {m p t : Nat} {N : Nat → Nat} (hp : p < m) (ht : t < 9) : (cq_iv m N p).testBit t = (decide (t < m) && (decide (p ≠ t) && !(N p).testBit t)) := by
  unfold cq_iv
  rw [Nat.testBit_and, Nat.testBit_xor, Nat.testBit_xor, Nat.testBit_two_pow_sub_one, Nat.testBit_two_pow_sub_one, Nat.testBit_two_pow, decide_eq_true (show t < 32 by omega)]
  by_cases e : p = t
  · have : t < m := by omega
    simp [e, this]
  · simp [e]
theorem cq_ivX {m : Nat} {N : Nat → Nat} {an aw ao ax : Nat → Int32} (hm : m ≤ 9) (hN : ∀ p, p < 9 → an p = nI (N p)) {post : Int32 → SX → Prop} (h : ∀ an' : Nat → Int32, (∀ r, r < 9 → an' r = nI (if r < m then cq_iv m N r else N r)) → wpX_countCliquesOf (fun r => post r (nI m, nI (2 ^ m - 1), an', aw, ao, ax)) (nI m, nI (2 ^ m - 1), an', aw, ao, ax) 2) : wpX_invert post (nI m, nI (2 ^ m - 1), an, aw, ao, ax) := by
  refine loop_0 (fun n i an => wX_invert_2 post (nI m) (nI (2 ^ m - 1)) n (nI i) an aw ao ax) (fun i an => ∀ r, r < 9 → an r = nI (if r < i then cq_iv m N r else N r)) m an ?_ ?_ ?_
  · intro r hr
    rw [if_neg (by omega)]; exact hN r hr
  · intro n a1 I
    exact br_t (Int32.le_refl _) (h a1 I)
  · intro n i a1 hi I ih
    have iv : vp_in (nI i) 9 := vp_in_nI (by omega) (by decide)
    refine br_f (nI_ge hi (by omega)) ⟨iv, iv, ?_⟩
    rw [nI_clamp (by omega), I i (by omega), if_neg (by omega), cq_sh (by omega), cq_m1, nx_xor, nx_xor, nx_and]
    refine nm_e (nm_r (nI_1 i) (ih _ (fun r hr => ?_)))
    by_cases e : r = i
    · rw [e, pk_us, if_pos (by omega)]; rfl
    · rw [pk_un e, I r hr]
      by_cases d : r < i
      · rw [if_pos d, if_pos (by omega)]
      · rw [if_neg d, if_neg (by omega)]
theorem cq_ivY {m : Nat} {N : Nat → Nat} {tt tw tx tp ta : Nat → Int32} (hm : m ≤ 9) (hT : ∀ p q, p < 9 → q < 9 → tt (p * 9 + q) = nI ((N p).testBit q).toNat) {post : Int32 → SY → Prop} (h : ∀ tt' : Nat → Int32, cq_YI m N (fun r t => !(N r).testBit t) m 0 tt' → wpY_pairs (fun r => post r (nI m, tt', tw, tx, tp, ta)) (nI m, tt', tw, tx, tp, ta)) : wpY_invert post (nI m, tt, tw, tx, tp, ta) := by
  have n0 : vp_nar .boolean 0 = nI false.toNat := cq_nar false
  have n1 : vp_nar .boolean 1 = nI true.toNat := cq_nar true
  refine loop_0 (fun n p tt => wY_invert_2 post (nI m) n (nI p) tt tw tx tp ta) (fun p tt => cq_YI m N (fun r t => !(N r).testBit t) p 0 tt) m tt (cq_YI_0 hT) ?_ ?_
  · intro n t1 I
    exact br_t (Int32.le_refl _) (h t1 I)
  · intro n p t1 hp I ih
    refine br_f (nI_ge hp (by omega)) ?_
    refine loop_0 (fun n' q tt => wY_invert_12 post (wY_invert_2 post (nI m) n) (nI p) (nI m) n' (nI q) tt tw tx tp ta) (fun q tt => cq_YI m N (fun r t => !(N r).testBit t) p q tt) m t1 I ?_ ?_
    · intro n' t2 I2
      exact br_t (Int32.le_refl _) (nm_r (nI_1 p) (ih t2 (cq_YI_o I2)))
    · intro n' q t2 hq I2 ih2
      have iv : vp_in (nI p * 9 + nI q) 81 := by rw [cq_t9]; exact vp_in_nI (by omega) (by decide)
      have ec : (nI p * 9 + nI q).toNatClampNeg = p * 9 + q := by rw [cq_t9]; exact nI_clamp (by omega)
      have et : t2 (nI p * 9 + nI q).toNatClampNeg = nI ((N p).testBit q).toNat := by
        rw [ec, I2 p q (by omega) (by omega), if_neg (by omega)]
      refine br_f (nI_ge hq (by omega)) (pk_eq p q (fun e => ?_) (fun e => ⟨iv, ?_⟩))
      · exact ⟨iv, nm_r (by rw [ec, n0]) (nm_r (nI_1 q) (ih2 _ (cq_YI_s I2 hm hp hq (by simp [e]))))⟩
      · rw [et]
        cases hb : (N p).testBit q
        · exact br_t rfl ⟨iv, nm_r (by rw [ec, n1]) (nm_r (nI_1 q) (ih2 _ (cq_YI_s I2 hm hp hq (by simp [hb, e]))))⟩
        · exact br_f (by decide) ⟨iv, nm_r (by rw [ec, n0]) (nm_r (nI_1 q) (ih2 _ (cq_YI_s I2 hm hp hq (by simp [hb]))))⟩
theorem i_vc_invert {k : Nat} {u : SX} {v : SY} (I : i_Rel k u v) (hk : k + 4 ≤ 2049) : wpX_invert (fun r u' => wpY_invert (fun r' v' => r' = r ∧ i_Rel (k + 4) u' v') v) u := by
  obtain ⟨m, N, w, an, aw, ao, ax, tt, tw, tx, tp, ta, ⟨h2, hm, hG, hw, hN, hA, hT, hW⟩, rfl, rfl⟩ := I
  have hF : cq_FS m N (fun r t => !(N r).testBit t) (fun r => if r < m then cq_iv m N r else N r) := by
    intro r t hr ht
    dsimp only
    by_cases d : r < m
    · rw [if_pos d, cq_iv_b d ht]
      by_cases e : t < m
      · rw [if_pos ⟨d, e⟩, decide_eq_true e, Bool.true_and]
      · rw [if_neg (by omega), decide_eq_false e, Bool.false_and, cq_bhi (hG.1 r hr) (by omega)]
    · rw [if_neg d, if_neg (by omega)]
  have hG' := cq_FS_G hG hF (fun r hr => by
    split
    · exact cq_iv_lt N (by omega)
    · exact hG.1 r hr) (fun r t hr ht => by rw [hG.2.1 r t hr ht])
  refine cq_ivX hm hN (fun an' a => ?_)
  refine cq_ccX (k := 2) hm (N := fun r => if r < m then cq_iv m N r else N r) a (by decide) ?_
  refine cq_ivY hm hT (fun tt' d => ?_)
  have hT' := cq_YI_e d hF
  exact cq_prY hm hG' hT' ⟨rfl, cq_mk ⟨h2, hm, hG', hw, a, hA, hT', hW⟩⟩
