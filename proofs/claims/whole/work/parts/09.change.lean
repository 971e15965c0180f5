/-! a new object -/
theorem cq_fill {aw : Nat → Int32} {i : Nat} (hi : i < 2 ^ 31) (h : ∀ p, p < i → aw p = nI 1) : ∀ p, p < i + 1 → upd aw (nI i).toNatClampNeg 1 p = nI 1 := by
  intro p hp
  rw [nI_clamp hi]
  by_cases e : p = i
  · rw [e, pk_us]; rfl
  · rw [pk_un e]; exact h p (by omega)
theorem cq_ctX {m : Nat} (hm : m ≤ 9) {post : SX → Prop} (h : ∀ aw : Nat → Int32, (∀ p, p < 9 → aw p = nI 1) → post (nI m, nI (2 ^ m - 1), fun _ => 0, aw, fun _ => 0, fun _ => 0)) : wX_init_60 post (nI m) 0 0 (fun _ => 0) (fun _ => 0) (fun _ => 0) (fun _ => 0) := by
  have h0 := cq_p0 m
  have e : ((1 : Int32) <<< (nI m &&& 31)) - 1 = nI (2 ^ m - 1) := by
    rw [cq_sh (by omega)]
    exact pk_sub (b := 1) h0
  unfold wX_init_60
  refine nm_r e ?_
  refine loop_0 (fun n i aw => wX_init_77 post (nI m) (nI (2 ^ m - 1)) n (nI i) (fun _ => 0) aw (fun _ => 0) (fun _ => 0)) (fun i aw => ∀ p, p < i → aw p = nI 1) 9 (fun _ => 0) ?_ ?_ ?_
  · intro p hp
    omega
  · intro n aw ha
    exact br_t (Int32.le_refl _) (h aw ha)
  · intro n i aw hi ha ih
    exact br_f (nI_ge (b := 9) hi (by decide)) ⟨vp_in_nI hi (by decide), nm_e (nm_r (nI_1 i) (ih _ (cq_fill (by omega) ha)))⟩
theorem cq_ctY {m : Nat} {post : SY → Prop} (h : ∀ tw : Nat → Int32, (∀ p, p < 9 → tw p = nI 1) → post (nI m, fun _ => 0, tw, fun _ => 0, fun _ => 0, fun _ => 0)) : ∃ n, wY_init_74 post (nI m) n 0 (fun _ => 0) (fun _ => 0) (fun _ => 0) (fun _ => 0) (fun _ => 0) := by
  refine loop_0 (fun n i tw => wY_init_74 post (nI m) n (nI i) (fun _ => 0) tw (fun _ => 0) (fun _ => 0) (fun _ => 0)) (fun i tw => ∀ p, p < i → tw p = nI 1) 9 (fun _ => 0) ?_ ?_ ?_
  · intro p hp
    omega
  · intro n tw ha
    exact br_t (Int32.le_refl _) (h tw ha)
  · intro n i tw hi ha ih
    exact br_f (nI_ge (b := 9) hi (by decide)) ⟨vp_in_nI hi (by decide), nm_e (nm_r (nI_1 i) (ih _ (cq_fill (by omega) ha)))⟩
theorem cq_new {m : Nat} (h2 : 2 ≤ m) (hm : m ≤ 9) {aw tw : Nat → Int32} (ha : ∀ p, p < 9 → aw p = nI 1) (ht : ∀ p, p < 9 → tw p = nI 1) : cq_R m (fun _ => 0) (fun _ => 1) (fun _ => 0) aw (fun _ => 0) tw :=
  ⟨h2, hm, ⟨fun _ _ => cq_p0 m, fun p q _ _ => by rw [Nat.zero_testBit, Nat.zero_testBit], fun p _ => Nat.zero_testBit p⟩, fun _ _ => show 1 ≤ 20 by decide, fun _ _ => rfl, ha, fun p q _ _ => by rw [Nat.zero_testBit]; rfl, ht⟩
theorem i_vc0 (k0 : Int32) : wpX_init (fun u => wpY_init (fun v => i_Rel 1 u v) k0) k0 := by
  by_cases h2 : 2 ≤ k0
  · by_cases h9 : k0 ≤ 9
    · obtain ⟨m, hm, rfl⟩ := nI_of2 (x := k0) (M := 9) (n := 9) (by decide) (Int32.not_lt.mpr (Int32.le_trans (by decide) h2)) h9
      have h2' : 2 ≤ m := (nI_leI (a := 2) (by decide) (by omega)).mp h2
      exact br_t h2 (br_t h9 (cq_ctX hm (fun aw ha => br_t h2 (br_t h9 (cq_ctY (fun tw ht => cq_mk (cq_new h2' hm ha ht)))))))
    · exact br_t h2 (br_f h9 (cq_ctX (m := 9) (by decide) (fun aw ha => br_t h2 (br_f h9 (cq_ctY (m := 9) (fun tw ht => cq_mk (cq_new (by decide) (by decide) ha ht)))))))
  · exact br_f h2 (cq_ctX (m := 2) (by decide) (fun aw ha => br_f h2 (cq_ctY (m := 2) (fun tw ht => cq_mk (cq_new (by decide) (by decide) ha ht)))))
/-! weigh -/
theorem cq_wup {w : Nat → Nat} {aw : Nat → Int32} (ha : ∀ p, p < 9 → aw p = nI (w p)) (p j : Nat) : ∀ r, r < 9 → upd aw p (nI j) r = nI (if r = p then j else w r) := by
  intro r hr
  by_cases e : r = p
  · rw [if_pos e, e, pk_us]
  · rw [if_neg e, pk_un e]; exact ha r hr
theorem i_vc_weigh {k : Nat} {u : SX} {v : SY} (I : i_Rel k u v) (hk : k + 4 ≤ 2049) (v1 : Int32) (v2 : Int32) : wpX_weigh (fun r u' => wpY_weigh (fun r' v' => r' = r ∧ i_Rel (k + 4) u' v') v v1 v2) u v1 v2 := by
  have I' := i_up I
  obtain ⟨m, N, w, an, aw, ao, ax, tt, tw, tx, tp, ta, ⟨h2, hm, hG, hw, hN, hA, hT, hW⟩, rfl, rfl⟩ := I
  unfold wpX_weigh wpY_weigh
  dsimp only
  rcases cq_ix2 v1 m with h | ⟨p, hp, rfl⟩
  · exact cq_bpX h (br_t rfl (cq_bpY h (br_f (by decide) ⟨rfl, I'⟩)))
  · refine cq_gpX hm hp (br_f (by decide) ?_)
    by_cases c1 : v2 < 1
    · exact br_t c1 (cq_gpY hm hp (br_t rfl (br_t c1 ⟨rfl, I'⟩)))
    · by_cases c2 : v2 ≤ 20
      · obtain ⟨j, hj, rfl⟩ := nI_of2 (x := v2) (M := 20) (n := 20) (by decide) (Int32.not_lt.mpr (Int32.le_trans (by decide) (Int32.not_lt.mp c1))) c2
        have hi : vp_in (nI p) 9 := vp_in_nI (by omega) (by decide)
        have e : (nI p).toNatClampNeg = p := nI_clamp (by omega)
        refine br_f c1 (br_t c2 ⟨hi, nm_e ⟨hi, nm_e ?_⟩⟩)
        refine cq_gpY hm hp (br_t rfl (br_f c1 (br_t c2 ⟨hi, nm_e ⟨hi, nm_e ⟨?_, ?_⟩⟩⟩)))
        · rw [e, hA p (by omega), hW p (by omega)]
        · rw [e]
          exact cq_mk (w := fun r => if r = p then j else w r) ⟨h2, hm, hG, fun r hr => by dsimp only; split; omega; exact hw r hr, hN, cq_wup hA p j, hT, cq_wup hW p j⟩
      · exact br_f c1 (br_f c2 (cq_gpY hm hp (br_t rfl (br_f c1 (br_f c2 ⟨rfl, I'⟩)))))
/-! setting a pair -/
def cq_st (a q : Nat) (b : Bool) : Nat := if b = true then a ||| 2 ^ q else cq_del a q
theorem cq_st_b {a q i : Nat} {b : Bool} (ha : a < 2 ^ 31) : (cq_st a q b).testBit i = if q = i then b else a.testBit i := by
  unfold cq_st
  cases b
  · rw [if_neg (by decide), cq_del_b ha]
    by_cases e : q = i <;> simp [e]
  · rw [if_pos rfl, Nat.testBit_or, Nat.testBit_two_pow]
    by_cases e : q = i <;> simp [e]
theorem cq_st_lt {a q m : Nat} {b : Bool} (ha : a < 2 ^ m) (hq : q < m) : cq_st a q b < 2 ^ m := by
  unfold cq_st
  split
  · exact cq_or_lt ha hq
  · exact Nat.lt_of_le_of_lt (cq_del_le a q) ha
def cq_sj (N : Nat → Nat) (p q : Nat) (b : Bool) (r : Nat) : Nat := if r = q then cq_st (N q) p b else if r = p then cq_st (N p) q b else N r
theorem cq_sj_b {m : Nat} {N : Nat → Nat} {p q : Nat} {b : Bool} (hm : m ≤ 9) (hG : cq_G m N) (hp : p < m) (hq : q < m) (hpq : p ≠ q) {r t : Nat} (hr : r < 9) : (cq_sj N p q b r).testBit t = if (r = p ∧ t = q) ∨ (r = q ∧ t = p) then b else (N r).testBit t := by
  have h9 := cq_p9 hm
  have hl : ∀ r, r < 9 → N r < 2 ^ 31 := fun r hr => Nat.lt_of_lt_of_le (hG.1 r hr) (by omega)
  unfold cq_sj
  by_cases e1 : r = q
  · rw [if_pos e1, cq_st_b (hl q (by omega))]
    by_cases e2 : p = t
    · rw [if_pos e2, if_pos (Or.inr ⟨e1, e2.symm⟩)]
    · rw [if_neg e2, if_neg (by omega), e1]
  · rw [if_neg e1]
    by_cases e2 : r = p
    · rw [if_pos e2, cq_st_b (hl p (by omega))]
      by_cases e3 : q = t
      · rw [if_pos e3, if_pos (Or.inl ⟨e2, e3.symm⟩)]
      · rw [if_neg e3, if_neg (by omega), e2]
    · rw [if_neg e2, if_neg (by omega)]
theorem cq_sj_G {m : Nat} {N : Nat → Nat} {p q : Nat} {b : Bool} (hm : m ≤ 9) (hG : cq_G m N) (hp : p < m) (hq : q < m) (hpq : p ≠ q) : cq_G m (cq_sj N p q b) := by
  refine ⟨fun r hr => ?_, fun r t hr ht => ?_, fun r hr => ?_⟩
  · unfold cq_sj
    split
    · exact cq_st_lt (hG.1 q (by omega)) hp
    · split
      · exact cq_st_lt (hG.1 p (by omega)) hq
      · exact hG.1 r hr
  · rw [cq_sj_b hm hG hp hq hpq hr, cq_sj_b hm hG hp hq hpq ht]
    by_cases c : (r = p ∧ t = q) ∨ (r = q ∧ t = p)
    · rw [if_pos c, if_pos (by omega)]
    · rw [if_neg c, if_neg (by omega), hG.2.1 r t hr ht]
  · rw [cq_sj_b hm hG hp hq hpq hr, if_neg (by omega), hG.2.2 r hr]
theorem cq_sjX {m : Nat} {N : Nat → Nat} {an aw ao ax : Nat → Int32} (hN : ∀ p, p < 9 → an p = nI (N p)) {p q : Nat} (hp : p < 9) (hq : q < 9) (hpq : p ≠ q) (b : Bool) {post : SX → Prop} (h : ∀ an' : Nat → Int32, (∀ r, r < 9 → an' r = nI (cq_sj N p q b r)) → post (nI m, nI (2 ^ m - 1), an', aw, ao, ax)) : wpX_setJoined post (nI m, nI (2 ^ m - 1), an, aw, ao, ax) (nI p) (nI q) (nI b.toNat) := by
  have ip : vp_in (nI p) 9 := vp_in_nI hp (by decide)
  have iq : vp_in (nI q) 9 := vp_in_nI hq (by decide)
  have ep : (nI p).toNatClampNeg = p := nI_clamp (by omega)
  have eq : (nI q).toNatClampNeg = q := nI_clamp (by omega)
  unfold wpX_setJoined
  dsimp only
  rw [ep, eq]
  cases b
  · refine br_t rfl ⟨ip, ip, nm_r (e' := upd an p (nI (cq_st (N p) q false))) ?_ ⟨iq, iq, nm_r (e' := upd (upd an p (nI (cq_st (N p) q false))) q (nI (cq_st (N q) p false))) ?_ (h _ (fun r hr => ?_))⟩⟩
    · rw [hN p hp, cq_del_e _ (by omega)]; rfl
    · rw [pk_un (Ne.symm hpq), hN q hq, cq_del_e _ (by omega)]; rfl
    · unfold cq_sj
      by_cases e1 : r = q
      · rw [if_pos e1, e1, pk_us]
      · rw [if_neg e1, pk_un e1]
        by_cases e2 : r = p
        · rw [if_pos e2, e2, pk_us]
        · rw [if_neg e2, pk_un e2, hN r hr]
  · refine br_f (by decide) ⟨ip, ip, nm_r (e' := upd an p (nI (cq_st (N p) q true))) ?_ ⟨iq, iq, nm_r (e' := upd (upd an p (nI (cq_st (N p) q true))) q (nI (cq_st (N q) p true))) ?_ (h _ (fun r hr => ?_))⟩⟩
    · rw [hN p hp, cq_sh (by omega), cq_or]; rfl
    · rw [pk_un (Ne.symm hpq), hN q hq, cq_sh (by omega), cq_or]; rfl
    · unfold cq_sj
      by_cases e1 : r = q
      · rw [if_pos e1, e1, pk_us]
      · rw [if_neg e1, pk_un e1]
        by_cases e2 : r = p
        · rw [if_pos e2, e2, pk_us]
        · rw [if_neg e2, pk_un e2, hN r hr]
theorem cq_ajX {m : Nat} {N : Nat → Nat} {an aw ao ax : Nat → Int32} (hm : m ≤ 9) (hG : cq_G m N) (hN : ∀ p, p < 9 → an p = nI (N p)) {p q : Nat} (hp : p < 9) (hq : q < 9) {post : Int32 → Prop} (h1 : (N p).testBit q = true → post 1) (h0 : (N p).testBit q = false → post 0) : wpX_areJoined post (nI m, nI (2 ^ m - 1), an, aw, ao, ax) (nI p) (nI q) := by
  have h9 := cq_p9 hm
  have hl := hG.1 p hp
  unfold wpX_areJoined
  dsimp only
  refine ⟨vp_in_nI hp (by decide), ?_⟩
  rw [nI_clamp (by omega), hN p hp]
  exact cq_hX (by omega) (by omega) (fun z => ⟨rfl, h1 z⟩) (fun z => ⟨rfl, h0 z⟩)
theorem cq_nar (b : Bool) : vp_nar .boolean (nI b.toNat) = nI b.toNat := by cases b <;> rfl
theorem cq_jnX {m : Nat} {N : Nat → Nat} {an aw ao ax : Nat → Int32} (hN : ∀ p, p < 9 → an p = nI (N p)) {p q : Nat} (hp : p < 9) (hq : q < 9) (hpq : p ≠ q) (x old : Int32) {post : Int32 → SX → Prop} (h : ∀ an' : Nat → Int32, (∀ r, r < 9 → an' r = nI (cq_sj N p q (decide (x ≠ 0)) r)) → post old (nI m, nI (2 ^ m - 1), an', aw, ao, ax)) : wX_join_40 post (nI p) (nI q) x old (nI m) (nI (2 ^ m - 1)) an aw ao ax := by
  unfold wX_join_40 wX_join_54
  by_cases c : x = 0
  · refine br_t c (cq_sjX hN hp hq hpq false (fun an' h' => ?_))
    rw [decide_eq_false (by simp [c])] at h
    exact h an' h'
  · refine br_f c (cq_sjX hN hp hq hpq true (fun an' h' => ?_))
    rw [decide_eq_true c] at h
    exact h an' h'
theorem cq_jup {N : Nat → Nat} {tt : Nat → Int32} (hT : ∀ p q, p < 9 → q < 9 → tt (p * 9 + q) = nI ((N p).testBit q).toNat) {p q : Nat} (hp : p < 9) (hq : q < 9) (b : Bool) : ∀ r t, r < 9 → t < 9 → upd (upd tt (p * 9 + q) (nI b.toNat)) (q * 9 + p) (nI b.toNat) (r * 9 + t) = nI (if (r = p ∧ t = q) ∨ (r = q ∧ t = p) then b else (N r).testBit t).toNat := by
  intro r t hr ht
  by_cases c : r = q ∧ t = p
  · rw [if_pos (Or.inr c), c.1, c.2, pk_us]
  · rw [pk_un (by omega)]
    by_cases d : r = p ∧ t = q
    · rw [if_pos (Or.inl d), d.1, d.2, pk_us]
    · rw [pk_un (by omega), if_neg (by omega), hT r t hr ht]
theorem cq_jnY {m : Nat} {N : Nat → Nat} {tt tw tx tp ta : Nat → Int32} (hT : ∀ p q, p < 9 → q < 9 → tt (p * 9 + q) = nI ((N p).testBit q).toNat) {p q : Nat} (hp : p < 9) (hq : q < 9) (x old : Int32) {post : Int32 → SY → Prop} (h : ∀ tt' : Nat → Int32, (∀ r t, r < 9 → t < 9 → tt' (r * 9 + t) = nI (if (r = p ∧ t = q) ∨ (r = q ∧ t = p) then decide (x ≠ 0) else (N r).testBit t).toNat) → post old (nI m, tt', tw, tx, tp, ta)) : wY_join_45 post (nI p) (nI q) x old (nI m) tt tw tx tp ta := by
  have i1 : vp_in (nI (p * 9 + q)) 81 := vp_in_nI (by omega) (by decide)
  have i2 : vp_in (nI (q * 9 + p)) 81 := vp_in_nI (by omega) (by decide)
  have n0 : vp_nar .boolean 0 = nI false.toNat := cq_nar false
  have n1 : vp_nar .boolean 1 = nI true.toNat := cq_nar true
  unfold wY_join_45 wY_join_66
  rw [cq_t9, cq_t9, nI_clamp (by omega), nI_clamp (by omega), n0, n1]
  by_cases c : x = 0
  · rw [decide_eq_false (by simp [c])] at h
    exact br_t c ⟨i1, nm_e (br_t c ⟨i2, nm_e (h _ (cq_jup hT hp hq false))⟩)⟩
  · rw [decide_eq_true c] at h
    exact br_f c ⟨i1, nm_e (br_f c ⟨i2, nm_e (h _ (cq_jup hT hp hq true))⟩)⟩
theorem i_vc_join {k : Nat} {u : SX} {v : SY} (I : i_Rel k u v) (hk : k + 4 ≤ 2049) (v1 : Int32) (v2 : Int32) (v3 : Int32) : wpX_join (fun r u' => wpY_join (fun r' v' => r' = r ∧ i_Rel (k + 4) u' v') v v1 v2 v3) u v1 v2 v3 := by
  have I' := i_up I
  obtain ⟨m, N, w, an, aw, ao, ax, tt, tw, tx, tp, ta, ⟨h2, hm, hG, hw, hN, hA, hT, hW⟩, rfl, rfl⟩ := I
  unfold wpX_join wpY_join
  dsimp only
  rcases cq_ix2 v1 m with h | ⟨p, hp, rfl⟩
  · exact cq_bpX h (br_t rfl (cq_bpY h (br_f (by decide) ⟨rfl, I'⟩)))
  · refine cq_gpX hm hp (br_f (by decide) ?_)
    rcases cq_ix2 v2 m with h | ⟨q, hq, rfl⟩
    · exact cq_bpX h (br_t rfl (cq_gpY hm hp (br_t rfl (cq_bpY h (br_f (by decide) ⟨rfl, I'⟩)))))
    · refine cq_gpX hm hq (br_f (by decide) ?_)
      by_cases c : nI p = nI q
      · exact br_t c (cq_gpY hm hp (br_t rfl (cq_gpY hm hq (br_t rfl (br_t c ⟨rfl, I'⟩)))))
      · have hpq : p ≠ q := fun z => c (by rw [z])
        have i1 : vp_in (nI p * 9 + nI q) 81 := by rw [cq_t9]; exact vp_in_nI (by omega) (by decide)
        have e1 : tt (nI p * 9 + nI q).toNatClampNeg = nI ((N p).testBit q).toNat := by rw [cq_t9, nI_clamp (by omega), hT p q (by omega) (by omega)]
        refine br_f c (cq_ajX hm hG hN (by omega) (by omega) (fun hb => br_f (by decide) ?_) (fun hb => br_t rfl ?_))
        · refine cq_jnX hN (by omega) (by omega) hpq v3 1 (fun an' ha' => ?_)
          refine cq_gpY hm hp (br_t rfl (cq_gpY hm hq (br_t rfl (br_f c ⟨i1, br_f ?_ ?_⟩))))
          · rw [e1, hb]; decide
          · refine cq_jnY hT (by omega) (by omega) v3 1 (fun tt' ht' => ⟨rfl, cq_mk (N := cq_sj N p q (decide (v3 ≠ 0))) ⟨h2, hm, cq_sj_G hm hG hp hq hpq, hw, ha', hA, fun r t hr ht => ?_, hW⟩⟩)
            rw [ht' r t hr ht, cq_sj_b hm hG hp hq hpq hr]
        · refine cq_jnX hN (by omega) (by omega) hpq v3 0 (fun an' ha' => ?_)
          refine cq_gpY hm hp (br_t rfl (cq_gpY hm hq (br_t rfl (br_f c ⟨i1, br_t ?_ ?_⟩))))
          · rw [e1, hb]; rfl
          · refine cq_jnY hT (by omega) (by omega) v3 0 (fun tt' ht' => ⟨rfl, cq_mk (N := cq_sj N p q (decide (v3 ≠ 0))) ⟨h2, hm, cq_sj_G hm hG hp hq hpq, hw, ha', hA, fun r t hr ht => ?_, hW⟩⟩)
            rw [ht' r t hr ht, cq_sj_b hm hG hp hq hpq hr]
