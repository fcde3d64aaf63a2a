section LMS
variable {c R Wn lr ver cu : Nat} {lock steps i0 i1 : Int32} {K V Kb Vb sz ind rp rk rr rv rs wp wkd wk wv wr wve ws : Nat → Int32}
theorem lx_scan {q : Int32} {b n : Nat} (hb : b + n ≤ 32) : ∀ d j, j + d = n → (∀ i, i < j → ¬ K (b + i) = q) →
    ((∀ i, i < n → ¬ K (b + i) = q) ∧ ∀ post : Int32 → Prop, post (-1) → wX_slotOf_18 post q (nI (b + n)) (nI c) (nI R) (nI Wn) (nI lr) (nI ver) lock (nI cu) steps K V sz ind rp rk rr rv rs wp wkd wk wv wr wve ws (d + 1) (nI (b + j))) ∨
    (∃ p, p < n ∧ K (b + p) = q ∧ ∀ post : Int32 → Prop, post (nI (b + p)) → wX_slotOf_18 post q (nI (b + n)) (nI c) (nI R) (nI Wn) (nI lr) (nI ver) lock (nI cu) steps K V sz ind rp rk rr rv rs wp wkd wk wv wr wve ws (d + 1) (nI (b + j))) := by
  intro d
  induction d with
  | zero =>
    intro j hj hm
    have h : nI (b + n) ≤ nI (b + j) := nI_le (by omega) (by omega)
    exact Or.inl ⟨fun i hi => hm i (by omega), fun post hp => br_t h hp⟩
  | succ d ih =>
    intro j hj hm
    have h : ¬ nI (b + n) ≤ nI (b + j) := nI_ge (by omega) (by omega)
    have hi : vp_in (nI (b + j)) 32 := vp_in_nI (by omega) (by omega)
    have hc : (nI (b + j)).toNatClampNeg = b + j := nI_clamp (by omega)
    by_cases e : K (b + j) = q
    · have e' : K (nI (b + j)).toNatClampNeg = q := by rw [hc]; exact e
      exact Or.inr ⟨j, by omega, e, fun post hp => br_f h ⟨hi, br_t e' hp⟩⟩
    · have e' : ¬ K (nI (b + j)).toNatClampNeg = q := by rw [hc]; exact e
      have hm' : ∀ i, i < j + 1 → ¬ K (b + i) = q := fun i hi => by
        by_cases x : i = j
        · rw [x]; exact e
        · exact hm i (by omega)
      rcases ih (j + 1) (by omega) hm' with ⟨ha, hw⟩ | ⟨p, hp, ek, hw⟩
      · exact Or.inl ⟨ha, fun post hp => br_f h ⟨hi, br_f e' (nm_r (nI_1 (b + j)) (hw post hp))⟩⟩
      · exact Or.inr ⟨p, hp, ek, fun post hp' => br_f h ⟨hi, br_f e' (nm_r (nI_1 (b + j)) (hw post hp'))⟩⟩
theorem lx_slotOf {f : Int32 → Option Int32} {s n : Nat} (hs : s < 2) (hn : n ≤ 16) (ez : sz s = nI n) (hL : lm_L f (s * 16) n K V) (q : Int32) :
    (f q = none ∧ ∀ post : Int32 → Prop, post (-1) → wpX_slotOf post (nI c, nI R, nI Wn, nI lr, nI ver, lock, nI cu, steps, K, V, sz, ind, rp, rk, rr, rv, rs, wp, wkd, wk, wv, wr, wve, ws) (nI s) q) ∨
    (∃ p, p < n ∧ K (s * 16 + p) = q ∧ ∀ post : Int32 → Prop, post (nI (s * 16 + p)) → wpX_slotOf post (nI c, nI R, nI Wn, nI lr, nI ver, lock, nI cu, steps, K, V, sz, ind, rp, rk, rr, rv, rs, wp, wkd, wk, wv, wr, wve, ws) (nI s) q) := by
  have i2 : vp_in (nI s) 2 := vp_in_nI hs (by omega)
  have c2 : (nI s).toNatClampNeg = s := nI_clamp (by omega)
  have e2 : nI (s * 16) + sz (nI s).toNatClampNeg = nI (s * 16 + n) := by rw [c2, ez, nI_add]
  rcases lx_scan (c := c) (R := R) (Wn := Wn) (lr := lr) (ver := ver) (cu := cu) (lock := lock) (steps := steps) (ind := ind) (rp := rp) (rk := rk) (rr := rr) (rv := rv) (rs := rs) (wp := wp) (wkd := wkd) (wk := wk) (wv := wv) (wr := wr) (wve := wve) (ws := ws) (K := K) (V := V) (sz := sz) (q := q) (b := s * 16) (n := n) (by omega) n 0 (by omega) (fun i hi => absurd hi (Nat.not_lt_zero i)) with ⟨ha, hw⟩ | ⟨p, hp, ek, hw⟩
  · exact Or.inl ⟨lm_miss hL ha, fun post hp => nm_r (lm_16 s) ⟨i2, nm_r e2 ⟨n + 1, hw post hp⟩⟩⟩
  · exact Or.inr ⟨p, hp, ek, fun post hp' => nm_r (lm_16 s) ⟨i2, nm_r e2 ⟨n + 1, hw post hp'⟩⟩⟩
theorem ly_scan {q : Int32} {s n : Nat} (hs : s < 2) (hn : n ≤ 16) (ez : sz s = nI n) : ∀ d j, j + d = n → (∀ i, i < j → ¬ Kb (s * 16 + i) = q) →
    ((∀ i, i < n → ¬ Kb (s * 16 + i) = q) ∧ ∀ post : Int32 → Prop, post (-1) → wY_find_2 post (nI s) q (nI c) (nI R) (nI Wn) (nI lr) (nI ver) i0 i1 lock (nI cu) steps Kb Vb sz rp rk rr rv rs wp wkd wk wv wr wve ws (d + 1) (nI j)) ∨
    (∃ p, p < n ∧ Kb (s * 16 + p) = q ∧ ∀ post : Int32 → Prop, post (nI p) → wY_find_2 post (nI s) q (nI c) (nI R) (nI Wn) (nI lr) (nI ver) i0 i1 lock (nI cu) steps Kb Vb sz rp rk rr rv rs wp wkd wk wv wr wve ws (d + 1) (nI j)) := by
  have i2 : vp_in (nI s) 2 := vp_in_nI hs (by omega)
  have c2 : (nI s).toNatClampNeg = s := nI_clamp (by omega)
  intro d
  induction d with
  | zero =>
    intro j hj hm
    have h : sz (nI s).toNatClampNeg ≤ nI j := by rw [c2, ez]; exact nI_le (by omega) (by omega)
    exact Or.inl ⟨fun i hi => hm i (by omega), fun post hp => ⟨i2, br_t h hp⟩⟩
  | succ d ih =>
    intro j hj hm
    have h : ¬ sz (nI s).toNatClampNeg ≤ nI j := by rw [c2, ez]; exact nI_ge (by omega) (by omega)
    have h16 : ¬ (16 : Int32) ≤ nI j := nI_ge (b := 16) (by omega) (by decide)
    have e1 : nI s * 16 + nI j = nI (s * 16 + j) := by rw [lm_16, nI_add]
    have hi : vp_in (nI s * 16 + nI j) 32 := by rw [e1]; exact vp_in_nI (by omega) (by omega)
    have hc : (nI s * 16 + nI j).toNatClampNeg = s * 16 + j := by rw [e1]; exact nI_clamp (by omega)
    by_cases e : Kb (s * 16 + j) = q
    · have e' : Kb (nI s * 16 + nI j).toNatClampNeg = q := by rw [hc]; exact e
      exact Or.inr ⟨j, by omega, e, fun post hp => ⟨i2, br_f h (br_f h16 ⟨hi, br_t e' hp⟩)⟩⟩
    · have e' : ¬ Kb (nI s * 16 + nI j).toNatClampNeg = q := by rw [hc]; exact e
      have hm' : ∀ i, i < j + 1 → ¬ Kb (s * 16 + i) = q := fun i hi => by
        by_cases x : i = j
        · rw [x]; exact e
        · exact hm i (by omega)
      rcases ih (j + 1) (by omega) hm' with ⟨ha, hw⟩ | ⟨p, hp, ek, hw⟩
      · exact Or.inl ⟨ha, fun post hp => ⟨i2, br_f h (br_f h16 ⟨hi, br_f e' (nm_r (nI_1 j) (hw post hp))⟩)⟩⟩
      · exact Or.inr ⟨p, hp, ek, fun post hp' => ⟨i2, br_f h (br_f h16 ⟨hi, br_f e' (nm_r (nI_1 j) (hw post hp'))⟩)⟩⟩
theorem ly_find {f : Int32 → Option Int32} {s n : Nat} (hs : s < 2) (hn : n ≤ 16) (ez : sz s = nI n) (hL : lm_L f (s * 16) n Kb Vb) (q : Int32) :
    (f q = none ∧ ∀ post : Int32 → Prop, post (-1) → wpY_find post (nI c, nI R, nI Wn, nI lr, nI ver, i0, i1, lock, nI cu, steps, Kb, Vb, sz, rp, rk, rr, rv, rs, wp, wkd, wk, wv, wr, wve, ws) (nI s) q) ∨
    (∃ p, p < n ∧ Kb (s * 16 + p) = q ∧ ∀ post : Int32 → Prop, post (nI p) → wpY_find post (nI c, nI R, nI Wn, nI lr, nI ver, i0, i1, lock, nI cu, steps, Kb, Vb, sz, rp, rk, rr, rv, rs, wp, wkd, wk, wv, wr, wve, ws) (nI s) q) := by
  rcases ly_scan (c := c) (R := R) (Wn := Wn) (lr := lr) (ver := ver) (cu := cu) (lock := lock) (steps := steps) (i0 := i0) (i1 := i1) (rp := rp) (rk := rk) (rr := rr) (rv := rv) (rs := rs) (wp := wp) (wkd := wkd) (wk := wk) (wv := wv) (wr := wr) (wve := wve) (ws := ws) (Kb := Kb) (Vb := Vb) (sz := sz) (q := q) hs hn ez n 0 (by omega) (fun i hi => absurd hi (Nat.not_lt_zero i)) with ⟨ha, hw⟩ | ⟨p, hp, ek, hw⟩
  · exact Or.inl ⟨lm_miss hL ha, fun post hp => ⟨n + 1, hw post hp⟩⟩
  · exact Or.inr ⟨p, hp, ek, fun post hp' => ⟨n + 1, hw post hp'⟩⟩
theorem lm_val (hD : lm_D K V Kb Vb sz) {s : Nat} (hs : s < 2) (q : Int32) :
    ∃ r, (∀ post : Int32 → Prop, post r → wpX_valueIn post (nI c, nI R, nI Wn, nI lr, nI ver, lock, nI cu, steps, K, V, sz, ind, rp, rk, rr, rv, rs, wp, wkd, wk, wv, wr, wve, ws) (nI s) q) ∧ (∀ post : Int32 → Prop, post r → wpY_lookup post (nI c, nI R, nI Wn, nI lr, nI ver, i0, i1, lock, nI cu, steps, Kb, Vb, sz, rp, rk, rr, rv, rs, wp, wkd, wk, wv, wr, wve, ws) (nI s) q) := by
  obtain ⟨f, n, hn, ez, hL, hLb⟩ := hD s hs
  rcases lx_slotOf (c := c) (R := R) (Wn := Wn) (lr := lr) (ver := ver) (cu := cu) (lock := lock) (steps := steps) (ind := ind) (rp := rp) (rk := rk) (rr := rr) (rv := rv) (rs := rs) (wp := wp) (wkd := wkd) (wk := wk) (wv := wv) (wr := wr) (wve := wve) (ws := ws) hs hn ez hL q with ⟨fq, hx⟩ | ⟨p, hp, ek, hx⟩ <;> rcases ly_find (c := c) (R := R) (Wn := Wn) (lr := lr) (ver := ver) (cu := cu) (lock := lock) (steps := steps) (i0 := i0) (i1 := i1) (rp := rp) (rk := rk) (rr := rr) (rv := rv) (rs := rs) (wp := wp) (wkd := wkd) (wk := wk) (wv := wv) (wr := wr) (wve := wve) (ws := ws) hs hn ez hLb q with ⟨gq, hy⟩ | ⟨pb, hpb, ekb, hy⟩
  · refine ⟨-1, fun post h => ?_, fun post h => ?_⟩
    · simp +decide only [wpX_valueIn]; refine hx _ ?_; simp +decide only [true_implies, false_implies, not_true_eq_false, not_false_eq_true, and_true, true_and, forall_eq, implies_true, lm_nb0, lm_nb1]; exact h
    · simp +decide only [wpY_lookup]; refine hy _ ?_; simp +decide only [true_implies, false_implies, not_true_eq_false, not_false_eq_true, and_true, true_and, forall_eq, implies_true, lm_nb0, lm_nb1]; exact h
  · rw [lm_hit hLb hpb ekb] at fq; cases fq
  · rw [lm_hit hL hp ek] at gq; cases gq
  · have ev : V (s * 16 + p) = Vb (s * 16 + pb) := Option.some.inj ((lm_hit hL hp ek).symm.trans (lm_hit hLb hpb ekb))
    have n1 : ¬ nI (s * 16 + p) = -1 := lm_ne1 (by omega)
    have i1 : vp_in (nI (s * 16 + p)) 32 := vp_in_nI (by omega) (by omega)
    have c1 : (nI (s * 16 + p)).toNatClampNeg = s * 16 + p := nI_clamp (by omega)
    have n2 : ¬ nI pb < 0 := nI_pos (by omega)
    have n2' : 0 ≤ nI pb := nI_pos' (by omega)
    have e2 : nI s * 16 + nI pb = nI (s * 16 + pb) := by rw [lm_16, nI_add]
    have i2 : vp_in (nI (s * 16 + pb)) 32 := vp_in_nI (by omega) (by omega)
    have c2 : (nI (s * 16 + pb)).toNatClampNeg = s * 16 + pb := nI_clamp (by omega)
    refine ⟨V (s * 16 + p), fun post h => ?_, fun post h => ?_⟩
    · simp +decide only [wpX_valueIn]; refine hx _ ?_; simp +decide only [n1, i1, c1, true_implies, false_implies, not_true_eq_false, not_false_eq_true, and_true, true_and, forall_eq, implies_true, lm_nb0, lm_nb1]; exact h
    · rw [ev] at h
      simp +decide only [wpY_lookup]; refine hy _ ?_; simp +decide only [n2, n2', e2, i2, c2, true_implies, false_implies, not_true_eq_false, not_false_eq_true, and_true, true_and, forall_eq, implies_true, lm_nb0, lm_nb1]; exact h
end LMS
