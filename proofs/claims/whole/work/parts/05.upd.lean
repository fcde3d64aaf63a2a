section LMU
variable {c R Wn lr ver cu : Nat} {lock steps i0 i1 : Int32} {K V Kb Vb sz ind rp rk rr rv rs wp wkd wk wv wr wve ws : Nat → Int32}
theorem ly_shift {s n : Nat} (hs : s < 2) (hn : n ≤ 16) (h0 : 0 < n) (ez : sz s = nI n) (old : Int32) : ∀ d i (K1 V1 : Nat → Int32), i + d + 1 = n →
    ∃ K2 V2 : Nat → Int32, (∀ x, ¬ (s * 16 + i ≤ x ∧ x < s * 16 + (n - 1)) → K2 x = K1 x ∧ V2 x = V1 x) ∧
      (∀ x, s * 16 + i ≤ x ∧ x < s * 16 + (n - 1) → K2 x = K1 (x + 1) ∧ V2 x = V1 (x + 1)) ∧
      ∀ post : Int32 → SY → Prop, post old (nI c, nI R, nI Wn, nI lr, nI ver, i0, i1, lock, nI cu, steps, K2, V2, upd sz s (nI (n - 1)), rp, rk, rr, rv, rs, wp, wkd, wk, wv, wr, wve, ws) → wY_apply_144 post (nI s) (nI (s * 16)) old (nI c) (nI R) (nI Wn) (nI lr) (nI ver) i0 i1 lock (nI cu) steps (d + 1) (nI i) K1 V1 sz rp rk rr rv rs wp wkd wk wv wr wve ws := by
  have i2 : vp_in (nI s) 2 := vp_in_nI hs (by omega)
  have c2 : (nI s).toNatClampNeg = s := nI_clamp (by omega)
  have m1 : nI n - 1 = nI (n - 1) := lm_s1 h0
  intro d
  induction d with
  | zero =>
    intro i K1 V1 hi
    refine ⟨K1, V1, fun x _ => ⟨rfl, rfl⟩, fun x hx => by omega, fun post hp => ?_⟩
    have h : nI n ≤ nI i + 1 := by rw [nI_1]; exact nI_le (by omega) (by omega)
    simp +decide only [wY_apply_144, wY_apply_216, i2, c2, ez, h, m1, true_implies, false_implies, not_true_eq_false, not_false_eq_true, and_true, true_and, forall_eq, implies_true, lm_nb0, lm_nb1]
    exact hp
  | succ d ih =>
    intro i K1 V1 hi
    obtain ⟨K2, V2, lo, up, hw⟩ := ih (i + 1) (upd K1 (s * 16 + i) (K1 (s * 16 + i + 1))) (upd V1 (s * 16 + i) (V1 (s * 16 + i + 1))) (by omega)
    refine ⟨K2, V2, fun x hx => ?_, fun x hx => ?_, fun post hp => ?_⟩
    · obtain ⟨q1, q2⟩ := lo x (by omega)
      rw [q1, q2]
      by_cases c : x = s * 16 + i
      · omega
      · exact ⟨pk_un c, pk_un c⟩
    · by_cases c : x = s * 16 + i
      · obtain ⟨q1, q2⟩ := lo x (by omega)
        rw [q1, q2, c]
        exact ⟨pk_us, pk_us⟩
      · obtain ⟨q1, q2⟩ := up x (by omega)
        rw [q1, q2]
        exact ⟨pk_un (by omega), pk_un (by omega)⟩
    · have h : ¬ nI n ≤ nI i + 1 := by rw [nI_1]; exact nI_ge (by omega) (by omega)
      have h16 : ¬ (16 : Int32) ≤ nI i + 1 := by rw [nI_1]; exact nI_ge (b := 16) (by omega) (by decide)
      have e1 : nI s * 16 + nI i = nI (s * 16 + i) := by rw [lm_16, nI_add]
      have e2 : nI (s * 16 + i) + 1 = nI (s * 16 + i + 1) := nI_1 _
      have e3 : nI (s * 16) + nI i = nI (s * 16 + i) := nI_add _ _
      have q1 : vp_in (nI (s * 16 + i)) 32 := vp_in_nI (by omega) (by omega)
      have q2 : vp_in (nI (s * 16 + i + 1)) 32 := vp_in_nI (by omega) (by omega)
      have q3 : (nI (s * 16 + i)).toNatClampNeg = s * 16 + i := nI_clamp (by omega)
      have q4 : (nI (s * 16 + i + 1)).toNatClampNeg = s * 16 + i + 1 := nI_clamp (by omega)
      have e4 : nI i + 1 = nI (i + 1) := nI_1 i
      have z := hw post hp
      generalize d + 1 = m at z ⊢
      simp +decide only [wY_apply_144, wY_apply_216, i2, c2, ez, h, h16, e1, e2, e3, q1, q2, q3, q4, true_implies, false_implies, not_true_eq_false, not_false_eq_true, and_true, true_and, forall_eq, implies_true, lm_nb0, lm_nb1]
      simp +decide only [e4]
      exact z
theorem lm_upd (hD : lm_D K V Kb Vb sz) {s : Nat} (hs : s < 2) {j : Nat} (hj : j < 4) (k : lm_k (wkd j)) (hc : 4 ≤ c ∧ c ≤ 16) :
    ∃ (q : Int32) (K1 V1 Kb1 Vb1 sz1 : Nat → Int32), lm_D K1 V1 Kb1 Vb1 sz1 ∧
      (∀ post : Int32 → SX → Prop, post q (nI c, nI R, nI Wn, nI lr, nI ver, lock, nI cu, steps, K1, V1, sz1, ind, rp, rk, rr, rv, rs, wp, wkd, wk, wv, wr, wve, ws) → wpX_applyUpdate post (nI c, nI R, nI Wn, nI lr, nI ver, lock, nI cu, steps, K, V, sz, ind, rp, rk, rr, rv, rs, wp, wkd, wk, wv, wr, wve, ws) (nI j) (nI s)) ∧
      (∀ post : Int32 → SY → Prop, post q (nI c, nI R, nI Wn, nI lr, nI ver, i0, i1, lock, nI cu, steps, Kb1, Vb1, sz1, rp, rk, rr, rv, rs, wp, wkd, wk, wv, wr, wve, ws) → wpY_apply post (nI c, nI R, nI Wn, nI lr, nI ver, i0, i1, lock, nI cu, steps, Kb, Vb, sz, rp, rk, rr, rv, rs, wp, wkd, wk, wv, wr, wve, ws) (nI s) (wkd j) (wk j) (wv j)) := by
  obtain ⟨f, n, hn, ez, hL, hLb⟩ := hD s hs
  have w4 : vp_in (nI j) 4 := vp_in_nI hj (by omega)
  have cj : (nI j).toNatClampNeg = j := nI_clamp (by omega)
  have i2 : vp_in (nI s) 2 := vp_in_nI hs (by omega)
  have c2 : (nI s).toNatClampNeg = s := nI_clamp (by omega)
  have s16 : nI s * 16 = nI (s * 16) := lm_16 s
  rcases lx_slotOf (c := c) (R := R) (Wn := Wn) (lr := lr) (ver := ver) (cu := cu) (lock := lock) (steps := steps) (ind := ind) (rp := rp) (rk := rk) (rr := rr) (rv := rv) (rs := rs) (wp := wp) (wkd := wkd) (wk := wk) (wv := wv) (wr := wr) (wve := wve) (ws := ws) hs hn ez hL (wk j) with ⟨fq, hx⟩ | ⟨p, hp, ek, hx⟩ <;> rcases ly_find (c := c) (R := R) (Wn := Wn) (lr := lr) (ver := ver) (cu := cu) (lock := lock) (steps := steps) (i0 := i0) (i1 := i1) (rp := rp) (rk := rk) (rr := rr) (rv := rv) (rs := rs) (wp := wp) (wkd := wkd) (wk := wk) (wv := wv) (wr := wr) (wve := wve) (ws := ws) hs hn ez hLb (wk j) with ⟨gq, hy⟩ | ⟨pb, hpb, ekb, hy⟩
  · have m0 : ((-1 : Int32) < 0) = True := eq_true lm_neg1
    have m1 : (0 ≤ (-1 : Int32)) = False := eq_false lm_nn1
    rcases k with k | k
    · by_cases full : c ≤ n
      · have z1 : nI c ≤ nI n := nI_le full (by omega)
        have z2 : ¬ nI n < nI c := nI_nlt full (by omega)
        refine ⟨-2, K, V, Kb, Vb, sz, hD, fun post h => ?_, fun post h => ?_⟩
        · simp +decide only [wpX_applyUpdate, w4, cj, true_implies, false_implies, not_true_eq_false, not_false_eq_true, and_true, true_and, forall_eq, implies_true, lm_nb0, lm_nb1]
          refine hx _ ?_
          simp +decide only [wpX_addKey, w4, cj, k, i2, c2, ez, z1, z2, true_implies, false_implies, not_true_eq_false, not_false_eq_true, and_true, true_and, forall_eq, implies_true, lm_nb0, lm_nb1]
          exact h
        · simp +decide only [wpY_apply, true_implies, false_implies, not_true_eq_false, not_false_eq_true, and_true, true_and, forall_eq, implies_true, lm_nb0, lm_nb1]
          refine hy _ ?_
          simp +decide only [k, m0, m1, i2, c2, ez, z1, z2, true_implies, false_implies, not_true_eq_false, not_false_eq_true, and_true, true_and, forall_eq, implies_true, lm_nb0, lm_nb1]
          exact h
      · have z1 : ¬ nI c ≤ nI n := nI_ge (by omega) (by omega)
        have z2 : nI n < nI c := nI_lt (by omega) (by omega)
        have z3 : ¬ (16 : Int32) ≤ nI n := nI_ge (b := 16) (by omega) (by decide)
        have z4 : nI n < (16 : Int32) := nI_lt (b := 16) (by omega) (by decide)
        have e1 : nI (s * 16) + nI n = nI (s * 16 + n) := nI_add _ _
        have e2 : nI n + 1 = nI (n + 1) := nI_1 n
        have q1 : vp_in (nI (s * 16 + n)) 32 := vp_in_nI (by omega) (by omega)
        have q3 : (nI (s * 16 + n)).toNatClampNeg = s * 16 + n := nI_clamp (by omega)
        refine ⟨-1, upd K (s * 16 + n) (wk j), upd V (s * 16 + n) (wv j), upd Kb (s * 16 + n) (wk j), upd Vb (s * 16 + n) (wv j), upd sz s (nI (n + 1)),
          lm_u2 (wv j) hD hs (by omega) hL hLb fq, fun post h => ?_, fun post h => ?_⟩
        · simp +decide only [wpX_applyUpdate, w4, cj, true_implies, false_implies, not_true_eq_false, not_false_eq_true, and_true, true_and, forall_eq, implies_true, lm_nb0, lm_nb1]
          refine hx _ ?_
          simp +decide only [wpX_addKey, w4, cj, k, i2, c2, ez, z1, z2, s16, e1, e2, q1, q3, true_implies, false_implies, not_true_eq_false, not_false_eq_true, and_true, true_and, forall_eq, implies_true, lm_nb0, lm_nb1]
          exact h
        · simp +decide only [wpY_apply, true_implies, false_implies, not_true_eq_false, not_false_eq_true, and_true, true_and, forall_eq, implies_true, lm_nb0, lm_nb1]
          refine hy _ ?_
          simp +decide only [k, m0, m1, i2, c2, ez, z1, z2, z3, z4, s16, e1, e2, q1, q3, true_implies, false_implies, not_true_eq_false, not_false_eq_true, and_true, true_and, forall_eq, implies_true, lm_nb0, lm_nb1]
          exact h
    · refine ⟨-1, K, V, Kb, Vb, sz, hD, fun post h => ?_, fun post h => ?_⟩
      · simp +decide only [wpX_applyUpdate, w4, cj, true_implies, false_implies, not_true_eq_false, not_false_eq_true, and_true, true_and, forall_eq, implies_true, lm_nb0, lm_nb1]
        refine hx _ ?_
        simp +decide only [w4, cj, k, true_implies, false_implies, not_true_eq_false, not_false_eq_true, and_true, true_and, forall_eq, implies_true, lm_nb0, lm_nb1]
        exact h
      · simp +decide only [wpY_apply, true_implies, false_implies, not_true_eq_false, not_false_eq_true, and_true, true_and, forall_eq, implies_true, lm_nb0, lm_nb1]
        refine hy _ ?_
        simp +decide only [k, m0, m1, true_implies, false_implies, not_true_eq_false, not_false_eq_true, and_true, true_and, forall_eq, implies_true, lm_nb0, lm_nb1]
        exact h
  · rw [lm_hit hLb hpb ekb] at fq; cases fq
  · rw [lm_hit hL hp ek] at gq; cases gq
  · have ev : V (s * 16 + p) = Vb (s * 16 + pb) := Option.some.inj ((lm_hit hL hp ek).symm.trans (lm_hit hLb hpb ekb))
    have n1 : ¬ nI (s * 16 + p) = -1 := lm_ne1 (by omega)
    have t1 : vp_in (nI (s * 16 + p)) 32 := vp_in_nI (by omega) (by omega)
    have d1 : (nI (s * 16 + p)).toNatClampNeg = s * 16 + p := nI_clamp (by omega)
    have n2 : ¬ nI pb < 0 := nI_pos (by omega)
    have n2' : 0 ≤ nI pb := nI_pos' (by omega)
    have e2 : nI (s * 16) + nI pb = nI (s * 16 + pb) := nI_add _ _
    have t2 : vp_in (nI (s * 16 + pb)) 32 := vp_in_nI (by omega) (by omega)
    have d2 : (nI (s * 16 + pb)).toNatClampNeg = s * 16 + pb := nI_clamp (by omega)
    rcases k with k | k
    · refine ⟨V (s * 16 + p), K, upd V (s * 16 + p) (wv j), Kb, upd Vb (s * 16 + pb) (wv j), sz,
        lm_u1 (wv j) hD hs hn ez hL hLb hp ek hpb ekb, fun post h => ?_, fun post h => ?_⟩
      · simp +decide only [wpX_applyUpdate, w4, cj, true_implies, false_implies, not_true_eq_false, not_false_eq_true, and_true, true_and, forall_eq, implies_true, lm_nb0, lm_nb1]
        refine hx _ ?_
        simp +decide only [w4, cj, k, n1, t1, d1, true_implies, false_implies, not_true_eq_false, not_false_eq_true, and_true, true_and, forall_eq, implies_true, lm_nb0, lm_nb1]
        exact h
      · rw [ev] at h
        simp +decide only [wpY_apply, true_implies, false_implies, not_true_eq_false, not_false_eq_true, and_true, true_and, forall_eq, implies_true, lm_nb0, lm_nb1]
        refine hy _ ?_
        simp +decide only [k, n2, n2', s16, e2, t2, d2, true_implies, false_implies, not_true_eq_false, not_false_eq_true, and_true, true_and, forall_eq, implies_true, lm_nb0, lm_nb1]
        exact h
    · obtain ⟨K2, V2, lo, up, hw⟩ := ly_shift (c := c) (R := R) (Wn := Wn) (lr := lr) (ver := ver) (cu := cu) (lock := lock) (steps := steps) (i0 := i0) (i1 := i1) (rp := rp) (rk := rk) (rr := rr) (rv := rv) (rs := rs) (wp := wp) (wkd := wkd) (wk := wk) (wv := wv) (wr := wr) (wve := wve) (ws := ws) hs hn (by omega) ez (Vb (s * 16 + pb)) (n - 1 - pb) pb Kb Vb (by omega)
      have m1 : nI n - 1 = nI (n - 1) := lm_s1 (by omega)
      have e5 : nI (s * 16) + nI (n - 1) = nI (s * 16 + (n - 1)) := nI_add _ _
      have t5 : vp_in (nI (s * 16 + (n - 1))) 32 := vp_in_nI (by omega) (by omega)
      have d5 : (nI (s * 16 + (n - 1))).toNatClampNeg = s * 16 + (n - 1) := nI_clamp (by omega)
      refine ⟨V (s * 16 + p), upd K (s * 16 + p) (K (s * 16 + (n - 1))), upd V (s * 16 + p) (V (s * 16 + (n - 1))), K2, V2, upd sz s (nI (n - 1)),
        lm_u3 hD hs hn hL hLb hp ek hpb ekb lo up, fun post h => ?_, fun post h => ?_⟩
      · simp +decide only [wpX_applyUpdate, w4, cj, true_implies, false_implies, not_true_eq_false, not_false_eq_true, and_true, true_and, forall_eq, implies_true, lm_nb0, lm_nb1]
        refine hx _ ?_
        simp +decide only [wpX_removeSlot, w4, cj, k, n1, t1, d1, i2, c2, ez, m1, pk_us, s16, e5, t5, d5, true_implies, false_implies, not_true_eq_false, not_false_eq_true, and_true, true_and, forall_eq, implies_true, lm_nb0, lm_nb1]
        exact h
      · rw [ev] at h
        simp +decide only [wpY_apply, true_implies, false_implies, not_true_eq_false, not_false_eq_true, and_true, true_and, forall_eq, implies_true, lm_nb0, lm_nb1]
        refine hy _ ?_
        simp +decide only [k, n2, n2', s16, e2, t2, d2, true_implies, false_implies, not_true_eq_false, not_false_eq_true, and_true, true_and, forall_eq, implies_true, lm_nb0, lm_nb1]
        exact ⟨_, hw post h⟩
end LMU
