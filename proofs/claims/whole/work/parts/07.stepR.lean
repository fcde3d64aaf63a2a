section LMR
variable {c R Wn lr ver cu : Nat} {lock steps i0 i1 : Int32} {K V Kb Vb sz ind rp rk rr rv rs wp wkd wk wv wr wve ws : Nat → Int32}
theorem lm_sr0 (F : lm_F c R Wn lr ver cu i0 i1 K V Kb Vb sz ind rp rv rs wp wkd wve ws) {j : Nat} (hj : j < R) (e : rp j = 0 ∨ rp j = 6) : lm_G R Wn (fun post => wpX_step post (nI c, nI R, nI Wn, nI lr, nI ver, lock, nI cu, steps, K, V, sz, ind, rp, rk, rr, rv, rs, wp, wkd, wk, wv, wr, wve, ws) (nI j)) (fun post => wpY_step post (nI c, nI R, nI Wn, nI lr, nI ver, i0, i1, lock, nI cu, steps, Kb, Vb, sz, rp, rk, rr, rv, rs, wp, wkd, wk, wv, wr, wve, ws) (nI j)) := by
  obtain ⟨hc, hR, hW, hlr, hver, hcu, h0, h1, hD, hAR, hAW⟩ := F
  obtain ⟨a1, a2, a3, a4, a5, a6, a7⟩ := lm_fR hR hW hj
  refine lm_g (r := 0) (u := (nI c, nI R, nI Wn, nI lr, nI ver, lock, nI cu, steps, K, V, sz, ind, rp, rk, rr, rv, rs, wp, wkd, wk, wv, wr, wve, ws)) (v := (nI c, nI R, nI Wn, nI lr, nI ver, i0, i1, lock, nI cu, steps, Kb, Vb, sz, rp, rk, rr, rv, rs, wp, wkd, wk, wv, wr, wve, ws)) (fun post hp => ?_) (fun post hp => ?_) (lm_mk ⟨hc, hR, hW, hlr, hver, hcu, h0, h1, hD, hAR, hAW⟩)
  · rcases e with e | e <;> simp +decide only [wpX_step, wpX_isActive, wpX_isReaderActive, a1, a2, a3, a4, a5, a6, a7, e, true_implies, false_implies, not_true_eq_false, not_false_eq_true, and_true, true_and, forall_eq, implies_true, lm_nb0, lm_nb1] <;> exact hp
  · rcases e with e | e <;> simp +decide only [wpY_step, wpY_active, a1, a2, a3, a4, a5, a6, a7, e, true_implies, false_implies, not_true_eq_false, not_false_eq_true, and_true, true_and, forall_eq, implies_true, lm_nb0, lm_nb1] <;> exact hp
theorem lm_sr1 (F : lm_F c R Wn lr ver cu i0 i1 K V Kb Vb sz ind rp rv rs wp wkd wve ws) {j : Nat} (hj : j < R) (e : rp j = 1) : lm_G R Wn (fun post => wpX_step post (nI c, nI R, nI Wn, nI lr, nI ver, lock, nI cu, steps, K, V, sz, ind, rp, rk, rr, rv, rs, wp, wkd, wk, wv, wr, wve, ws) (nI j)) (fun post => wpY_step post (nI c, nI R, nI Wn, nI lr, nI ver, i0, i1, lock, nI cu, steps, Kb, Vb, sz, rp, rk, rr, rv, rs, wp, wkd, wk, wv, wr, wve, ws) (nI j)) := by
  obtain ⟨hc, hR, hW, hlr, hver, hcu, h0, h1, hD, hAR, hAW⟩ := F
  obtain ⟨a1, a2, a3, a4, a5, a6, a7⟩ := lm_fR hR hW hj
  refine lm_g (r := 1) (u := (nI c, nI R, nI Wn, nI lr, nI ver, lock, nI cu, steps + 1, K, V, sz, ind, upd rp j 2, rk, rr, upd rv j (nI ver), rs, wp, wkd, wk, wv, wr, wve, ws)) (v := (nI c, nI R, nI Wn, nI lr, nI ver, i0, i1, lock, nI cu, steps + 1, Kb, Vb, sz, upd rp j 2, rk, rr, upd rv j (nI ver), rs, wp, wkd, wk, wv, wr, wve, ws))
    (fun post hp => ?_) (fun post hp => ?_) (lm_mk ⟨hc, hR, hW, hlr, hver, hcu, h0, h1, hD,
      lm_ARu j hAR (fun i n => ⟨pk_un n, pk_un n, rfl⟩) (lm_rd2 pk_us ⟨ver, hver, pk_us⟩), hAW⟩)
  · simp +decide only [wpX_step, wpX_isActive, wpX_isReaderActive, wpX_stepReader, a1, a2, a3, a4, a5, a6, a7, e, true_implies, false_implies, not_true_eq_false, not_false_eq_true, and_true, true_and, forall_eq, implies_true, lm_nb0, lm_nb1]; exact hp
  · simp +decide only [wpY_step, wpY_active, a1, a2, a3, a4, a5, a6, a7, e, true_implies, false_implies, not_true_eq_false, not_false_eq_true, and_true, true_and, forall_eq, implies_true, lm_nb0, lm_nb1]; exact hp
theorem lm_sr3 (F : lm_F c R Wn lr ver cu i0 i1 K V Kb Vb sz ind rp rv rs wp wkd wve ws) {j : Nat} (hj : j < R) (e : rp j = 3) (bv : lm_b (rv j)) : lm_G R Wn (fun post => wpX_step post (nI c, nI R, nI Wn, nI lr, nI ver, lock, nI cu, steps, K, V, sz, ind, rp, rk, rr, rv, rs, wp, wkd, wk, wv, wr, wve, ws) (nI j)) (fun post => wpY_step post (nI c, nI R, nI Wn, nI lr, nI ver, i0, i1, lock, nI cu, steps, Kb, Vb, sz, rp, rk, rr, rv, rs, wp, wkd, wk, wv, wr, wve, ws) (nI j)) := by
  obtain ⟨hc, hR, hW, hlr, hver, hcu, h0, h1, hD, hAR, hAW⟩ := F
  obtain ⟨a1, a2, a3, a4, a5, a6, a7⟩ := lm_fR hR hW hj
  refine lm_g (r := 1) (u := (nI c, nI R, nI Wn, nI lr, nI ver, lock, nI cu, steps + 1, K, V, sz, ind, upd rp j 4, rk, rr, rv, upd rs j (nI lr), wp, wkd, wk, wv, wr, wve, ws)) (v := (nI c, nI R, nI Wn, nI lr, nI ver, i0, i1, lock, nI cu, steps + 1, Kb, Vb, sz, upd rp j 4, rk, rr, rv, upd rs j (nI lr), wp, wkd, wk, wv, wr, wve, ws))
    (fun post hp => ?_) (fun post hp => ?_) (lm_mk ⟨hc, hR, hW, hlr, hver, hcu, h0, h1, hD,
      lm_ARu j hAR (fun i n => ⟨pk_un n, rfl, pk_un n⟩) (lm_rd4 pk_us bv ⟨lr, hlr, pk_us⟩), hAW⟩)
  · simp +decide only [wpX_step, wpX_isActive, wpX_isReaderActive, wpX_stepReader, a1, a2, a3, a4, a5, a6, a7, e, true_implies, false_implies, not_true_eq_false, not_false_eq_true, and_true, true_and, forall_eq, implies_true, lm_nb0, lm_nb1]; exact hp
  · simp +decide only [wpY_step, wpY_active, a1, a2, a3, a4, a5, a6, a7, e, true_implies, false_implies, not_true_eq_false, not_false_eq_true, and_true, true_and, forall_eq, implies_true, lm_nb0, lm_nb1]; exact hp
theorem lm_sr2 (F : lm_F c R Wn lr ver cu i0 i1 K V Kb Vb sz ind rp rv rs wp wkd wve ws) {j : Nat} (hj : j < R) (e : rp j = 2) (bv : lm_b (rv j)) : lm_G R Wn (fun post => wpX_step post (nI c, nI R, nI Wn, nI lr, nI ver, lock, nI cu, steps, K, V, sz, ind, rp, rk, rr, rv, rs, wp, wkd, wk, wv, wr, wve, ws) (nI j)) (fun post => wpY_step post (nI c, nI R, nI Wn, nI lr, nI ver, i0, i1, lock, nI cu, steps, Kb, Vb, sz, rp, rk, rr, rv, rs, wp, wkd, wk, wv, wr, wve, ws) (nI j)) := by
  obtain ⟨hc, hR, hW, hlr, hver, hcu, h0, h1, hD, hAR, hAW⟩ := F
  obtain ⟨a1, a2, a3, a4, a5, a6, a7⟩ := lm_fR hR hW hj
  obtain ⟨t, ht, ev⟩ := bv
  have ht2 : t = 0 ∨ t = 1 := by omega
  subst h0 h1
  rcases ht2 with rfl | rfl
  · refine lm_g (r := 1) (u := (nI c, nI R, nI Wn, nI lr, nI ver, lock, nI cu, steps + 1, K, V, sz, upd ind 0 (ind 0 + 1), upd rp j 3, rk, rr, rv, rs, wp, wkd, wk, wv, wr, wve, ws)) (v := (nI c, nI R, nI Wn, nI lr, nI ver, ind 0 + 1, ind 1, lock, nI cu, steps + 1, Kb, Vb, sz, upd rp j 3, rk, rr, rv, rs, wp, wkd, wk, wv, wr, wve, ws))
      (fun post hp => ?_) (fun post hp => ?_) (lm_mk ⟨hc, hR, hW, hlr, hver, hcu, pk_us, (pk_un (by decide)), hD,
        lm_ARu j hAR (fun i n => ⟨pk_un n, rfl, rfl⟩) (lm_rd3 pk_us ⟨0, ht, ev⟩), hAW⟩)
    · simp +decide only [wpX_step, wpX_isActive, wpX_isReaderActive, wpX_stepReader, a1, a2, a3, a4, a5, a6, a7, e, ev, lm_c0, lm_i0, true_implies, false_implies, not_true_eq_false, not_false_eq_true, and_true, true_and, forall_eq, implies_true, lm_nb0, lm_nb1]; exact hp
    · simp +decide only [wpY_step, wpY_active, wpY_addInd, a1, a2, a3, a4, a5, a6, a7, e, ev, lm_e0, true_implies, false_implies, not_true_eq_false, not_false_eq_true, and_true, true_and, forall_eq, implies_true, lm_nb0, lm_nb1]; exact hp
  · refine lm_g (r := 1) (u := (nI c, nI R, nI Wn, nI lr, nI ver, lock, nI cu, steps + 1, K, V, sz, upd ind 1 (ind 1 + 1), upd rp j 3, rk, rr, rv, rs, wp, wkd, wk, wv, wr, wve, ws)) (v := (nI c, nI R, nI Wn, nI lr, nI ver, ind 0, ind 1 + 1, lock, nI cu, steps + 1, Kb, Vb, sz, upd rp j 3, rk, rr, rv, rs, wp, wkd, wk, wv, wr, wve, ws))
      (fun post hp => ?_) (fun post hp => ?_) (lm_mk ⟨hc, hR, hW, hlr, hver, hcu, (pk_un (by decide)), pk_us, hD,
        lm_ARu j hAR (fun i n => ⟨pk_un n, rfl, rfl⟩) (lm_rd3 pk_us ⟨1, ht, ev⟩), hAW⟩)
    · simp +decide only [wpX_step, wpX_isActive, wpX_isReaderActive, wpX_stepReader, a1, a2, a3, a4, a5, a6, a7, e, ev, lm_c1, lm_i1, true_implies, false_implies, not_true_eq_false, not_false_eq_true, and_true, true_and, forall_eq, implies_true, lm_nb0, lm_nb1]; exact hp
    · simp +decide only [wpY_step, wpY_active, wpY_addInd, a1, a2, a3, a4, a5, a6, a7, e, ev, lm_e1, true_implies, false_implies, not_true_eq_false, not_false_eq_true, and_true, true_and, forall_eq, implies_true, lm_nb0, lm_nb1]; exact hp
theorem lm_sr5 (F : lm_F c R Wn lr ver cu i0 i1 K V Kb Vb sz ind rp rv rs wp wkd wve ws) {j : Nat} (hj : j < R) (e : rp j = 5) (bv : lm_b (rv j)) : lm_G R Wn (fun post => wpX_step post (nI c, nI R, nI Wn, nI lr, nI ver, lock, nI cu, steps, K, V, sz, ind, rp, rk, rr, rv, rs, wp, wkd, wk, wv, wr, wve, ws) (nI j)) (fun post => wpY_step post (nI c, nI R, nI Wn, nI lr, nI ver, i0, i1, lock, nI cu, steps, Kb, Vb, sz, rp, rk, rr, rv, rs, wp, wkd, wk, wv, wr, wve, ws) (nI j)) := by
  obtain ⟨hc, hR, hW, hlr, hver, hcu, h0, h1, hD, hAR, hAW⟩ := F
  obtain ⟨a1, a2, a3, a4, a5, a6, a7⟩ := lm_fR hR hW hj
  obtain ⟨t, ht, ev⟩ := bv
  have ht2 : t = 0 ∨ t = 1 := by omega
  subst h0 h1
  rcases ht2 with rfl | rfl
  · refine lm_g (r := 1) (u := (nI c, nI R, nI Wn, nI lr, nI ver, lock, nI cu, steps + 1, K, V, sz, upd ind 0 (ind 0 - 1), upd rp j 6, rk, rr, rv, rs, wp, wkd, wk, wv, wr, wve, ws)) (v := (nI c, nI R, nI Wn, nI lr, nI ver, ind 0 + (-1), ind 1, lock, nI cu, steps + 1, Kb, Vb, sz, upd rp j 6, rk, rr, rv, rs, wp, wkd, wk, wv, wr, wve, ws))
      (fun post hp => ?_) (fun post hp => ?_) (lm_mk ⟨hc, hR, hW, hlr, hver, hcu, (pk_us.trans (Int32.sub_eq_add_neg _ _)), (pk_un (by decide)), hD,
        lm_ARu j hAR (fun i n => ⟨pk_un n, rfl, rfl⟩) (lm_rd6 pk_us), hAW⟩)
    · simp +decide only [wpX_step, wpX_isActive, wpX_isReaderActive, wpX_stepReader, a1, a2, a3, a4, a5, a6, a7, e, ev, lm_c0, lm_i0, true_implies, false_implies, not_true_eq_false, not_false_eq_true, and_true, true_and, forall_eq, implies_true, lm_nb0, lm_nb1]; exact hp
    · simp +decide only [wpY_step, wpY_active, wpY_addInd, a1, a2, a3, a4, a5, a6, a7, e, ev, lm_e0, true_implies, false_implies, not_true_eq_false, not_false_eq_true, and_true, true_and, forall_eq, implies_true, lm_nb0, lm_nb1]; exact hp
  · refine lm_g (r := 1) (u := (nI c, nI R, nI Wn, nI lr, nI ver, lock, nI cu, steps + 1, K, V, sz, upd ind 1 (ind 1 - 1), upd rp j 6, rk, rr, rv, rs, wp, wkd, wk, wv, wr, wve, ws)) (v := (nI c, nI R, nI Wn, nI lr, nI ver, ind 0, ind 1 + (-1), lock, nI cu, steps + 1, Kb, Vb, sz, upd rp j 6, rk, rr, rv, rs, wp, wkd, wk, wv, wr, wve, ws))
      (fun post hp => ?_) (fun post hp => ?_) (lm_mk ⟨hc, hR, hW, hlr, hver, hcu, (pk_un (by decide)), (pk_us.trans (Int32.sub_eq_add_neg _ _)), hD,
        lm_ARu j hAR (fun i n => ⟨pk_un n, rfl, rfl⟩) (lm_rd6 pk_us), hAW⟩)
    · simp +decide only [wpX_step, wpX_isActive, wpX_isReaderActive, wpX_stepReader, a1, a2, a3, a4, a5, a6, a7, e, ev, lm_c1, lm_i1, true_implies, false_implies, not_true_eq_false, not_false_eq_true, and_true, true_and, forall_eq, implies_true, lm_nb0, lm_nb1]; exact hp
    · simp +decide only [wpY_step, wpY_active, wpY_addInd, a1, a2, a3, a4, a5, a6, a7, e, ev, lm_e1, true_implies, false_implies, not_true_eq_false, not_false_eq_true, and_true, true_and, forall_eq, implies_true, lm_nb0, lm_nb1]; exact hp
theorem lm_sr4 (F : lm_F c R Wn lr ver cu i0 i1 K V Kb Vb sz ind rp rv rs wp wkd wve ws) {j : Nat} (hj : j < R) (e : rp j = 4) (bv : lm_b (rv j)) (bs : lm_b (rs j)) : lm_G R Wn (fun post => wpX_step post (nI c, nI R, nI Wn, nI lr, nI ver, lock, nI cu, steps, K, V, sz, ind, rp, rk, rr, rv, rs, wp, wkd, wk, wv, wr, wve, ws) (nI j)) (fun post => wpY_step post (nI c, nI R, nI Wn, nI lr, nI ver, i0, i1, lock, nI cu, steps, Kb, Vb, sz, rp, rk, rr, rv, rs, wp, wkd, wk, wv, wr, wve, ws) (nI j)) := by
  obtain ⟨hc, hR, hW, hlr, hver, hcu, h0, h1, hD, hAR, hAW⟩ := F
  obtain ⟨a1, a2, a3, a4, a5, a6, a7⟩ := lm_fR hR hW hj
  obtain ⟨t, ht, es⟩ := bs
  obtain ⟨q, hx, hy⟩ := lm_val (c := c) (R := R) (Wn := Wn) (lr := lr) (ver := ver) (cu := cu) (lock := lock) (steps := steps + 1) (ind := ind) (i0 := i0) (i1 := i1) (rp := rp) (rk := rk) (rr := rr) (rv := rv) (rs := rs) (wp := wp) (wkd := wkd) (wk := wk) (wv := wv) (wr := wr) (wve := wve) (ws := ws) hD ht (rk j)
  refine lm_g (r := 1) (u := (nI c, nI R, nI Wn, nI lr, nI ver, lock, nI cu, steps + 1, K, V, sz, ind, upd rp j 5, rk, upd rr j q, rv, rs, wp, wkd, wk, wv, wr, wve, ws)) (v := (nI c, nI R, nI Wn, nI lr, nI ver, i0, i1, lock, nI cu, steps + 1, Kb, Vb, sz, upd rp j 5, rk, upd rr j q, rv, rs, wp, wkd, wk, wv, wr, wve, ws))
    (fun post hp => ?_) (fun post hp => ?_) (lm_mk ⟨hc, hR, hW, hlr, hver, hcu, h0, h1, hD,
      lm_ARu j hAR (fun i n => ⟨pk_un n, rfl, rfl⟩) (lm_rd5 pk_us bv), hAW⟩)
  · simp +decide only [wpX_step, wpX_isActive, wpX_isReaderActive, wpX_stepReader, a1, a2, a3, a4, a5, a6, a7, e, es, true_implies, false_implies, not_true_eq_false, not_false_eq_true, and_true, true_and, forall_eq, implies_true, lm_nb0, lm_nb1]
    refine hx _ ?_
    exact hp
  · have ht2 : t = 0 ∨ t = 1 := by omega
    rcases ht2 with rfl | rfl
    · have n1 : (nI 0 = 1) = False := eq_false (by decide +kernel)
      simp +decide only [wpY_step, wY_step_139, wpY_active, a1, a2, a3, a4, a5, a6, a7, e, es, n1, true_implies, false_implies, not_true_eq_false, not_false_eq_true, and_true, true_and, forall_eq, implies_true, lm_nb0, lm_nb1]
      refine hy _ ?_
      exact hp
    · have n1 : (nI 1 = 1) = True := eq_true (by decide +kernel)
      simp +decide only [wpY_step, wY_step_139, wpY_active, a1, a2, a3, a4, a5, a6, a7, e, es, n1, true_implies, false_implies, not_true_eq_false, not_false_eq_true, and_true, true_and, forall_eq, implies_true, lm_nb0, lm_nb1]
      refine hy _ ?_
      exact hp
theorem lm_sr (F : lm_F c R Wn lr ver cu i0 i1 K V Kb Vb sz ind rp rv rs wp wkd wve ws) {j : Nat} (hj : j < R) : lm_G R Wn (fun post => wpX_step post (nI c, nI R, nI Wn, nI lr, nI ver, lock, nI cu, steps, K, V, sz, ind, rp, rk, rr, rv, rs, wp, wkd, wk, wv, wr, wve, ws) (nI j)) (fun post => wpY_step post (nI c, nI R, nI Wn, nI lr, nI ver, i0, i1, lock, nI cu, steps, Kb, Vb, sz, rp, rk, rr, rv, rs, wp, wkd, wk, wv, wr, wve, ws) (nI j)) := by
  have hj8 : j < 8 := Nat.lt_of_lt_of_le hj F.2.1.2
  rcases F.2.2.2.2.2.2.2.2.2.1 j hj8 with e | e | e | ⟨e, b⟩ | ⟨e, b⟩ | ⟨e, b, b'⟩ | ⟨e, b⟩
  · exact lm_sr0 F hj (Or.inl e)
  · exact lm_sr0 F hj (Or.inr e)
  · exact lm_sr1 F hj e
  · exact lm_sr2 F hj e b
  · exact lm_sr3 F hj e b
  · exact lm_sr4 F hj e b b'
  · exact lm_sr5 F hj e b
end LMR
