section LMW
variable {c R Wn lr ver cu : Nat} {lock steps i0 i1 : Int32} {K V Kb Vb sz ind rp rk rr rv rs wp wkd wk wv wr wve ws : Nat → Int32}
theorem lm_sw0 (F : lm_F c R Wn lr ver cu i0 i1 K V Kb Vb sz ind rp rv rs wp wkd wve ws) {j : Nat} (hj : j < Wn) (e : wp j = 0 ∨ wp j = 8) : lm_G R Wn (fun post => wpX_step post (nI c, nI R, nI Wn, nI lr, nI ver, lock, nI cu, steps, K, V, sz, ind, rp, rk, rr, rv, rs, wp, wkd, wk, wv, wr, wve, ws) (nI (R + j))) (fun post => wpY_step post (nI c, nI R, nI Wn, nI lr, nI ver, i0, i1, lock, nI cu, steps, Kb, Vb, sz, rp, rk, rr, rv, rs, wp, wkd, wk, wv, wr, wve, ws) (nI (R + j))) := by
  obtain ⟨hc, hR, hW, hlr, hver, hcu, h0, h1, hD, hAR, hAW⟩ := F
  obtain ⟨a1, a2, a3, a4, a5, a6, a7, a8⟩ := lm_fW hR hW hj
  refine lm_g (r := 0) (u := (nI c, nI R, nI Wn, nI lr, nI ver, lock, nI cu, steps, K, V, sz, ind, rp, rk, rr, rv, rs, wp, wkd, wk, wv, wr, wve, ws)) (v := (nI c, nI R, nI Wn, nI lr, nI ver, i0, i1, lock, nI cu, steps, Kb, Vb, sz, rp, rk, rr, rv, rs, wp, wkd, wk, wv, wr, wve, ws)) (fun post hp => ?_) (fun post hp => ?_) (lm_mk ⟨hc, hR, hW, hlr, hver, hcu, h0, h1, hD, hAR, hAW⟩)
  · rcases e with e | e <;> simp +decide only [wpX_step, wpX_isActive, wpX_isWriterActive, a1, a2, a3, a4, a5, a6, a7, a8, e, true_implies, false_implies, not_true_eq_false, not_false_eq_true, and_true, true_and, forall_eq, implies_true, lm_nb0, lm_nb1] <;> exact hp
  · rcases e with e | e <;> simp +decide only [wpY_step, wpY_active, a1, a2, a3, a4, a5, a6, a7, a8, e, true_implies, false_implies, not_true_eq_false, not_false_eq_true, and_true, true_and, forall_eq, implies_true, lm_nb0, lm_nb1] <;> exact hp

theorem lm_sw1 (F : lm_F c R Wn lr ver cu i0 i1 K V Kb Vb sz ind rp rv rs wp wkd wve ws) {j : Nat} (hj : j < Wn) (e : wp j = 1) (k : lm_k (wkd j)) : lm_G R Wn (fun post => wpX_step post (nI c, nI R, nI Wn, nI lr, nI ver, lock, nI cu, steps, K, V, sz, ind, rp, rk, rr, rv, rs, wp, wkd, wk, wv, wr, wve, ws) (nI (R + j))) (fun post => wpY_step post (nI c, nI R, nI Wn, nI lr, nI ver, i0, i1, lock, nI cu, steps, Kb, Vb, sz, rp, rk, rr, rv, rs, wp, wkd, wk, wv, wr, wve, ws) (nI (R + j))) := by
  obtain ⟨hc, hR, hW, hlr, hver, hcu, h0, h1, hD, hAR, hAW⟩ := F
  obtain ⟨a1, a2, a3, a4, a5, a6, a7, a8⟩ := lm_fW hR hW hj
  by_cases l : lock = -1
  · have l1 : (lock = -1) = True := eq_true l
    refine lm_g (r := 1) (u := (nI c, nI R, nI Wn, nI lr, nI ver, nI j, nI cu, steps + 1, K, V, sz, ind, rp, rk, rr, rv, rs, upd wp j 2, wkd, wk, wv, wr, wve, ws)) (v := (nI c, nI R, nI Wn, nI lr, nI ver, i0, i1, nI j, nI cu, steps + 1, Kb, Vb, sz, rp, rk, rr, rv, rs, upd wp j 2, wkd, wk, wv, wr, wve, ws)) (fun post hp => ?_) (fun post hp => ?_)
        (lm_mk ⟨hc, hR, hW, hlr, hver, hcu, h0, h1, hD, hAR, lm_AWu j hAW (fun i n => ⟨pk_un n, rfl, rfl, rfl⟩) (lm_wr2 pk_us k)⟩)
    · simp +decide only [wpX_step, wpX_isActive, wpX_isWriterActive, wpX_stepWriter, wpX_takeLock, a1, a2, a3, a4, a5, a6, a7, a8, e, l1, true_implies, false_implies, not_true_eq_false, not_false_eq_true, and_true, true_and, forall_eq, implies_true, lm_nb0, lm_nb1]; exact hp
    · simp +decide only [wpY_step, wpY_active, a1, a2, a3, a4, a5, a6, a7, a8, e, l1, true_implies, false_implies, not_true_eq_false, not_false_eq_true, and_true, true_and, forall_eq, implies_true, lm_nb0, lm_nb1]; exact hp
  · refine lm_g (r := 2) (u := (nI c, nI R, nI Wn, nI lr, nI ver, lock, nI cu, steps + 1, K, V, sz, ind, rp, rk, rr, rv, rs, wp, wkd, wk, wv, wr, wve, ws)) (v := (nI c, nI R, nI Wn, nI lr, nI ver, i0, i1, lock, nI cu, steps + 1, Kb, Vb, sz, rp, rk, rr, rv, rs, wp, wkd, wk, wv, wr, wve, ws)) (fun post hp => ?_) (fun post hp => ?_)
        (lm_mk ⟨hc, hR, hW, hlr, hver, hcu, h0, h1, hD, hAR, hAW⟩)
    · simp +decide only [wpX_step, wpX_isActive, wpX_isWriterActive, wpX_stepWriter, wpX_takeLock, a1, a2, a3, a4, a5, a6, a7, a8, e, l, true_implies, false_implies, not_true_eq_false, not_false_eq_true, and_true, true_and, forall_eq, implies_true, lm_nb0, lm_nb1]; exact hp
    · simp +decide only [wpY_step, wpY_active, a1, a2, a3, a4, a5, a6, a7, a8, e, l, true_implies, false_implies, not_true_eq_false, not_false_eq_true, and_true, true_and, forall_eq, implies_true, lm_nb0, lm_nb1]; exact hp

theorem lm_sw3 (F : lm_F c R Wn lr ver cu i0 i1 K V Kb Vb sz ind rp rv rs wp wkd wve ws) {j : Nat} (hj : j < Wn) (e : wp j = 3) (k : lm_k (wkd j)) (b : lm_b (ws j)) : lm_G R Wn (fun post => wpX_step post (nI c, nI R, nI Wn, nI lr, nI ver, lock, nI cu, steps, K, V, sz, ind, rp, rk, rr, rv, rs, wp, wkd, wk, wv, wr, wve, ws) (nI (R + j))) (fun post => wpY_step post (nI c, nI R, nI Wn, nI lr, nI ver, i0, i1, lock, nI cu, steps, Kb, Vb, sz, rp, rk, rr, rv, rs, wp, wkd, wk, wv, wr, wve, ws) (nI (R + j))) := by
  obtain ⟨hc, hR, hW, hlr, hver, hcu, h0, h1, hD, hAR, hAW⟩ := F
  obtain ⟨a1, a2, a3, a4, a5, a6, a7, a8⟩ := lm_fW hR hW hj
  obtain ⟨t, ht, es⟩ := b
  refine lm_g (r := 1) (u := (nI c, nI R, nI Wn, nI t, nI ver, lock, nI cu, steps + 1, K, V, sz, ind, rp, rk, rr, rv, rs, upd wp j 4, wkd, wk, wv, wr, wve, ws)) (v := (nI c, nI R, nI Wn, nI t, nI ver, i0, i1, lock, nI cu, steps + 1, Kb, Vb, sz, rp, rk, rr, rv, rs, upd wp j 4, wkd, wk, wv, wr, wve, ws)) (fun post hp => ?_) (fun post hp => ?_)
      (lm_mk ⟨hc, hR, hW, ht, hver, hcu, h0, h1, hD, hAR, lm_AWu j hAW (fun i n => ⟨pk_un n, rfl, rfl, rfl⟩) (lm_wr4 pk_us k ⟨t, ht, es⟩)⟩)
  · simp +decide only [wpX_step, wpX_isActive, wpX_isWriterActive, wpX_stepWriter, a1, a2, a3, a4, a5, a6, a7, a8, e, es, true_implies, false_implies, not_true_eq_false, not_false_eq_true, and_true, true_and, forall_eq, implies_true, lm_nb0, lm_nb1]; exact hp
  · simp +decide only [wpY_step, wpY_active, a1, a2, a3, a4, a5, a6, a7, a8, e, es, true_implies, false_implies, not_true_eq_false, not_false_eq_true, and_true, true_and, forall_eq, implies_true, lm_nb0, lm_nb1]; exact hp

theorem lm_sw5 (F : lm_F c R Wn lr ver cu i0 i1 K V Kb Vb sz ind rp rv rs wp wkd wve ws) {j : Nat} (hj : j < Wn) (e : wp j = 5) (k : lm_k (wkd j)) (b : lm_b (ws j)) (bv : lm_b (wve j)) : lm_G R Wn (fun post => wpX_step post (nI c, nI R, nI Wn, nI lr, nI ver, lock, nI cu, steps, K, V, sz, ind, rp, rk, rr, rv, rs, wp, wkd, wk, wv, wr, wve, ws) (nI (R + j))) (fun post => wpY_step post (nI c, nI R, nI Wn, nI lr, nI ver, i0, i1, lock, nI cu, steps, Kb, Vb, sz, rp, rk, rr, rv, rs, wp, wkd, wk, wv, wr, wve, ws) (nI (R + j))) := by
  obtain ⟨hc, hR, hW, hlr, hver, hcu, h0, h1, hD, hAR, hAW⟩ := F
  obtain ⟨a1, a2, a3, a4, a5, a6, a7, a8⟩ := lm_fW hR hW hj
  obtain ⟨t, ht, ev⟩ := bv
  have m := lm_1s ht
  refine lm_g (r := 1) (u := (nI c, nI R, nI Wn, nI lr, nI (1 - t), lock, nI cu, steps + 1, K, V, sz, ind, rp, rk, rr, rv, rs, upd wp j 6, wkd, wk, wv, wr, wve, ws)) (v := (nI c, nI R, nI Wn, nI lr, nI (1 - t), i0, i1, lock, nI cu, steps + 1, Kb, Vb, sz, rp, rk, rr, rv, rs, upd wp j 6, wkd, wk, wv, wr, wve, ws)) (fun post hp => ?_) (fun post hp => ?_)
      (lm_mk ⟨hc, hR, hW, hlr, (by omega), hcu, h0, h1, hD, hAR, lm_AWu j hAW (fun i n => ⟨pk_un n, rfl, rfl, rfl⟩) (lm_wr6 pk_us k b ⟨t, ht, ev⟩)⟩)
  · simp +decide only [wpX_step, wpX_isActive, wpX_isWriterActive, wpX_stepWriter, a1, a2, a3, a4, a5, a6, a7, a8, e, ev, m, true_implies, false_implies, not_true_eq_false, not_false_eq_true, and_true, true_and, forall_eq, implies_true, lm_nb0, lm_nb1]; exact hp
  · simp +decide only [wpY_step, wpY_active, a1, a2, a3, a4, a5, a6, a7, a8, e, ev, m, true_implies, false_implies, not_true_eq_false, not_false_eq_true, and_true, true_and, forall_eq, implies_true, lm_nb0, lm_nb1]; exact hp

theorem lm_sw6 (F : lm_F c R Wn lr ver cu i0 i1 K V Kb Vb sz ind rp rv rs wp wkd wve ws) {j : Nat} (hj : j < Wn) (e : wp j = 6) (k : lm_k (wkd j)) (b : lm_b (ws j)) (bv : lm_b (wve j)) : lm_G R Wn (fun post => wpX_step post (nI c, nI R, nI Wn, nI lr, nI ver, lock, nI cu, steps, K, V, sz, ind, rp, rk, rr, rv, rs, wp, wkd, wk, wv, wr, wve, ws) (nI (R + j))) (fun post => wpY_step post (nI c, nI R, nI Wn, nI lr, nI ver, i0, i1, lock, nI cu, steps, Kb, Vb, sz, rp, rk, rr, rv, rs, wp, wkd, wk, wv, wr, wve, ws) (nI (R + j))) := by
  obtain ⟨hc, hR, hW, hlr, hver, hcu, h0, h1, hD, hAR, hAW⟩ := F
  obtain ⟨a1, a2, a3, a4, a5, a6, a7, a8⟩ := lm_fW hR hW hj
  obtain ⟨t, ht, ev⟩ := bv
  have q1 : vp_in (nI (t)) 2 := vp_in_nI (by omega) (by omega)
  have q2 : (nI (t)).toNatClampNeg = t := nI_clamp (by omega)
  have yi : ∀ (post : Int32 → Prop) {wp wve : Nat → Int32}, post (ind (t)) → wpY_ind post (nI c, nI R, nI Wn, nI lr, nI ver, i0, i1, lock, nI cu, steps + 1, Kb, Vb, sz, rp, rk, rr, rv, rs, wp, wkd, wk, wv, wr, wve, ws) (nI (t)) := fun post _ _ hp => ly_ind h0 h1 (by omega) hp
  by_cases z : ind (t) = 0
  · refine lm_g (r := 1) (u := (nI c, nI R, nI Wn, nI lr, nI ver, lock, nI cu, steps + 1, K, V, sz, ind, rp, rk, rr, rv, rs, upd wp j 7, wkd, wk, wv, wr, wve, ws)) (v := (nI c, nI R, nI Wn, nI lr, nI ver, i0, i1, lock, nI cu, steps + 1, Kb, Vb, sz, rp, rk, rr, rv, rs, upd wp j 7, wkd, wk, wv, wr, wve, ws)) (fun post hp => ?_) (fun post hp => ?_)
        (lm_mk ⟨hc, hR, hW, hlr, hver, hcu, h0, h1, hD, hAR, lm_AWu j hAW (fun i n => ⟨pk_un n, rfl, rfl, rfl⟩) (lm_wr7 pk_us k b)⟩)
    · simp +decide only [wpX_step, wpX_isActive, wpX_isWriterActive, wpX_stepWriter, wpX_drain, a1, a2, a3, a4, a5, a6, a7, a8, e, ev, q1, q2, z, true_implies, false_implies, not_true_eq_false, not_false_eq_true, and_true, true_and, forall_eq, implies_true, lm_nb0, lm_nb1]; exact hp
    · simp +decide only [wpY_step, wpY_active, a1, a2, a3, a4, a5, a6, a7, a8, e, ev, true_implies, false_implies, not_true_eq_false, not_false_eq_true, and_true, true_and, forall_eq, implies_true, lm_nb0, lm_nb1]
      refine yi _ ?_
      first | exact hp | (simp +decide only [a1, a2, a3, a4, a5, a6, a7, a8, e, z, true_implies, false_implies, not_true_eq_false, not_false_eq_true, and_true, true_and, forall_eq, implies_true, lm_nb0, lm_nb1]; exact hp)
  · refine lm_g (r := 2) (u := (nI c, nI R, nI Wn, nI lr, nI ver, lock, nI cu, steps + 1, K, V, sz, ind, rp, rk, rr, rv, rs, wp, wkd, wk, wv, wr, wve, ws)) (v := (nI c, nI R, nI Wn, nI lr, nI ver, i0, i1, lock, nI cu, steps + 1, Kb, Vb, sz, rp, rk, rr, rv, rs, wp, wkd, wk, wv, wr, wve, ws)) (fun post hp => ?_) (fun post hp => ?_)
        (lm_mk ⟨hc, hR, hW, hlr, hver, hcu, h0, h1, hD, hAR, hAW⟩)
    · simp +decide only [wpX_step, wpX_isActive, wpX_isWriterActive, wpX_stepWriter, wpX_drain, a1, a2, a3, a4, a5, a6, a7, a8, e, ev, q1, q2, z, true_implies, false_implies, not_true_eq_false, not_false_eq_true, and_true, true_and, forall_eq, implies_true, lm_nb0, lm_nb1]; exact hp
    · simp +decide only [wpY_step, wpY_active, a1, a2, a3, a4, a5, a6, a7, a8, e, ev, true_implies, false_implies, not_true_eq_false, not_false_eq_true, and_true, true_and, forall_eq, implies_true, lm_nb0, lm_nb1]
      refine yi _ ?_
      first | exact hp | (simp +decide only [a1, a2, a3, a4, a5, a6, a7, a8, e, z, true_implies, false_implies, not_true_eq_false, not_false_eq_true, and_true, true_and, forall_eq, implies_true, lm_nb0, lm_nb1]; exact hp)

theorem lm_sw4 (F : lm_F c R Wn lr ver cu i0 i1 K V Kb Vb sz ind rp rv rs wp wkd wve ws) {j : Nat} (hj : j < Wn) (e : wp j = 4) (k : lm_k (wkd j)) (b : lm_b (ws j)) : lm_G R Wn (fun post => wpX_step post (nI c, nI R, nI Wn, nI lr, nI ver, lock, nI cu, steps, K, V, sz, ind, rp, rk, rr, rv, rs, wp, wkd, wk, wv, wr, wve, ws) (nI (R + j))) (fun post => wpY_step post (nI c, nI R, nI Wn, nI lr, nI ver, i0, i1, lock, nI cu, steps, Kb, Vb, sz, rp, rk, rr, rv, rs, wp, wkd, wk, wv, wr, wve, ws) (nI (R + j))) := by
  obtain ⟨hc, hR, hW, hlr, hver, hcu, h0, h1, hD, hAR, hAW⟩ := F
  obtain ⟨a1, a2, a3, a4, a5, a6, a7, a8⟩ := lm_fW hR hW hj
  have m := lm_1s hver
  have q1 : vp_in (nI (1 - ver)) 2 := vp_in_nI (by omega) (by omega)
  have q2 : (nI (1 - ver)).toNatClampNeg = 1 - ver := nI_clamp (by omega)
  have yi : ∀ (post : Int32 → Prop) {wp wve : Nat → Int32}, post (ind (1 - ver)) → wpY_ind post (nI c, nI R, nI Wn, nI lr, nI ver, i0, i1, lock, nI cu, steps + 1, Kb, Vb, sz, rp, rk, rr, rv, rs, wp, wkd, wk, wv, wr, wve, ws) (nI (1 - ver)) := fun post _ _ hp => ly_ind h0 h1 (by omega) hp
  by_cases z : ind (1 - ver) = 0
  · refine lm_g (r := 1) (u := (nI c, nI R, nI Wn, nI lr, nI ver, lock, nI cu, steps + 1, K, V, sz, ind, rp, rk, rr, rv, rs, upd wp j 5, wkd, wk, wv, wr, upd wve j (nI ver), ws)) (v := (nI c, nI R, nI Wn, nI lr, nI ver, i0, i1, lock, nI cu, steps + 1, Kb, Vb, sz, rp, rk, rr, rv, rs, upd wp j 5, wkd, wk, wv, wr, upd wve j (nI ver), ws)) (fun post hp => ?_) (fun post hp => ?_)
        (lm_mk ⟨hc, hR, hW, hlr, hver, hcu, h0, h1, hD, hAR, lm_AWu j hAW (fun i n => ⟨pk_un n, rfl, pk_un n, rfl⟩) (lm_wr5 pk_us k b ⟨ver, hver, pk_us⟩)⟩)
    · simp +decide only [wpX_step, wpX_isActive, wpX_isWriterActive, wpX_stepWriter, wpX_drain, a1, a2, a3, a4, a5, a6, a7, a8, e, m, q1, q2, z, true_implies, false_implies, not_true_eq_false, not_false_eq_true, and_true, true_and, forall_eq, implies_true, lm_nb0, lm_nb1]; exact hp
    · simp +decide only [wpY_step, wpY_active, a1, a2, a3, a4, a5, a6, a7, a8, e, m, pk_us, true_implies, false_implies, not_true_eq_false, not_false_eq_true, and_true, true_and, forall_eq, implies_true, lm_nb0, lm_nb1]
      refine yi _ ?_
      first | exact hp | (simp +decide only [a1, a2, a3, a4, a5, a6, a7, a8, e, z, true_implies, false_implies, not_true_eq_false, not_false_eq_true, and_true, true_and, forall_eq, implies_true, lm_nb0, lm_nb1]; exact hp)
  · refine lm_g (r := 2) (u := (nI c, nI R, nI Wn, nI lr, nI ver, lock, nI cu, steps + 1, K, V, sz, ind, rp, rk, rr, rv, rs, wp, wkd, wk, wv, wr, upd wve j (nI ver), ws)) (v := (nI c, nI R, nI Wn, nI lr, nI ver, i0, i1, lock, nI cu, steps + 1, Kb, Vb, sz, rp, rk, rr, rv, rs, wp, wkd, wk, wv, wr, upd wve j (nI ver), ws)) (fun post hp => ?_) (fun post hp => ?_)
        (lm_mk ⟨hc, hR, hW, hlr, hver, hcu, h0, h1, hD, hAR, lm_AWu j hAW (fun i n => ⟨rfl, rfl, pk_un n, rfl⟩) (lm_wr4 e k b)⟩)
    · simp +decide only [wpX_step, wpX_isActive, wpX_isWriterActive, wpX_stepWriter, wpX_drain, a1, a2, a3, a4, a5, a6, a7, a8, e, m, q1, q2, z, true_implies, false_implies, not_true_eq_false, not_false_eq_true, and_true, true_and, forall_eq, implies_true, lm_nb0, lm_nb1]; exact hp
    · simp +decide only [wpY_step, wpY_active, a1, a2, a3, a4, a5, a6, a7, a8, e, m, pk_us, true_implies, false_implies, not_true_eq_false, not_false_eq_true, and_true, true_and, forall_eq, implies_true, lm_nb0, lm_nb1]
      refine yi _ ?_
      first | exact hp | (simp +decide only [a1, a2, a3, a4, a5, a6, a7, a8, e, z, true_implies, false_implies, not_true_eq_false, not_false_eq_true, and_true, true_and, forall_eq, implies_true, lm_nb0, lm_nb1]; exact hp)

theorem lm_sw2 (F : lm_F c R Wn lr ver cu i0 i1 K V Kb Vb sz ind rp rv rs wp wkd wve ws) {j : Nat} (hj : j < Wn) (e : wp j = 2) (k : lm_k (wkd j)) : lm_G R Wn (fun post => wpX_step post (nI c, nI R, nI Wn, nI lr, nI ver, lock, nI cu, steps, K, V, sz, ind, rp, rk, rr, rv, rs, wp, wkd, wk, wv, wr, wve, ws) (nI (R + j))) (fun post => wpY_step post (nI c, nI R, nI Wn, nI lr, nI ver, i0, i1, lock, nI cu, steps, Kb, Vb, sz, rp, rk, rr, rv, rs, wp, wkd, wk, wv, wr, wve, ws) (nI (R + j))) := by
  obtain ⟨hc, hR, hW, hlr, hver, hcu, h0, h1, hD, hAR, hAW⟩ := F
  obtain ⟨a1, a2, a3, a4, a5, a6, a7, a8⟩ := lm_fW hR hW hj
  have m := lm_1s hlr
  obtain ⟨q, K1, V1, Kb1, Vb1, sz1, hD1, hx, hy⟩ := lm_upd (c := c) (R := R) (Wn := Wn) (lr := lr) (ver := ver) (cu := cu) (lock := lock) (steps := steps + 1) (ind := ind) (i0 := i0) (i1 := i1) (rp := rp) (rk := rk) (rr := rr) (rv := rv) (rs := rs) (wp := wp) (wkd := wkd) (wk := wk) (wv := wv) (wr := wr) (wve := wve) (ws := upd ws j (nI (1 - lr))) hD (s := 1 - lr) (by omega) (j := j) (by omega) k hc
  by_cases z : q = -2
  · have z1 : (q = -2) = True := eq_true z
    refine lm_g (r := 1) (u := (nI c, nI R, nI Wn, nI lr, nI ver, -1, nI cu, steps + 1, K1, V1, sz1, ind, rp, rk, rr, rv, rs, upd wp j 8, wkd, wk, wv, upd wr j q, wve, upd ws j (nI (1 - lr)))) (v := (nI c, nI R, nI Wn, nI lr, nI ver, i0, i1, -1, nI cu, steps + 1, Kb1, Vb1, sz1, rp, rk, rr, rv, rs, upd wp j 8, wkd, wk, wv, upd wr j q, wve, upd ws j (nI (1 - lr)))) (fun post hp => ?_) (fun post hp => ?_)
      (lm_mk ⟨hc, hR, hW, hlr, hver, hcu, h0, h1, hD1, hAR, lm_AWu j hAW (fun i n => ⟨pk_un n, rfl, rfl, pk_un n⟩) (lm_wr8 pk_us)⟩)
    · simp +decide only [wpX_step, wpX_isActive, wpX_isWriterActive, wpX_stepWriter, wpX_applyIdle, a1, a2, a3, a4, a5, a6, a7, a8, e, m, true_implies, false_implies, not_true_eq_false, not_false_eq_true, and_true, true_and, forall_eq, implies_true, lm_nb0, lm_nb1]
      refine hx _ ?_
      first | exact hp | (simp +decide only [wpX_finish, a1, a2, a3, a4, a5, a6, a7, a8, e, z1, true_implies, false_implies, not_true_eq_false, not_false_eq_true, and_true, true_and, forall_eq, implies_true, lm_nb0, lm_nb1]; exact hp)
    · simp +decide only [wpY_step, wpY_active, a1, a2, a3, a4, a5, a6, a7, a8, e, m, pk_us, true_implies, false_implies, not_true_eq_false, not_false_eq_true, and_true, true_and, forall_eq, implies_true, lm_nb0, lm_nb1]
      refine hy _ ?_
      first | exact hp | (simp +decide only [a1, a2, a3, a4, a5, a6, a7, a8, e, z1, true_implies, false_implies, not_true_eq_false, not_false_eq_true, and_true, true_and, forall_eq, implies_true, lm_nb0, lm_nb1]; exact hp)
  · have z1 : (q = -2) = False := eq_false z
    refine lm_g (r := 1) (u := (nI c, nI R, nI Wn, nI lr, nI ver, lock, nI cu, steps + 1, K1, V1, sz1, ind, rp, rk, rr, rv, rs, upd wp j 3, wkd, wk, wv, upd wr j q, wve, upd ws j (nI (1 - lr)))) (v := (nI c, nI R, nI Wn, nI lr, nI ver, i0, i1, lock, nI cu, steps + 1, Kb1, Vb1, sz1, rp, rk, rr, rv, rs, upd wp j 3, wkd, wk, wv, upd wr j q, wve, upd ws j (nI (1 - lr)))) (fun post hp => ?_) (fun post hp => ?_)
      (lm_mk ⟨hc, hR, hW, hlr, hver, hcu, h0, h1, hD1, hAR, lm_AWu j hAW (fun i n => ⟨pk_un n, rfl, rfl, pk_un n⟩) (lm_wr3 pk_us k ⟨1 - lr, by omega, pk_us⟩)⟩)
    · simp +decide only [wpX_step, wpX_isActive, wpX_isWriterActive, wpX_stepWriter, wpX_applyIdle, a1, a2, a3, a4, a5, a6, a7, a8, e, m, true_implies, false_implies, not_true_eq_false, not_false_eq_true, and_true, true_and, forall_eq, implies_true, lm_nb0, lm_nb1]
      refine hx _ ?_
      first | exact hp | (simp +decide only [wpX_finish, a1, a2, a3, a4, a5, a6, a7, a8, e, z1, true_implies, false_implies, not_true_eq_false, not_false_eq_true, and_true, true_and, forall_eq, implies_true, lm_nb0, lm_nb1]; exact hp)
    · simp +decide only [wpY_step, wpY_active, a1, a2, a3, a4, a5, a6, a7, a8, e, m, pk_us, true_implies, false_implies, not_true_eq_false, not_false_eq_true, and_true, true_and, forall_eq, implies_true, lm_nb0, lm_nb1]
      refine hy _ ?_
      first | exact hp | (simp +decide only [a1, a2, a3, a4, a5, a6, a7, a8, e, z1, true_implies, false_implies, not_true_eq_false, not_false_eq_true, and_true, true_and, forall_eq, implies_true, lm_nb0, lm_nb1]; exact hp)

theorem lm_sw7 (F : lm_F c R Wn lr ver cu i0 i1 K V Kb Vb sz ind rp rv rs wp wkd wve ws) {j : Nat} (hj : j < Wn) (e : wp j = 7) (k : lm_k (wkd j)) (b : lm_b (ws j)) : lm_G R Wn (fun post => wpX_step post (nI c, nI R, nI Wn, nI lr, nI ver, lock, nI cu, steps, K, V, sz, ind, rp, rk, rr, rv, rs, wp, wkd, wk, wv, wr, wve, ws) (nI (R + j))) (fun post => wpY_step post (nI c, nI R, nI Wn, nI lr, nI ver, i0, i1, lock, nI cu, steps, Kb, Vb, sz, rp, rk, rr, rv, rs, wp, wkd, wk, wv, wr, wve, ws) (nI (R + j))) := by
  obtain ⟨hc, hR, hW, hlr, hver, hcu, h0, h1, hD, hAR, hAW⟩ := F
  obtain ⟨a1, a2, a3, a4, a5, a6, a7, a8⟩ := lm_fW hR hW hj
  obtain ⟨t, ht, es⟩ := b
  have m := lm_1s ht
  obtain ⟨q, K1, V1, Kb1, Vb1, sz1, hD1, hx, hy⟩ := lm_upd (c := c) (R := R) (Wn := Wn) (lr := lr) (ver := ver) (cu := cu) (lock := lock) (steps := steps + 1) (ind := ind) (i0 := i0) (i1 := i1) (rp := rp) (rk := rk) (rr := rr) (rv := rv) (rs := rs) (wp := wp) (wkd := wkd) (wk := wk) (wv := wv) (wr := wr) (wve := wve) (ws := ws) hD (s := 1 - t) (by omega) (j := j) (by omega) k hc
  refine lm_g (r := 1) (u := (nI c, nI R, nI Wn, nI lr, nI ver, -1, nI cu, steps + 1, K1, V1, sz1, ind, rp, rk, rr, rv, rs, upd wp j 8, wkd, wk, wv, wr, wve, ws)) (v := (nI c, nI R, nI Wn, nI lr, nI ver, i0, i1, -1, nI cu, steps + 1, Kb1, Vb1, sz1, rp, rk, rr, rv, rs, upd wp j 8, wkd, wk, wv, wr, wve, ws)) (fun post hp => ?_) (fun post hp => ?_)
    (lm_mk ⟨hc, hR, hW, hlr, hver, hcu, h0, h1, hD1, hAR, lm_AWu j hAW (fun i n => ⟨pk_un n, rfl, rfl, rfl⟩) (lm_wr8 pk_us)⟩)
  · simp +decide only [wpX_step, wpX_isActive, wpX_isWriterActive, wpX_stepWriter, wpX_applyOld, a1, a2, a3, a4, a5, a6, a7, a8, e, es, m, true_implies, false_implies, not_true_eq_false, not_false_eq_true, and_true, true_and, forall_eq, implies_true, lm_nb0, lm_nb1]
    refine hx _ ?_
    first | exact hp | (simp +decide only [wpX_finish, a1, a2, a3, a4, a5, a6, a7, a8, e, true_implies, false_implies, not_true_eq_false, not_false_eq_true, and_true, true_and, forall_eq, implies_true, lm_nb0, lm_nb1]; exact hp)
  · simp +decide only [wpY_step, wpY_active, a1, a2, a3, a4, a5, a6, a7, a8, e, es, m, true_implies, false_implies, not_true_eq_false, not_false_eq_true, and_true, true_and, forall_eq, implies_true, lm_nb0, lm_nb1]
    refine hy _ ?_
    first | exact hp | (simp +decide only [a1, a2, a3, a4, a5, a6, a7, a8, e, true_implies, false_implies, not_true_eq_false, not_false_eq_true, and_true, true_and, forall_eq, implies_true, lm_nb0, lm_nb1]; exact hp)

theorem lm_sw (F : lm_F c R Wn lr ver cu i0 i1 K V Kb Vb sz ind rp rv rs wp wkd wve ws) {j : Nat} (hj : j < Wn) : lm_G R Wn (fun post => wpX_step post (nI c, nI R, nI Wn, nI lr, nI ver, lock, nI cu, steps, K, V, sz, ind, rp, rk, rr, rv, rs, wp, wkd, wk, wv, wr, wve, ws) (nI (R + j))) (fun post => wpY_step post (nI c, nI R, nI Wn, nI lr, nI ver, i0, i1, lock, nI cu, steps, Kb, Vb, sz, rp, rk, rr, rv, rs, wp, wkd, wk, wv, wr, wve, ws) (nI (R + j))) := by
  have hj4 : j < 4 := Nat.lt_of_lt_of_le hj F.2.2.1.2
  rcases F.2.2.2.2.2.2.2.2.2.2 j hj4 with e | e | ⟨e, k⟩ | ⟨e, k⟩ | ⟨e, k, b⟩ | ⟨e, k, b⟩ | ⟨e, k, b, b'⟩ | ⟨e, k, b, b'⟩ | ⟨e, k, b⟩
  · exact lm_sw0 F hj (Or.inl e)
  · exact lm_sw0 F hj (Or.inr e)
  · exact lm_sw1 F hj e k
  · exact lm_sw2 F hj e k
  · exact lm_sw3 F hj e k b
  · exact lm_sw4 F hj e k b
  · exact lm_sw5 F hj e k b b'
  · exact lm_sw6 F hj e k b b'
  · exact lm_sw7 F hj e k b
theorem lm_sn (F : lm_F c R Wn lr ver cu i0 i1 K V Kb Vb sz ind rp rv rs wp wkd wve ws) (a : Int32) (h : a < 0 ∨ (¬ a < 0 ∧ ¬ a < nI R + nI Wn ∧ nI R + nI Wn ≤ a)) : lm_G R Wn (fun post => wpX_step post (nI c, nI R, nI Wn, nI lr, nI ver, lock, nI cu, steps, K, V, sz, ind, rp, rk, rr, rv, rs, wp, wkd, wk, wv, wr, wve, ws) a) (fun post => wpY_step post (nI c, nI R, nI Wn, nI lr, nI ver, i0, i1, lock, nI cu, steps, Kb, Vb, sz, rp, rk, rr, rv, rs, wp, wkd, wk, wv, wr, wve, ws) a) := by
  refine lm_g (r := 0) (u := (nI c, nI R, nI Wn, nI lr, nI ver, lock, nI cu, steps, K, V, sz, ind, rp, rk, rr, rv, rs, wp, wkd, wk, wv, wr, wve, ws)) (v := (nI c, nI R, nI Wn, nI lr, nI ver, i0, i1, lock, nI cu, steps, Kb, Vb, sz, rp, rk, rr, rv, rs, wp, wkd, wk, wv, wr, wve, ws)) (fun post hp => ?_) (fun post hp => ?_) (lm_mk F)
  · rcases h with h | ⟨b1, b2, b3⟩
    · simp +decide only [wpX_step, wpX_isActive, h, true_implies, false_implies, not_true_eq_false, not_false_eq_true, and_true, true_and, forall_eq, implies_true, lm_nb0, lm_nb1]; exact hp
    · simp +decide only [wpX_step, wpX_isActive, b1, b2, b3, true_implies, false_implies, not_true_eq_false, not_false_eq_true, and_true, true_and, forall_eq, implies_true, lm_nb0, lm_nb1]; exact hp
  · rcases h with h | ⟨b1, b2, b3⟩
    · simp +decide only [wpY_step, wpY_active, h, true_implies, false_implies, not_true_eq_false, not_false_eq_true, and_true, true_and, forall_eq, implies_true, lm_nb0, lm_nb1]; exact hp
    · simp +decide only [wpY_step, wpY_active, b1, b2, b3, true_implies, false_implies, not_true_eq_false, not_false_eq_true, and_true, true_and, forall_eq, implies_true, lm_nb0, lm_nb1]; exact hp
theorem lm_step {u : SX} {v : SY} (I : lm_Rel R Wn u v) (a : Int32) : lm_G R Wn (fun post => wpX_step post u a) (fun post => wpY_step post v a) := by
  obtain ⟨c, lr, ver, cu, lock, steps, i0, i1, K, V, Kb, Vb, sz, ind, rp, rk, rr, rv, rs, wp, wkd, wk, wv, wr, wve, ws, rfl, rfl, F⟩ := I
  rcases lm_ag a F.2.1 F.2.2.1 with h | h | ⟨j, hj, rfl⟩ | ⟨j, hj, rfl⟩
  · exact lm_sn F a (Or.inl h)
  · exact lm_sn F a (Or.inr h)
  · exact lm_sr F hj
  · exact lm_sw F hj
end LMW
