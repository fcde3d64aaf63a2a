theorem lm_mod {a t : Nat} (h : a < 2 * t) : a % t = if a < t then a else a - t := by
  by_cases c : a < t
  · rw [if_pos c, Nat.mod_eq_of_lt c]
  · rw [if_neg c, Nat.mod_eq_sub_mod (by omega), Nat.mod_eq_of_lt (by omega)]
section LMN
variable {c R Wn lr ver cu : Nat} {lock steps i0 i1 : Int32} {K V Kb Vb sz ind rp rk rr rv rs wp wkd wk wv wr wve ws : Nat → Int32}
theorem lx_wrap (hR : 1 ≤ R ∧ R ≤ 8) (hW : 1 ≤ Wn ∧ Wn ≤ 4) {a : Nat} (h : a < 2 * (R + Wn)) (post : Int32 → Prop) (hp : post (nI (a % (R + Wn)))) :
    wpX_wrapAgent post (nI c, nI R, nI Wn, nI lr, nI ver, lock, nI cu, steps, K, V, sz, ind, rp, rk, rr, rv, rs, wp, wkd, wk, wv, wr, wve, ws) (nI a) := by
  have e := lm_mod h
  have s1 : nI R + nI Wn = nI (R + Wn) := nI_add R Wn
  by_cases k : a < R + Wn
  · rw [if_pos k] at e
    rw [e] at hp
    have z1 : nI a < nI (R + Wn) := nI_lt k (by omega)
    have z2 : ¬ nI (R + Wn) ≤ nI a := nI_ge k (by omega)
    simp only [wpX_wrapAgent, s1, z1, z2, true_implies, false_implies, not_true_eq_false, not_false_eq_true, and_true, true_and, forall_eq, implies_true, Int32.reduceEq, Int32.reduceLT, Int32.reduceLE, lm_nb0, lm_nb1]; exact hp
  · rw [if_neg k] at e
    rw [e] at hp
    have z1 : ¬ nI a < nI (R + Wn) := nI_nlt (by omega) (by omega)
    have z2 : nI (R + Wn) ≤ nI a := nI_le (by omega) (by omega)
    have z3 : nI a - nI (R + Wn) = nI (a - (R + Wn)) := pk_sub (by omega)
    simp only [wpX_wrapAgent, s1, z1, z2, z3, true_implies, false_implies, not_true_eq_false, not_false_eq_true, and_true, true_and, forall_eq, implies_true, Int32.reduceEq, Int32.reduceLT, Int32.reduceLE, lm_nb0, lm_nb1]; exact hp
theorem lm_act (hR : 1 ≤ R ∧ R ≤ 8) (hW : 1 ≤ Wn ∧ Wn ≤ 4) {a : Nat} (h : a < R + Wn) : ∃ b : Int32, (b = 0 ∨ b = 1) ∧
    (∀ post : Int32 → Prop, post b → wpX_isActive post (nI c, nI R, nI Wn, nI lr, nI ver, lock, nI cu, steps, K, V, sz, ind, rp, rk, rr, rv, rs, wp, wkd, wk, wv, wr, wve, ws) (nI a)) ∧ (∀ post : Int32 → Prop, post b → wpY_active post (nI c, nI R, nI Wn, nI lr, nI ver, i0, i1, lock, nI cu, steps, Kb, Vb, sz, rp, rk, rr, rv, rs, wp, wkd, wk, wv, wr, wve, ws) (nI a)) := by
  by_cases k : a < R
  · obtain ⟨a1, a2, a3, a4, a5, a6, a7⟩ := lm_fR hR hW k
    by_cases e0 : rp a = 0
    · refine ⟨0, Or.inl rfl, fun post hp => ?_, fun post hp => ?_⟩
      · simp only [wpX_isActive, wpX_isReaderActive, a1, a2, a3, a4, a5, a6, a7, e0, true_implies, false_implies, not_true_eq_false, not_false_eq_true, and_true, true_and, forall_eq, implies_true, Int32.reduceEq, Int32.reduceLT, Int32.reduceLE, lm_nb0, lm_nb1]; exact hp
      · simp only [wpY_active, a1, a2, a3, a4, a5, a6, a7, e0, true_implies, false_implies, not_true_eq_false, not_false_eq_true, and_true, true_and, forall_eq, implies_true, Int32.reduceEq, Int32.reduceLT, Int32.reduceLE, lm_nb0, lm_nb1]; exact hp
    · by_cases e6 : rp a = 6
      · refine ⟨0, Or.inl rfl, fun post hp => ?_, fun post hp => ?_⟩
        · simp only [wpX_isActive, wpX_isReaderActive, a1, a2, a3, a4, a5, a6, a7, e6, true_implies, false_implies, not_true_eq_false, not_false_eq_true, and_true, true_and, forall_eq, implies_true, Int32.reduceEq, Int32.reduceLT, Int32.reduceLE, lm_nb0, lm_nb1]; exact hp
        · simp only [wpY_active, a1, a2, a3, a4, a5, a6, a7, e6, true_implies, false_implies, not_true_eq_false, not_false_eq_true, and_true, true_and, forall_eq, implies_true, Int32.reduceEq, Int32.reduceLT, Int32.reduceLE, lm_nb0, lm_nb1]; exact hp
      · refine ⟨1, Or.inr rfl, fun post hp => ?_, fun post hp => ?_⟩
        · simp only [wpX_isActive, wpX_isReaderActive, a1, a2, a3, a4, a5, a6, a7, e0, e6, true_implies, false_implies, not_true_eq_false, not_false_eq_true, and_true, true_and, forall_eq, implies_true, Int32.reduceEq, Int32.reduceLT, Int32.reduceLE, lm_nb0, lm_nb1]; exact hp
        · simp only [wpY_active, a1, a2, a3, a4, a5, a6, a7, e0, e6, true_implies, false_implies, not_true_eq_false, not_false_eq_true, and_true, true_and, forall_eq, implies_true, Int32.reduceEq, Int32.reduceLT, Int32.reduceLE, lm_nb0, lm_nb1]; exact hp
  · obtain ⟨j, hj, rfl⟩ : ∃ j, j < Wn ∧ a = R + j := ⟨a - R, by omega, by omega⟩
    obtain ⟨a1, a2, a3, a4, a5, a6, a7, a8⟩ := lm_fW hR hW hj
    by_cases e0 : wp j = 0
    · refine ⟨0, Or.inl rfl, fun post hp => ?_, fun post hp => ?_⟩
      · simp only [wpX_isActive, wpX_isWriterActive, a1, a2, a3, a4, a5, a6, a7, a8, e0, true_implies, false_implies, not_true_eq_false, not_false_eq_true, and_true, true_and, forall_eq, implies_true, Int32.reduceEq, Int32.reduceLT, Int32.reduceLE, lm_nb0, lm_nb1]; exact hp
      · simp only [wpY_active, a1, a2, a3, a4, a5, a6, a7, a8, e0, true_implies, false_implies, not_true_eq_false, not_false_eq_true, and_true, true_and, forall_eq, implies_true, Int32.reduceEq, Int32.reduceLT, Int32.reduceLE, lm_nb0, lm_nb1]; exact hp
    · by_cases e6 : wp j = 8
      · refine ⟨0, Or.inl rfl, fun post hp => ?_, fun post hp => ?_⟩
        · simp only [wpX_isActive, wpX_isWriterActive, a1, a2, a3, a4, a5, a6, a7, a8, e6, true_implies, false_implies, not_true_eq_false, not_false_eq_true, and_true, true_and, forall_eq, implies_true, Int32.reduceEq, Int32.reduceLT, Int32.reduceLE, lm_nb0, lm_nb1]; exact hp
        · simp only [wpY_active, a1, a2, a3, a4, a5, a6, a7, a8, e6, true_implies, false_implies, not_true_eq_false, not_false_eq_true, and_true, true_and, forall_eq, implies_true, Int32.reduceEq, Int32.reduceLT, Int32.reduceLE, lm_nb0, lm_nb1]; exact hp
      · refine ⟨1, Or.inr rfl, fun post hp => ?_, fun post hp => ?_⟩
        · simp only [wpX_isActive, wpX_isWriterActive, a1, a2, a3, a4, a5, a6, a7, a8, e0, e6, true_implies, false_implies, not_true_eq_false, not_false_eq_true, and_true, true_and, forall_eq, implies_true, Int32.reduceEq, Int32.reduceLT, Int32.reduceLE, lm_nb0, lm_nb1]; exact hp
        · simp only [wpY_active, a1, a2, a3, a4, a5, a6, a7, a8, e0, e6, true_implies, false_implies, not_true_eq_false, not_false_eq_true, and_true, true_and, forall_eq, implies_true, Int32.reduceEq, Int32.reduceLT, Int32.reduceLE, lm_nb0, lm_nb1]; exact hp
