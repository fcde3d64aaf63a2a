section LMF
variable {c R Wn lr ver cu : Nat} {lock steps i0 i1 : Int32} {K V Kb Vb sz ind rp rk rr rv rs wp wkd wk wv wr wve ws : Nat → Int32}
theorem lm_key (x M : Int32) : (x < 0 ∧ ¬ 0 ≤ x) ∨ (¬ x < 0 ∧ 0 ≤ x ∧ ¬ x ≤ M ∧ M < x) ∨ (¬ x < 0 ∧ 0 ≤ x ∧ x ≤ M ∧ ¬ M < x) := by
  by_cases h : x < 0
  · exact Or.inl ⟨h, Int32.not_le.mpr h⟩
  · by_cases g : x ≤ M
    · exact Or.inr (Or.inr ⟨h, Int32.not_lt.mp h, g, Int32.not_lt.mpr g⟩)
    · exact Or.inr (Or.inl ⟨h, Int32.not_lt.mp h, g, Int32.not_le.mp g⟩)
theorem lm_rng (a : Int32) {n m : Nat} (hn : n ≤ m) (hm : m < 2 ^ 31) : (a < 0 ∧ ¬ 0 ≤ a) ∨ (¬ a < 0 ∧ 0 ≤ a ∧ ¬ a < nI n ∧ nI n ≤ a) ∨
    (∃ j, j < n ∧ a = nI j ∧ ¬ nI j < 0 ∧ 0 ≤ nI j ∧ nI j < nI n ∧ ¬ nI n ≤ nI j ∧ vp_in (nI j) m ∧ (nI j).toNatClampNeg = j) := by
  by_cases h : a < 0
  · exact Or.inl ⟨h, Int32.not_le.mpr h⟩
  · obtain ⟨j, hj, rfl⟩ := nI_of h
    by_cases g : j < n
    · exact Or.inr (Or.inr ⟨j, g, rfl, h, nI_pos' hj, nI_lt g (by omega), nI_ge g (by omega), vp_in_nI (by omega) hm, nI_clamp hj⟩)
    · exact Or.inr (Or.inl ⟨h, nI_pos' hj, nI_nlt (by omega) hj, nI_le (by omega) hj⟩)
theorem lm_reader {u : SX} {v : SY} (I : lm_Rel R Wn u v) (a b : Int32) :
    ∃ r, (∀ post : Int32 → Prop, post r → wpX_reader post u a b) ∧ (∀ post : Int32 → Prop, post r → wpY_reader post v a b) := by
  obtain ⟨c, lr, ver, cu, lock, steps, i0, i1, K, V, Kb, Vb, sz, ind, rp, rk, rr, rv, rs, wp, wkd, wk, wv, wr, wve, ws, rfl, rfl, F⟩ := I
  have FF := F
  obtain ⟨hc, hR, hW, hlr, hver, hcu, h0, h1, hD, hAR, hAW⟩ := F
  rcases lm_rng a (n := R) (m := 8) (by omega) (by decide) with ⟨a1, a2⟩ | ⟨a1, a2, a3, a4⟩ | ⟨j, hj, rfl, a1, a2, a3, a4, a5, a6⟩
  · refine ⟨-4, fun post hp => ?_, fun post hp => ?_⟩
    · simp +decide only [wpX_reader, wpX_isReader, a1, a2, true_implies, false_implies, not_true_eq_false, not_false_eq_true, and_true, true_and, forall_eq, implies_true, lm_nb0, lm_nb1]; exact hp
    · simp +decide only [wpY_reader, a1, a2, true_implies, false_implies, not_true_eq_false, not_false_eq_true, and_true, true_and, forall_eq, implies_true, lm_nb0, lm_nb1]; exact hp
  · refine ⟨-4, fun post hp => ?_, fun post hp => ?_⟩
    · simp +decide only [wpX_reader, wpX_isReader, a1, a2, a3, a4, true_implies, false_implies, not_true_eq_false, not_false_eq_true, and_true, true_and, forall_eq, implies_true, lm_nb0, lm_nb1]; exact hp
    · simp +decide only [wpY_reader, a1, a2, a3, a4, true_implies, false_implies, not_true_eq_false, not_false_eq_true, and_true, true_and, forall_eq, implies_true, lm_nb0, lm_nb1]; exact hp
  · by_cases b0 : b = 0
    · subst b0
      refine ⟨rp j, fun post hp => ?_, fun post hp => ?_⟩
      · simp +decide only [wpX_reader, wpX_isReader, a1, a2, a3, a4, a5, a6, true_implies, false_implies, not_true_eq_false, not_false_eq_true, and_true, true_and, forall_eq, implies_true, lm_nb0, lm_nb1]; exact hp
      · simp +decide only [wpY_reader, a1, a2, a3, a4, a5, a6, true_implies, false_implies, not_true_eq_false, not_false_eq_true, and_true, true_and, forall_eq, implies_true, lm_nb0, lm_nb1]; exact hp
    · by_cases b1 : b = 1
      · subst b1
        refine ⟨rk j, fun post hp => ?_, fun post hp => ?_⟩
        · simp +decide only [wpX_reader, wpX_isReader, a1, a2, a3, a4, a5, a6, true_implies, false_implies, not_true_eq_false, not_false_eq_true, and_true, true_and, forall_eq, implies_true, lm_nb0, lm_nb1]; exact hp
        · simp +decide only [wpY_reader, a1, a2, a3, a4, a5, a6, true_implies, false_implies, not_true_eq_false, not_false_eq_true, and_true, true_and, forall_eq, implies_true, lm_nb0, lm_nb1]; exact hp
      · by_cases b2 : b = 2
        · subst b2
          refine ⟨rr j, fun post hp => ?_, fun post hp => ?_⟩
          · simp +decide only [wpX_reader, wpX_isReader, a1, a2, a3, a4, a5, a6, true_implies, false_implies, not_true_eq_false, not_false_eq_true, and_true, true_and, forall_eq, implies_true, lm_nb0, lm_nb1]; exact hp
          · simp +decide only [wpY_reader, a1, a2, a3, a4, a5, a6, true_implies, false_implies, not_true_eq_false, not_false_eq_true, and_true, true_and, forall_eq, implies_true, lm_nb0, lm_nb1]; exact hp
        · by_cases b3 : b = 3
          · subst b3
            refine ⟨rv j, fun post hp => ?_, fun post hp => ?_⟩
            · simp +decide only [wpX_reader, wpX_isReader, a1, a2, a3, a4, a5, a6, true_implies, false_implies, not_true_eq_false, not_false_eq_true, and_true, true_and, forall_eq, implies_true, lm_nb0, lm_nb1]; exact hp
            · simp +decide only [wpY_reader, a1, a2, a3, a4, a5, a6, true_implies, false_implies, not_true_eq_false, not_false_eq_true, and_true, true_and, forall_eq, implies_true, lm_nb0, lm_nb1]; exact hp
          · by_cases b4 : b = 4
            · subst b4
              refine ⟨rs j, fun post hp => ?_, fun post hp => ?_⟩
              · simp +decide only [wpX_reader, wpX_isReader, a1, a2, a3, a4, a5, a6, true_implies, false_implies, not_true_eq_false, not_false_eq_true, and_true, true_and, forall_eq, implies_true, lm_nb0, lm_nb1]; exact hp
              · simp +decide only [wpY_reader, a1, a2, a3, a4, a5, a6, true_implies, false_implies, not_true_eq_false, not_false_eq_true, and_true, true_and, forall_eq, implies_true, lm_nb0, lm_nb1]; exact hp
            · have hb : b < 0 ∨ (¬ b < 0 ∧ (4 : Int32) < b) := by
                by_cases h : b < 0
                · exact Or.inl h
                · refine Or.inr ⟨h, ?_⟩
                  obtain ⟨m, hm, rfl⟩ := nI_of h
                  have q : 4 < m := by
                    apply Nat.lt_of_not_le
                    intro g
                    have z : m = 0 ∨ m = 1 ∨ m = 2 ∨ m = 3 ∨ m = 4 := by omega
                    rcases z with rfl | rfl | rfl | rfl | rfl
                    · exact b0 rfl
                    · exact b1 rfl
                    · exact b2 rfl
                    · exact b3 rfl
                    · exact b4 rfl
                  exact nI_lt (a := 4) q hm
              refine ⟨-4, fun post hp => ?_, fun post hp => ?_⟩
              · rcases hb with h | ⟨h, h2⟩
                · simp +decide only [wpX_reader, wpX_isReader, a1, a2, a3, a4, a5, a6, h, true_implies, false_implies, not_true_eq_false, not_false_eq_true, and_true, true_and, forall_eq, implies_true, lm_nb0, lm_nb1]; exact hp
                · simp +decide only [wpX_reader, wpX_isReader, a1, a2, a3, a4, a5, a6, h, h2, true_implies, false_implies, not_true_eq_false, not_false_eq_true, and_true, true_and, forall_eq, implies_true, lm_nb0, lm_nb1]; exact hp
              · simp +decide only [wpY_reader, a1, a2, a3, a4, a5, a6, b0, b1, b2, b3, b4, true_implies, false_implies, not_true_eq_false, not_false_eq_true, and_true, true_and, forall_eq, implies_true, lm_nb0, lm_nb1]; exact hp
theorem lm_writer {u : SX} {v : SY} (I : lm_Rel R Wn u v) (a b : Int32) :
    ∃ r, (∀ post : Int32 → Prop, post r → wpX_writer post u a b) ∧ (∀ post : Int32 → Prop, post r → wpY_writer post v a b) := by
  obtain ⟨c, lr, ver, cu, lock, steps, i0, i1, K, V, Kb, Vb, sz, ind, rp, rk, rr, rv, rs, wp, wkd, wk, wv, wr, wve, ws, rfl, rfl, F⟩ := I
  have FF := F
  obtain ⟨hc, hR, hW, hlr, hver, hcu, h0, h1, hD, hAR, hAW⟩ := F
  rcases lm_rng a (n := Wn) (m := 4) (by omega) (by decide) with ⟨a1, a2⟩ | ⟨a1, a2, a3, a4⟩ | ⟨j, hj, rfl, a1, a2, a3, a4, a5, a6⟩
  · refine ⟨-4, fun post hp => ?_, fun post hp => ?_⟩
    · simp +decide only [wpX_writer, wpX_isWriter, a1, a2, true_implies, false_implies, not_true_eq_false, not_false_eq_true, and_true, true_and, forall_eq, implies_true, lm_nb0, lm_nb1]; exact hp
    · simp +decide only [wpY_writer, a1, a2, true_implies, false_implies, not_true_eq_false, not_false_eq_true, and_true, true_and, forall_eq, implies_true, lm_nb0, lm_nb1]; exact hp
  · refine ⟨-4, fun post hp => ?_, fun post hp => ?_⟩
    · simp +decide only [wpX_writer, wpX_isWriter, a1, a2, a3, a4, true_implies, false_implies, not_true_eq_false, not_false_eq_true, and_true, true_and, forall_eq, implies_true, lm_nb0, lm_nb1]; exact hp
    · simp +decide only [wpY_writer, a1, a2, a3, a4, true_implies, false_implies, not_true_eq_false, not_false_eq_true, and_true, true_and, forall_eq, implies_true, lm_nb0, lm_nb1]; exact hp
  · by_cases b0 : b = 0
    · subst b0
      refine ⟨wp j, fun post hp => ?_, fun post hp => ?_⟩
      · simp +decide only [wpX_writer, wpX_isWriter, a1, a2, a3, a4, a5, a6, true_implies, false_implies, not_true_eq_false, not_false_eq_true, and_true, true_and, forall_eq, implies_true, lm_nb0, lm_nb1]; exact hp
      · simp +decide only [wpY_writer, a1, a2, a3, a4, a5, a6, true_implies, false_implies, not_true_eq_false, not_false_eq_true, and_true, true_and, forall_eq, implies_true, lm_nb0, lm_nb1]; exact hp
    · by_cases b1 : b = 1
      · subst b1
        refine ⟨wk j, fun post hp => ?_, fun post hp => ?_⟩
        · simp +decide only [wpX_writer, wpX_isWriter, a1, a2, a3, a4, a5, a6, true_implies, false_implies, not_true_eq_false, not_false_eq_true, and_true, true_and, forall_eq, implies_true, lm_nb0, lm_nb1]; exact hp
        · simp +decide only [wpY_writer, a1, a2, a3, a4, a5, a6, true_implies, false_implies, not_true_eq_false, not_false_eq_true, and_true, true_and, forall_eq, implies_true, lm_nb0, lm_nb1]; exact hp
      · by_cases b2 : b = 2
        · subst b2
          refine ⟨wr j, fun post hp => ?_, fun post hp => ?_⟩
          · simp +decide only [wpX_writer, wpX_isWriter, a1, a2, a3, a4, a5, a6, true_implies, false_implies, not_true_eq_false, not_false_eq_true, and_true, true_and, forall_eq, implies_true, lm_nb0, lm_nb1]; exact hp
          · simp +decide only [wpY_writer, a1, a2, a3, a4, a5, a6, true_implies, false_implies, not_true_eq_false, not_false_eq_true, and_true, true_and, forall_eq, implies_true, lm_nb0, lm_nb1]; exact hp
        · by_cases b3 : b = 3
          · subst b3
            refine ⟨wve j, fun post hp => ?_, fun post hp => ?_⟩
            · simp +decide only [wpX_writer, wpX_isWriter, a1, a2, a3, a4, a5, a6, true_implies, false_implies, not_true_eq_false, not_false_eq_true, and_true, true_and, forall_eq, implies_true, lm_nb0, lm_nb1]; exact hp
            · simp +decide only [wpY_writer, a1, a2, a3, a4, a5, a6, true_implies, false_implies, not_true_eq_false, not_false_eq_true, and_true, true_and, forall_eq, implies_true, lm_nb0, lm_nb1]; exact hp
          · by_cases b4 : b = 4
            · subst b4
              refine ⟨ws j, fun post hp => ?_, fun post hp => ?_⟩
              · simp +decide only [wpX_writer, wpX_isWriter, a1, a2, a3, a4, a5, a6, true_implies, false_implies, not_true_eq_false, not_false_eq_true, and_true, true_and, forall_eq, implies_true, lm_nb0, lm_nb1]; exact hp
              · simp +decide only [wpY_writer, a1, a2, a3, a4, a5, a6, true_implies, false_implies, not_true_eq_false, not_false_eq_true, and_true, true_and, forall_eq, implies_true, lm_nb0, lm_nb1]; exact hp
            · by_cases b5 : b = 5
              · subst b5
                refine ⟨wv j, fun post hp => ?_, fun post hp => ?_⟩
                · simp +decide only [wpX_writer, wpX_isWriter, a1, a2, a3, a4, a5, a6, true_implies, false_implies, not_true_eq_false, not_false_eq_true, and_true, true_and, forall_eq, implies_true, lm_nb0, lm_nb1]; exact hp
                · simp +decide only [wpY_writer, a1, a2, a3, a4, a5, a6, true_implies, false_implies, not_true_eq_false, not_false_eq_true, and_true, true_and, forall_eq, implies_true, lm_nb0, lm_nb1]; exact hp
              · by_cases b6 : b = 6
                · subst b6
                  refine ⟨wkd j, fun post hp => ?_, fun post hp => ?_⟩
                  · simp +decide only [wpX_writer, wpX_isWriter, a1, a2, a3, a4, a5, a6, true_implies, false_implies, not_true_eq_false, not_false_eq_true, and_true, true_and, forall_eq, implies_true, lm_nb0, lm_nb1]; exact hp
                  · simp +decide only [wpY_writer, a1, a2, a3, a4, a5, a6, true_implies, false_implies, not_true_eq_false, not_false_eq_true, and_true, true_and, forall_eq, implies_true, lm_nb0, lm_nb1]; exact hp
                · have hb : b < 0 ∨ (¬ b < 0 ∧ (6 : Int32) < b) := by
                    by_cases h : b < 0
                    · exact Or.inl h
                    · refine Or.inr ⟨h, ?_⟩
                      obtain ⟨m, hm, rfl⟩ := nI_of h
                      have q : 6 < m := by
                        apply Nat.lt_of_not_le
                        intro g
                        have z : m = 0 ∨ m = 1 ∨ m = 2 ∨ m = 3 ∨ m = 4 ∨ m = 5 ∨ m = 6 := by omega
                        rcases z with rfl | rfl | rfl | rfl | rfl | rfl | rfl
                        · exact b0 rfl
                        · exact b1 rfl
                        · exact b2 rfl
                        · exact b3 rfl
                        · exact b4 rfl
                        · exact b5 rfl
                        · exact b6 rfl
                      exact nI_lt (a := 6) q hm
                  refine ⟨-4, fun post hp => ?_, fun post hp => ?_⟩
                  · rcases hb with h | ⟨h, h2⟩
                    · simp +decide only [wpX_writer, wpX_isWriter, a1, a2, a3, a4, a5, a6, h, true_implies, false_implies, not_true_eq_false, not_false_eq_true, and_true, true_and, forall_eq, implies_true, lm_nb0, lm_nb1]; exact hp
                    · simp +decide only [wpX_writer, wpX_isWriter, a1, a2, a3, a4, a5, a6, h, h2, true_implies, false_implies, not_true_eq_false, not_false_eq_true, and_true, true_and, forall_eq, implies_true, lm_nb0, lm_nb1]; exact hp
                  · simp +decide only [wpY_writer, a1, a2, a3, a4, a5, a6, b0, b1, b2, b3, b4, b5, b6, true_implies, false_implies, not_true_eq_false, not_false_eq_true, and_true, true_and, forall_eq, implies_true, lm_nb0, lm_nb1]; exact hp
theorem lm_global {u : SX} {v : SY} (I : lm_Rel R Wn u v) (b : Int32) :
    ∃ r, (∀ post : Int32 → Prop, post r → wpX_global post u b) ∧ (∀ post : Int32 → Prop, post r → wpY_global post v b) := by
  obtain ⟨c, lr, ver, cu, lock, steps, i0, i1, K, V, Kb, Vb, sz, ind, rp, rk, rr, rv, rs, wp, wkd, wk, wv, wr, wve, ws, rfl, rfl, F⟩ := I
  have FF := F
  obtain ⟨hc, hR, hW, hlr, hver, hcu, h0, h1, hD, hAR, hAW⟩ := F
  subst h0 h1
  have i2 : vp_in (nI lr) 2 := vp_in_nI hlr (by omega)
  have c2 : (nI lr).toNatClampNeg = lr := nI_clamp (by omega)
  have k0 : vp_in 0 2 := lm_i0
  have k1 : vp_in 1 2 := lm_i1
  have m0 : (0 : Int32).toNatClampNeg = 0 := lm_c0
  have m1 : (1 : Int32).toNatClampNeg = 1 := lm_c1
  by_cases b0 : b = 0
  · subst b0
    refine ⟨nI lr, fun post hp => ?_, fun post hp => ?_⟩
    · simp +decide only [wpX_global, i2, c2, k0, k1, m0, m1, true_implies, false_implies, not_true_eq_false, not_false_eq_true, and_true, true_and, forall_eq, implies_true, lm_nb0, lm_nb1]; exact hp
    · simp +decide only [wpY_global, i2, c2, k0, k1, m0, m1, true_implies, false_implies, not_true_eq_false, not_false_eq_true, and_true, true_and, forall_eq, implies_true, lm_nb0, lm_nb1]; exact hp
  · by_cases b1 : b = 1
    · subst b1
      refine ⟨nI ver, fun post hp => ?_, fun post hp => ?_⟩
      · simp +decide only [wpX_global, i2, c2, k0, k1, m0, m1, true_implies, false_implies, not_true_eq_false, not_false_eq_true, and_true, true_and, forall_eq, implies_true, lm_nb0, lm_nb1]; exact hp
      · simp +decide only [wpY_global, i2, c2, k0, k1, m0, m1, true_implies, false_implies, not_true_eq_false, not_false_eq_true, and_true, true_and, forall_eq, implies_true, lm_nb0, lm_nb1]; exact hp
    · by_cases b2 : b = 2
      · subst b2
        refine ⟨ind 0, fun post hp => ?_, fun post hp => ?_⟩
        · simp +decide only [wpX_global, i2, c2, k0, k1, m0, m1, true_implies, false_implies, not_true_eq_false, not_false_eq_true, and_true, true_and, forall_eq, implies_true, lm_nb0, lm_nb1]; exact hp
        · simp +decide only [wpY_global, i2, c2, k0, k1, m0, m1, true_implies, false_implies, not_true_eq_false, not_false_eq_true, and_true, true_and, forall_eq, implies_true, lm_nb0, lm_nb1]; exact hp
      · by_cases b3 : b = 3
        · subst b3
          refine ⟨ind 1, fun post hp => ?_, fun post hp => ?_⟩
          · simp +decide only [wpX_global, i2, c2, k0, k1, m0, m1, true_implies, false_implies, not_true_eq_false, not_false_eq_true, and_true, true_and, forall_eq, implies_true, lm_nb0, lm_nb1]; exact hp
          · simp +decide only [wpY_global, i2, c2, k0, k1, m0, m1, true_implies, false_implies, not_true_eq_false, not_false_eq_true, and_true, true_and, forall_eq, implies_true, lm_nb0, lm_nb1]; exact hp
        · by_cases b4 : b = 4
          · subst b4
            refine ⟨lock, fun post hp => ?_, fun post hp => ?_⟩
            · simp +decide only [wpX_global, i2, c2, k0, k1, m0, m1, true_implies, false_implies, not_true_eq_false, not_false_eq_true, and_true, true_and, forall_eq, implies_true, lm_nb0, lm_nb1]; exact hp
            · simp +decide only [wpY_global, i2, c2, k0, k1, m0, m1, true_implies, false_implies, not_true_eq_false, not_false_eq_true, and_true, true_and, forall_eq, implies_true, lm_nb0, lm_nb1]; exact hp
          · by_cases b5 : b = 5
            · subst b5
              refine ⟨sz lr, fun post hp => ?_, fun post hp => ?_⟩
              · simp +decide only [wpX_global, i2, c2, k0, k1, m0, m1, true_implies, false_implies, not_true_eq_false, not_false_eq_true, and_true, true_and, forall_eq, implies_true, lm_nb0, lm_nb1]; exact hp
              · simp +decide only [wpY_global, i2, c2, k0, k1, m0, m1, true_implies, false_implies, not_true_eq_false, not_false_eq_true, and_true, true_and, forall_eq, implies_true, lm_nb0, lm_nb1]; exact hp
            · by_cases b6 : b = 6
              · subst b6
                refine ⟨nI cu, fun post hp => ?_, fun post hp => ?_⟩
                · simp +decide only [wpX_global, i2, c2, k0, k1, m0, m1, true_implies, false_implies, not_true_eq_false, not_false_eq_true, and_true, true_and, forall_eq, implies_true, lm_nb0, lm_nb1]; exact hp
                · simp +decide only [wpY_global, i2, c2, k0, k1, m0, m1, true_implies, false_implies, not_true_eq_false, not_false_eq_true, and_true, true_and, forall_eq, implies_true, lm_nb0, lm_nb1]; exact hp
              · by_cases b7 : b = 7
                · subst b7
                  refine ⟨steps, fun post hp => ?_, fun post hp => ?_⟩
                  · simp +decide only [wpX_global, i2, c2, k0, k1, m0, m1, true_implies, false_implies, not_true_eq_false, not_false_eq_true, and_true, true_and, forall_eq, implies_true, lm_nb0, lm_nb1]; exact hp
                  · simp +decide only [wpY_global, i2, c2, k0, k1, m0, m1, true_implies, false_implies, not_true_eq_false, not_false_eq_true, and_true, true_and, forall_eq, implies_true, lm_nb0, lm_nb1]; exact hp
                · by_cases b8 : b = 8
                  · subst b8
                    refine ⟨nI c, fun post hp => ?_, fun post hp => ?_⟩
                    · simp +decide only [wpX_global, i2, c2, k0, k1, m0, m1, true_implies, false_implies, not_true_eq_false, not_false_eq_true, and_true, true_and, forall_eq, implies_true, lm_nb0, lm_nb1]; exact hp
                    · simp +decide only [wpY_global, i2, c2, k0, k1, m0, m1, true_implies, false_implies, not_true_eq_false, not_false_eq_true, and_true, true_and, forall_eq, implies_true, lm_nb0, lm_nb1]; exact hp
                  · by_cases b9 : b = 9
                    · subst b9
                      refine ⟨nI R, fun post hp => ?_, fun post hp => ?_⟩
                      · simp +decide only [wpX_global, i2, c2, k0, k1, m0, m1, true_implies, false_implies, not_true_eq_false, not_false_eq_true, and_true, true_and, forall_eq, implies_true, lm_nb0, lm_nb1]; exact hp
                      · simp +decide only [wpY_global, i2, c2, k0, k1, m0, m1, true_implies, false_implies, not_true_eq_false, not_false_eq_true, and_true, true_and, forall_eq, implies_true, lm_nb0, lm_nb1]; exact hp
                    · by_cases b10 : b = 10
                      · subst b10
                        refine ⟨nI Wn, fun post hp => ?_, fun post hp => ?_⟩
                        · simp +decide only [wpX_global, i2, c2, k0, k1, m0, m1, true_implies, false_implies, not_true_eq_false, not_false_eq_true, and_true, true_and, forall_eq, implies_true, lm_nb0, lm_nb1]; exact hp
                        · simp +decide only [wpY_global, i2, c2, k0, k1, m0, m1, true_implies, false_implies, not_true_eq_false, not_false_eq_true, and_true, true_and, forall_eq, implies_true, lm_nb0, lm_nb1]; exact hp
                      · have hb : b < 0 ∨ (¬ b < 0 ∧ (10 : Int32) < b) := by
                          by_cases h : b < 0
                          · exact Or.inl h
                          · refine Or.inr ⟨h, ?_⟩
                            obtain ⟨m, hm, rfl⟩ := nI_of h
                            have q : 10 < m := by
                              apply Nat.lt_of_not_le
                              intro g
                              have z : m = 0 ∨ m = 1 ∨ m = 2 ∨ m = 3 ∨ m = 4 ∨ m = 5 ∨ m = 6 ∨ m = 7 ∨ m = 8 ∨ m = 9 ∨ m = 10 := by omega
                              rcases z with rfl | rfl | rfl | rfl | rfl | rfl | rfl | rfl | rfl | rfl | rfl
                              · exact b0 rfl
                              · exact b1 rfl
                              · exact b2 rfl
                              · exact b3 rfl
                              · exact b4 rfl
                              · exact b5 rfl
                              · exact b6 rfl
                              · exact b7 rfl
                              · exact b8 rfl
                              · exact b9 rfl
                              · exact b10 rfl
                            exact nI_lt (a := 10) q hm
                        refine ⟨-4, fun post hp => ?_, fun post hp => ?_⟩
                        · rcases hb with h | ⟨h, h2⟩
                          · simp +decide only [wpX_global, h, true_implies, false_implies, not_true_eq_false, not_false_eq_true, and_true, true_and, forall_eq, implies_true, lm_nb0, lm_nb1]; exact hp
                          · simp +decide only [wpX_global, h, h2, true_implies, false_implies, not_true_eq_false, not_false_eq_true, and_true, true_and, forall_eq, implies_true, lm_nb0, lm_nb1]; exact hp
                        · simp +decide only [wpY_global, b0, b1, b2, b3, b4, b5, b6, b7, b8, b9, b10, true_implies, false_implies, not_true_eq_false, not_false_eq_true, and_true, true_and, forall_eq, implies_true, lm_nb0, lm_nb1]; exact hp
theorem lm_peek {u : SX} {v : SY} (I : lm_Rel R Wn u v) (a : Int32) :
    ∃ r, (∀ post : Int32 → Prop, post r → wpX_peek post u a) ∧ (∀ post : Int32 → Prop, post r → wpY_peek post v a) := by
  obtain ⟨c, lr, ver, cu, lock, steps, i0, i1, K, V, Kb, Vb, sz, ind, rp, rk, rr, rv, rs, wp, wkd, wk, wv, wr, wve, ws, rfl, rfl, F⟩ := I
  have FF := F
  obtain ⟨hc, hR, hW, hlr, hver, hcu, h0, h1, hD, hAR, hAW⟩ := F
  rcases lm_key a 9999 with ⟨a1, a2⟩ | ⟨a1, a2, a3, a4⟩ | ⟨a1, a2, a3, a4⟩
  · refine ⟨-4, fun post hp => ?_, fun post hp => ?_⟩
    · simp +decide only [wpX_peek, wpX_isKey, a1, a2, true_implies, false_implies, not_true_eq_false, not_false_eq_true, and_true, true_and, forall_eq, implies_true, lm_nb0, lm_nb1]; exact hp
    · simp +decide only [wpY_peek, a1, a2, true_implies, false_implies, not_true_eq_false, not_false_eq_true, and_true, true_and, forall_eq, implies_true, lm_nb0, lm_nb1]; exact hp
  · refine ⟨-4, fun post hp => ?_, fun post hp => ?_⟩
    · simp +decide only [wpX_peek, wpX_isKey, a1, a2, a3, a4, true_implies, false_implies, not_true_eq_false, not_false_eq_true, and_true, true_and, forall_eq, implies_true, lm_nb0, lm_nb1]; exact hp
    · simp +decide only [wpY_peek, a1, a2, a3, a4, true_implies, false_implies, not_true_eq_false, not_false_eq_true, and_true, true_and, forall_eq, implies_true, lm_nb0, lm_nb1]; exact hp
  · obtain ⟨q, hx, hy⟩ := lm_val (c := c) (R := R) (Wn := Wn) (lr := lr) (ver := ver) (cu := cu) (lock := lock) (steps := steps) (ind := ind) (i0 := i0) (i1 := i1) (rp := rp) (rk := rk) (rr := rr) (rv := rv) (rs := rs) (wp := wp) (wkd := wkd) (wk := wk) (wv := wv) (wr := wr) (wve := wve) (ws := ws) hD hlr a
    refine ⟨q, fun post hp => ?_, fun post hp => ?_⟩
    · simp +decide only [wpX_peek, wpX_isKey, a1, a2, a3, a4, true_implies, false_implies, not_true_eq_false, not_false_eq_true, and_true, true_and, forall_eq, implies_true, lm_nb0, lm_nb1]; exact hx _ hp
    · simp +decide only [wpY_peek, a1, a2, a3, a4, true_implies, false_implies, not_true_eq_false, not_false_eq_true, and_true, true_and, forall_eq, implies_true, lm_nb0, lm_nb1]; exact hy _ hp
theorem lm_inst {u : SX} {v : SY} (I : lm_Rel R Wn u v) (s a : Int32) :
    ∃ r, (∀ post : Int32 → Prop, post r → wpX_instance post u s a) ∧ (∀ post : Int32 → Prop, post r → wpY_instance post v s a) := by
  obtain ⟨c, lr, ver, cu, lock, steps, i0, i1, K, V, Kb, Vb, sz, ind, rp, rk, rr, rv, rs, wp, wkd, wk, wv, wr, wve, ws, rfl, rfl, F⟩ := I
  have FF := F
  obtain ⟨hc, hR, hW, hlr, hver, hcu, h0, h1, hD, hAR, hAW⟩ := F
  rcases lm_rng s (n := 2) (m := 2) (by omega) (by decide) with ⟨s1, s2⟩ | ⟨s1, s2, s3, s4⟩ | ⟨t, ht, rfl, s1, s2, s3, s4, s5, s6⟩
  · have n0 : ¬ s = 0 := fun e => by rw [e] at s1; exact absurd s1 (by decide)
    have n1 : ¬ s = 1 := fun e => by rw [e] at s1; exact absurd s1 (by decide)
    refine ⟨-4, fun post hp => ?_, fun post hp => ?_⟩
    · simp +decide only [wpX_instance, s1, s2, true_implies, false_implies, not_true_eq_false, not_false_eq_true, and_true, true_and, forall_eq, implies_true, lm_nb0, lm_nb1]; exact hp
    · simp +decide only [wpY_instance, wY_instance_12, n0, n1, true_implies, false_implies, not_true_eq_false, not_false_eq_true, and_true, true_and, forall_eq, implies_true, lm_nb0, lm_nb1]; exact hp
  · have s3' : ¬ s < 2 := s3
    have s4' : 2 ≤ s := s4
    have n0 : ¬ s = 0 := fun e => by rw [e] at s4'; exact absurd s4' (by decide)
    have n1 : ¬ s = 1 := fun e => by rw [e] at s4'; exact absurd s4' (by decide)
    refine ⟨-4, fun post hp => ?_, fun post hp => ?_⟩
    · simp +decide only [wpX_instance, s1, s2, s3', s4', true_implies, false_implies, not_true_eq_false, not_false_eq_true, and_true, true_and, forall_eq, implies_true, lm_nb0, lm_nb1]; exact hp
    · simp +decide only [wpY_instance, wY_instance_12, n0, n1, true_implies, false_implies, not_true_eq_false, not_false_eq_true, and_true, true_and, forall_eq, implies_true, lm_nb0, lm_nb1]; exact hp
  · have s3' : nI t < 2 := s3
    have s4' : ¬ 2 ≤ nI t := s4
    obtain ⟨q, hx, hy⟩ := lm_val (c := c) (R := R) (Wn := Wn) (lr := lr) (ver := ver) (cu := cu) (lock := lock) (steps := steps) (ind := ind) (i0 := i0) (i1 := i1) (rp := rp) (rk := rk) (rr := rr) (rv := rv) (rs := rs) (wp := wp) (wkd := wkd) (wk := wk) (wv := wv) (wr := wr) (wve := wve) (ws := ws) hD ht a
    have ht2 : t = 0 ∨ t = 1 := by omega
    rcases lm_key a 9999 with ⟨a1, a2⟩ | ⟨a1, a2, a3, a4⟩ | ⟨a1, a2, a3, a4⟩
    · refine ⟨-4, fun post hp => ?_, fun post hp => ?_⟩
      · simp +decide only [wpX_instance, wpX_isKey, s1, s2, s3', s4', a1, a2, true_implies, false_implies, not_true_eq_false, not_false_eq_true, and_true, true_and, forall_eq, implies_true, lm_nb0, lm_nb1]; exact hp
      · rcases ht2 with rfl | rfl
        · simp +decide only [wpY_instance, wY_instance_12, lm_e0, a1, a2, true_implies, false_implies, not_true_eq_false, not_false_eq_true, and_true, true_and, forall_eq, implies_true, lm_nb0, lm_nb1]; exact hp
        · simp +decide only [wpY_instance, wY_instance_12, lm_e1, lm_f1, a1, a2, true_implies, false_implies, not_true_eq_false, not_false_eq_true, and_true, true_and, forall_eq, implies_true, lm_nb0, lm_nb1]; exact hp
    · refine ⟨-4, fun post hp => ?_, fun post hp => ?_⟩
      · simp +decide only [wpX_instance, wpX_isKey, s1, s2, s3', s4', a1, a2, a3, a4, true_implies, false_implies, not_true_eq_false, not_false_eq_true, and_true, true_and, forall_eq, implies_true, lm_nb0, lm_nb1]; exact hp
      · rcases ht2 with rfl | rfl
        · simp +decide only [wpY_instance, wY_instance_12, lm_e0, a1, a2, a3, a4, true_implies, false_implies, not_true_eq_false, not_false_eq_true, and_true, true_and, forall_eq, implies_true, lm_nb0, lm_nb1]; exact hp
        · simp +decide only [wpY_instance, wY_instance_12, lm_e1, lm_f1, a1, a2, a3, a4, true_implies, false_implies, not_true_eq_false, not_false_eq_true, and_true, true_and, forall_eq, implies_true, lm_nb0, lm_nb1]; exact hp
    · refine ⟨q, fun post hp => ?_, fun post hp => ?_⟩
      · simp +decide only [wpX_instance, wpX_isKey, s1, s2, s3', s4', a1, a2, a3, a4, true_implies, false_implies, not_true_eq_false, not_false_eq_true, and_true, true_and, forall_eq, implies_true, lm_nb0, lm_nb1]; exact hx _ hp
      · rcases ht2 with rfl | rfl
        · simp +decide only [wpY_instance, wY_instance_12, lm_e0, a1, a2, a3, a4, true_implies, false_implies, not_true_eq_false, not_false_eq_true, and_true, true_and, forall_eq, implies_true, lm_nb0, lm_nb1]; exact hy _ hp
        · simp +decide only [wpY_instance, wY_instance_12, lm_e1, lm_f1, a1, a2, a3, a4, true_implies, false_implies, not_true_eq_false, not_false_eq_true, and_true, true_and, forall_eq, implies_true, lm_nb0, lm_nb1]; exact hy _ hp
end LMF
