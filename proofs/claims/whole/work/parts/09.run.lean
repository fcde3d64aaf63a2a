theorem lm_mod {a t : Nat} (h : a < 2 * t) : a % t = if a < t then a else a - t := by
  by_cases c : a < t
  · rw [if_pos c, Nat.mod_eq_of_lt c]
  · rw [if_neg c, Nat.mod_eq_sub_mod (by omega), Nat.mod_eq_of_lt (by omega)]
section LMN
variable {c R Wn lr ver cu : Nat} {lock steps i0 i1 : Int32} {K V Kb Vb sz ind rp rk rr rv rs wp wkd wk wv wr wve ws : Nat → Int32}
theorem lx_wrap (hR : 1 ≤ R ∧ R ≤ 8) (hW : 1 ≤ Wn ∧ Wn ≤ 4) {a : Nat} (h : a < 2 * (R + Wn)) (post : Int32 → Prop) (hp : post (nI (a % (R + Wn)))) :
    wpX_wrapAgent post (nI c, nI R, nI Wn, nI lr, nI ver, lock, nI cu, steps, K, V, sz, ind, rp, rk, rr, rv, rs, wp, wkd, wk, wv, wr, wve, ws) (nI a) := by
  have e := lm_mod h
  have s1 : nI R + nI Wn = nI (R + Wn) := nI_add R Wn
  by_cases k : a < R + Wn
  · rw [if_pos k] at e
    rw [e] at hp
    have z1 : nI a < nI (R + Wn) := nI_lt k (by omega)
    have z2 : ¬ nI (R + Wn) ≤ nI a := nI_ge k (by omega)
    simp +decide only [wpX_wrapAgent, s1, z1, z2, true_implies, false_implies, not_true_eq_false, not_false_eq_true, and_true, true_and, forall_eq, implies_true, lm_nb0, lm_nb1]; exact hp
  · rw [if_neg k] at e
    rw [e] at hp
    have z1 : ¬ nI a < nI (R + Wn) := nI_nlt (by omega) (by omega)
    have z2 : nI (R + Wn) ≤ nI a := nI_le (by omega) (by omega)
    have z3 : nI a - nI (R + Wn) = nI (a - (R + Wn)) := pk_sub (by omega)
    simp +decide only [wpX_wrapAgent, s1, z1, z2, z3, true_implies, false_implies, not_true_eq_false, not_false_eq_true, and_true, true_and, forall_eq, implies_true, lm_nb0, lm_nb1]; exact hp
theorem lm_act (hR : 1 ≤ R ∧ R ≤ 8) (hW : 1 ≤ Wn ∧ Wn ≤ 4) {a : Nat} (h : a < R + Wn) : ∃ b : Int32, (b = 0 ∨ b = 1) ∧
    (∀ post : Int32 → Prop, post b → wpX_isActive post (nI c, nI R, nI Wn, nI lr, nI ver, lock, nI cu, steps, K, V, sz, ind, rp, rk, rr, rv, rs, wp, wkd, wk, wv, wr, wve, ws) (nI a)) ∧ (∀ post : Int32 → Prop, post b → wpY_active post (nI c, nI R, nI Wn, nI lr, nI ver, i0, i1, lock, nI cu, steps, Kb, Vb, sz, rp, rk, rr, rv, rs, wp, wkd, wk, wv, wr, wve, ws) (nI a)) := by
  by_cases k : a < R
  · obtain ⟨a1, a2, a3, a4, a5, a6, a7⟩ := lm_fR hR hW k
    by_cases e0 : rp a = 0
    · refine ⟨0, Or.inl rfl, fun post hp => ?_, fun post hp => ?_⟩
      · simp +decide only [wpX_isActive, wpX_isReaderActive, a1, a2, a3, a4, a5, a6, a7, e0, true_implies, false_implies, not_true_eq_false, not_false_eq_true, and_true, true_and, forall_eq, implies_true, lm_nb0, lm_nb1]; exact hp
      · simp +decide only [wpY_active, a1, a2, a3, a4, a5, a6, a7, e0, true_implies, false_implies, not_true_eq_false, not_false_eq_true, and_true, true_and, forall_eq, implies_true, lm_nb0, lm_nb1]; exact hp
    · by_cases e6 : rp a = 6
      · refine ⟨0, Or.inl rfl, fun post hp => ?_, fun post hp => ?_⟩
        · simp +decide only [wpX_isActive, wpX_isReaderActive, a1, a2, a3, a4, a5, a6, a7, e6, true_implies, false_implies, not_true_eq_false, not_false_eq_true, and_true, true_and, forall_eq, implies_true, lm_nb0, lm_nb1]; exact hp
        · simp +decide only [wpY_active, a1, a2, a3, a4, a5, a6, a7, e6, true_implies, false_implies, not_true_eq_false, not_false_eq_true, and_true, true_and, forall_eq, implies_true, lm_nb0, lm_nb1]; exact hp
      · refine ⟨1, Or.inr rfl, fun post hp => ?_, fun post hp => ?_⟩
        · simp +decide only [wpX_isActive, wpX_isReaderActive, a1, a2, a3, a4, a5, a6, a7, e0, e6, true_implies, false_implies, not_true_eq_false, not_false_eq_true, and_true, true_and, forall_eq, implies_true, lm_nb0, lm_nb1]; exact hp
        · simp +decide only [wpY_active, a1, a2, a3, a4, a5, a6, a7, e0, e6, true_implies, false_implies, not_true_eq_false, not_false_eq_true, and_true, true_and, forall_eq, implies_true, lm_nb0, lm_nb1]; exact hp
  · obtain ⟨j, hj, rfl⟩ : ∃ j, j < Wn ∧ a = R + j := ⟨a - R, by omega, by omega⟩
    obtain ⟨a1, a2, a3, a4, a5, a6, a7, a8⟩ := lm_fW hR hW hj
    by_cases e0 : wp j = 0
    · refine ⟨0, Or.inl rfl, fun post hp => ?_, fun post hp => ?_⟩
      · simp +decide only [wpX_isActive, wpX_isWriterActive, a1, a2, a3, a4, a5, a6, a7, a8, e0, true_implies, false_implies, not_true_eq_false, not_false_eq_true, and_true, true_and, forall_eq, implies_true, lm_nb0, lm_nb1]; exact hp
      · simp +decide only [wpY_active, a1, a2, a3, a4, a5, a6, a7, a8, e0, true_implies, false_implies, not_true_eq_false, not_false_eq_true, and_true, true_and, forall_eq, implies_true, lm_nb0, lm_nb1]; exact hp
    · by_cases e6 : wp j = 8
      · refine ⟨0, Or.inl rfl, fun post hp => ?_, fun post hp => ?_⟩
        · simp +decide only [wpX_isActive, wpX_isWriterActive, a1, a2, a3, a4, a5, a6, a7, a8, e6, true_implies, false_implies, not_true_eq_false, not_false_eq_true, and_true, true_and, forall_eq, implies_true, lm_nb0, lm_nb1]; exact hp
        · simp +decide only [wpY_active, a1, a2, a3, a4, a5, a6, a7, a8, e6, true_implies, false_implies, not_true_eq_false, not_false_eq_true, and_true, true_and, forall_eq, implies_true, lm_nb0, lm_nb1]; exact hp
      · refine ⟨1, Or.inr rfl, fun post hp => ?_, fun post hp => ?_⟩
        · simp +decide only [wpX_isActive, wpX_isWriterActive, a1, a2, a3, a4, a5, a6, a7, a8, e0, e6, true_implies, false_implies, not_true_eq_false, not_false_eq_true, and_true, true_and, forall_eq, implies_true, lm_nb0, lm_nb1]; exact hp
        · simp +decide only [wpY_active, a1, a2, a3, a4, a5, a6, a7, a8, e0, e6, true_implies, false_implies, not_true_eq_false, not_false_eq_true, and_true, true_and, forall_eq, implies_true, lm_nb0, lm_nb1]; exact hp
theorem lm_next (hR : 1 ≤ R ∧ R ≤ 8) (hW : 1 ≤ Wn ∧ Wn ≤ 4) (hcu : cu < R + Wn) : ∀ d j, j + d = R + Wn → ∃ r : Int32, (r = -1 ∨ ∃ a, a < R + Wn ∧ r = nI a) ∧
    (∀ post : Int32 → Prop, post r → wX_nextActive_2 post (nI c) (nI R) (nI Wn) (nI lr) (nI ver) lock (nI cu) steps K V sz ind rp rk rr rv rs wp wkd wk wv wr wve ws (d + 1) (nI j)) ∧
    (∀ (post : Int32 → SY → Prop) (x2 x4 x5 : Int32) (n : Nat), wY_run_90 post (wY_run_37 post x2 (nI (R + Wn)) n) x2 (nI (R + Wn)) x4 x5 r (nI c) (nI R) (nI Wn) (nI lr) (nI ver) i0 i1 lock (nI cu) steps Kb Vb sz rp rk rr rv rs wp wkd wk wv wr wve ws →
      wY_run_49 post (wY_run_37 post x2 (nI (R + Wn)) n) x2 (nI (R + Wn)) x4 x5 (nI c) (nI R) (nI Wn) (nI lr) (nI ver) i0 i1 lock (nI cu) steps Kb Vb sz rp rk rr rv rs wp wkd wk wv wr wve ws (d + 1) (-1) (nI j)) := by
  intro d
  induction d with
  | zero =>
    intro j hj
    have h : nI R + nI Wn ≤ nI j := by rw [nI_add]; exact nI_le (by omega) (by omega)
    have h' : nI (R + Wn) ≤ nI j := nI_le (by omega) (by omega)
    exact ⟨-1, Or.inl rfl, fun post hp => br_t h hp, fun post x2 x4 x5 n hp => br_t h' hp⟩
  | succ d ih =>
    intro j hj
    have h : ¬ nI R + nI Wn ≤ nI j := by rw [nI_add]; exact nI_ge (by omega) (by omega)
    have h' : ¬ nI (R + Wn) ≤ nI j := nI_ge (by omega) (by omega)
    have ne : ¬ nI (R + Wn) = 0 := nI_ne0 (by omega) (by omega)
    have e : nI cu + nI j = nI (cu + j) := nI_add cu j
    have e' : (nI cu + nI j) - (nI cu + nI j) / nI (R + Wn) * nI (R + Wn) = nI ((cu + j) % (R + Wn)) := by
      rw [e]; exact pk_rem (by omega) (by omega) (by omega)
    have lt : (cu + j) % (R + Wn) < R + Wn := Nat.mod_lt _ (by omega)
    obtain ⟨b, hb, hx, hy⟩ := lm_act (c := c) (R := R) (Wn := Wn) (lr := lr) (ver := ver) (cu := cu) (lock := lock) (steps := steps) (ind := ind) (i0 := i0) (i1 := i1) (rp := rp) (rk := rk) (rr := rr) (rv := rv) (rs := rs) (wp := wp) (wkd := wkd) (wk := wk) (wv := wv) (wr := wr) (wve := wve) (ws := ws) (K := K) (V := V) (Kb := Kb) (Vb := Vb) (sz := sz) hR hW lt
    rcases hb with rfl | rfl
    · obtain ⟨r, hr, hX, hY⟩ := ih (j + 1) (by omega)
      refine ⟨r, hr, fun post hp => br_f h ?_, fun post x2 x4 x5 n hp => br_f h' (br_f lm_nn1 ⟨ne, nm_r e' (hy _ (br_t rfl (nm_r (nI_1 j) (hY post x2 x4 x5 n hp))))⟩)⟩
      rw [e]
      exact lx_wrap hR hW (by omega) _ (hx _ (br_t rfl (nm_r (nI_1 j) (hX post hp))))
    · have n10 : ¬ (1 : Int32) = 0 := by decide
      refine ⟨nI ((cu + j) % (R + Wn)), Or.inr ⟨_, lt, rfl⟩, fun post hp => br_f h ?_, fun post x2 x4 x5 n hp => br_f h' (br_f lm_nn1 ⟨ne, nm_r e' (hy _ (br_f n10 (nm_r (nI_1 j) ?_)))⟩)⟩
      · rw [e]
        exact lx_wrap hR hW (by omega) _ (hx _ (br_f n10 hp))
      · by_cases g : R + Wn ≤ j + 1
        · exact br_t (nI_le g (by omega)) hp
        · exact br_f (nI_ge (by omega) (by omega)) (br_t (nI_pos' (by omega)) hp)
def lm_XR (post : Int32 → SX → Prop) (x2 : Int32) (n : Nat) (x3 : Int32) (u : SX) : Prop := match u with
  | (f0, f1, f2, f3, f4, lock, f6, steps, K, V, sz, ind, rp, rk, rr, rv, rs, wp, wkd, wk, wv, wr, wve, ws) => wX_run_10 post x2 n x3 f0 f1 f2 f3 f4 lock f6 steps K V sz ind rp rk rr rv rs wp wkd wk wv wr wve ws
def lm_YR (post : Int32 → SY → Prop) (x2 x3 : Int32) (n : Nat) (x4 x5 : Int32) (v : SY) : Prop := match v with
  | (f0, f1, f2, f3, f4, i0, i1, lock, f6, steps, Kb, Vb, sz, rp, rk, rr, rv, rs, wp, wkd, wk, wv, wr, wve, ws) => wY_run_37 post x2 x3 n x4 x5 f0 f1 f2 f3 f4 i0 i1 lock f6 steps Kb Vb sz rp rk rr rv rs wp wkd wk wv wr wve ws
theorem lm_loop {m : Nat} (hm : m ≤ 64) : ∀ d i, i + d = m → ∀ (u : SX) (v : SY), lm_Rel R Wn u v →
    ∃ (r : Int32) (u' : SX) (v' : SY), lm_Rel R Wn u' v' ∧ (∀ post : Int32 → SX → Prop, post r u' → lm_XR post (nI m) (d + 1) (nI i) u) ∧
      (∀ post : Int32 → SY → Prop, post r v' → lm_YR post (nI m) (nI (R + Wn)) (d + 1) (nI i) (nI i) v) := by
  intro d
  induction d with
  | zero =>
    intro i hi u v I
    obtain ⟨c, lr, ver, cu, lock, steps, i0, i1, K, V, Kb, Vb, sz, ind, rp, rk, rr, rv, rs, wp, wkd, wk, wv, wr, wve, ws, rfl, rfl, F⟩ := I
    obtain rfl : i = m := by omega
    have h : nI i ≤ nI i := nI_le (Nat.le_refl i) (by omega)
    exact ⟨nI i, _, _, lm_mk F, fun post hp => br_t h hp, fun post hp => br_t h hp⟩
  | succ d ih =>
    intro i hi u v I
    obtain ⟨c, lr, ver, cu, lock, steps, i0, i1, K, V, Kb, Vb, sz, ind, rp, rk, rr, rv, rs, wp, wkd, wk, wv, wr, wve, ws, rfl, rfl, F⟩ := I
    have hR := F.2.1
    have hW := F.2.2.1
    have hcu := F.2.2.2.2.2.1
    have h : ¬ nI m ≤ nI i := nI_ge (by omega) (by omega)
    have ne : ¬ nI (R + Wn) = 0 := nI_ne0 (by omega) (by omega)
    obtain ⟨q, hq, hx, hy⟩ := lm_next (c := c) (R := R) (Wn := Wn) (lr := lr) (ver := ver) (cu := cu) (lock := lock) (steps := steps) (ind := ind) (i0 := i0) (i1 := i1) (rp := rp) (rk := rk) (rr := rr) (rv := rv) (rs := rs) (wp := wp) (wkd := wkd) (wk := wk) (wv := wv) (wr := wr) (wve := wve) (ws := ws) (K := K) (V := V) (Kb := Kb) (Vb := Vb) (sz := sz) hR hW hcu (R + Wn) 0 (by omega)
    rcases hq with rfl | ⟨a, ha, rfl⟩
    · exact ⟨nI i, _, _, lm_mk F, fun post hp => br_f h ⟨_, hx _ (br_t rfl hp)⟩, fun post hp => br_f h ⟨_, hy post _ _ _ _ (br_f lm_nn1 hp)⟩⟩
    · obtain ⟨r0, u1, v1, I1, hx1, hy1⟩ := lm_step (lm_mk F) (nI a)
      have na : ¬ nI a = -1 := lm_ne1 (by omega)
      have pa : 0 ≤ nI a := nI_pos' (by omega)
      have e' : (nI a + 1) - (nI a + 1) / nI (R + Wn) * nI (R + Wn) = nI ((a + 1) % (R + Wn)) := by
        rw [nI_1 a]; exact pk_rem (by omega) (by omega) (by omega)
      have lt : (a + 1) % (R + Wn) < R + Wn := Nat.mod_lt _ (by omega)
      obtain ⟨c, lr, ver, cu1, lock, steps, i0, i1, K, V, Kb, Vb, sz, ind, rp, rk, rr, rv, rs, wp, wkd, wk, wv, wr, wve, ws, rfl, rfl, F1⟩ := I1
      obtain ⟨g1, g2, g3, g4, g5, g6, g7, g8, g9, g10, g11⟩ := F1
      obtain ⟨r, u2, v2, I2, hX, hY⟩ := ih (i + 1) (by omega) _ _ (lm_mk (lock := lock) (steps := steps) (rk := rk) (rr := rr) (wk := wk) (wv := wv) (wr := wr) ⟨g1, g2, g3, g4, g5, lt, g7, g8, g9, g10, g11⟩)
      refine ⟨r, u2, v2, I2, fun post hp => br_f h ⟨_, hx _ (br_f na (hx1 _ ?_))⟩, fun post hp => br_f h ⟨_, hy post _ _ _ _ (br_t pa (hy1 _ (nm_r (nI_1 i) ⟨ne, nm_r e' (nm_r (nI_1 i) (hY post hp))⟩)))⟩⟩
      have z := lx_wrap (c := c) (R := R) (Wn := Wn) (lr := lr) (ver := ver) (cu := cu1) (lock := lock) (steps := steps) (ind := ind) (rp := rp) (rk := rk) (rr := rr) (rv := rv) (rs := rs) (wp := wp) (wkd := wkd) (wk := wk) (wv := wv) (wr := wr) (wve := wve) (ws := ws) (K := K) (V := V) (sz := sz) hR hW (a := a + 1) (by omega)
      rw [← nI_1 a] at z
      exact z _ (nm_r (nI_1 i) (hX post hp))
end LMN
theorem lm_cl (x : Int32) {L H : Int32} (lo hi : Nat) (eL : L = nI lo) (eH : H = nI hi) (h : lo ≤ hi) (hh : hi < 2 ^ 31) :
    ∃ c, lo ≤ c ∧ c ≤ hi ∧ ∀ P : Int32 → Prop, P (nI c) → ((L ≤ x → ((x ≤ H → P x) ∧ (¬ x ≤ H → P H))) ∧ (¬ L ≤ x → P L)) := by
  subst eL eH
  by_cases a : nI lo ≤ x
  · by_cases b : x ≤ nI hi
    · have p : ¬ x < 0 := Int32.not_lt.mpr (Int32.le_trans (nI_pos' (by omega)) a)
      obtain ⟨j, hj, rfl⟩ := nI_of p
      exact ⟨j, (nI_leI (by omega) hj).mp a, (nI_leI hj hh).mp b, fun P hp => br_t a (br_t b hp)⟩
    · exact ⟨hi, h, Nat.le_refl hi, fun P hp => br_t a (br_f b hp)⟩
  · exact ⟨lo, Nat.le_refl lo, h, fun P hp => br_f a hp⟩
theorem lm_run {R Wn : Nat} {u : SX} {v : SY} (I : lm_Rel R Wn u v) (a : Int32) : lm_G R Wn (fun post => wpX_run post u a) (fun post => wpY_run post v a) := by
  obtain ⟨m, hm0, hm, hc⟩ := lm_cl a (L := 0) (H := 64) 0 64 rfl rfl (by omega) (by omega)
  obtain ⟨r, u', v', I', hX, hY⟩ := lm_loop hm m 0 (by omega) u v I
  obtain ⟨c, lr, ver, cu, lock, steps, i0, i1, K, V, Kb, Vb, sz, ind, rp, rk, rr, rv, rs, wp, wkd, wk, wv, wr, wve, ws, rfl, rfl, F⟩ := I
  refine ⟨r, u', v', I', fun post hp => ?_, fun post hp => ?_⟩
  · exact hc (fun z => ∃ n10 : Nat, wX_run_10 post z n10 0 (nI c) (nI R) (nI Wn) (nI lr) (nI ver) lock (nI cu) steps K V sz ind rp rk rr rv rs wp wkd wk wv wr wve ws) ⟨m + 1, hX post hp⟩
  · exact hc (fun z => wY_run_20 post z (nI c) (nI R) (nI Wn) (nI lr) (nI ver) i0 i1 lock (nI cu) steps Kb Vb sz rp rk rr rv rs wp wkd wk wv wr wve ws) (nm_r (nI_add R Wn) ⟨m + 1, hY post hp⟩)
