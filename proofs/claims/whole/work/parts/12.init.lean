def lm_fl (v : Int32) : Nat → Nat → Int32
  | 0 => fun _ => 0
  | n + 1 => upd (lm_fl v n) n v
theorem lm_fl0 (v : Int32) (n i : Nat) (h : i < n) : lm_fl v n i = v := by
  induction n with
  | zero => omega
  | succ n ih =>
    show upd (lm_fl v n) n v i = v
    by_cases e : i = n
    · rw [e]; exact pk_us
    · rw [pk_un e]; exact ih (by omega)
section LMI
variable {c R Wn lr ver cu : Nat} {lock steps i0 i1 : Int32} {K V Kb Vb sz ind rp rk rr rv rs wp wkd wk wv wr wve ws : Nat → Int32}
theorem lx_i2 (post : SX → Prop) : ∀ d j, j + d = 4 → post (nI c, nI R, nI Wn, nI lr, nI ver, lock, nI cu, steps, K, V, sz, ind, rp, rk, rr, rv, rs, lm_fl 0 4, lm_fl 0 4, lm_fl (-1) 4, lm_fl (-1) 4, lm_fl (-3) 4, lm_fl (-1) 4, lm_fl (-1) 4) →
    wX_init_207 post (d + 1) (nI j) (nI c) (nI R) (nI Wn) (nI lr) (nI ver) lock (nI cu) steps K V sz ind rp rk rr rv rs (lm_fl 0 j) (lm_fl 0 j) (lm_fl (-1) j) (lm_fl (-1) j) (lm_fl (-3) j) (lm_fl (-1) j) (lm_fl (-1) j) := by
  intro d
  induction d with
  | zero =>
    intro j hj hp
    obtain rfl : j = 4 := by omega
    exact br_t (by decide +kernel) hp
  | succ d ih =>
    intro j hj hp
    have z := ih (j + 1) (by omega) hp
    have h : ¬ (4 : Int32) ≤ nI j := nI_ge (b := 4) (by omega) (by decide)
    have hi : vp_in (nI j) 4 := vp_in_nI (by omega) (by omega)
    have hc : (nI j).toNatClampNeg = j := nI_clamp (by omega)
    have e4 : nI j + 1 = nI (j + 1) := nI_1 j
    generalize d + 1 = m at z ⊢
    simp +decide only [wX_init_207, wpX_setWriter, h, hi, hc, e4, true_implies, false_implies, not_true_eq_false, not_false_eq_true, and_true, true_and, forall_eq, implies_true, lm_nb0, lm_nb1]
    exact z
theorem lx_i1 (post : SX → Prop) : ∀ d j, j + d = 8 →
    (∃ n : Nat, wX_init_207 post n 0 (nI c) (nI R) (nI Wn) (nI lr) (nI ver) lock (nI cu) steps K V sz ind (lm_fl 0 8) (lm_fl (-1) 8) (lm_fl (-3) 8) (lm_fl (-1) 8) (lm_fl (-1) 8) wp wkd wk wv wr wve ws) →
    wX_init_183 post (d + 1) (nI j) (nI c) (nI R) (nI Wn) (nI lr) (nI ver) lock (nI cu) steps K V sz ind (lm_fl 0 j) (lm_fl (-1) j) (lm_fl (-3) j) (lm_fl (-1) j) (lm_fl (-1) j) wp wkd wk wv wr wve ws := by
  intro d
  induction d with
  | zero =>
    intro j hj hp
    obtain rfl : j = 8 := by omega
    exact br_t (by decide +kernel) hp
  | succ d ih =>
    intro j hj hp
    have z := ih (j + 1) (by omega) hp
    have h : ¬ (8 : Int32) ≤ nI j := nI_ge (b := 8) (by omega) (by decide)
    have hi : vp_in (nI j) 8 := vp_in_nI (by omega) (by omega)
    have hc : (nI j).toNatClampNeg = j := nI_clamp (by omega)
    have e4 : nI j + 1 = nI (j + 1) := nI_1 j
    generalize d + 1 = m at z ⊢
    simp +decide only [wX_init_183, wpX_setReader, h, hi, hc, e4, true_implies, false_implies, not_true_eq_false, not_false_eq_true, and_true, true_and, forall_eq, implies_true, lm_nb0, lm_nb1]
    exact z
theorem ly_i2 (post : SY → Prop) : ∀ d j, j + d = 4 → post (nI c, nI R, nI Wn, nI lr, nI ver, i0, i1, lock, nI cu, steps, Kb, Vb, sz, rp, rk, rr, rv, rs, lm_fl 0 4, lm_fl 0 4, lm_fl (-1) 4, lm_fl (-1) 4, lm_fl (-3) 4, lm_fl (-1) 4, lm_fl (-1) 4) →
    wY_init_284 post (nI c) (nI R) (nI Wn) (nI lr) (nI ver) i0 i1 lock (nI cu) steps (d + 1) (nI j) Kb Vb sz rp rk rr rv rs (lm_fl 0 j) (lm_fl 0 j) (lm_fl (-1) j) (lm_fl (-1) j) (lm_fl (-3) j) (lm_fl (-1) j) (lm_fl (-1) j) := by
  intro d
  induction d with
  | zero =>
    intro j hj hp
    obtain rfl : j = 4 := by omega
    exact br_t (by decide +kernel) hp
  | succ d ih =>
    intro j hj hp
    have z := ih (j + 1) (by omega) hp
    have h : ¬ (4 : Int32) ≤ nI j := nI_ge (b := 4) (by omega) (by decide)
    have hi : vp_in (nI j) 4 := vp_in_nI (by omega) (by omega)
    have hc : (nI j).toNatClampNeg = j := nI_clamp (by omega)
    have e4 : nI j + 1 = nI (j + 1) := nI_1 j
    generalize d + 1 = m at z ⊢
    simp +decide only [wY_init_284, h, hi, hc, e4, true_implies, false_implies, not_true_eq_false, not_false_eq_true, and_true, true_and, forall_eq, implies_true, lm_nb0, lm_nb1]
    exact z
theorem ly_i1 (post : SY → Prop) : ∀ d j, j + d = 8 →
    (∃ n : Nat, wY_init_284 post (nI c) (nI R) (nI Wn) (nI lr) (nI ver) i0 i1 lock (nI cu) steps n 0 Kb Vb sz (lm_fl 0 8) (lm_fl (-1) 8) (lm_fl (-3) 8) (lm_fl (-1) 8) (lm_fl (-1) 8) wp wkd wk wv wr wve ws) →
    wY_init_227 post (nI c) (nI R) (nI Wn) (nI lr) (nI ver) i0 i1 lock (nI cu) steps (d + 1) (nI j) Kb Vb sz (lm_fl 0 j) (lm_fl (-1) j) (lm_fl (-3) j) (lm_fl (-1) j) (lm_fl (-1) j) wp wkd wk wv wr wve ws := by
  intro d
  induction d with
  | zero =>
    intro j hj hp
    obtain rfl : j = 8 := by omega
    exact br_t (by decide +kernel) hp
  | succ d ih =>
    intro j hj hp
    have z := ih (j + 1) (by omega) hp
    have h : ¬ (8 : Int32) ≤ nI j := nI_ge (b := 8) (by omega) (by decide)
    have hi : vp_in (nI j) 8 := vp_in_nI (by omega) (by omega)
    have hc : (nI j).toNatClampNeg = j := nI_clamp (by omega)
    have e4 : nI j + 1 = nI (j + 1) := nI_1 j
    generalize d + 1 = m at z ⊢
    simp +decide only [wY_init_227, h, hi, hc, e4, true_implies, false_implies, not_true_eq_false, not_false_eq_true, and_true, true_and, forall_eq, implies_true, lm_nb0, lm_nb1]
    exact z
end LMI
theorem lm_init (k0 k1 k2 : Int32) : ∃ (R Wn : Nat) (u : SX) (v : SY), lm_Rel R Wn u v ∧ (∀ post : SX → Prop, post u → wpX_init post k0 k1 k2) ∧
    (∀ post : SY → Prop, post v → wpY_init post k0 k1 k2) := by
  obtain ⟨c, hc1, hc2, hc⟩ := lm_cl k0 (L := 4) (H := 16) 4 16 rfl rfl (by omega) (by omega)
  obtain ⟨R, hr1, hr2, hr⟩ := lm_cl k1 (L := 1) (H := 8) 1 8 rfl rfl (by omega) (by omega)
  obtain ⟨Wn, hw1, hw2, hw⟩ := lm_cl k2 (L := 1) (H := 4) 1 4 rfl rfl (by omega) (by omega)
  have F : lm_F c R Wn 0 0 0 0 0 (fun _ => 0) (fun _ => 0) (fun _ => 0) (fun _ => 0) (fun _ => 0) (fun _ => 0) (lm_fl 0 8) (lm_fl (-1) 8) (lm_fl (-1) 8)
      (lm_fl 0 4) (lm_fl 0 4) (lm_fl (-1) 4) (lm_fl (-1) 4) :=
    ⟨⟨hc1, hc2⟩, ⟨hr1, hr2⟩, ⟨hw1, hw2⟩, by omega, by omega, by omega, rfl, rfl,
      fun s _ => ⟨fun _ => none, 0, by omega, nI_0.symm, lm_0 _ _ _, lm_0 _ _ _⟩,
      fun i hi => Or.inl (lm_fl0 0 8 i hi), fun i hi => Or.inl (lm_fl0 0 4 i hi)⟩
  refine ⟨R, Wn, _, _, lm_mk (lock := -1) (steps := 0) (rk := lm_fl (-1) 8) (rr := lm_fl (-3) 8) (wk := lm_fl (-1) 4) (wv := lm_fl (-1) 4) (wr := lm_fl (-3) 4) F,
    fun post hp => ?_, fun post hp => ?_⟩
  · refine hc (fun z => wpX_clamp (fun r_2 => (wpX_clamp (fun r_3 => (∃ n183 : Nat, wX_init_183 post n183 0 z r_2 r_3 0 0 (-1) 0 0 (fun _ => 0) (fun _ => 0) (fun _ => 0) (fun _ => 0) (fun _ => 0) (fun _ => 0) (fun _ => 0) (fun _ => 0) (fun _ => 0) (fun _ => 0) (fun _ => 0) (fun _ => 0) (fun _ => 0) (fun _ => 0) (fun _ => 0) (fun _ => 0))) k2 1 4)) k1 1 8) ?_
    refine hr (fun z => wpX_clamp (fun r_3 => (∃ n183 : Nat, wX_init_183 post n183 0 (nI c) z r_3 0 0 (-1) 0 0 (fun _ => 0) (fun _ => 0) (fun _ => 0) (fun _ => 0) (fun _ => 0) (fun _ => 0) (fun _ => 0) (fun _ => 0) (fun _ => 0) (fun _ => 0) (fun _ => 0) (fun _ => 0) (fun _ => 0) (fun _ => 0) (fun _ => 0) (fun _ => 0))) k2 1 4) ?_
    refine hw (fun z => ∃ n183 : Nat, wX_init_183 post n183 0 (nI c) (nI R) z 0 0 (-1) 0 0 (fun _ => 0) (fun _ => 0) (fun _ => 0) (fun _ => 0) (fun _ => 0) (fun _ => 0) (fun _ => 0) (fun _ => 0) (fun _ => 0) (fun _ => 0) (fun _ => 0) (fun _ => 0) (fun _ => 0) (fun _ => 0) (fun _ => 0) (fun _ => 0)) ?_
    exact ⟨9, lx_i1 (c := c) (R := R) (Wn := Wn) (lr := 0) (ver := 0) (cu := 0) (lock := -1) (steps := 0) post 8 0 rfl ⟨5, lx_i2 (c := c) (R := R) (Wn := Wn) (lr := 0) (ver := 0) (cu := 0) (lock := -1) (steps := 0) post 4 0 rfl hp⟩⟩
  · refine hc (fun z => wY_init_173 post k1 k2 z 0 0 0 0 0 0 0 (-1) 0 0 (fun _ => 0) (fun _ => 0) (fun _ => 0) (fun _ => 0) (fun _ => 0) (fun _ => 0) (fun _ => 0) (fun _ => 0) (fun _ => 0) (fun _ => 0) (fun _ => 0) (fun _ => 0) (fun _ => 0) (fun _ => 0) (fun _ => 0)) ?_
    refine hr (fun z => wY_init_198 post k2 z (nI c) 0 0 0 0 0 0 (-1) 0 0 (fun _ => 0) (fun _ => 0) (fun _ => 0) (fun _ => 0) (fun _ => 0) (fun _ => 0) (fun _ => 0) (fun _ => 0) (fun _ => 0) (fun _ => 0) (fun _ => 0) (fun _ => 0) (fun _ => 0) (fun _ => 0) (fun _ => 0)) ?_
    refine hw (fun z => ∃ n227 : Nat, wY_init_227 post (nI c) (nI R) z 0 0 0 0 (-1) 0 0 n227 0 (fun _ => 0) (fun _ => 0) (fun _ => 0) (fun _ => 0) (fun _ => 0) (fun _ => 0) (fun _ => 0) (fun _ => 0) (fun _ => 0) (fun _ => 0) (fun _ => 0) (fun _ => 0) (fun _ => 0) (fun _ => 0) (fun _ => 0)) ?_
    exact ⟨9, ly_i1 (c := c) (R := R) (Wn := Wn) (lr := 0) (ver := 0) (cu := 0) (lock := -1) (steps := 0) (i0 := 0) (i1 := 0) post 8 0 rfl ⟨5, ly_i2 (c := c) (R := R) (Wn := Wn) (lr := 0) (ver := 0) (cu := 0) (lock := -1) (steps := 0) (i0 := 0) (i1 := 0) post 4 0 rfl hp⟩⟩
