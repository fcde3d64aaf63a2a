theorem lm_fR {j R Wn : Nat} (hR : 1 ≤ R ∧ R ≤ 8) (hW : 1 ≤ Wn ∧ Wn ≤ 4) (hj : j < R) : ¬ nI j < 0 ∧ nI j < nI R + nI Wn ∧ ¬ nI R + nI Wn ≤ nI j ∧
    nI j < nI R ∧ ¬ nI R ≤ nI j ∧ vp_in (nI j) 8 ∧ (nI j).toNatClampNeg = j := by
  rw [nI_add]
  exact ⟨nI_pos (by omega), nI_lt (by omega) (by omega), nI_ge (by omega) (by omega), nI_lt (by omega) (by omega), nI_ge (by omega) (by omega),
    vp_in_nI (by omega) (by omega), nI_clamp (by omega)⟩
theorem lm_fW {j R Wn : Nat} (hR : 1 ≤ R ∧ R ≤ 8) (hW : 1 ≤ Wn ∧ Wn ≤ 4) (hj : j < Wn) : ¬ nI (R + j) < 0 ∧ nI (R + j) < nI R + nI Wn ∧ ¬ nI R + nI Wn ≤ nI (R + j) ∧
    ¬ nI (R + j) < nI R ∧ nI R ≤ nI (R + j) ∧ nI (R + j) - nI R = nI j ∧ vp_in (nI j) 4 ∧ (nI j).toNatClampNeg = j := by
  refine ⟨nI_pos (by omega), ?_, ?_, nI_nlt (by omega) (by omega), nI_le (by omega) (by omega), ?_, vp_in_nI (by omega) (by omega), nI_clamp (by omega)⟩
  · rw [nI_add]; exact nI_lt (by omega) (by omega)
  · rw [nI_add]; exact nI_ge (by omega) (by omega)
  · rw [pk_sub (by omega)]; exact congrArg nI (by omega)
theorem lm_ag (a : Int32) {R Wn : Nat} (hR : 1 ≤ R ∧ R ≤ 8) (hW : 1 ≤ Wn ∧ Wn ≤ 4) :
    a < 0 ∨ (¬ a < 0 ∧ ¬ a < nI R + nI Wn ∧ nI R + nI Wn ≤ a) ∨ (∃ j, j < R ∧ a = nI j) ∨ (∃ j, j < Wn ∧ a = nI (R + j)) := by
  by_cases h : a < 0
  · exact Or.inl h
  · obtain ⟨j, hj, rfl⟩ := nI_of h
    by_cases h1 : j < R
    · exact Or.inr (Or.inr (Or.inl ⟨j, h1, rfl⟩))
    · by_cases h2 : j < R + Wn
      · exact Or.inr (Or.inr (Or.inr ⟨j - R, by omega, congrArg nI (by omega)⟩))
      · refine Or.inr (Or.inl ⟨h, ?_, ?_⟩)
        · rw [nI_add]; exact nI_nlt (by omega) hj
        · rw [nI_add]; exact nI_le (by omega) hj
theorem lm_rd1 {p v s : Int32} (h : p = 1) : lm_rd p v s := Or.inr (Or.inr (Or.inl h))
theorem lm_rd2 {p v s : Int32} (h : p = 2) (b : lm_b v) : lm_rd p v s := Or.inr (Or.inr (Or.inr (Or.inl ⟨h, b⟩)))
theorem lm_rd3 {p v s : Int32} (h : p = 3) (b : lm_b v) : lm_rd p v s := Or.inr (Or.inr (Or.inr (Or.inr (Or.inl ⟨h, b⟩))))
theorem lm_rd4 {p v s : Int32} (h : p = 4) (b : lm_b v) (b' : lm_b s) : lm_rd p v s := Or.inr (Or.inr (Or.inr (Or.inr (Or.inr (Or.inl ⟨h, b, b'⟩)))))
theorem lm_rd5 {p v s : Int32} (h : p = 5) (b : lm_b v) : lm_rd p v s := Or.inr (Or.inr (Or.inr (Or.inr (Or.inr (Or.inr ⟨h, b⟩)))))
theorem lm_rd6 {p v s : Int32} (h : p = 6) : lm_rd p v s := Or.inr (Or.inl h)
theorem lm_wr1 {p kd v s : Int32} (h : p = 1) (k : lm_k kd) : lm_wr p kd v s := Or.inr (Or.inr (Or.inl ⟨h, k⟩))
theorem lm_wr2 {p kd v s : Int32} (h : p = 2) (k : lm_k kd) : lm_wr p kd v s := Or.inr (Or.inr (Or.inr (Or.inl ⟨h, k⟩)))
theorem lm_wr3 {p kd v s : Int32} (h : p = 3) (k : lm_k kd) (b : lm_b s) : lm_wr p kd v s := Or.inr (Or.inr (Or.inr (Or.inr (Or.inl ⟨h, k, b⟩))))
theorem lm_wr4 {p kd v s : Int32} (h : p = 4) (k : lm_k kd) (b : lm_b s) : lm_wr p kd v s := Or.inr (Or.inr (Or.inr (Or.inr (Or.inr (Or.inl ⟨h, k, b⟩)))))
theorem lm_wr5 {p kd v s : Int32} (h : p = 5) (k : lm_k kd) (b : lm_b s) (b' : lm_b v) : lm_wr p kd v s := Or.inr (Or.inr (Or.inr (Or.inr (Or.inr (Or.inr (Or.inl ⟨h, k, b, b'⟩))))))
theorem lm_wr6 {p kd v s : Int32} (h : p = 6) (k : lm_k kd) (b : lm_b s) (b' : lm_b v) : lm_wr p kd v s := Or.inr (Or.inr (Or.inr (Or.inr (Or.inr (Or.inr (Or.inr (Or.inl ⟨h, k, b, b'⟩)))))))
theorem lm_wr7 {p kd v s : Int32} (h : p = 7) (k : lm_k kd) (b : lm_b s) : lm_wr p kd v s := Or.inr (Or.inr (Or.inr (Or.inr (Or.inr (Or.inr (Or.inr (Or.inr ⟨h, k, b⟩)))))))
theorem lm_wr8 {p kd v s : Int32} (h : p = 8) : lm_wr p kd v s := Or.inr (Or.inl h)
theorem lm_c0 : (nI 0).toNatClampNeg = 0 := nI_clamp (by decide)
theorem lm_c1 : (nI 1).toNatClampNeg = 1 := nI_clamp (by decide)
theorem lm_i0 : vp_in (nI 0) 2 := vp_in_nI (by decide) (by decide)
theorem lm_i1 : vp_in (nI 1) 2 := vp_in_nI (by decide) (by decide)
theorem lm_e0 : (nI 0 = 0) = True := eq_true nI_0
theorem lm_e1 : (nI 1 = 0) = False := eq_false (nI_ne0 (by decide) (by decide))
theorem lm_f1 : (nI 1 = 1) = True := eq_true (by decide +kernel)
section LMA
variable {c R Wn lr ver cu : Nat} {lock steps i0 i1 : Int32} {K V Kb Vb sz ind rp rk rr rv rs wp wkd wk wv wr wve ws : Nat → Int32}
theorem ly_ind (h0 : ind 0 = i0) (h1 : ind 1 = i1) {t : Nat} (ht : t < 2) {post : Int32 → Prop} (hp : post (ind t)) : wpY_ind post (nI c, nI R, nI Wn, nI lr, nI ver, i0, i1, lock, nI cu, steps, Kb, Vb, sz, rp, rk, rr, rv, rs, wp, wkd, wk, wv, wr, wve, ws) (nI t) := by
  have ht2 : t = 0 ∨ t = 1 := by omega
  rcases ht2 with rfl | rfl
  · simp +decide only [wpY_ind, lm_e0, true_implies, false_implies, not_true_eq_false, not_false_eq_true, and_true, true_and, forall_eq, implies_true, lm_nb0, lm_nb1]; rw [← h0]; exact hp
  · simp +decide only [wpY_ind, lm_e1, true_implies, false_implies, not_true_eq_false, not_false_eq_true, and_true, true_and, forall_eq, implies_true, lm_nb0, lm_nb1]; rw [← h1]; exact hp
end LMA
