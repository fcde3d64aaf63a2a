def lm_b (x : Int32) : Prop := ∃ j : Nat, j < 2 ∧ x = nI j
def lm_k (x : Int32) : Prop := x = 1 ∨ x = 2
def lm_rd (p v s : Int32) : Prop := p = 0 ∨ p = 6 ∨ p = 1 ∨ (p = 2 ∧ lm_b v) ∨ (p = 3 ∧ lm_b v) ∨ (p = 4 ∧ lm_b v ∧ lm_b s) ∨ (p = 5 ∧ lm_b v)
def lm_wr (p kd v s : Int32) : Prop := p = 0 ∨ p = 8 ∨ (p = 1 ∧ lm_k kd) ∨ (p = 2 ∧ lm_k kd) ∨ (p = 3 ∧ lm_k kd ∧ lm_b s) ∨ (p = 4 ∧ lm_k kd ∧ lm_b s) ∨
  (p = 5 ∧ lm_k kd ∧ lm_b s ∧ lm_b v) ∨ (p = 6 ∧ lm_k kd ∧ lm_b s ∧ lm_b v) ∨ (p = 7 ∧ lm_k kd ∧ lm_b s)
def lm_AR (rp rv rs : Nat → Int32) : Prop := ∀ i, i < 8 → lm_rd (rp i) (rv i) (rs i)
def lm_AW (wp wkd wve ws : Nat → Int32) : Prop := ∀ i, i < 4 → lm_wr (wp i) (wkd i) (wve i) (ws i)
theorem lm_ARu {rp rv rs rp1 rv1 rs1 : Nat → Int32} (i : Nat) (h : lm_AR rp rv rs)
    (o : ∀ j, ¬ j = i → rp1 j = rp j ∧ rv1 j = rv j ∧ rs1 j = rs j) (hi : lm_rd (rp1 i) (rv1 i) (rs1 i)) : lm_AR rp1 rv1 rs1 := by
  intro j hj
  by_cases c : j = i
  · rw [c]; exact hi
  · obtain ⟨a1, a2, a3⟩ := o j c
    rw [a1, a2, a3]; exact h j hj
theorem lm_AWu {wp wkd wve ws wp1 wkd1 wve1 ws1 : Nat → Int32} (i : Nat) (h : lm_AW wp wkd wve ws)
    (o : ∀ j, ¬ j = i → wp1 j = wp j ∧ wkd1 j = wkd j ∧ wve1 j = wve j ∧ ws1 j = ws j) (hi : lm_wr (wp1 i) (wkd1 i) (wve1 i) (ws1 i)) : lm_AW wp1 wkd1 wve1 ws1 := by
  intro j hj
  by_cases c : j = i
  · rw [c]; exact hi
  · obtain ⟨a1, a2, a3, a4⟩ := o j c
    rw [a1, a2, a3, a4]; exact h j hj
def lm_F (c R Wn lr ver cu : Nat) (i0 i1 : Int32) (K V Kb Vb sz ind rp rv rs wp wkd wve ws : Nat → Int32) : Prop :=
  (4 ≤ c ∧ c ≤ 16) ∧ (1 ≤ R ∧ R ≤ 8) ∧ (1 ≤ Wn ∧ Wn ≤ 4) ∧ lr < 2 ∧ ver < 2 ∧ cu < R + Wn ∧ ind 0 = i0 ∧ ind 1 = i1 ∧
  lm_D K V Kb Vb sz ∧ lm_AR rp rv rs ∧ lm_AW wp wkd wve ws
def lm_Rel (R Wn : Nat) (u : SX) (v : SY) : Prop :=
  ∃ (c lr ver cu : Nat) (lock steps i0 i1 : Int32) (K V Kb Vb sz ind rp rk rr rv rs wp wkd wk wv wr wve ws : Nat → Int32),
    u = (nI c, nI R, nI Wn, nI lr, nI ver, lock, nI cu, steps, K, V, sz, ind, rp, rk, rr, rv, rs, wp, wkd, wk, wv, wr, wve, ws) ∧ v = (nI c, nI R, nI Wn, nI lr, nI ver, i0, i1, lock, nI cu, steps, Kb, Vb, sz, rp, rk, rr, rv, rs, wp, wkd, wk, wv, wr, wve, ws) ∧ lm_F c R Wn lr ver cu i0 i1 K V Kb Vb sz ind rp rv rs wp wkd wve ws
theorem lm_mk {c R Wn lr ver cu : Nat} {lock steps i0 i1 : Int32} {K V Kb Vb sz ind rp rk rr rv rs wp wkd wk wv wr wve ws : Nat → Int32}
    (h : lm_F c R Wn lr ver cu i0 i1 K V Kb Vb sz ind rp rv rs wp wkd wve ws) : lm_Rel R Wn (nI c, nI R, nI Wn, nI lr, nI ver, lock, nI cu, steps, K, V, sz, ind, rp, rk, rr, rv, rs, wp, wkd, wk, wv, wr, wve, ws) (nI c, nI R, nI Wn, nI lr, nI ver, i0, i1, lock, nI cu, steps, Kb, Vb, sz, rp, rk, rr, rv, rs, wp, wkd, wk, wv, wr, wve, ws) :=
  ⟨c, lr, ver, cu, lock, steps, i0, i1, K, V, Kb, Vb, sz, ind, rp, rk, rr, rv, rs, wp, wkd, wk, wv, wr, wve, ws, rfl, rfl, h⟩
def i_Rel (_ : Nat) (u : SX) (v : SY) : Prop := ∃ R Wn : Nat, lm_Rel R Wn u v
theorem i_up {k : Nat} {u : SX} {v : SY} (h : i_Rel k u v) : i_Rel (k + 4) u v := h
def lm_G (R Wn : Nat) (PX : (Int32 → SX → Prop) → Prop) (PY : (Int32 → SY → Prop) → Prop) : Prop :=
  ∃ (r : Int32) (u : SX) (v : SY), lm_Rel R Wn u v ∧ (∀ post, post r u → PX post) ∧ (∀ post, post r v → PY post)
theorem lm_g {R Wn : Nat} {PX : (Int32 → SX → Prop) → Prop} {PY : (Int32 → SY → Prop) → Prop} {r : Int32} {u : SX} {v : SY}
    (hX : ∀ post : Int32 → SX → Prop, post r u → PX post) (hY : ∀ post : Int32 → SY → Prop, post r v → PY post) (h : lm_Rel R Wn u v) : lm_G R Wn PX PY :=
  ⟨r, u, v, h, hX, hY⟩
