theorem i_vc0 (k0 : Int32) (k1 : Int32) (k2 : Int32) : wpX_init (fun u => wpY_init (fun v => i_Rel 3 u v) k0 k1 k2) k0 k1 k2 := by
  obtain ⟨R, Wn, u, v, h, hx, hy⟩ := lm_init k0 k1 k2
  exact hx _ (hy _ ⟨R, Wn, h⟩)
theorem i_vc_startLookup {k : Nat} {u : SX} {v : SY} (I : i_Rel k u v) (hk : k + 4 ≤ 2051) (v1 : Int32) (v2 : Int32) : wpX_startLookup (fun r u' => wpY_startLookup (fun r' v' => r' = r ∧ i_Rel (k + 4) u' v') v v1 v2) u v1 v2 := by
  obtain ⟨R, Wn, J⟩ := I
  obtain ⟨r, u1, w1, h, hx, hy⟩ := lm_startLookup J v1 v2
  exact hx _ (hy _ ⟨rfl, R, Wn, h⟩)
theorem i_vc_startPut {k : Nat} {u : SX} {v : SY} (I : i_Rel k u v) (hk : k + 4 ≤ 2051) (v1 : Int32) (v2 : Int32) (v3 : Int32) : wpX_startPut (fun r u' => wpY_startPut (fun r' v' => r' = r ∧ i_Rel (k + 4) u' v') v v1 v2 v3) u v1 v2 v3 := by
  obtain ⟨R, Wn, J⟩ := I
  obtain ⟨r, u1, w1, h, hx, hy⟩ := lm_startPut J v1 v2 v3
  exact hx _ (hy _ ⟨rfl, R, Wn, h⟩)
theorem i_vc_startRemove {k : Nat} {u : SX} {v : SY} (I : i_Rel k u v) (hk : k + 4 ≤ 2051) (v1 : Int32) (v2 : Int32) : wpX_startRemove (fun r u' => wpY_startRemove (fun r' v' => r' = r ∧ i_Rel (k + 4) u' v') v v1 v2) u v1 v2 := by
  obtain ⟨R, Wn, J⟩ := I
  obtain ⟨r, u1, w1, h, hx, hy⟩ := lm_startRemove J v1 v2
  exact hx _ (hy _ ⟨rfl, R, Wn, h⟩)
theorem i_vc_step {k : Nat} {u : SX} {v : SY} (I : i_Rel k u v) (hk : k + 4 ≤ 2051) (v1 : Int32) : wpX_step (fun r u' => wpY_step (fun r' v' => r' = r ∧ i_Rel (k + 4) u' v') v v1) u v1 := by
  obtain ⟨R, Wn, J⟩ := I
  obtain ⟨r, u1, w1, h, hx, hy⟩ := lm_step J v1
  exact hx _ (hy _ ⟨rfl, R, Wn, h⟩)
theorem i_vc_run {k : Nat} {u : SX} {v : SY} (I : i_Rel k u v) (hk : k + 4 ≤ 2051) (v1 : Int32) : wpX_run (fun r u' => wpY_run (fun r' v' => r' = r ∧ i_Rel (k + 4) u' v') v v1) u v1 := by
  obtain ⟨R, Wn, J⟩ := I
  obtain ⟨r, u1, w1, h, hx, hy⟩ := lm_run J v1
  exact hx _ (hy _ ⟨rfl, R, Wn, h⟩)
theorem i_vc_peek {k : Nat} {u : SX} {v : SY} (I : i_Rel k u v) (hk : k + 4 ≤ 2051) (v1 : Int32) : wpX_peek (fun r => wpY_peek (fun r' => r' = r ∧ i_Rel (k + 4) u v) v v1) u v1 := by
  obtain ⟨R, Wn, J⟩ := I
  obtain ⟨r, hx, hy⟩ := lm_peek J v1
  exact hx _ (hy _ ⟨rfl, R, Wn, J⟩)
theorem i_vc_instance {k : Nat} {u : SX} {v : SY} (I : i_Rel k u v) (hk : k + 4 ≤ 2051) (v1 : Int32) (v2 : Int32) : wpX_instance (fun r => wpY_instance (fun r' => r' = r ∧ i_Rel (k + 4) u v) v v1 v2) u v1 v2 := by
  obtain ⟨R, Wn, J⟩ := I
  obtain ⟨r, hx, hy⟩ := lm_inst J v1 v2
  exact hx _ (hy _ ⟨rfl, R, Wn, J⟩)
theorem i_vc_reader {k : Nat} {u : SX} {v : SY} (I : i_Rel k u v) (hk : k + 4 ≤ 2051) (v1 : Int32) (v2 : Int32) : wpX_reader (fun r => wpY_reader (fun r' => r' = r ∧ i_Rel (k + 4) u v) v v1 v2) u v1 v2 := by
  obtain ⟨R, Wn, J⟩ := I
  obtain ⟨r, hx, hy⟩ := lm_reader J v1 v2
  exact hx _ (hy _ ⟨rfl, R, Wn, J⟩)
theorem i_vc_writer {k : Nat} {u : SX} {v : SY} (I : i_Rel k u v) (hk : k + 4 ≤ 2051) (v1 : Int32) (v2 : Int32) : wpX_writer (fun r => wpY_writer (fun r' => r' = r ∧ i_Rel (k + 4) u v) v v1 v2) u v1 v2 := by
  obtain ⟨R, Wn, J⟩ := I
  obtain ⟨r, hx, hy⟩ := lm_writer J v1 v2
  exact hx _ (hy _ ⟨rfl, R, Wn, J⟩)
theorem i_vc_global {k : Nat} {u : SX} {v : SY} (I : i_Rel k u v) (hk : k + 4 ≤ 2051) (v1 : Int32) : wpX_global (fun r => wpY_global (fun r' => r' = r ∧ i_Rel (k + 4) u v) v v1) u v1 := by
  obtain ⟨R, Wn, J⟩ := I
  obtain ⟨r, hx, hy⟩ := lm_global J v1
  exact hx _ (hy _ ⟨rfl, R, Wn, J⟩)
