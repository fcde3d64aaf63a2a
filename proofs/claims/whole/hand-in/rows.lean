section
theorem pk_us {f : Nat → Int32} {k : Nat} {x : Int32} : upd f k x k = x := if_pos rfl
theorem pk_un {f : Nat → Int32} {k j : Nat} {x : Int32} (h : j ≠ k) : upd f k x j = f j := if_neg h
theorem pk_sub {a b : Nat} (h : b ≤ a) : nI a - nI b = nI (a - b) := by
  obtain ⟨c, rfl⟩ : ∃ c, a = c + b := ⟨a - b, by omega⟩
  rw [← nI_add, Int32.add_sub_cancel, Nat.add_sub_cancel]
theorem pk_m1 (n : Nat) : nI (n + 1) + (-1) = nI n := by
  rw [← nI_1, Int32.add_assoc, show (1 : Int32) + (-1) = 0 from rfl, Int32.add_zero]
theorem pk_mul (a b : Nat) : nI a * nI b = nI (a * b) := (Int32.ofNat_mul a b).symm
theorem pk_div {a d : Nat} (ha : a < 2 ^ 31) (h0 : 0 < d) (hd : d < 2 ^ 31) : nI a / nI d = nI (a / d) := by
  apply Int32.toInt_inj.mp
  rw [lg_idiv_nonneg (by rw [nI_toInt ha]; omega) (by rw [nI_toInt hd]; omega), nI_toInt ha, nI_toInt hd, nI_toInt (Nat.lt_of_le_of_lt (Nat.div_le_self a d) ha)]
  first | rfl | exact (Int.natCast_ediv _ _).symm
theorem pk_rem {a d : Nat} (ha : a < 2 ^ 31) (h0 : 0 < d) (hd : d < 2 ^ 31) : nI a - nI a / nI d * nI d = nI (a % d) := by
  rw [pk_div ha h0 hd, pk_mul, pk_sub (Nat.div_mul_le_self a d)]
  exact congrArg nI (by have := Nat.div_add_mod' a d; omega)
theorem pk_le {x y : Int32} {A B : Prop} (a b : Nat) (f : a ≤ b → A) (g : b < a → B) (hx : x = nI a := by rfl) (hy : y = nI b := by rfl) (ha : a < 2 ^ 31 := by omega) (hb : b < 2 ^ 31 := by omega) : (x ≤ y → A) ∧ (¬ x ≤ y → B) := by
  subst hx hy
  rw [nI_leI ha hb]
  exact ⟨f, fun z => g (by omega)⟩
theorem pk_lt {x y : Int32} {A B : Prop} (a b : Nat) (f : a < b → A) (g : b ≤ a → B) (hx : x = nI a := by rfl) (hy : y = nI b := by rfl) (ha : a < 2 ^ 31 := by omega) (hb : b < 2 ^ 31 := by omega) : (x < y → A) ∧ (¬ x < y → B) := by
  subst hx hy
  rw [nI_ltI ha hb]
  exact ⟨f, fun z => g (by omega)⟩
theorem pk_eq {x y : Int32} {A B : Prop} (a b : Nat) (f : a = b → A) (g : a ≠ b → B) (hx : x = nI a := by rfl) (hy : y = nI b := by rfl) (ha : a < 2 ^ 31 := by omega) (hb : b < 2 ^ 31 := by omega) : (x = y → A) ∧ (¬ x = y → B) := by
  subst hx hy
  rw [nI_eq ha hb]
  exact ⟨f, g⟩
theorem pk_in {x : Int32} (n N : Nat) (h : n < N) (hx : x = nI n := by rfl) (hN : N < 2 ^ 31 := by omega) : vp_in x N := by
  subst hx
  exact vp_in_nI h hN
theorem pk_cl {x : Int32} (n : Nat) (hx : x = nI n := by rfl) (h : n < 2 ^ 31 := by omega) : x.toNatClampNeg = n := by
  subst hx
  exact nI_clamp h

theorem lm_16 (s : Nat) : nI s * 16 = nI (s * 16) := pk_mul s 16
theorem lm_1s {j : Nat} (h : j < 2) : (1 : Int32) - nI j = nI (1 - j) := pk_sub (a := 1) (b := j) (by omega)
theorem lm_s1 {n : Nat} (h : 0 < n) : nI n - 1 = nI (n - 1) := by
  obtain ⟨m, rfl⟩ : ∃ m, n = m + 1 := ⟨n - 1, by omega⟩
  exact nI_pred m
theorem lm_neg1 : (-1 : Int32) < 0 := by decide
theorem lm_nn1 : ¬ (0 : Int32) ≤ -1 := by decide
theorem lm_ne1 {a : Nat} (h : a < 2 ^ 31) : ¬ nI a = -1 := by
  intro e
  have := nI_pos (n := a) h
  rw [e] at this
  exact this lm_neg1
theorem lm_inl {x : Int32} {n : Nat} (h : vp_in x n) : x.toNatClampNeg < n := Nat.lt_of_not_le (fun z => h (Or.inr z))
theorem lm_nb0 : narrow .boolean (.int 0) = .int 0 := rfl
theorem lm_nb1 : narrow .boolean (.int 1) = .int 1 := rfl
end
section
def lm_L (f : Int32 → Option Int32) (b n : Nat) (K V : Nat → Int32) : Prop :=
  (∀ i, i < n → f (K (b + i)) = some (V (b + i))) ∧
  (∀ q w, f q = some w → ∃ i, i < n ∧ K (b + i) = q) ∧
  (∀ i j, i < n → j < n → K (b + i) = K (b + j) → i = j)
def lm_set (f : Int32 → Option Int32) (q w : Int32) : Int32 → Option Int32 := fun z => if z = q then some w else f z
def lm_del (f : Int32 → Option Int32) (q : Int32) : Int32 → Option Int32 := fun z => if z = q then none else f z

theorem lm_0 (b : Nat) (K V : Nat → Int32) : lm_L (fun _ => none) b 0 K V :=
  ⟨fun i hi => absurd hi (Nat.not_lt_zero i), fun q w e => (by cases e), fun i j hi => absurd hi (Nat.not_lt_zero i)⟩

theorem lm_same {f : Int32 → Option Int32} {b n : Nat} {K V K' V' : Nat → Int32} (h : lm_L f b n K V)
    (hK : ∀ i, i < n → K' (b + i) = K (b + i)) (hV : ∀ i, i < n → V' (b + i) = V (b + i)) : lm_L f b n K' V' := by
  obtain ⟨h1, h2, h3⟩ := h
  refine ⟨fun i hi => ?_, fun q w e => ?_, fun i j hi hj e => ?_⟩
  · rw [hK i hi, hV i hi]; exact h1 i hi
  · obtain ⟨i, hi, e'⟩ := h2 q w e
    exact ⟨i, hi, by rw [hK i hi]; exact e'⟩
  · rw [hK i hi, hK j hj] at e; exact h3 i j hi hj e

theorem lm_miss {f : Int32 → Option Int32} {b n : Nat} {K V : Nat → Int32} {q : Int32} (h : lm_L f b n K V)
    (hm : ∀ i, i < n → ¬ K (b + i) = q) : f q = none := by
  cases e : f q with
  | none => rfl
  | some w => obtain ⟨i, hi, e'⟩ := h.2.1 q w e; exact absurd e' (hm i hi)
theorem lm_hit {f : Int32 → Option Int32} {b n p : Nat} {K V : Nat → Int32} {q : Int32} (h : lm_L f b n K V)
    (hp : p < n) (hk : K (b + p) = q) : f q = some (V (b + p)) := by rw [← hk]; exact h.1 p hp

theorem lm_put {f : Int32 → Option Int32} {b n p : Nat} {K V : Nat → Int32} {q : Int32} (w : Int32) (h : lm_L f b n K V)
    (hp : p < n) (hk : K (b + p) = q) : lm_L (lm_set f q w) b n K (upd V (b + p) w) := by
  obtain ⟨h1, h2, h3⟩ := h
  refine ⟨fun i hi => ?_, fun z y e => ?_, h3⟩
  · by_cases c : i = p
    · subst c
      show (if K (b + i) = q then some w else f (K (b + i))) = some (if b + i = b + i then w else V (b + i))
      rw [if_pos hk, if_pos rfl]
    · have c1 : ¬ K (b + i) = q := fun e => c (h3 i p hi hp (e.trans hk.symm))
      have c2 : ¬ b + i = b + p := fun e => c (by omega)
      show (if K (b + i) = q then some w else f (K (b + i))) = some (if b + i = b + p then w else V (b + i))
      rw [if_neg c1, if_neg c2]; exact h1 i hi
  · by_cases c : z = q
    · exact ⟨p, hp, by rw [hk, c]⟩
    · have e' : (if z = q then some w else f z) = some y := e
      rw [if_neg c] at e'; exact h2 z y e'

theorem lm_add {f : Int32 → Option Int32} {b n : Nat} {K V : Nat → Int32} {q : Int32} (w : Int32) (h : lm_L f b n K V)
    (hq : f q = none) : lm_L (lm_set f q w) b (n + 1) (upd K (b + n) q) (upd V (b + n) w) := by
  obtain ⟨h1, h2, h3⟩ := h
  have hn : ∀ i, i < n → ¬ K (b + i) = q := fun i hi e => by
    have := h1 i hi; rw [e, hq] at this; cases this
  have kn : upd K (b + n) q (b + n) = q := if_pos rfl
  have ko : ∀ i, i < n → upd K (b + n) q (b + i) = K (b + i) := fun i hi => if_neg (by omega)
  have vn : upd V (b + n) w (b + n) = w := if_pos rfl
  have vo : ∀ i, i < n → upd V (b + n) w (b + i) = V (b + i) := fun i hi => if_neg (by omega)
  refine ⟨fun i hi => ?_, fun z y e => ?_, fun i j hi hj e => ?_⟩
  · by_cases c : i < n
    · rw [ko i c, vo i c]
      show (if K (b + i) = q then some w else f (K (b + i))) = _
      rw [if_neg (hn i c)]; exact h1 i c
    · have : i = n := by omega
      subst this
      rw [kn, vn]
      show (if q = q then some w else f q) = _
      rw [if_pos rfl]
  · by_cases c : z = q
    · exact ⟨n, Nat.lt_succ_self n, by rw [kn, c]⟩
    · have e' : (if z = q then some w else f z) = some y := e
      rw [if_neg c] at e'
      obtain ⟨i, hi, ei⟩ := h2 z y e'
      exact ⟨i, Nat.lt_succ_of_lt hi, by rw [ko i hi]; exact ei⟩
  · by_cases ci : i < n
    · by_cases cj : j < n
      · rw [ko i ci, ko j cj] at e; exact h3 i j ci cj e
      · have : j = n := by omega
        subst this
        rw [ko i ci, kn] at e; exact absurd e (hn i ci)
    · have : i = n := by omega
      subst this
      by_cases cj : j < i
      · rw [kn, ko j cj] at e; exact absurd e.symm (hn j cj)
      · omega

theorem lm_rem {f : Int32 → Option Int32} {b n p : Nat} {K V K' V' : Nat → Int32} {q : Int32} (s : Nat → Nat)
    (h : lm_L f b n K V) (hp : p < n) (hk : K (b + p) = q)
    (hs : ∀ i, i < n - 1 → s i < n ∧ ¬ s i = p ∧ K' (b + i) = K (b + s i) ∧ V' (b + i) = V (b + s i))
    (hi : ∀ i j, i < n - 1 → j < n - 1 → s i = s j → i = j)
    (ho : ∀ j, j < n → ¬ j = p → ∃ i, i < n - 1 ∧ s i = j) : lm_L (lm_del f q) b (n - 1) K' V' := by
  obtain ⟨h1, h2, h3⟩ := h
  refine ⟨fun i c => ?_, fun z y e => ?_, fun i j ci cj e => ?_⟩
  · obtain ⟨a1, a2, a3, a4⟩ := hs i c
    rw [a3, a4]
    have c1 : ¬ K (b + s i) = q := fun e => a2 (h3 (s i) p a1 hp (e.trans hk.symm))
    show (if K (b + s i) = q then none else f (K (b + s i))) = _
    rw [if_neg c1]; exact h1 (s i) a1
  · have e' : (if z = q then none else f z) = some y := e
    by_cases c : z = q
    · rw [if_pos c] at e'; cases e'
    · rw [if_neg c] at e'
      obtain ⟨j, hj, ej⟩ := h2 z y e'
      have jp : ¬ j = p := fun x => c (by rw [← ej, x, hk])
      obtain ⟨i, hi', ei⟩ := ho j hj jp
      exact ⟨i, hi', by rw [(hs i hi').2.2.1, ei]; exact ej⟩
  · obtain ⟨a1, _, a3, _⟩ := hs i ci
    obtain ⟨b1, _, b3, _⟩ := hs j cj
    rw [a3, b3] at e
    exact hi i j ci cj (h3 (s i) (s j) a1 b1 e)

theorem lm_remL {f : Int32 → Option Int32} {b n p : Nat} {K V : Nat → Int32} {q : Int32}
    (h : lm_L f b n K V) (hp : p < n) (hk : K (b + p) = q) :
    lm_L (lm_del f q) b (n - 1) (upd K (b + p) (K (b + (n - 1)))) (upd V (b + p) (V (b + (n - 1)))) := by
  refine lm_rem (fun i => if i = p then n - 1 else i) h hp hk (fun i c => ?_) (fun i j ci cj e => ?_) (fun j hj jp => ?_)
  · by_cases c1 : i = p
    · subst c1
      skip
      rw [if_pos rfl]
      exact ⟨by omega, by omega, if_pos rfl, if_pos rfl⟩
    · skip
      rw [if_neg c1]
      exact ⟨by omega, c1, if_neg (by omega), if_neg (by omega)⟩
  · skip
    by_cases c1 : i = p
    · rw [if_pos c1] at e
      by_cases c2 : j = p
      · omega
      · rw [if_neg c2] at e; omega
    · rw [if_neg c1] at e
      by_cases c2 : j = p
      · rw [if_pos c2] at e; omega
      · rw [if_neg c2] at e; exact e
  · by_cases c : j = n - 1
    · exact ⟨p, by omega, by rw [if_pos rfl, c]⟩
    · exact ⟨j, by omega, by rw [if_neg jp]⟩

theorem lm_remS {f : Int32 → Option Int32} {b n p : Nat} {K V K' V' : Nat → Int32} {q : Int32}
    (h : lm_L f b n K V) (hp : p < n) (hk : K (b + p) = q)
    (lo : ∀ i, i < p → K' (b + i) = K (b + i) ∧ V' (b + i) = V (b + i))
    (up : ∀ i, p ≤ i → i < n - 1 → K' (b + i) = K (b + i + 1) ∧ V' (b + i) = V (b + i + 1)) :
    lm_L (lm_del f q) b (n - 1) K' V' := by
  refine lm_rem (fun i => if i < p then i else i + 1) h hp hk (fun i c => ?_) (fun i j ci cj e => ?_) (fun j hj jp => ?_)
  · by_cases c1 : i < p
    · skip
      rw [if_pos c1]
      exact ⟨by omega, by omega, (lo i c1).1, (lo i c1).2⟩
    · skip
      rw [if_neg c1]
      exact ⟨by omega, by omega, (up i (by omega) c).1, (up i (by omega) c).2⟩
  · skip
    by_cases c1 : i < p
    · rw [if_pos c1] at e
      by_cases c2 : j < p
      · rw [if_pos c2] at e; exact e
      · rw [if_neg c2] at e; omega
    · rw [if_neg c1] at e
      by_cases c2 : j < p
      · rw [if_pos c2] at e; omega
      · rw [if_neg c2] at e; omega
  · by_cases c : j < p
    · exact ⟨j, by omega, by rw [if_pos c]⟩
    · exact ⟨j - 1, by omega, by rw [if_neg (by omega)]; omega⟩

def lm_S (s : Nat) (K V Kb Vb sz : Nat → Int32) : Prop :=
  ∃ (f : Int32 → Option Int32) (n : Nat), n ≤ 16 ∧ sz s = nI n ∧ lm_L f (s * 16) n K V ∧ lm_L f (s * 16) n Kb Vb
def lm_D (K V Kb Vb sz : Nat → Int32) : Prop := ∀ s, s < 2 → lm_S s K V Kb Vb sz
def lm_out (s j : Nat) : Prop := j < s * 16 ∨ s * 16 + 16 ≤ j

theorem lm_Du {K V Kb Vb sz K1 V1 Kb1 Vb1 sz1 : Nat → Int32} (h : lm_D K V Kb Vb sz) (s : Nat) (hs : s < 2)
    (hK : ∀ j, lm_out s j → K1 j = K j) (hV : ∀ j, lm_out s j → V1 j = V j)
    (hKb : ∀ j, lm_out s j → Kb1 j = Kb j) (hVb : ∀ j, lm_out s j → Vb1 j = Vb j)
    (hz : ∀ j, ¬ j = s → sz1 j = sz j) (hS : lm_S s K1 V1 Kb1 Vb1 sz1) : lm_D K1 V1 Kb1 Vb1 sz1 := by
  intro t ht
  by_cases c : t = s
  · subst c; exact hS
  · obtain ⟨f, n, hn, e, hL, hLb⟩ := h t ht
    have o : ∀ i, i < n → lm_out s (t * 16 + i) := fun i hi => by unfold lm_out; omega
    exact ⟨f, n, hn, (hz t c).trans e, lm_same hL (fun i hi => hK _ (o i hi)) (fun i hi => hV _ (o i hi)),
      lm_same hLb (fun i hi => hKb _ (o i hi)) (fun i hi => hVb _ (o i hi))⟩
theorem lm_uo {f : Nat → Int32} {s p : Nat} {x : Int32} (hp : p < 16) : ∀ j, lm_out s j → upd f (s * 16 + p) x j = f j :=
  fun j hj => if_neg (by unfold lm_out at hj; omega)
theorem lm_rf {f : Nat → Int32} {s : Nat} : ∀ j, lm_out s j → f j = f j := fun _ _ => rfl

-- the five ends of an update, for both sides at once
theorem lm_u1 {K V Kb Vb sz : Nat → Int32} {f : Int32 → Option Int32} {s n p pb : Nat} {q : Int32} (w : Int32) (h : lm_D K V Kb Vb sz) (hs : s < 2)
    (hn : n ≤ 16) (ez : sz s = nI n) (hL : lm_L f (s * 16) n K V) (hLb : lm_L f (s * 16) n Kb Vb)
    (hp : p < n) (hk : K (s * 16 + p) = q) (hpb : pb < n) (hkb : Kb (s * 16 + pb) = q) :
    lm_D K (upd V (s * 16 + p) w) Kb (upd Vb (s * 16 + pb) w) sz :=
  lm_Du h s hs lm_rf (lm_uo (by omega)) lm_rf (lm_uo (by omega)) (fun _ _ => rfl)
    ⟨lm_set f q w, n, hn, ez, lm_put w hL hp hk, lm_put w hLb hpb hkb⟩
theorem lm_u2 {K V Kb Vb sz : Nat → Int32} {f : Int32 → Option Int32} {s n : Nat} {q : Int32} (w : Int32) (h : lm_D K V Kb Vb sz) (hs : s < 2)
    (hn : n < 16) (hL : lm_L f (s * 16) n K V) (hLb : lm_L f (s * 16) n Kb Vb) (hq : f q = none) :
    lm_D (upd K (s * 16 + n) q) (upd V (s * 16 + n) w) (upd Kb (s * 16 + n) q) (upd Vb (s * 16 + n) w) (upd sz s (nI (n + 1))) :=
  lm_Du h s hs (lm_uo hn) (lm_uo hn) (lm_uo hn) (lm_uo hn) (fun _ c => if_neg c)
    ⟨lm_set f q w, n + 1, hn, if_pos rfl, lm_add w hL hq, lm_add w hLb hq⟩
theorem lm_u3 {K V Kb Vb sz Kb1 Vb1 : Nat → Int32} {f : Int32 → Option Int32} {s n p pb : Nat} {q : Int32} (h : lm_D K V Kb Vb sz) (hs : s < 2)
    (hn : n ≤ 16) (hL : lm_L f (s * 16) n K V) (hLb : lm_L f (s * 16) n Kb Vb)
    (hp : p < n) (hk : K (s * 16 + p) = q) (hpb : pb < n) (hkb : Kb (s * 16 + pb) = q)
    (lo : ∀ i, ¬ (s * 16 + pb ≤ i ∧ i < s * 16 + (n - 1)) → Kb1 i = Kb i ∧ Vb1 i = Vb i)
    (up : ∀ i, s * 16 + pb ≤ i ∧ i < s * 16 + (n - 1) → Kb1 i = Kb (i + 1) ∧ Vb1 i = Vb (i + 1)) :
    lm_D (upd K (s * 16 + p) (K (s * 16 + (n - 1)))) (upd V (s * 16 + p) (V (s * 16 + (n - 1)))) Kb1 Vb1 (upd sz s (nI (n - 1))) :=
  lm_Du h s hs (lm_uo (by omega)) (lm_uo (by omega)) (fun j hj => (lo j (by unfold lm_out at hj; omega)).1) (fun j hj => (lo j (by unfold lm_out at hj; omega)).2)
    (fun _ c => if_neg c)
    ⟨lm_del f q, n - 1, by omega, if_pos rfl, lm_remL hL hp hk,
      lm_remS hLb hpb hkb (fun i hi => lo (s * 16 + i) (by omega)) (fun i h1 h2 => up (s * 16 + i) (by omega))⟩
end
section
def lm_b (x : Int32) : Prop := ∃ j : Nat, j < 2 ∧ x = nI j
def lm_k (x : Int32) : Prop := x = 1 ∨ x = 2
def lm_rd (p v s : Int32) : Prop := p = 0 ∨ p = 6 ∨ p = 1 ∨ (p = 2 ∧ lm_b v) ∨ (p = 3 ∧ lm_b v) ∨ (p = 4 ∧ lm_b v ∧ lm_b s) ∨ (p = 5 ∧ lm_b v)
def lm_wr (p kd v s : Int32) : Prop := p = 0 ∨ p = 8 ∨ (p = 1 ∧ lm_k kd) ∨ (p = 2 ∧ lm_k kd) ∨ (p = 3 ∧ lm_k kd ∧ lm_b s) ∨ (p = 4 ∧ lm_k kd ∧ lm_b s) ∨
  (p = 5 ∧ lm_k kd ∧ lm_b s ∧ lm_b v) ∨ (p = 6 ∧ lm_k kd ∧ lm_b s ∧ lm_b v) ∨ (p = 7 ∧ lm_k kd ∧ lm_b s)
def lm_AR (rp rv rs : Nat → Int32) : Prop := ∀ i, i < 8 → lm_rd (rp i) (rv i) (rs i)
def lm_AW (wp wkd wve ws : Nat → Int32) : Prop := ∀ i, i < 4 → lm_wr (wp i) (wkd i) (wve i) (ws i)
theorem lm_ARu {rp rv rs rp1 rv1 rs1 : Nat → Int32} (i : Nat) (h : lm_AR rp rv rs)
    (o : ∀ j, ¬ j = i → rp1 j = rp j ∧ rv1 j = rv j ∧ rs1 j = rs j) (hi : lm_rd (rp1 i) (rv1 i) (rs1 i)) : lm_AR rp1 rv1 rs1 := by
  intro j hj
  by_cases c : j = i
  · rw [c]; exact hi
  · obtain ⟨a1, a2, a3⟩ := o j c
    rw [a1, a2, a3]; exact h j hj
theorem lm_AWu {wp wkd wve ws wp1 wkd1 wve1 ws1 : Nat → Int32} (i : Nat) (h : lm_AW wp wkd wve ws)
    (o : ∀ j, ¬ j = i → wp1 j = wp j ∧ wkd1 j = wkd j ∧ wve1 j = wve j ∧ ws1 j = ws j) (hi : lm_wr (wp1 i) (wkd1 i) (wve1 i) (ws1 i)) : lm_AW wp1 wkd1 wve1 ws1 := by
  intro j hj
  by_cases c : j = i
  · rw [c]; exact hi
  · obtain ⟨a1, a2, a3, a4⟩ := o j c
    rw [a1, a2, a3, a4]; exact h j hj
def lm_F (c R Wn lr ver cu : Nat) (i0 i1 : Int32) (K V Kb Vb sz ind rp rv rs wp wkd wve ws : Nat → Int32) : Prop :=
  (4 ≤ c ∧ c ≤ 16) ∧ (1 ≤ R ∧ R ≤ 8) ∧ (1 ≤ Wn ∧ Wn ≤ 4) ∧ lr < 2 ∧ ver < 2 ∧ cu < R + Wn ∧ ind 0 = i0 ∧ ind 1 = i1 ∧
  lm_D K V Kb Vb sz ∧ lm_AR rp rv rs ∧ lm_AW wp wkd wve ws
def lm_Rel (R Wn : Nat) (u : SX) (v : SY) : Prop :=
  ∃ (c lr ver cu : Nat) (lock steps i0 i1 : Int32) (K V Kb Vb sz ind rp rk rr rv rs wp wkd wk wv wr wve ws : Nat → Int32),
    u = (nI c, nI R, nI Wn, nI lr, nI ver, lock, nI cu, steps, K, V, sz, ind, rp, rk, rr, rv, rs, wp, wkd, wk, wv, wr, wve, ws) ∧ v = (nI c, nI R, nI Wn, nI lr, nI ver, i0, i1, lock, nI cu, steps, Kb, Vb, sz, rp, rk, rr, rv, rs, wp, wkd, wk, wv, wr, wve, ws) ∧ lm_F c R Wn lr ver cu i0 i1 K V Kb Vb sz ind rp rv rs wp wkd wve ws
theorem lm_mk {c R Wn lr ver cu : Nat} {lock steps i0 i1 : Int32} {K V Kb Vb sz ind rp rk rr rv rs wp wkd wk wv wr wve ws : Nat → Int32}
    (h : lm_F c R Wn lr ver cu i0 i1 K V Kb Vb sz ind rp rv rs wp wkd wve ws) : lm_Rel R Wn (nI c, nI R, nI Wn, nI lr, nI ver, lock, nI cu, steps, K, V, sz, ind, rp, rk, rr, rv, rs, wp, wkd, wk, wv, wr, wve, ws) (nI c, nI R, nI Wn, nI lr, nI ver, i0, i1, lock, nI cu, steps, Kb, Vb, sz, rp, rk, rr, rv, rs, wp, wkd, wk, wv, wr, wve, ws) :=
  ⟨c, lr, ver, cu, lock, steps, i0, i1, K, V, Kb, Vb, sz, ind, rp, rk, rr, rv, rs, wp, wkd, wk, wv, wr, wve, ws, rfl, rfl, h⟩
def i_Rel (_ : Nat) (u : SX) (v : SY) : Prop := ∃ R Wn : Nat, lm_Rel R Wn u v
theorem i_up {k : Nat} {u : SX} {v : SY} (h : i_Rel k u v) : i_Rel (k + 4) u v := h
def lm_G (R Wn : Nat) (PX : (Int32 → SX → Prop) → Prop) (PY : (Int32 → SY → Prop) → Prop) : Prop :=
  ∃ (r : Int32) (u : SX) (v : SY), lm_Rel R Wn u v ∧ (∀ post, post r u → PX post) ∧ (∀ post, post r v → PY post)
theorem lm_g {R Wn : Nat} {PX : (Int32 → SX → Prop) → Prop} {PY : (Int32 → SY → Prop) → Prop} {r : Int32} {u : SX} {v : SY}
    (hX : ∀ post : Int32 → SX → Prop, post r u → PX post) (hY : ∀ post : Int32 → SY → Prop, post r v → PY post) (h : lm_Rel R Wn u v) : lm_G R Wn PX PY :=
  ⟨r, u, v, h, hX, hY⟩
end
section
section LMS
variable {c R Wn lr ver cu : Nat} {lock steps i0 i1 : Int32} {K V Kb Vb sz ind rp rk rr rv rs wp wkd wk wv wr wve ws : Nat → Int32}
theorem lx_scan {q : Int32} {b n : Nat} (hb : b + n ≤ 32) : ∀ d j, j + d = n → (∀ i, i < j → ¬ K (b + i) = q) →
    ((∀ i, i < n → ¬ K (b + i) = q) ∧ ∀ post : Int32 → Prop, post (-1) → wX_slotOf_18 post q (nI (b + n)) (nI c) (nI R) (nI Wn) (nI lr) (nI ver) lock (nI cu) steps K V sz ind rp rk rr rv rs wp wkd wk wv wr wve ws (d + 1) (nI (b + j))) ∨
    (∃ p, p < n ∧ K (b + p) = q ∧ ∀ post : Int32 → Prop, post (nI (b + p)) → wX_slotOf_18 post q (nI (b + n)) (nI c) (nI R) (nI Wn) (nI lr) (nI ver) lock (nI cu) steps K V sz ind rp rk rr rv rs wp wkd wk wv wr wve ws (d + 1) (nI (b + j))) := by
  intro d
  induction d with
  | zero =>
    intro j hj hm
    have h : nI (b + n) ≤ nI (b + j) := nI_le (by omega) (by omega)
    exact Or.inl ⟨fun i hi => hm i (by omega), fun post hp => br_t h hp⟩
  | succ d ih =>
    intro j hj hm
    have h : ¬ nI (b + n) ≤ nI (b + j) := nI_ge (by omega) (by omega)
    have hi : vp_in (nI (b + j)) 32 := vp_in_nI (by omega) (by omega)
    have hc : (nI (b + j)).toNatClampNeg = b + j := nI_clamp (by omega)
    by_cases e : K (b + j) = q
    · have e' : K (nI (b + j)).toNatClampNeg = q := by rw [hc]; exact e
      exact Or.inr ⟨j, by omega, e, fun post hp => br_f h ⟨hi, br_t e' hp⟩⟩
    · have e' : ¬ K (nI (b + j)).toNatClampNeg = q := by rw [hc]; exact e
      have hm' : ∀ i, i < j + 1 → ¬ K (b + i) = q := fun i hi => by
        by_cases x : i = j
        · rw [x]; exact e
        · exact hm i (by omega)
      rcases ih (j + 1) (by omega) hm' with ⟨ha, hw⟩ | ⟨p, hp, ek, hw⟩
      · exact Or.inl ⟨ha, fun post hp => br_f h ⟨hi, br_f e' (nm_r (nI_1 (b + j)) (hw post hp))⟩⟩
      · exact Or.inr ⟨p, hp, ek, fun post hp' => br_f h ⟨hi, br_f e' (nm_r (nI_1 (b + j)) (hw post hp'))⟩⟩
theorem lx_slotOf {f : Int32 → Option Int32} {s n : Nat} (hs : s < 2) (hn : n ≤ 16) (ez : sz s = nI n) (hL : lm_L f (s * 16) n K V) (q : Int32) :
    (f q = none ∧ ∀ post : Int32 → Prop, post (-1) → wpX_slotOf post (nI c, nI R, nI Wn, nI lr, nI ver, lock, nI cu, steps, K, V, sz, ind, rp, rk, rr, rv, rs, wp, wkd, wk, wv, wr, wve, ws) (nI s) q) ∨
    (∃ p, p < n ∧ K (s * 16 + p) = q ∧ ∀ post : Int32 → Prop, post (nI (s * 16 + p)) → wpX_slotOf post (nI c, nI R, nI Wn, nI lr, nI ver, lock, nI cu, steps, K, V, sz, ind, rp, rk, rr, rv, rs, wp, wkd, wk, wv, wr, wve, ws) (nI s) q) := by
  have i2 : vp_in (nI s) 2 := vp_in_nI hs (by omega)
  have c2 : (nI s).toNatClampNeg = s := nI_clamp (by omega)
  have e2 : nI (s * 16) + sz (nI s).toNatClampNeg = nI (s * 16 + n) := by rw [c2, ez, nI_add]
  rcases lx_scan (c := c) (R := R) (Wn := Wn) (lr := lr) (ver := ver) (cu := cu) (lock := lock) (steps := steps) (ind := ind) (rp := rp) (rk := rk) (rr := rr) (rv := rv) (rs := rs) (wp := wp) (wkd := wkd) (wk := wk) (wv := wv) (wr := wr) (wve := wve) (ws := ws) (K := K) (V := V) (sz := sz) (q := q) (b := s * 16) (n := n) (by omega) n 0 (by omega) (fun i hi => absurd hi (Nat.not_lt_zero i)) with ⟨ha, hw⟩ | ⟨p, hp, ek, hw⟩
  · exact Or.inl ⟨lm_miss hL ha, fun post hp => nm_r (lm_16 s) ⟨i2, nm_r e2 ⟨n + 1, hw post hp⟩⟩⟩
  · exact Or.inr ⟨p, hp, ek, fun post hp' => nm_r (lm_16 s) ⟨i2, nm_r e2 ⟨n + 1, hw post hp'⟩⟩⟩
theorem ly_scan {q : Int32} {s n : Nat} (hs : s < 2) (hn : n ≤ 16) (ez : sz s = nI n) : ∀ d j, j + d = n → (∀ i, i < j → ¬ Kb (s * 16 + i) = q) →
    ((∀ i, i < n → ¬ Kb (s * 16 + i) = q) ∧ ∀ post : Int32 → Prop, post (-1) → wY_find_2 post (nI s) q (nI c) (nI R) (nI Wn) (nI lr) (nI ver) i0 i1 lock (nI cu) steps Kb Vb sz rp rk rr rv rs wp wkd wk wv wr wve ws (d + 1) (nI j)) ∨
    (∃ p, p < n ∧ Kb (s * 16 + p) = q ∧ ∀ post : Int32 → Prop, post (nI p) → wY_find_2 post (nI s) q (nI c) (nI R) (nI Wn) (nI lr) (nI ver) i0 i1 lock (nI cu) steps Kb Vb sz rp rk rr rv rs wp wkd wk wv wr wve ws (d + 1) (nI j)) := by
  have i2 : vp_in (nI s) 2 := vp_in_nI hs (by omega)
  have c2 : (nI s).toNatClampNeg = s := nI_clamp (by omega)
  intro d
  induction d with
  | zero =>
    intro j hj hm
    have h : sz (nI s).toNatClampNeg ≤ nI j := by rw [c2, ez]; exact nI_le (by omega) (by omega)
    exact Or.inl ⟨fun i hi => hm i (by omega), fun post hp => ⟨i2, br_t h hp⟩⟩
  | succ d ih =>
    intro j hj hm
    have h : ¬ sz (nI s).toNatClampNeg ≤ nI j := by rw [c2, ez]; exact nI_ge (by omega) (by omega)
    have h16 : ¬ (16 : Int32) ≤ nI j := nI_ge (b := 16) (by omega) (by decide)
    have e1 : nI s * 16 + nI j = nI (s * 16 + j) := by rw [lm_16, nI_add]
    have hi : vp_in (nI s * 16 + nI j) 32 := by rw [e1]; exact vp_in_nI (by omega) (by omega)
    have hc : (nI s * 16 + nI j).toNatClampNeg = s * 16 + j := by rw [e1]; exact nI_clamp (by omega)
    by_cases e : Kb (s * 16 + j) = q
    · have e' : Kb (nI s * 16 + nI j).toNatClampNeg = q := by rw [hc]; exact e
      exact Or.inr ⟨j, by omega, e, fun post hp => ⟨i2, br_f h (br_f h16 ⟨hi, br_t e' hp⟩)⟩⟩
    · have e' : ¬ Kb (nI s * 16 + nI j).toNatClampNeg = q := by rw [hc]; exact e
      have hm' : ∀ i, i < j + 1 → ¬ Kb (s * 16 + i) = q := fun i hi => by
        by_cases x : i = j
        · rw [x]; exact e
        · exact hm i (by omega)
      rcases ih (j + 1) (by omega) hm' with ⟨ha, hw⟩ | ⟨p, hp, ek, hw⟩
      · exact Or.inl ⟨ha, fun post hp => ⟨i2, br_f h (br_f h16 ⟨hi, br_f e' (nm_r (nI_1 j) (hw post hp))⟩)⟩⟩
      · exact Or.inr ⟨p, hp, ek, fun post hp' => ⟨i2, br_f h (br_f h16 ⟨hi, br_f e' (nm_r (nI_1 j) (hw post hp'))⟩)⟩⟩
theorem ly_find {f : Int32 → Option Int32} {s n : Nat} (hs : s < 2) (hn : n ≤ 16) (ez : sz s = nI n) (hL : lm_L f (s * 16) n Kb Vb) (q : Int32) :
    (f q = none ∧ ∀ post : Int32 → Prop, post (-1) → wpY_find post (nI c, nI R, nI Wn, nI lr, nI ver, i0, i1, lock, nI cu, steps, Kb, Vb, sz, rp, rk, rr, rv, rs, wp, wkd, wk, wv, wr, wve, ws) (nI s) q) ∨
    (∃ p, p < n ∧ Kb (s * 16 + p) = q ∧ ∀ post : Int32 → Prop, post (nI p) → wpY_find post (nI c, nI R, nI Wn, nI lr, nI ver, i0, i1, lock, nI cu, steps, Kb, Vb, sz, rp, rk, rr, rv, rs, wp, wkd, wk, wv, wr, wve, ws) (nI s) q) := by
  rcases ly_scan (c := c) (R := R) (Wn := Wn) (lr := lr) (ver := ver) (cu := cu) (lock := lock) (steps := steps) (i0 := i0) (i1 := i1) (rp := rp) (rk := rk) (rr := rr) (rv := rv) (rs := rs) (wp := wp) (wkd := wkd) (wk := wk) (wv := wv) (wr := wr) (wve := wve) (ws := ws) (Kb := Kb) (Vb := Vb) (sz := sz) (q := q) hs hn ez n 0 (by omega) (fun i hi => absurd hi (Nat.not_lt_zero i)) with ⟨ha, hw⟩ | ⟨p, hp, ek, hw⟩
  · exact Or.inl ⟨lm_miss hL ha, fun post hp => ⟨n + 1, hw post hp⟩⟩
  · exact Or.inr ⟨p, hp, ek, fun post hp' => ⟨n + 1, hw post hp'⟩⟩
theorem lm_val (hD : lm_D K V Kb Vb sz) {s : Nat} (hs : s < 2) (q : Int32) :
    ∃ r, (∀ post : Int32 → Prop, post r → wpX_valueIn post (nI c, nI R, nI Wn, nI lr, nI ver, lock, nI cu, steps, K, V, sz, ind, rp, rk, rr, rv, rs, wp, wkd, wk, wv, wr, wve, ws) (nI s) q) ∧ (∀ post : Int32 → Prop, post r → wpY_lookup post (nI c, nI R, nI Wn, nI lr, nI ver, i0, i1, lock, nI cu, steps, Kb, Vb, sz, rp, rk, rr, rv, rs, wp, wkd, wk, wv, wr, wve, ws) (nI s) q) := by
  obtain ⟨f, n, hn, ez, hL, hLb⟩ := hD s hs
  rcases lx_slotOf (c := c) (R := R) (Wn := Wn) (lr := lr) (ver := ver) (cu := cu) (lock := lock) (steps := steps) (ind := ind) (rp := rp) (rk := rk) (rr := rr) (rv := rv) (rs := rs) (wp := wp) (wkd := wkd) (wk := wk) (wv := wv) (wr := wr) (wve := wve) (ws := ws) hs hn ez hL q with ⟨fq, hx⟩ | ⟨p, hp, ek, hx⟩ <;> rcases ly_find (c := c) (R := R) (Wn := Wn) (lr := lr) (ver := ver) (cu := cu) (lock := lock) (steps := steps) (i0 := i0) (i1 := i1) (rp := rp) (rk := rk) (rr := rr) (rv := rv) (rs := rs) (wp := wp) (wkd := wkd) (wk := wk) (wv := wv) (wr := wr) (wve := wve) (ws := ws) hs hn ez hLb q with ⟨gq, hy⟩ | ⟨pb, hpb, ekb, hy⟩
  · refine ⟨-1, fun post h => ?_, fun post h => ?_⟩
    · simp +decide only [wpX_valueIn]; refine hx _ ?_; simp +decide only [true_implies, false_implies, not_true_eq_false, not_false_eq_true, and_true, true_and, forall_eq, implies_true, lm_nb0, lm_nb1]; exact h
    · simp +decide only [wpY_lookup]; refine hy _ ?_; simp +decide only [true_implies, false_implies, not_true_eq_false, not_false_eq_true, and_true, true_and, forall_eq, implies_true, lm_nb0, lm_nb1]; exact h
  · rw [lm_hit hLb hpb ekb] at fq; cases fq
  · rw [lm_hit hL hp ek] at gq; cases gq
  · have ev : V (s * 16 + p) = Vb (s * 16 + pb) := Option.some.inj ((lm_hit hL hp ek).symm.trans (lm_hit hLb hpb ekb))
    have n1 : ¬ nI (s * 16 + p) = -1 := lm_ne1 (by omega)
    have i1 : vp_in (nI (s * 16 + p)) 32 := vp_in_nI (by omega) (by omega)
    have c1 : (nI (s * 16 + p)).toNatClampNeg = s * 16 + p := nI_clamp (by omega)
    have n2 : ¬ nI pb < 0 := nI_pos (by omega)
    have n2' : 0 ≤ nI pb := nI_pos' (by omega)
    have e2 : nI s * 16 + nI pb = nI (s * 16 + pb) := by rw [lm_16, nI_add]
    have i2 : vp_in (nI (s * 16 + pb)) 32 := vp_in_nI (by omega) (by omega)
    have c2 : (nI (s * 16 + pb)).toNatClampNeg = s * 16 + pb := nI_clamp (by omega)
    refine ⟨V (s * 16 + p), fun post h => ?_, fun post h => ?_⟩
    · simp +decide only [wpX_valueIn]; refine hx _ ?_; simp +decide only [n1, i1, c1, true_implies, false_implies, not_true_eq_false, not_false_eq_true, and_true, true_and, forall_eq, implies_true, lm_nb0, lm_nb1]; exact h
    · rw [ev] at h
      simp +decide only [wpY_lookup]; refine hy _ ?_; simp +decide only [n2, n2', e2, i2, c2, true_implies, false_implies, not_true_eq_false, not_false_eq_true, and_true, true_and, forall_eq, implies_true, lm_nb0, lm_nb1]; exact h
end LMS
end
section
section LMU
variable {c R Wn lr ver cu : Nat} {lock steps i0 i1 : Int32} {K V Kb Vb sz ind rp rk rr rv rs wp wkd wk wv wr wve ws : Nat → Int32}
theorem ly_shift {s n : Nat} (hs : s < 2) (hn : n ≤ 16) (h0 : 0 < n) (ez : sz s = nI n) (old : Int32) : ∀ d i (K1 V1 : Nat → Int32), i + d + 1 = n →
    ∃ K2 V2 : Nat → Int32, (∀ x, ¬ (s * 16 + i ≤ x ∧ x < s * 16 + (n - 1)) → K2 x = K1 x ∧ V2 x = V1 x) ∧
      (∀ x, s * 16 + i ≤ x ∧ x < s * 16 + (n - 1) → K2 x = K1 (x + 1) ∧ V2 x = V1 (x + 1)) ∧
      ∀ post : Int32 → SY → Prop, post old (nI c, nI R, nI Wn, nI lr, nI ver, i0, i1, lock, nI cu, steps, K2, V2, upd sz s (nI (n - 1)), rp, rk, rr, rv, rs, wp, wkd, wk, wv, wr, wve, ws) → wY_apply_144 post (nI s) (nI (s * 16)) old (nI c) (nI R) (nI Wn) (nI lr) (nI ver) i0 i1 lock (nI cu) steps (d + 1) (nI i) K1 V1 sz rp rk rr rv rs wp wkd wk wv wr wve ws := by
  have i2 : vp_in (nI s) 2 := vp_in_nI hs (by omega)
  have c2 : (nI s).toNatClampNeg = s := nI_clamp (by omega)
  have m1 : nI n - 1 = nI (n - 1) := lm_s1 h0
  intro d
  induction d with
  | zero =>
    intro i K1 V1 hi
    refine ⟨K1, V1, fun x _ => ⟨rfl, rfl⟩, fun x hx => by omega, fun post hp => ?_⟩
    have h : nI n ≤ nI i + 1 := by rw [nI_1]; exact nI_le (by omega) (by omega)
    simp +decide only [wY_apply_144, wY_apply_216, i2, c2, ez, h, m1, true_implies, false_implies, not_true_eq_false, not_false_eq_true, and_true, true_and, forall_eq, implies_true, lm_nb0, lm_nb1]
    exact hp
  | succ d ih =>
    intro i K1 V1 hi
    obtain ⟨K2, V2, lo, up, hw⟩ := ih (i + 1) (upd K1 (s * 16 + i) (K1 (s * 16 + i + 1))) (upd V1 (s * 16 + i) (V1 (s * 16 + i + 1))) (by omega)
    refine ⟨K2, V2, fun x hx => ?_, fun x hx => ?_, fun post hp => ?_⟩
    · obtain ⟨q1, q2⟩ := lo x (by omega)
      rw [q1, q2]
      by_cases c : x = s * 16 + i
      · omega
      · exact ⟨pk_un c, pk_un c⟩
    · by_cases c : x = s * 16 + i
      · obtain ⟨q1, q2⟩ := lo x (by omega)
        rw [q1, q2, c]
        exact ⟨pk_us, pk_us⟩
      · obtain ⟨q1, q2⟩ := up x (by omega)
        rw [q1, q2]
        exact ⟨pk_un (by omega), pk_un (by omega)⟩
    · have h : ¬ nI n ≤ nI i + 1 := by rw [nI_1]; exact nI_ge (by omega) (by omega)
      have h16 : ¬ (16 : Int32) ≤ nI i + 1 := by rw [nI_1]; exact nI_ge (b := 16) (by omega) (by decide)
      have e1 : nI s * 16 + nI i = nI (s * 16 + i) := by rw [lm_16, nI_add]
      have e2 : nI (s * 16 + i) + 1 = nI (s * 16 + i + 1) := nI_1 _
      have e3 : nI (s * 16) + nI i = nI (s * 16 + i) := nI_add _ _
      have q1 : vp_in (nI (s * 16 + i)) 32 := vp_in_nI (by omega) (by omega)
      have q2 : vp_in (nI (s * 16 + i + 1)) 32 := vp_in_nI (by omega) (by omega)
      have q3 : (nI (s * 16 + i)).toNatClampNeg = s * 16 + i := nI_clamp (by omega)
      have q4 : (nI (s * 16 + i + 1)).toNatClampNeg = s * 16 + i + 1 := nI_clamp (by omega)
      have e4 : nI i + 1 = nI (i + 1) := nI_1 i
      have z := hw post hp
      generalize d + 1 = m at z ⊢
      simp +decide only [wY_apply_144, wY_apply_216, i2, c2, ez, h, h16, e1, e2, e3, q1, q2, q3, q4, true_implies, false_implies, not_true_eq_false, not_false_eq_true, and_true, true_and, forall_eq, implies_true, lm_nb0, lm_nb1]
      simp +decide only [e4]
      exact z
theorem lm_upd (hD : lm_D K V Kb Vb sz) {s : Nat} (hs : s < 2) {j : Nat} (hj : j < 4) (k : lm_k (wkd j)) (hc : 4 ≤ c ∧ c ≤ 16) :
    ∃ (q : Int32) (K1 V1 Kb1 Vb1 sz1 : Nat → Int32), lm_D K1 V1 Kb1 Vb1 sz1 ∧
      (∀ post : Int32 → SX → Prop, post q (nI c, nI R, nI Wn, nI lr, nI ver, lock, nI cu, steps, K1, V1, sz1, ind, rp, rk, rr, rv, rs, wp, wkd, wk, wv, wr, wve, ws) → wpX_applyUpdate post (nI c, nI R, nI Wn, nI lr, nI ver, lock, nI cu, steps, K, V, sz, ind, rp, rk, rr, rv, rs, wp, wkd, wk, wv, wr, wve, ws) (nI j) (nI s)) ∧
      (∀ post : Int32 → SY → Prop, post q (nI c, nI R, nI Wn, nI lr, nI ver, i0, i1, lock, nI cu, steps, Kb1, Vb1, sz1, rp, rk, rr, rv, rs, wp, wkd, wk, wv, wr, wve, ws) → wpY_apply post (nI c, nI R, nI Wn, nI lr, nI ver, i0, i1, lock, nI cu, steps, Kb, Vb, sz, rp, rk, rr, rv, rs, wp, wkd, wk, wv, wr, wve, ws) (nI s) (wkd j) (wk j) (wv j)) := by
  obtain ⟨f, n, hn, ez, hL, hLb⟩ := hD s hs
  have w4 : vp_in (nI j) 4 := vp_in_nI hj (by omega)
  have cj : (nI j).toNatClampNeg = j := nI_clamp (by omega)
  have i2 : vp_in (nI s) 2 := vp_in_nI hs (by omega)
  have c2 : (nI s).toNatClampNeg = s := nI_clamp (by omega)
  have s16 : nI s * 16 = nI (s * 16) := lm_16 s
  rcases lx_slotOf (c := c) (R := R) (Wn := Wn) (lr := lr) (ver := ver) (cu := cu) (lock := lock) (steps := steps) (ind := ind) (rp := rp) (rk := rk) (rr := rr) (rv := rv) (rs := rs) (wp := wp) (wkd := wkd) (wk := wk) (wv := wv) (wr := wr) (wve := wve) (ws := ws) hs hn ez hL (wk j) with ⟨fq, hx⟩ | ⟨p, hp, ek, hx⟩ <;> rcases ly_find (c := c) (R := R) (Wn := Wn) (lr := lr) (ver := ver) (cu := cu) (lock := lock) (steps := steps) (i0 := i0) (i1 := i1) (rp := rp) (rk := rk) (rr := rr) (rv := rv) (rs := rs) (wp := wp) (wkd := wkd) (wk := wk) (wv := wv) (wr := wr) (wve := wve) (ws := ws) hs hn ez hLb (wk j) with ⟨gq, hy⟩ | ⟨pb, hpb, ekb, hy⟩
  · have m0 : ((-1 : Int32) < 0) = True := eq_true lm_neg1
    have m1 : (0 ≤ (-1 : Int32)) = False := eq_false lm_nn1
    rcases k with k | k
    · by_cases full : c ≤ n
      · have z1 : nI c ≤ nI n := nI_le full (by omega)
        have z2 : ¬ nI n < nI c := nI_nlt full (by omega)
        refine ⟨-2, K, V, Kb, Vb, sz, hD, fun post h => ?_, fun post h => ?_⟩
        · simp +decide only [wpX_applyUpdate, w4, cj, true_implies, false_implies, not_true_eq_false, not_false_eq_true, and_true, true_and, forall_eq, implies_true, lm_nb0, lm_nb1]
          refine hx _ ?_
          simp +decide only [wpX_addKey, w4, cj, k, i2, c2, ez, z1, z2, true_implies, false_implies, not_true_eq_false, not_false_eq_true, and_true, true_and, forall_eq, implies_true, lm_nb0, lm_nb1]
          exact h
        · simp +decide only [wpY_apply, true_implies, false_implies, not_true_eq_false, not_false_eq_true, and_true, true_and, forall_eq, implies_true, lm_nb0, lm_nb1]
          refine hy _ ?_
          simp +decide only [k, m0, m1, i2, c2, ez, z1, z2, true_implies, false_implies, not_true_eq_false, not_false_eq_true, and_true, true_and, forall_eq, implies_true, lm_nb0, lm_nb1]
          exact h
      · have z1 : ¬ nI c ≤ nI n := nI_ge (by omega) (by omega)
        have z2 : nI n < nI c := nI_lt (by omega) (by omega)
        have z3 : ¬ (16 : Int32) ≤ nI n := nI_ge (b := 16) (by omega) (by decide)
        have z4 : nI n < (16 : Int32) := nI_lt (b := 16) (by omega) (by decide)
        have e1 : nI (s * 16) + nI n = nI (s * 16 + n) := nI_add _ _
        have e2 : nI n + 1 = nI (n + 1) := nI_1 n
        have q1 : vp_in (nI (s * 16 + n)) 32 := vp_in_nI (by omega) (by omega)
        have q3 : (nI (s * 16 + n)).toNatClampNeg = s * 16 + n := nI_clamp (by omega)
        refine ⟨-1, upd K (s * 16 + n) (wk j), upd V (s * 16 + n) (wv j), upd Kb (s * 16 + n) (wk j), upd Vb (s * 16 + n) (wv j), upd sz s (nI (n + 1)),
          lm_u2 (wv j) hD hs (by omega) hL hLb fq, fun post h => ?_, fun post h => ?_⟩
        · simp +decide only [wpX_applyUpdate, w4, cj, true_implies, false_implies, not_true_eq_false, not_false_eq_true, and_true, true_and, forall_eq, implies_true, lm_nb0, lm_nb1]
          refine hx _ ?_
          simp +decide only [wpX_addKey, w4, cj, k, i2, c2, ez, z1, z2, s16, e1, e2, q1, q3, true_implies, false_implies, not_true_eq_false, not_false_eq_true, and_true, true_and, forall_eq, implies_true, lm_nb0, lm_nb1]
          exact h
        · simp +decide only [wpY_apply, true_implies, false_implies, not_true_eq_false, not_false_eq_true, and_true, true_and, forall_eq, implies_true, lm_nb0, lm_nb1]
          refine hy _ ?_
          simp +decide only [k, m0, m1, i2, c2, ez, z1, z2, z3, z4, s16, e1, e2, q1, q3, true_implies, false_implies, not_true_eq_false, not_false_eq_true, and_true, true_and, forall_eq, implies_true, lm_nb0, lm_nb1]
          exact h
    · refine ⟨-1, K, V, Kb, Vb, sz, hD, fun post h => ?_, fun post h => ?_⟩
      · simp +decide only [wpX_applyUpdate, w4, cj, true_implies, false_implies, not_true_eq_false, not_false_eq_true, and_true, true_and, forall_eq, implies_true, lm_nb0, lm_nb1]
        refine hx _ ?_
        simp +decide only [w4, cj, k, true_implies, false_implies, not_true_eq_false, not_false_eq_true, and_true, true_and, forall_eq, implies_true, lm_nb0, lm_nb1]
        exact h
      · simp +decide only [wpY_apply, true_implies, false_implies, not_true_eq_false, not_false_eq_true, and_true, true_and, forall_eq, implies_true, lm_nb0, lm_nb1]
        refine hy _ ?_
        simp +decide only [k, m0, m1, true_implies, false_implies, not_true_eq_false, not_false_eq_true, and_true, true_and, forall_eq, implies_true, lm_nb0, lm_nb1]
        exact h
  · rw [lm_hit hLb hpb ekb] at fq; cases fq
  · rw [lm_hit hL hp ek] at gq; cases gq
  · have ev : V (s * 16 + p) = Vb (s * 16 + pb) := Option.some.inj ((lm_hit hL hp ek).symm.trans (lm_hit hLb hpb ekb))
    have n1 : ¬ nI (s * 16 + p) = -1 := lm_ne1 (by omega)
    have t1 : vp_in (nI (s * 16 + p)) 32 := vp_in_nI (by omega) (by omega)
    have d1 : (nI (s * 16 + p)).toNatClampNeg = s * 16 + p := nI_clamp (by omega)
    have n2 : ¬ nI pb < 0 := nI_pos (by omega)
    have n2' : 0 ≤ nI pb := nI_pos' (by omega)
    have e2 : nI (s * 16) + nI pb = nI (s * 16 + pb) := nI_add _ _
    have t2 : vp_in (nI (s * 16 + pb)) 32 := vp_in_nI (by omega) (by omega)
    have d2 : (nI (s * 16 + pb)).toNatClampNeg = s * 16 + pb := nI_clamp (by omega)
    rcases k with k | k
    · refine ⟨V (s * 16 + p), K, upd V (s * 16 + p) (wv j), Kb, upd Vb (s * 16 + pb) (wv j), sz,
        lm_u1 (wv j) hD hs hn ez hL hLb hp ek hpb ekb, fun post h => ?_, fun post h => ?_⟩
      · simp +decide only [wpX_applyUpdate, w4, cj, true_implies, false_implies, not_true_eq_false, not_false_eq_true, and_true, true_and, forall_eq, implies_true, lm_nb0, lm_nb1]
        refine hx _ ?_
        simp +decide only [w4, cj, k, n1, t1, d1, true_implies, false_implies, not_true_eq_false, not_false_eq_true, and_true, true_and, forall_eq, implies_true, lm_nb0, lm_nb1]
        exact h
      · rw [ev] at h
        simp +decide only [wpY_apply, true_implies, false_implies, not_true_eq_false, not_false_eq_true, and_true, true_and, forall_eq, implies_true, lm_nb0, lm_nb1]
        refine hy _ ?_
        simp +decide only [k, n2, n2', s16, e2, t2, d2, true_implies, false_implies, not_true_eq_false, not_false_eq_true, and_true, true_and, forall_eq, implies_true, lm_nb0, lm_nb1]
        exact h
    · obtain ⟨K2, V2, lo, up, hw⟩ := ly_shift (c := c) (R := R) (Wn := Wn) (lr := lr) (ver := ver) (cu := cu) (lock := lock) (steps := steps) (i0 := i0) (i1 := i1) (rp := rp) (rk := rk) (rr := rr) (rv := rv) (rs := rs) (wp := wp) (wkd := wkd) (wk := wk) (wv := wv) (wr := wr) (wve := wve) (ws := ws) hs hn (by omega) ez (Vb (s * 16 + pb)) (n - 1 - pb) pb Kb Vb (by omega)
      have m1 : nI n - 1 = nI (n - 1) := lm_s1 (by omega)
      have e5 : nI (s * 16) + nI (n - 1) = nI (s * 16 + (n - 1)) := nI_add _ _
      have t5 : vp_in (nI (s * 16 + (n - 1))) 32 := vp_in_nI (by omega) (by omega)
      have d5 : (nI (s * 16 + (n - 1))).toNatClampNeg = s * 16 + (n - 1) := nI_clamp (by omega)
      refine ⟨V (s * 16 + p), upd K (s * 16 + p) (K (s * 16 + (n - 1))), upd V (s * 16 + p) (V (s * 16 + (n - 1))), K2, V2, upd sz s (nI (n - 1)),
        lm_u3 hD hs hn hL hLb hp ek hpb ekb lo up, fun post h => ?_, fun post h => ?_⟩
      · simp +decide only [wpX_applyUpdate, w4, cj, true_implies, false_implies, not_true_eq_false, not_false_eq_true, and_true, true_and, forall_eq, implies_true, lm_nb0, lm_nb1]
        refine hx _ ?_
        simp +decide only [wpX_removeSlot, w4, cj, k, n1, t1, d1, i2, c2, ez, m1, pk_us, s16, e5, t5, d5, true_implies, false_implies, not_true_eq_false, not_false_eq_true, and_true, true_and, forall_eq, implies_true, lm_nb0, lm_nb1]
        exact h
      · rw [ev] at h
        simp +decide only [wpY_apply, true_implies, false_implies, not_true_eq_false, not_false_eq_true, and_true, true_and, forall_eq, implies_true, lm_nb0, lm_nb1]
        refine hy _ ?_
        simp +decide only [k, n2, n2', s16, e2, t2, d2, true_implies, false_implies, not_true_eq_false, not_false_eq_true, and_true, true_and, forall_eq, implies_true, lm_nb0, lm_nb1]
        exact ⟨_, hw post h⟩
end LMU
end
section
theorem lm_fR {j R Wn : Nat} (hR : 1 ≤ R ∧ R ≤ 8) (hW : 1 ≤ Wn ∧ Wn ≤ 4) (hj : j < R) : ¬ nI j < 0 ∧ nI j < nI R + nI Wn ∧ ¬ nI R + nI Wn ≤ nI j ∧
    nI j < nI R ∧ ¬ nI R ≤ nI j ∧ vp_in (nI j) 8 ∧ (nI j).toNatClampNeg = j := by
  rw [nI_add]
  exact ⟨nI_pos (by omega), nI_lt (by omega) (by omega), nI_ge (by omega) (by omega), nI_lt (by omega) (by omega), nI_ge (by omega) (by omega),
    vp_in_nI (by omega) (by omega), nI_clamp (by omega)⟩
theorem lm_fW {j R Wn : Nat} (hR : 1 ≤ R ∧ R ≤ 8) (hW : 1 ≤ Wn ∧ Wn ≤ 4) (hj : j < Wn) : ¬ nI (R + j) < 0 ∧ nI (R + j) < nI R + nI Wn ∧ ¬ nI R + nI Wn ≤ nI (R + j) ∧
    ¬ nI (R + j) < nI R ∧ nI R ≤ nI (R + j) ∧ nI (R + j) - nI R = nI j ∧ vp_in (nI j) 4 ∧ (nI j).toNatClampNeg = j := by
  refine ⟨nI_pos (by omega), ?_, ?_, nI_nlt (by omega) (by omega), nI_le (by omega) (by omega), ?_, vp_in_nI (by omega) (by omega), nI_clamp (by omega)⟩
  · rw [nI_add]; exact nI_lt (by omega) (by omega)
  · rw [nI_add]; exact nI_ge (by omega) (by omega)
  · rw [pk_sub (by omega)]; exact congrArg nI (by omega)
theorem lm_ag (a : Int32) {R Wn : Nat} (hR : 1 ≤ R ∧ R ≤ 8) (hW : 1 ≤ Wn ∧ Wn ≤ 4) :
    a < 0 ∨ (¬ a < 0 ∧ ¬ a < nI R + nI Wn ∧ nI R + nI Wn ≤ a) ∨ (∃ j, j < R ∧ a = nI j) ∨ (∃ j, j < Wn ∧ a = nI (R + j)) := by
  by_cases h : a < 0
  · exact Or.inl h
  · obtain ⟨j, hj, rfl⟩ := nI_of h
    by_cases h1 : j < R
    · exact Or.inr (Or.inr (Or.inl ⟨j, h1, rfl⟩))
    · by_cases h2 : j < R + Wn
      · exact Or.inr (Or.inr (Or.inr ⟨j - R, by omega, congrArg nI (by omega)⟩))
      · refine Or.inr (Or.inl ⟨h, ?_, ?_⟩)
        · rw [nI_add]; exact nI_nlt (by omega) hj
        · rw [nI_add]; exact nI_le (by omega) hj
theorem lm_rd1 {p v s : Int32} (h : p = 1) : lm_rd p v s := Or.inr (Or.inr (Or.inl h))
theorem lm_rd2 {p v s : Int32} (h : p = 2) (b : lm_b v) : lm_rd p v s := Or.inr (Or.inr (Or.inr (Or.inl ⟨h, b⟩)))
theorem lm_rd3 {p v s : Int32} (h : p = 3) (b : lm_b v) : lm_rd p v s := Or.inr (Or.inr (Or.inr (Or.inr (Or.inl ⟨h, b⟩))))
theorem lm_rd4 {p v s : Int32} (h : p = 4) (b : lm_b v) (b' : lm_b s) : lm_rd p v s := Or.inr (Or.inr (Or.inr (Or.inr (Or.inr (Or.inl ⟨h, b, b'⟩)))))
theorem lm_rd5 {p v s : Int32} (h : p = 5) (b : lm_b v) : lm_rd p v s := Or.inr (Or.inr (Or.inr (Or.inr (Or.inr (Or.inr ⟨h, b⟩)))))
theorem lm_rd6 {p v s : Int32} (h : p = 6) : lm_rd p v s := Or.inr (Or.inl h)
theorem lm_wr1 {p kd v s : Int32} (h : p = 1) (k : lm_k kd) : lm_wr p kd v s := Or.inr (Or.inr (Or.inl ⟨h, k⟩))
theorem lm_wr2 {p kd v s : Int32} (h : p = 2) (k : lm_k kd) : lm_wr p kd v s := Or.inr (Or.inr (Or.inr (Or.inl ⟨h, k⟩)))
theorem lm_wr3 {p kd v s : Int32} (h : p = 3) (k : lm_k kd) (b : lm_b s) : lm_wr p kd v s := Or.inr (Or.inr (Or.inr (Or.inr (Or.inl ⟨h, k, b⟩))))
theorem lm_wr4 {p kd v s : Int32} (h : p = 4) (k : lm_k kd) (b : lm_b s) : lm_wr p kd v s := Or.inr (Or.inr (Or.inr (Or.inr (Or.inr (Or.inl ⟨h, k, b⟩)))))
theorem lm_wr5 {p kd v s : Int32} (h : p = 5) (k : lm_k kd) (b : lm_b s) (b' : lm_b v) : lm_wr p kd v s := Or.inr (Or.inr (Or.inr (Or.inr (Or.inr (Or.inr (Or.inl ⟨h, k, b, b'⟩))))))
theorem lm_wr6 {p kd v s : Int32} (h : p = 6) (k : lm_k kd) (b : lm_b s) (b' : lm_b v) : lm_wr p kd v s := Or.inr (Or.inr (Or.inr (Or.inr (Or.inr (Or.inr (Or.inr (Or.inl ⟨h, k, b, b'⟩)))))))
theorem lm_wr7 {p kd v s : Int32} (h : p = 7) (k : lm_k kd) (b : lm_b s) : lm_wr p kd v s := Or.inr (Or.inr (Or.inr (Or.inr (Or.inr (Or.inr (Or.inr (Or.inr ⟨h, k, b⟩)))))))
theorem lm_wr8 {p kd v s : Int32} (h : p = 8) : lm_wr p kd v s := Or.inr (Or.inl h)
theorem lm_c0 : (nI 0).toNatClampNeg = 0 := nI_clamp (by decide)
theorem lm_c1 : (nI 1).toNatClampNeg = 1 := nI_clamp (by decide)
theorem lm_i0 : vp_in (nI 0) 2 := vp_in_nI (by decide) (by decide)
theorem lm_i1 : vp_in (nI 1) 2 := vp_in_nI (by decide) (by decide)
theorem lm_e0 : (nI 0 = 0) = True := eq_true nI_0
theorem lm_e1 : (nI 1 = 0) = False := eq_false (nI_ne0 (by decide) (by decide))
theorem lm_f1 : (nI 1 = 1) = True := eq_true (by decide +kernel)
section LMA
variable {c R Wn lr ver cu : Nat} {lock steps i0 i1 : Int32} {K V Kb Vb sz ind rp rk rr rv rs wp wkd wk wv wr wve ws : Nat → Int32}
theorem ly_ind (h0 : ind 0 = i0) (h1 : ind 1 = i1) {t : Nat} (ht : t < 2) {post : Int32 → Prop} (hp : post (ind t)) : wpY_ind post (nI c, nI R, nI Wn, nI lr, nI ver, i0, i1, lock, nI cu, steps, Kb, Vb, sz, rp, rk, rr, rv, rs, wp, wkd, wk, wv, wr, wve, ws) (nI t) := by
  have ht2 : t = 0 ∨ t = 1 := by omega
  rcases ht2 with rfl | rfl
  · simp +decide only [wpY_ind, lm_e0, true_implies, false_implies, not_true_eq_false, not_false_eq_true, and_true, true_and, forall_eq, implies_true, lm_nb0, lm_nb1]; rw [← h0]; exact hp
  · simp +decide only [wpY_ind, lm_e1, true_implies, false_implies, not_true_eq_false, not_false_eq_true, and_true, true_and, forall_eq, implies_true, lm_nb0, lm_nb1]; rw [← h1]; exact hp
end LMA
end
section
section LMR
variable {c R Wn lr ver cu : Nat} {lock steps i0 i1 : Int32} {K V Kb Vb sz ind rp rk rr rv rs wp wkd wk wv wr wve ws : Nat → Int32}
theorem lm_sr0 (F : lm_F c R Wn lr ver cu i0 i1 K V Kb Vb sz ind rp rv rs wp wkd wve ws) {j : Nat} (hj : j < R) (e : rp j = 0 ∨ rp j = 6) : lm_G R Wn (fun post => wpX_step post (nI c, nI R, nI Wn, nI lr, nI ver, lock, nI cu, steps, K, V, sz, ind, rp, rk, rr, rv, rs, wp, wkd, wk, wv, wr, wve, ws) (nI j)) (fun post => wpY_step post (nI c, nI R, nI Wn, nI lr, nI ver, i0, i1, lock, nI cu, steps, Kb, Vb, sz, rp, rk, rr, rv, rs, wp, wkd, wk, wv, wr, wve, ws) (nI j)) := by
  obtain ⟨hc, hR, hW, hlr, hver, hcu, h0, h1, hD, hAR, hAW⟩ := F
  obtain ⟨a1, a2, a3, a4, a5, a6, a7⟩ := lm_fR hR hW hj
  refine lm_g (r := 0) (u := (nI c, nI R, nI Wn, nI lr, nI ver, lock, nI cu, steps, K, V, sz, ind, rp, rk, rr, rv, rs, wp, wkd, wk, wv, wr, wve, ws)) (v := (nI c, nI R, nI Wn, nI lr, nI ver, i0, i1, lock, nI cu, steps, Kb, Vb, sz, rp, rk, rr, rv, rs, wp, wkd, wk, wv, wr, wve, ws)) (fun post hp => ?_) (fun post hp => ?_) (lm_mk ⟨hc, hR, hW, hlr, hver, hcu, h0, h1, hD, hAR, hAW⟩)
  · rcases e with e | e <;> simp +decide only [wpX_step, wpX_isActive, wpX_isReaderActive, a1, a2, a3, a4, a5, a6, a7, e, true_implies, false_implies, not_true_eq_false, not_false_eq_true, and_true, true_and, forall_eq, implies_true, lm_nb0, lm_nb1] <;> exact hp
  · rcases e with e | e <;> simp +decide only [wpY_step, wpY_active, a1, a2, a3, a4, a5, a6, a7, e, true_implies, false_implies, not_true_eq_false, not_false_eq_true, and_true, true_and, forall_eq, implies_true, lm_nb0, lm_nb1] <;> exact hp
theorem lm_sr1 (F : lm_F c R Wn lr ver cu i0 i1 K V Kb Vb sz ind rp rv rs wp wkd wve ws) {j : Nat} (hj : j < R) (e : rp j = 1) : lm_G R Wn (fun post => wpX_step post (nI c, nI R, nI Wn, nI lr, nI ver, lock, nI cu, steps, K, V, sz, ind, rp, rk, rr, rv, rs, wp, wkd, wk, wv, wr, wve, ws) (nI j)) (fun post => wpY_step post (nI c, nI R, nI Wn, nI lr, nI ver, i0, i1, lock, nI cu, steps, Kb, Vb, sz, rp, rk, rr, rv, rs, wp, wkd, wk, wv, wr, wve, ws) (nI j)) := by
  obtain ⟨hc, hR, hW, hlr, hver, hcu, h0, h1, hD, hAR, hAW⟩ := F
  obtain ⟨a1, a2, a3, a4, a5, a6, a7⟩ := lm_fR hR hW hj
  refine lm_g (r := 1) (u := (nI c, nI R, nI Wn, nI lr, nI ver, lock, nI cu, steps + 1, K, V, sz, ind, upd rp j 2, rk, rr, upd rv j (nI ver), rs, wp, wkd, wk, wv, wr, wve, ws)) (v := (nI c, nI R, nI Wn, nI lr, nI ver, i0, i1, lock, nI cu, steps + 1, Kb, Vb, sz, upd rp j 2, rk, rr, upd rv j (nI ver), rs, wp, wkd, wk, wv, wr, wve, ws))
    (fun post hp => ?_) (fun post hp => ?_) (lm_mk ⟨hc, hR, hW, hlr, hver, hcu, h0, h1, hD,
      lm_ARu j hAR (fun i n => ⟨pk_un n, pk_un n, rfl⟩) (lm_rd2 pk_us ⟨ver, hver, pk_us⟩), hAW⟩)
  · simp +decide only [wpX_step, wpX_isActive, wpX_isReaderActive, wpX_stepReader, a1, a2, a3, a4, a5, a6, a7, e, true_implies, false_implies, not_true_eq_false, not_false_eq_true, and_true, true_and, forall_eq, implies_true, lm_nb0, lm_nb1]; exact hp
  · simp +decide only [wpY_step, wpY_active, a1, a2, a3, a4, a5, a6, a7, e, true_implies, false_implies, not_true_eq_false, not_false_eq_true, and_true, true_and, forall_eq, implies_true, lm_nb0, lm_nb1]; exact hp
theorem lm_sr3 (F : lm_F c R Wn lr ver cu i0 i1 K V Kb Vb sz ind rp rv rs wp wkd wve ws) {j : Nat} (hj : j < R) (e : rp j = 3) (bv : lm_b (rv j)) : lm_G R Wn (fun post => wpX_step post (nI c, nI R, nI Wn, nI lr, nI ver, lock, nI cu, steps, K, V, sz, ind, rp, rk, rr, rv, rs, wp, wkd, wk, wv, wr, wve, ws) (nI j)) (fun post => wpY_step post (nI c, nI R, nI Wn, nI lr, nI ver, i0, i1, lock, nI cu, steps, Kb, Vb, sz, rp, rk, rr, rv, rs, wp, wkd, wk, wv, wr, wve, ws) (nI j)) := by
  obtain ⟨hc, hR, hW, hlr, hver, hcu, h0, h1, hD, hAR, hAW⟩ := F
  obtain ⟨a1, a2, a3, a4, a5, a6, a7⟩ := lm_fR hR hW hj
  refine lm_g (r := 1) (u := (nI c, nI R, nI Wn, nI lr, nI ver, lock, nI cu, steps + 1, K, V, sz, ind, upd rp j 4, rk, rr, rv, upd rs j (nI lr), wp, wkd, wk, wv, wr, wve, ws)) (v := (nI c, nI R, nI Wn, nI lr, nI ver, i0, i1, lock, nI cu, steps + 1, Kb, Vb, sz, upd rp j 4, rk, rr, rv, upd rs j (nI lr), wp, wkd, wk, wv, wr, wve, ws))
    (fun post hp => ?_) (fun post hp => ?_) (lm_mk ⟨hc, hR, hW, hlr, hver, hcu, h0, h1, hD,
      lm_ARu j hAR (fun i n => ⟨pk_un n, rfl, pk_un n⟩) (lm_rd4 pk_us bv ⟨lr, hlr, pk_us⟩), hAW⟩)
  · simp +decide only [wpX_step, wpX_isActive, wpX_isReaderActive, wpX_stepReader, a1, a2, a3, a4, a5, a6, a7, e, true_implies, false_implies, not_true_eq_false, not_false_eq_true, and_true, true_and, forall_eq, implies_true, lm_nb0, lm_nb1]; exact hp
  · simp +decide only [wpY_step, wpY_active, a1, a2, a3, a4, a5, a6, a7, e, true_implies, false_implies, not_true_eq_false, not_false_eq_true, and_true, true_and, forall_eq, implies_true, lm_nb0, lm_nb1]; exact hp
theorem lm_sr2 (F : lm_F c R Wn lr ver cu i0 i1 K V Kb Vb sz ind rp rv rs wp wkd wve ws) {j : Nat} (hj : j < R) (e : rp j = 2) (bv : lm_b (rv j)) : lm_G R Wn (fun post => wpX_step post (nI c, nI R, nI Wn, nI lr, nI ver, lock, nI cu, steps, K, V, sz, ind, rp, rk, rr, rv, rs, wp, wkd, wk, wv, wr, wve, ws) (nI j)) (fun post => wpY_step post (nI c, nI R, nI Wn, nI lr, nI ver, i0, i1, lock, nI cu, steps, Kb, Vb, sz, rp, rk, rr, rv, rs, wp, wkd, wk, wv, wr, wve, ws) (nI j)) := by
  obtain ⟨hc, hR, hW, hlr, hver, hcu, h0, h1, hD, hAR, hAW⟩ := F
  obtain ⟨a1, a2, a3, a4, a5, a6, a7⟩ := lm_fR hR hW hj
  obtain ⟨t, ht, ev⟩ := bv
  have ht2 : t = 0 ∨ t = 1 := by omega
  subst h0 h1
  rcases ht2 with rfl | rfl
  · refine lm_g (r := 1) (u := (nI c, nI R, nI Wn, nI lr, nI ver, lock, nI cu, steps + 1, K, V, sz, upd ind 0 (ind 0 + 1), upd rp j 3, rk, rr, rv, rs, wp, wkd, wk, wv, wr, wve, ws)) (v := (nI c, nI R, nI Wn, nI lr, nI ver, ind 0 + 1, ind 1, lock, nI cu, steps + 1, Kb, Vb, sz, upd rp j 3, rk, rr, rv, rs, wp, wkd, wk, wv, wr, wve, ws))
      (fun post hp => ?_) (fun post hp => ?_) (lm_mk ⟨hc, hR, hW, hlr, hver, hcu, pk_us, (pk_un (by decide)), hD,
        lm_ARu j hAR (fun i n => ⟨pk_un n, rfl, rfl⟩) (lm_rd3 pk_us ⟨0, ht, ev⟩), hAW⟩)
    · simp +decide only [wpX_step, wpX_isActive, wpX_isReaderActive, wpX_stepReader, a1, a2, a3, a4, a5, a6, a7, e, ev, lm_c0, lm_i0, true_implies, false_implies, not_true_eq_false, not_false_eq_true, and_true, true_and, forall_eq, implies_true, lm_nb0, lm_nb1]; exact hp
    · simp +decide only [wpY_step, wpY_active, wpY_addInd, a1, a2, a3, a4, a5, a6, a7, e, ev, lm_e0, true_implies, false_implies, not_true_eq_false, not_false_eq_true, and_true, true_and, forall_eq, implies_true, lm_nb0, lm_nb1]; exact hp
  · refine lm_g (r := 1) (u := (nI c, nI R, nI Wn, nI lr, nI ver, lock, nI cu, steps + 1, K, V, sz, upd ind 1 (ind 1 + 1), upd rp j 3, rk, rr, rv, rs, wp, wkd, wk, wv, wr, wve, ws)) (v := (nI c, nI R, nI Wn, nI lr, nI ver, ind 0, ind 1 + 1, lock, nI cu, steps + 1, Kb, Vb, sz, upd rp j 3, rk, rr, rv, rs, wp, wkd, wk, wv, wr, wve, ws))
      (fun post hp => ?_) (fun post hp => ?_) (lm_mk ⟨hc, hR, hW, hlr, hver, hcu, (pk_un (by decide)), pk_us, hD,
        lm_ARu j hAR (fun i n => ⟨pk_un n, rfl, rfl⟩) (lm_rd3 pk_us ⟨1, ht, ev⟩), hAW⟩)
    · simp +decide only [wpX_step, wpX_isActive, wpX_isReaderActive, wpX_stepReader, a1, a2, a3, a4, a5, a6, a7, e, ev, lm_c1, lm_i1, true_implies, false_implies, not_true_eq_false, not_false_eq_true, and_true, true_and, forall_eq, implies_true, lm_nb0, lm_nb1]; exact hp
    · simp +decide only [wpY_step, wpY_active, wpY_addInd, a1, a2, a3, a4, a5, a6, a7, e, ev, lm_e1, true_implies, false_implies, not_true_eq_false, not_false_eq_true, and_true, true_and, forall_eq, implies_true, lm_nb0, lm_nb1]; exact hp
theorem lm_sr5 (F : lm_F c R Wn lr ver cu i0 i1 K V Kb Vb sz ind rp rv rs wp wkd wve ws) {j : Nat} (hj : j < R) (e : rp j = 5) (bv : lm_b (rv j)) : lm_G R Wn (fun post => wpX_step post (nI c, nI R, nI Wn, nI lr, nI ver, lock, nI cu, steps, K, V, sz, ind, rp, rk, rr, rv, rs, wp, wkd, wk, wv, wr, wve, ws) (nI j)) (fun post => wpY_step post (nI c, nI R, nI Wn, nI lr, nI ver, i0, i1, lock, nI cu, steps, Kb, Vb, sz, rp, rk, rr, rv, rs, wp, wkd, wk, wv, wr, wve, ws) (nI j)) := by
  obtain ⟨hc, hR, hW, hlr, hver, hcu, h0, h1, hD, hAR, hAW⟩ := F
  obtain ⟨a1, a2, a3, a4, a5, a6, a7⟩ := lm_fR hR hW hj
  obtain ⟨t, ht, ev⟩ := bv
  have ht2 : t = 0 ∨ t = 1 := by omega
  subst h0 h1
  rcases ht2 with rfl | rfl
  · refine lm_g (r := 1) (u := (nI c, nI R, nI Wn, nI lr, nI ver, lock, nI cu, steps + 1, K, V, sz, upd ind 0 (ind 0 - 1), upd rp j 6, rk, rr, rv, rs, wp, wkd, wk, wv, wr, wve, ws)) (v := (nI c, nI R, nI Wn, nI lr, nI ver, ind 0 + (-1), ind 1, lock, nI cu, steps + 1, Kb, Vb, sz, upd rp j 6, rk, rr, rv, rs, wp, wkd, wk, wv, wr, wve, ws))
      (fun post hp => ?_) (fun post hp => ?_) (lm_mk ⟨hc, hR, hW, hlr, hver, hcu, (pk_us.trans (Int32.sub_eq_add_neg _ _)), (pk_un (by decide)), hD,
        lm_ARu j hAR (fun i n => ⟨pk_un n, rfl, rfl⟩) (lm_rd6 pk_us), hAW⟩)
    · simp +decide only [wpX_step, wpX_isActive, wpX_isReaderActive, wpX_stepReader, a1, a2, a3, a4, a5, a6, a7, e, ev, lm_c0, lm_i0, true_implies, false_implies, not_true_eq_false, not_false_eq_true, and_true, true_and, forall_eq, implies_true, lm_nb0, lm_nb1]; exact hp
    · simp +decide only [wpY_step, wpY_active, wpY_addInd, a1, a2, a3, a4, a5, a6, a7, e, ev, lm_e0, true_implies, false_implies, not_true_eq_false, not_false_eq_true, and_true, true_and, forall_eq, implies_true, lm_nb0, lm_nb1]; exact hp
  · refine lm_g (r := 1) (u := (nI c, nI R, nI Wn, nI lr, nI ver, lock, nI cu, steps + 1, K, V, sz, upd ind 1 (ind 1 - 1), upd rp j 6, rk, rr, rv, rs, wp, wkd, wk, wv, wr, wve, ws)) (v := (nI c, nI R, nI Wn, nI lr, nI ver, ind 0, ind 1 + (-1), lock, nI cu, steps + 1, Kb, Vb, sz, upd rp j 6, rk, rr, rv, rs, wp, wkd, wk, wv, wr, wve, ws))
      (fun post hp => ?_) (fun post hp => ?_) (lm_mk ⟨hc, hR, hW, hlr, hver, hcu, (pk_un (by decide)), (pk_us.trans (Int32.sub_eq_add_neg _ _)), hD,
        lm_ARu j hAR (fun i n => ⟨pk_un n, rfl, rfl⟩) (lm_rd6 pk_us), hAW⟩)
    · simp +decide only [wpX_step, wpX_isActive, wpX_isReaderActive, wpX_stepReader, a1, a2, a3, a4, a5, a6, a7, e, ev, lm_c1, lm_i1, true_implies, false_implies, not_true_eq_false, not_false_eq_true, and_true, true_and, forall_eq, implies_true, lm_nb0, lm_nb1]; exact hp
    · simp +decide only [wpY_step, wpY_active, wpY_addInd, a1, a2, a3, a4, a5, a6, a7, e, ev, lm_e1, true_implies, false_implies, not_true_eq_false, not_false_eq_true, and_true, true_and, forall_eq, implies_true, lm_nb0, lm_nb1]; exact hp
theorem lm_sr4 (F : lm_F c R Wn lr ver cu i0 i1 K V Kb Vb sz ind rp rv rs wp wkd wve ws) {j : Nat} (hj : j < R) (e : rp j = 4) (bv : lm_b (rv j)) (bs : lm_b (rs j)) : lm_G R Wn (fun post => wpX_step post (nI c, nI R, nI Wn, nI lr, nI ver, lock, nI cu, steps, K, V, sz, ind, rp, rk, rr, rv, rs, wp, wkd, wk, wv, wr, wve, ws) (nI j)) (fun post => wpY_step post (nI c, nI R, nI Wn, nI lr, nI ver, i0, i1, lock, nI cu, steps, Kb, Vb, sz, rp, rk, rr, rv, rs, wp, wkd, wk, wv, wr, wve, ws) (nI j)) := by
  obtain ⟨hc, hR, hW, hlr, hver, hcu, h0, h1, hD, hAR, hAW⟩ := F
  obtain ⟨a1, a2, a3, a4, a5, a6, a7⟩ := lm_fR hR hW hj
  obtain ⟨t, ht, es⟩ := bs
  obtain ⟨q, hx, hy⟩ := lm_val (c := c) (R := R) (Wn := Wn) (lr := lr) (ver := ver) (cu := cu) (lock := lock) (steps := steps + 1) (ind := ind) (i0 := i0) (i1 := i1) (rp := rp) (rk := rk) (rr := rr) (rv := rv) (rs := rs) (wp := wp) (wkd := wkd) (wk := wk) (wv := wv) (wr := wr) (wve := wve) (ws := ws) hD ht (rk j)
  refine lm_g (r := 1) (u := (nI c, nI R, nI Wn, nI lr, nI ver, lock, nI cu, steps + 1, K, V, sz, ind, upd rp j 5, rk, upd rr j q, rv, rs, wp, wkd, wk, wv, wr, wve, ws)) (v := (nI c, nI R, nI Wn, nI lr, nI ver, i0, i1, lock, nI cu, steps + 1, Kb, Vb, sz, upd rp j 5, rk, upd rr j q, rv, rs, wp, wkd, wk, wv, wr, wve, ws))
    (fun post hp => ?_) (fun post hp => ?_) (lm_mk ⟨hc, hR, hW, hlr, hver, hcu, h0, h1, hD,
      lm_ARu j hAR (fun i n => ⟨pk_un n, rfl, rfl⟩) (lm_rd5 pk_us bv), hAW⟩)
  · simp +decide only [wpX_step, wpX_isActive, wpX_isReaderActive, wpX_stepReader, a1, a2, a3, a4, a5, a6, a7, e, es, true_implies, false_implies, not_true_eq_false, not_false_eq_true, and_true, true_and, forall_eq, implies_true, lm_nb0, lm_nb1]
    refine hx _ ?_
    exact hp
  · have ht2 : t = 0 ∨ t = 1 := by omega
    rcases ht2 with rfl | rfl
    · have n1 : (nI 0 = 1) = False := eq_false (by decide +kernel)
      simp +decide only [wpY_step, wY_step_139, wpY_active, a1, a2, a3, a4, a5, a6, a7, e, es, n1, true_implies, false_implies, not_true_eq_false, not_false_eq_true, and_true, true_and, forall_eq, implies_true, lm_nb0, lm_nb1]
      refine hy _ ?_
      exact hp
    · have n1 : (nI 1 = 1) = True := eq_true (by decide +kernel)
      simp +decide only [wpY_step, wY_step_139, wpY_active, a1, a2, a3, a4, a5, a6, a7, e, es, n1, true_implies, false_implies, not_true_eq_false, not_false_eq_true, and_true, true_and, forall_eq, implies_true, lm_nb0, lm_nb1]
      refine hy _ ?_
      exact hp
theorem lm_sr (F : lm_F c R Wn lr ver cu i0 i1 K V Kb Vb sz ind rp rv rs wp wkd wve ws) {j : Nat} (hj : j < R) : lm_G R Wn (fun post => wpX_step post (nI c, nI R, nI Wn, nI lr, nI ver, lock, nI cu, steps, K, V, sz, ind, rp, rk, rr, rv, rs, wp, wkd, wk, wv, wr, wve, ws) (nI j)) (fun post => wpY_step post (nI c, nI R, nI Wn, nI lr, nI ver, i0, i1, lock, nI cu, steps, Kb, Vb, sz, rp, rk, rr, rv, rs, wp, wkd, wk, wv, wr, wve, ws) (nI j)) := by
  have hj8 : j < 8 := Nat.lt_of_lt_of_le hj F.2.1.2
  rcases F.2.2.2.2.2.2.2.2.2.1 j hj8 with e | e | e | ⟨e, b⟩ | ⟨e, b⟩ | ⟨e, b, b'⟩ | ⟨e, b⟩
  · exact lm_sr0 F hj (Or.inl e)
  · exact lm_sr0 F hj (Or.inr e)
  · exact lm_sr1 F hj e
  · exact lm_sr2 F hj e b
  · exact lm_sr3 F hj e b
  · exact lm_sr4 F hj e b b'
  · exact lm_sr5 F hj e b
end LMR
end
section
section LMW
variable {c R Wn lr ver cu : Nat} {lock steps i0 i1 : Int32} {K V Kb Vb sz ind rp rk rr rv rs wp wkd wk wv wr wve ws : Nat → Int32}
theorem lm_sw0 (F : lm_F c R Wn lr ver cu i0 i1 K V Kb Vb sz ind rp rv rs wp wkd wve ws) {j : Nat} (hj : j < Wn) (e : wp j = 0 ∨ wp j = 8) : lm_G R Wn (fun post => wpX_step post (nI c, nI R, nI Wn, nI lr, nI ver, lock, nI cu, steps, K, V, sz, ind, rp, rk, rr, rv, rs, wp, wkd, wk, wv, wr, wve, ws) (nI (R + j))) (fun post => wpY_step post (nI c, nI R, nI Wn, nI lr, nI ver, i0, i1, lock, nI cu, steps, Kb, Vb, sz, rp, rk, rr, rv, rs, wp, wkd, wk, wv, wr, wve, ws) (nI (R + j))) := by
  obtain ⟨hc, hR, hW, hlr, hver, hcu, h0, h1, hD, hAR, hAW⟩ := F
  obtain ⟨a1, a2, a3, a4, a5, a6, a7, a8⟩ := lm_fW hR hW hj
  refine lm_g (r := 0) (u := (nI c, nI R, nI Wn, nI lr, nI ver, lock, nI cu, steps, K, V, sz, ind, rp, rk, rr, rv, rs, wp, wkd, wk, wv, wr, wve, ws)) (v := (nI c, nI R, nI Wn, nI lr, nI ver, i0, i1, lock, nI cu, steps, Kb, Vb, sz, rp, rk, rr, rv, rs, wp, wkd, wk, wv, wr, wve, ws)) (fun post hp => ?_) (fun post hp => ?_) (lm_mk ⟨hc, hR, hW, hlr, hver, hcu, h0, h1, hD, hAR, hAW⟩)
  · rcases e with e | e <;> simp +decide only [wpX_step, wpX_isActive, wpX_isWriterActive, a1, a2, a3, a4, a5, a6, a7, a8, e, true_implies, false_implies, not_true_eq_false, not_false_eq_true, and_true, true_and, forall_eq, implies_true, lm_nb0, lm_nb1] <;> exact hp
  · rcases e with e | e <;> simp +decide only [wpY_step, wpY_active, a1, a2, a3, a4, a5, a6, a7, a8, e, true_implies, false_implies, not_true_eq_false, not_false_eq_true, and_true, true_and, forall_eq, implies_true, lm_nb0, lm_nb1] <;> exact hp

theorem lm_sw1 (F : lm_F c R Wn lr ver cu i0 i1 K V Kb Vb sz ind rp rv rs wp wkd wve ws) {j : Nat} (hj : j < Wn) (e : wp j = 1) (k : lm_k (wkd j)) : lm_G R Wn (fun post => wpX_step post (nI c, nI R, nI Wn, nI lr, nI ver, lock, nI cu, steps, K, V, sz, ind, rp, rk, rr, rv, rs, wp, wkd, wk, wv, wr, wve, ws) (nI (R + j))) (fun post => wpY_step post (nI c, nI R, nI Wn, nI lr, nI ver, i0, i1, lock, nI cu, steps, Kb, Vb, sz, rp, rk, rr, rv, rs, wp, wkd, wk, wv, wr, wve, ws) (nI (R + j))) := by
  obtain ⟨hc, hR, hW, hlr, hver, hcu, h0, h1, hD, hAR, hAW⟩ := F
  obtain ⟨a1, a2, a3, a4, a5, a6, a7, a8⟩ := lm_fW hR hW hj
  by_cases l : lock = -1
  · have l1 : (lock = -1) = True := eq_true l
    refine lm_g (r := 1) (u := (nI c, nI R, nI Wn, nI lr, nI ver, nI j, nI cu, steps + 1, K, V, sz, ind, rp, rk, rr, rv, rs, upd wp j 2, wkd, wk, wv, wr, wve, ws)) (v := (nI c, nI R, nI Wn, nI lr, nI ver, i0, i1, nI j, nI cu, steps + 1, Kb, Vb, sz, rp, rk, rr, rv, rs, upd wp j 2, wkd, wk, wv, wr, wve, ws)) (fun post hp => ?_) (fun post hp => ?_)
        (lm_mk ⟨hc, hR, hW, hlr, hver, hcu, h0, h1, hD, hAR, lm_AWu j hAW (fun i n => ⟨pk_un n, rfl, rfl, rfl⟩) (lm_wr2 pk_us k)⟩)
    · simp +decide only [wpX_step, wpX_isActive, wpX_isWriterActive, wpX_stepWriter, wpX_takeLock, a1, a2, a3, a4, a5, a6, a7, a8, e, l1, true_implies, false_implies, not_true_eq_false, not_false_eq_true, and_true, true_and, forall_eq, implies_true, lm_nb0, lm_nb1]; exact hp
    · simp +decide only [wpY_step, wpY_active, a1, a2, a3, a4, a5, a6, a7, a8, e, l1, true_implies, false_implies, not_true_eq_false, not_false_eq_true, and_true, true_and, forall_eq, implies_true, lm_nb0, lm_nb1]; exact hp
  · refine lm_g (r := 2) (u := (nI c, nI R, nI Wn, nI lr, nI ver, lock, nI cu, steps + 1, K, V, sz, ind, rp, rk, rr, rv, rs, wp, wkd, wk, wv, wr, wve, ws)) (v := (nI c, nI R, nI Wn, nI lr, nI ver, i0, i1, lock, nI cu, steps + 1, Kb, Vb, sz, rp, rk, rr, rv, rs, wp, wkd, wk, wv, wr, wve, ws)) (fun post hp => ?_) (fun post hp => ?_)
        (lm_mk ⟨hc, hR, hW, hlr, hver, hcu, h0, h1, hD, hAR, hAW⟩)
    · simp +decide only [wpX_step, wpX_isActive, wpX_isWriterActive, wpX_stepWriter, wpX_takeLock, a1, a2, a3, a4, a5, a6, a7, a8, e, l, true_implies, false_implies, not_true_eq_false, not_false_eq_true, and_true, true_and, forall_eq, implies_true, lm_nb0, lm_nb1]; exact hp
    · simp +decide only [wpY_step, wpY_active, a1, a2, a3, a4, a5, a6, a7, a8, e, l, true_implies, false_implies, not_true_eq_false, not_false_eq_true, and_true, true_and, forall_eq, implies_true, lm_nb0, lm_nb1]; exact hp

theorem lm_sw3 (F : lm_F c R Wn lr ver cu i0 i1 K V Kb Vb sz ind rp rv rs wp wkd wve ws) {j : Nat} (hj : j < Wn) (e : wp j = 3) (k : lm_k (wkd j)) (b : lm_b (ws j)) : lm_G R Wn (fun post => wpX_step post (nI c, nI R, nI Wn, nI lr, nI ver, lock, nI cu, steps, K, V, sz, ind, rp, rk, rr, rv, rs, wp, wkd, wk, wv, wr, wve, ws) (nI (R + j))) (fun post => wpY_step post (nI c, nI R, nI Wn, nI lr, nI ver, i0, i1, lock, nI cu, steps, Kb, Vb, sz, rp, rk, rr, rv, rs, wp, wkd, wk, wv, wr, wve, ws) (nI (R + j))) := by
  obtain ⟨hc, hR, hW, hlr, hver, hcu, h0, h1, hD, hAR, hAW⟩ := F
  obtain ⟨a1, a2, a3, a4, a5, a6, a7, a8⟩ := lm_fW hR hW hj
  obtain ⟨t, ht, es⟩ := b
  refine lm_g (r := 1) (u := (nI c, nI R, nI Wn, nI t, nI ver, lock, nI cu, steps + 1, K, V, sz, ind, rp, rk, rr, rv, rs, upd wp j 4, wkd, wk, wv, wr, wve, ws)) (v := (nI c, nI R, nI Wn, nI t, nI ver, i0, i1, lock, nI cu, steps + 1, Kb, Vb, sz, rp, rk, rr, rv, rs, upd wp j 4, wkd, wk, wv, wr, wve, ws)) (fun post hp => ?_) (fun post hp => ?_)
      (lm_mk ⟨hc, hR, hW, ht, hver, hcu, h0, h1, hD, hAR, lm_AWu j hAW (fun i n => ⟨pk_un n, rfl, rfl, rfl⟩) (lm_wr4 pk_us k ⟨t, ht, es⟩)⟩)
  · simp +decide only [wpX_step, wpX_isActive, wpX_isWriterActive, wpX_stepWriter, a1, a2, a3, a4, a5, a6, a7, a8, e, es, true_implies, false_implies, not_true_eq_false, not_false_eq_true, and_true, true_and, forall_eq, implies_true, lm_nb0, lm_nb1]; exact hp
  · simp +decide only [wpY_step, wpY_active, a1, a2, a3, a4, a5, a6, a7, a8, e, es, true_implies, false_implies, not_true_eq_false, not_false_eq_true, and_true, true_and, forall_eq, implies_true, lm_nb0, lm_nb1]; exact hp

theorem lm_sw5 (F : lm_F c R Wn lr ver cu i0 i1 K V Kb Vb sz ind rp rv rs wp wkd wve ws) {j : Nat} (hj : j < Wn) (e : wp j = 5) (k : lm_k (wkd j)) (b : lm_b (ws j)) (bv : lm_b (wve j)) : lm_G R Wn (fun post => wpX_step post (nI c, nI R, nI Wn, nI lr, nI ver, lock, nI cu, steps, K, V, sz, ind, rp, rk, rr, rv, rs, wp, wkd, wk, wv, wr, wve, ws) (nI (R + j))) (fun post => wpY_step post (nI c, nI R, nI Wn, nI lr, nI ver, i0, i1, lock, nI cu, steps, Kb, Vb, sz, rp, rk, rr, rv, rs, wp, wkd, wk, wv, wr, wve, ws) (nI (R + j))) := by
  obtain ⟨hc, hR, hW, hlr, hver, hcu, h0, h1, hD, hAR, hAW⟩ := F
  obtain ⟨a1, a2, a3, a4, a5, a6, a7, a8⟩ := lm_fW hR hW hj
  obtain ⟨t, ht, ev⟩ := bv
  have m := lm_1s ht
  refine lm_g (r := 1) (u := (nI c, nI R, nI Wn, nI lr, nI (1 - t), lock, nI cu, steps + 1, K, V, sz, ind, rp, rk, rr, rv, rs, upd wp j 6, wkd, wk, wv, wr, wve, ws)) (v := (nI c, nI R, nI Wn, nI lr, nI (1 - t), i0, i1, lock, nI cu, steps + 1, Kb, Vb, sz, rp, rk, rr, rv, rs, upd wp j 6, wkd, wk, wv, wr, wve, ws)) (fun post hp => ?_) (fun post hp => ?_)
      (lm_mk ⟨hc, hR, hW, hlr, (by omega), hcu, h0, h1, hD, hAR, lm_AWu j hAW (fun i n => ⟨pk_un n, rfl, rfl, rfl⟩) (lm_wr6 pk_us k b ⟨t, ht, ev⟩)⟩)
  · simp +decide only [wpX_step, wpX_isActive, wpX_isWriterActive, wpX_stepWriter, a1, a2, a3, a4, a5, a6, a7, a8, e, ev, m, true_implies, false_implies, not_true_eq_false, not_false_eq_true, and_true, true_and, forall_eq, implies_true, lm_nb0, lm_nb1]; exact hp
  · simp +decide only [wpY_step, wpY_active, a1, a2, a3, a4, a5, a6, a7, a8, e, ev, m, true_implies, false_implies, not_true_eq_false, not_false_eq_true, and_true, true_and, forall_eq, implies_true, lm_nb0, lm_nb1]; exact hp

theorem lm_sw6 (F : lm_F c R Wn lr ver cu i0 i1 K V Kb Vb sz ind rp rv rs wp wkd wve ws) {j : Nat} (hj : j < Wn) (e : wp j = 6) (k : lm_k (wkd j)) (b : lm_b (ws j)) (bv : lm_b (wve j)) : lm_G R Wn (fun post => wpX_step post (nI c, nI R, nI Wn, nI lr, nI ver, lock, nI cu, steps, K, V, sz, ind, rp, rk, rr, rv, rs, wp, wkd, wk, wv, wr, wve, ws) (nI (R + j))) (fun post => wpY_step post (nI c, nI R, nI Wn, nI lr, nI ver, i0, i1, lock, nI cu, steps, Kb, Vb, sz, rp, rk, rr, rv, rs, wp, wkd, wk, wv, wr, wve, ws) (nI (R + j))) := by
  obtain ⟨hc, hR, hW, hlr, hver, hcu, h0, h1, hD, hAR, hAW⟩ := F
  obtain ⟨a1, a2, a3, a4, a5, a6, a7, a8⟩ := lm_fW hR hW hj
  obtain ⟨t, ht, ev⟩ := bv
  have q1 : vp_in (nI (t)) 2 := vp_in_nI (by omega) (by omega)
  have q2 : (nI (t)).toNatClampNeg = t := nI_clamp (by omega)
  have yi : ∀ (post : Int32 → Prop) {wp wve : Nat → Int32}, post (ind (t)) → wpY_ind post (nI c, nI R, nI Wn, nI lr, nI ver, i0, i1, lock, nI cu, steps + 1, Kb, Vb, sz, rp, rk, rr, rv, rs, wp, wkd, wk, wv, wr, wve, ws) (nI (t)) := fun post _ _ hp => ly_ind h0 h1 (by omega) hp
  by_cases z : ind (t) = 0
  · refine lm_g (r := 1) (u := (nI c, nI R, nI Wn, nI lr, nI ver, lock, nI cu, steps + 1, K, V, sz, ind, rp, rk, rr, rv, rs, upd wp j 7, wkd, wk, wv, wr, wve, ws)) (v := (nI c, nI R, nI Wn, nI lr, nI ver, i0, i1, lock, nI cu, steps + 1, Kb, Vb, sz, rp, rk, rr, rv, rs, upd wp j 7, wkd, wk, wv, wr, wve, ws)) (fun post hp => ?_) (fun post hp => ?_)
        (lm_mk ⟨hc, hR, hW, hlr, hver, hcu, h0, h1, hD, hAR, lm_AWu j hAW (fun i n => ⟨pk_un n, rfl, rfl, rfl⟩) (lm_wr7 pk_us k b)⟩)
    · simp +decide only [wpX_step, wpX_isActive, wpX_isWriterActive, wpX_stepWriter, wpX_drain, a1, a2, a3, a4, a5, a6, a7, a8, e, ev, q1, q2, z, true_implies, false_implies, not_true_eq_false, not_false_eq_true, and_true, true_and, forall_eq, implies_true, lm_nb0, lm_nb1]; exact hp
    · simp +decide only [wpY_step, wpY_active, a1, a2, a3, a4, a5, a6, a7, a8, e, ev, true_implies, false_implies, not_true_eq_false, not_false_eq_true, and_true, true_and, forall_eq, implies_true, lm_nb0, lm_nb1]
      refine yi _ ?_
      first | exact hp | (simp +decide only [a1, a2, a3, a4, a5, a6, a7, a8, e, z, true_implies, false_implies, not_true_eq_false, not_false_eq_true, and_true, true_and, forall_eq, implies_true, lm_nb0, lm_nb1]; exact hp)
  · refine lm_g (r := 2) (u := (nI c, nI R, nI Wn, nI lr, nI ver, lock, nI cu, steps + 1, K, V, sz, ind, rp, rk, rr, rv, rs, wp, wkd, wk, wv, wr, wve, ws)) (v := (nI c, nI R, nI Wn, nI lr, nI ver, i0, i1, lock, nI cu, steps + 1, Kb, Vb, sz, rp, rk, rr, rv, rs, wp, wkd, wk, wv, wr, wve, ws)) (fun post hp => ?_) (fun post hp => ?_)
        (lm_mk ⟨hc, hR, hW, hlr, hver, hcu, h0, h1, hD, hAR, hAW⟩)
    · simp +decide only [wpX_step, wpX_isActive, wpX_isWriterActive, wpX_stepWriter, wpX_drain, a1, a2, a3, a4, a5, a6, a7, a8, e, ev, q1, q2, z, true_implies, false_implies, not_true_eq_false, not_false_eq_true, and_true, true_and, forall_eq, implies_true, lm_nb0, lm_nb1]; exact hp
    · simp +decide only [wpY_step, wpY_active, a1, a2, a3, a4, a5, a6, a7, a8, e, ev, true_implies, false_implies, not_true_eq_false, not_false_eq_true, and_true, true_and, forall_eq, implies_true, lm_nb0, lm_nb1]
      refine yi _ ?_
      first | exact hp | (simp +decide only [a1, a2, a3, a4, a5, a6, a7, a8, e, z, true_implies, false_implies, not_true_eq_false, not_false_eq_true, and_true, true_and, forall_eq, implies_true, lm_nb0, lm_nb1]; exact hp)

theorem lm_sw4 (F : lm_F c R Wn lr ver cu i0 i1 K V Kb Vb sz ind rp rv rs wp wkd wve ws) {j : Nat} (hj : j < Wn) (e : wp j = 4) (k : lm_k (wkd j)) (b : lm_b (ws j)) : lm_G R Wn (fun post => wpX_step post (nI c, nI R, nI Wn, nI lr, nI ver, lock, nI cu, steps, K, V, sz, ind, rp, rk, rr, rv, rs, wp, wkd, wk, wv, wr, wve, ws) (nI (R + j))) (fun post => wpY_step post (nI c, nI R, nI Wn, nI lr, nI ver, i0, i1, lock, nI cu, steps, Kb, Vb, sz, rp, rk, rr, rv, rs, wp, wkd, wk, wv, wr, wve, ws) (nI (R + j))) := by
  obtain ⟨hc, hR, hW, hlr, hver, hcu, h0, h1, hD, hAR, hAW⟩ := F
  obtain ⟨a1, a2, a3, a4, a5, a6, a7, a8⟩ := lm_fW hR hW hj
  have m := lm_1s hver
  have q1 : vp_in (nI (1 - ver)) 2 := vp_in_nI (by omega) (by omega)
  have q2 : (nI (1 - ver)).toNatClampNeg = 1 - ver := nI_clamp (by omega)
  have yi : ∀ (post : Int32 → Prop) {wp wve : Nat → Int32}, post (ind (1 - ver)) → wpY_ind post (nI c, nI R, nI Wn, nI lr, nI ver, i0, i1, lock, nI cu, steps + 1, Kb, Vb, sz, rp, rk, rr, rv, rs, wp, wkd, wk, wv, wr, wve, ws) (nI (1 - ver)) := fun post _ _ hp => ly_ind h0 h1 (by omega) hp
  by_cases z : ind (1 - ver) = 0
  · refine lm_g (r := 1) (u := (nI c, nI R, nI Wn, nI lr, nI ver, lock, nI cu, steps + 1, K, V, sz, ind, rp, rk, rr, rv, rs, upd wp j 5, wkd, wk, wv, wr, upd wve j (nI ver), ws)) (v := (nI c, nI R, nI Wn, nI lr, nI ver, i0, i1, lock, nI cu, steps + 1, Kb, Vb, sz, rp, rk, rr, rv, rs, upd wp j 5, wkd, wk, wv, wr, upd wve j (nI ver), ws)) (fun post hp => ?_) (fun post hp => ?_)
        (lm_mk ⟨hc, hR, hW, hlr, hver, hcu, h0, h1, hD, hAR, lm_AWu j hAW (fun i n => ⟨pk_un n, rfl, pk_un n, rfl⟩) (lm_wr5 pk_us k b ⟨ver, hver, pk_us⟩)⟩)
    · simp +decide only [wpX_step, wpX_isActive, wpX_isWriterActive, wpX_stepWriter, wpX_drain, a1, a2, a3, a4, a5, a6, a7, a8, e, m, q1, q2, z, true_implies, false_implies, not_true_eq_false, not_false_eq_true, and_true, true_and, forall_eq, implies_true, lm_nb0, lm_nb1]; exact hp
    · simp +decide only [wpY_step, wpY_active, a1, a2, a3, a4, a5, a6, a7, a8, e, m, pk_us, true_implies, false_implies, not_true_eq_false, not_false_eq_true, and_true, true_and, forall_eq, implies_true, lm_nb0, lm_nb1]
      refine yi _ ?_
      first | exact hp | (simp +decide only [a1, a2, a3, a4, a5, a6, a7, a8, e, z, true_implies, false_implies, not_true_eq_false, not_false_eq_true, and_true, true_and, forall_eq, implies_true, lm_nb0, lm_nb1]; exact hp)
  · refine lm_g (r := 2) (u := (nI c, nI R, nI Wn, nI lr, nI ver, lock, nI cu, steps + 1, K, V, sz, ind, rp, rk, rr, rv, rs, wp, wkd, wk, wv, wr, upd wve j (nI ver), ws)) (v := (nI c, nI R, nI Wn, nI lr, nI ver, i0, i1, lock, nI cu, steps + 1, Kb, Vb, sz, rp, rk, rr, rv, rs, wp, wkd, wk, wv, wr, upd wve j (nI ver), ws)) (fun post hp => ?_) (fun post hp => ?_)
        (lm_mk ⟨hc, hR, hW, hlr, hver, hcu, h0, h1, hD, hAR, lm_AWu j hAW (fun i n => ⟨rfl, rfl, pk_un n, rfl⟩) (lm_wr4 e k b)⟩)
    · simp +decide only [wpX_step, wpX_isActive, wpX_isWriterActive, wpX_stepWriter, wpX_drain, a1, a2, a3, a4, a5, a6, a7, a8, e, m, q1, q2, z, true_implies, false_implies, not_true_eq_false, not_false_eq_true, and_true, true_and, forall_eq, implies_true, lm_nb0, lm_nb1]; exact hp
    · simp +decide only [wpY_step, wpY_active, a1, a2, a3, a4, a5, a6, a7, a8, e, m, pk_us, true_implies, false_implies, not_true_eq_false, not_false_eq_true, and_true, true_and, forall_eq, implies_true, lm_nb0, lm_nb1]
      refine yi _ ?_
      first | exact hp | (simp +decide only [a1, a2, a3, a4, a5, a6, a7, a8, e, z, true_implies, false_implies, not_true_eq_false, not_false_eq_true, and_true, true_and, forall_eq, implies_true, lm_nb0, lm_nb1]; exact hp)

theorem lm_sw2 (F : lm_F c R Wn lr ver cu i0 i1 K V Kb Vb sz ind rp rv rs wp wkd wve ws) {j : Nat} (hj : j < Wn) (e : wp j = 2) (k : lm_k (wkd j)) : lm_G R Wn (fun post => wpX_step post (nI c, nI R, nI Wn, nI lr, nI ver, lock, nI cu, steps, K, V, sz, ind, rp, rk, rr, rv, rs, wp, wkd, wk, wv, wr, wve, ws) (nI (R + j))) (fun post => wpY_step post (nI c, nI R, nI Wn, nI lr, nI ver, i0, i1, lock, nI cu, steps, Kb, Vb, sz, rp, rk, rr, rv, rs, wp, wkd, wk, wv, wr, wve, ws) (nI (R + j))) := by
  obtain ⟨hc, hR, hW, hlr, hver, hcu, h0, h1, hD, hAR, hAW⟩ := F
  obtain ⟨a1, a2, a3, a4, a5, a6, a7, a8⟩ := lm_fW hR hW hj
  have m := lm_1s hlr
  obtain ⟨q, K1, V1, Kb1, Vb1, sz1, hD1, hx, hy⟩ := lm_upd (c := c) (R := R) (Wn := Wn) (lr := lr) (ver := ver) (cu := cu) (lock := lock) (steps := steps + 1) (ind := ind) (i0 := i0) (i1 := i1) (rp := rp) (rk := rk) (rr := rr) (rv := rv) (rs := rs) (wp := wp) (wkd := wkd) (wk := wk) (wv := wv) (wr := wr) (wve := wve) (ws := upd ws j (nI (1 - lr))) hD (s := 1 - lr) (by omega) (j := j) (by omega) k hc
  by_cases z : q = -2
  · have z1 : (q = -2) = True := eq_true z
    refine lm_g (r := 1) (u := (nI c, nI R, nI Wn, nI lr, nI ver, -1, nI cu, steps + 1, K1, V1, sz1, ind, rp, rk, rr, rv, rs, upd wp j 8, wkd, wk, wv, upd wr j q, wve, upd ws j (nI (1 - lr)))) (v := (nI c, nI R, nI Wn, nI lr, nI ver, i0, i1, -1, nI cu, steps + 1, Kb1, Vb1, sz1, rp, rk, rr, rv, rs, upd wp j 8, wkd, wk, wv, upd wr j q, wve, upd ws j (nI (1 - lr)))) (fun post hp => ?_) (fun post hp => ?_)
      (lm_mk ⟨hc, hR, hW, hlr, hver, hcu, h0, h1, hD1, hAR, lm_AWu j hAW (fun i n => ⟨pk_un n, rfl, rfl, pk_un n⟩) (lm_wr8 pk_us)⟩)
    · simp +decide only [wpX_step, wpX_isActive, wpX_isWriterActive, wpX_stepWriter, wpX_applyIdle, a1, a2, a3, a4, a5, a6, a7, a8, e, m, true_implies, false_implies, not_true_eq_false, not_false_eq_true, and_true, true_and, forall_eq, implies_true, lm_nb0, lm_nb1]
      refine hx _ ?_
      first | exact hp | (simp +decide only [wpX_finish, a1, a2, a3, a4, a5, a6, a7, a8, e, z1, true_implies, false_implies, not_true_eq_false, not_false_eq_true, and_true, true_and, forall_eq, implies_true, lm_nb0, lm_nb1]; exact hp)
    · simp +decide only [wpY_step, wpY_active, a1, a2, a3, a4, a5, a6, a7, a8, e, m, pk_us, true_implies, false_implies, not_true_eq_false, not_false_eq_true, and_true, true_and, forall_eq, implies_true, lm_nb0, lm_nb1]
      refine hy _ ?_
      first | exact hp | (simp +decide only [a1, a2, a3, a4, a5, a6, a7, a8, e, z1, true_implies, false_implies, not_true_eq_false, not_false_eq_true, and_true, true_and, forall_eq, implies_true, lm_nb0, lm_nb1]; exact hp)
  · have z1 : (q = -2) = False := eq_false z
    refine lm_g (r := 1) (u := (nI c, nI R, nI Wn, nI lr, nI ver, lock, nI cu, steps + 1, K1, V1, sz1, ind, rp, rk, rr, rv, rs, upd wp j 3, wkd, wk, wv, upd wr j q, wve, upd ws j (nI (1 - lr)))) (v := (nI c, nI R, nI Wn, nI lr, nI ver, i0, i1, lock, nI cu, steps + 1, Kb1, Vb1, sz1, rp, rk, rr, rv, rs, upd wp j 3, wkd, wk, wv, upd wr j q, wve, upd ws j (nI (1 - lr)))) (fun post hp => ?_) (fun post hp => ?_)
      (lm_mk ⟨hc, hR, hW, hlr, hver, hcu, h0, h1, hD1, hAR, lm_AWu j hAW (fun i n => ⟨pk_un n, rfl, rfl, pk_un n⟩) (lm_wr3 pk_us k ⟨1 - lr, by omega, pk_us⟩)⟩)
    · simp +decide only [wpX_step, wpX_isActive, wpX_isWriterActive, wpX_stepWriter, wpX_applyIdle, a1, a2, a3, a4, a5, a6, a7, a8, e, m, true_implies, false_implies, not_true_eq_false, not_false_eq_true, and_true, true_and, forall_eq, implies_true, lm_nb0, lm_nb1]
      refine hx _ ?_
      first | exact hp | (simp +decide only [wpX_finish, a1, a2, a3, a4, a5, a6, a7, a8, e, z1, true_implies, false_implies, not_true_eq_false, not_false_eq_true, and_true, true_and, forall_eq, implies_true, lm_nb0, lm_nb1]; exact hp)
    · simp +decide only [wpY_step, wpY_active, a1, a2, a3, a4, a5, a6, a7, a8, e, m, pk_us, true_implies, false_implies, not_true_eq_false, not_false_eq_true, and_true, true_and, forall_eq, implies_true, lm_nb0, lm_nb1]
      refine hy _ ?_
      first | exact hp | (simp +decide only [a1, a2, a3, a4, a5, a6, a7, a8, e, z1, true_implies, false_implies, not_true_eq_false, not_false_eq_true, and_true, true_and, forall_eq, implies_true, lm_nb0, lm_nb1]; exact hp)

theorem lm_sw7 (F : lm_F c R Wn lr ver cu i0 i1 K V Kb Vb sz ind rp rv rs wp wkd wve ws) {j : Nat} (hj : j < Wn) (e : wp j = 7) (k : lm_k (wkd j)) (b : lm_b (ws j)) : lm_G R Wn (fun post => wpX_step post (nI c, nI R, nI Wn, nI lr, nI ver, lock, nI cu, steps, K, V, sz, ind, rp, rk, rr, rv, rs, wp, wkd, wk, wv, wr, wve, ws) (nI (R + j))) (fun post => wpY_step post (nI c, nI R, nI Wn, nI lr, nI ver, i0, i1, lock, nI cu, steps, Kb, Vb, sz, rp, rk, rr, rv, rs, wp, wkd, wk, wv, wr, wve, ws) (nI (R + j))) := by
  obtain ⟨hc, hR, hW, hlr, hver, hcu, h0, h1, hD, hAR, hAW⟩ := F
  obtain ⟨a1, a2, a3, a4, a5, a6, a7, a8⟩ := lm_fW hR hW hj
  obtain ⟨t, ht, es⟩ := b
  have m := lm_1s ht
  obtain ⟨q, K1, V1, Kb1, Vb1, sz1, hD1, hx, hy⟩ := lm_upd (c := c) (R := R) (Wn := Wn) (lr := lr) (ver := ver) (cu := cu) (lock := lock) (steps := steps + 1) (ind := ind) (i0 := i0) (i1 := i1) (rp := rp) (rk := rk) (rr := rr) (rv := rv) (rs := rs) (wp := wp) (wkd := wkd) (wk := wk) (wv := wv) (wr := wr) (wve := wve) (ws := ws) hD (s := 1 - t) (by omega) (j := j) (by omega) k hc
  refine lm_g (r := 1) (u := (nI c, nI R, nI Wn, nI lr, nI ver, -1, nI cu, steps + 1, K1, V1, sz1, ind, rp, rk, rr, rv, rs, upd wp j 8, wkd, wk, wv, wr, wve, ws)) (v := (nI c, nI R, nI Wn, nI lr, nI ver, i0, i1, -1, nI cu, steps + 1, Kb1, Vb1, sz1, rp, rk, rr, rv, rs, upd wp j 8, wkd, wk, wv, wr, wve, ws)) (fun post hp => ?_) (fun post hp => ?_)
    (lm_mk ⟨hc, hR, hW, hlr, hver, hcu, h0, h1, hD1, hAR, lm_AWu j hAW (fun i n => ⟨pk_un n, rfl, rfl, rfl⟩) (lm_wr8 pk_us)⟩)
  · simp +decide only [wpX_step, wpX_isActive, wpX_isWriterActive, wpX_stepWriter, wpX_applyOld, a1, a2, a3, a4, a5, a6, a7, a8, e, es, m, true_implies, false_implies, not_true_eq_false, not_false_eq_true, and_true, true_and, forall_eq, implies_true, lm_nb0, lm_nb1]
    refine hx _ ?_
    first | exact hp | (simp +decide only [wpX_finish, a1, a2, a3, a4, a5, a6, a7, a8, e, true_implies, false_implies, not_true_eq_false, not_false_eq_true, and_true, true_and, forall_eq, implies_true, lm_nb0, lm_nb1]; exact hp)
  · simp +decide only [wpY_step, wpY_active, a1, a2, a3, a4, a5, a6, a7, a8, e, es, m, true_implies, false_implies, not_true_eq_false, not_false_eq_true, and_true, true_and, forall_eq, implies_true, lm_nb0, lm_nb1]
    refine hy _ ?_
    first | exact hp | (simp +decide only [a1, a2, a3, a4, a5, a6, a7, a8, e, true_implies, false_implies, not_true_eq_false, not_false_eq_true, and_true, true_and, forall_eq, implies_true, lm_nb0, lm_nb1]; exact hp)

theorem lm_sw (F : lm_F c R Wn lr ver cu i0 i1 K V Kb Vb sz ind rp rv rs wp wkd wve ws) {j : Nat} (hj : j < Wn) : lm_G R Wn (fun post => wpX_step post (nI c, nI R, nI Wn, nI lr, nI ver, lock, nI cu, steps, K, V, sz, ind, rp, rk, rr, rv, rs, wp, wkd, wk, wv, wr, wve, ws) (nI (R + j))) (fun post => wpY_step post (nI c, nI R, nI Wn, nI lr, nI ver, i0, i1, lock, nI cu, steps, Kb, Vb, sz, rp, rk, rr, rv, rs, wp, wkd, wk, wv, wr, wve, ws) (nI (R + j))) := by
  have hj4 : j < 4 := Nat.lt_of_lt_of_le hj F.2.2.1.2
  rcases F.2.2.2.2.2.2.2.2.2.2 j hj4 with e | e | ⟨e, k⟩ | ⟨e, k⟩ | ⟨e, k, b⟩ | ⟨e, k, b⟩ | ⟨e, k, b, b'⟩ | ⟨e, k, b, b'⟩ | ⟨e, k, b⟩
  · exact lm_sw0 F hj (Or.inl e)
  · exact lm_sw0 F hj (Or.inr e)
  · exact lm_sw1 F hj e k
  · exact lm_sw2 F hj e k
  · exact lm_sw3 F hj e k b
  · exact lm_sw4 F hj e k b
  · exact lm_sw5 F hj e k b b'
  · exact lm_sw6 F hj e k b b'
  · exact lm_sw7 F hj e k b
theorem lm_sn (F : lm_F c R Wn lr ver cu i0 i1 K V Kb Vb sz ind rp rv rs wp wkd wve ws) (a : Int32) (h : a < 0 ∨ (¬ a < 0 ∧ ¬ a < nI R + nI Wn ∧ nI R + nI Wn ≤ a)) : lm_G R Wn (fun post => wpX_step post (nI c, nI R, nI Wn, nI lr, nI ver, lock, nI cu, steps, K, V, sz, ind, rp, rk, rr, rv, rs, wp, wkd, wk, wv, wr, wve, ws) a) (fun post => wpY_step post (nI c, nI R, nI Wn, nI lr, nI ver, i0, i1, lock, nI cu, steps, Kb, Vb, sz, rp, rk, rr, rv, rs, wp, wkd, wk, wv, wr, wve, ws) a) := by
  refine lm_g (r := 0) (u := (nI c, nI R, nI Wn, nI lr, nI ver, lock, nI cu, steps, K, V, sz, ind, rp, rk, rr, rv, rs, wp, wkd, wk, wv, wr, wve, ws)) (v := (nI c, nI R, nI Wn, nI lr, nI ver, i0, i1, lock, nI cu, steps, Kb, Vb, sz, rp, rk, rr, rv, rs, wp, wkd, wk, wv, wr, wve, ws)) (fun post hp => ?_) (fun post hp => ?_) (lm_mk F)
  · rcases h with h | ⟨b1, b2, b3⟩
    · simp +decide only [wpX_step, wpX_isActive, h, true_implies, false_implies, not_true_eq_false, not_false_eq_true, and_true, true_and, forall_eq, implies_true, lm_nb0, lm_nb1]; exact hp
    · simp +decide only [wpX_step, wpX_isActive, b1, b2, b3, true_implies, false_implies, not_true_eq_false, not_false_eq_true, and_true, true_and, forall_eq, implies_true, lm_nb0, lm_nb1]; exact hp
  · rcases h with h | ⟨b1, b2, b3⟩
    · simp +decide only [wpY_step, wpY_active, h, true_implies, false_implies, not_true_eq_false, not_false_eq_true, and_true, true_and, forall_eq, implies_true, lm_nb0, lm_nb1]; exact hp
    · simp +decide only [wpY_step, wpY_active, b1, b2, b3, true_implies, false_implies, not_true_eq_false, not_false_eq_true, and_true, true_and, forall_eq, implies_true, lm_nb0, lm_nb1]; exact hp
theorem lm_step {u : SX} {v : SY} (I : lm_Rel R Wn u v) (a : Int32) : lm_G R Wn (fun post => wpX_step post u a) (fun post => wpY_step post v a) := by
  obtain ⟨c, lr, ver, cu, lock, steps, i0, i1, K, V, Kb, Vb, sz, ind, rp, rk, rr, rv, rs, wp, wkd, wk, wv, wr, wve, ws, rfl, rfl, F⟩ := I
  rcases lm_ag a F.2.1 F.2.2.1 with h | h | ⟨j, hj, rfl⟩ | ⟨j, hj, rfl⟩
  · exact lm_sn F a (Or.inl h)
  · exact lm_sn F a (Or.inr h)
  · exact lm_sr F hj
  · exact lm_sw F hj
end LMW
end
section
theorem lm_mod {a t : Nat} (h : a < 2 * t) : a % t = if a < t then a else a - t := by
  by_cases c : a < t
  · rw [if_pos c, Nat.mod_eq_of_lt c]
  · rw [if_neg c, Nat.mod_eq_sub_mod (by omega), Nat.mod_eq_of_lt (by omega)]
section LMN
variable {c R Wn lr ver cu : Nat} {lock steps i0 i1 : Int32} {K V Kb Vb sz ind rp rk rr rv rs wp wkd wk wv wr wve ws : Nat → Int32}
theorem lx_wrap (hR : 1 ≤ R ∧ R ≤ 8) (hW : 1 ≤ Wn ∧ Wn ≤ 4) {a : Nat} (h : a < 2 * (R + Wn)) (post : Int32 → Prop) (hp : post (nI (a % (R + Wn)))) :
    wpX_wrapAgent post (nI c, nI R, nI Wn, nI lr, nI ver, lock, nI cu, steps, K, V, sz, ind, rp, rk, rr, rv, rs, wp, wkd, wk, wv, wr, wve, ws) (nI a) := by
  have e := lm_mod h
  have s1 : nI R + nI Wn = nI (R + Wn) := nI_add R Wn
  by_cases k : a < R + Wn
  · rw [if_pos k] at e
    rw [e] at hp
    have z1 : nI a < nI (R + Wn) := nI_lt k (by omega)
    have z2 : ¬ nI (R + Wn) ≤ nI a := nI_ge k (by omega)
    simp +decide only [wpX_wrapAgent, s1, z1, z2, true_implies, false_implies, not_true_eq_false, not_false_eq_true, and_true, true_and, forall_eq, implies_true, lm_nb0, lm_nb1]; exact hp
  · rw [if_neg k] at e
    rw [e] at hp
    have z1 : ¬ nI a < nI (R + Wn) := nI_nlt (by omega) (by omega)
    have z2 : nI (R + Wn) ≤ nI a := nI_le (by omega) (by omega)
    have z3 : nI a - nI (R + Wn) = nI (a - (R + Wn)) := pk_sub (by omega)
    simp +decide only [wpX_wrapAgent, s1, z1, z2, z3, true_implies, false_implies, not_true_eq_false, not_false_eq_true, and_true, true_and, forall_eq, implies_true, lm_nb0, lm_nb1]; exact hp
theorem lm_act (hR : 1 ≤ R ∧ R ≤ 8) (hW : 1 ≤ Wn ∧ Wn ≤ 4) {a : Nat} (h : a < R + Wn) : ∃ b : Int32, (b = 0 ∨ b = 1) ∧
    (∀ post : Int32 → Prop, post b → wpX_isActive post (nI c, nI R, nI Wn, nI lr, nI ver, lock, nI cu, steps, K, V, sz, ind, rp, rk, rr, rv, rs, wp, wkd, wk, wv, wr, wve, ws) (nI a)) ∧ (∀ post : Int32 → Prop, post b → wpY_active post (nI c, nI R, nI Wn, nI lr, nI ver, i0, i1, lock, nI cu, steps, Kb, Vb, sz, rp, rk, rr, rv, rs, wp, wkd, wk, wv, wr, wve, ws) (nI a)) := by
  by_cases k : a < R
  · obtain ⟨a1, a2, a3, a4, a5, a6, a7⟩ := lm_fR hR hW k
    by_cases e0 : rp a = 0
    · refine ⟨0, Or.inl rfl, fun post hp => ?_, fun post hp => ?_⟩
      · simp +decide only [wpX_isActive, wpX_isReaderActive, a1, a2, a3, a4, a5, a6, a7, e0, true_implies, false_implies, not_true_eq_false, not_false_eq_true, and_true, true_and, forall_eq, implies_true, lm_nb0, lm_nb1]; exact hp
      · simp +decide only [wpY_active, a1, a2, a3, a4, a5, a6, a7, e0, true_implies, false_implies, not_true_eq_false, not_false_eq_true, and_true, true_and, forall_eq, implies_true, lm_nb0, lm_nb1]; exact hp
    · by_cases e6 : rp a = 6
      · refine ⟨0, Or.inl rfl, fun post hp => ?_, fun post hp => ?_⟩
        · simp +decide only [wpX_isActive, wpX_isReaderActive, a1, a2, a3, a4, a5, a6, a7, e6, true_implies, false_implies, not_true_eq_false, not_false_eq_true, and_true, true_and, forall_eq, implies_true, lm_nb0, lm_nb1]; exact hp
        · simp +decide only [wpY_active, a1, a2, a3, a4, a5, a6, a7, e6, true_implies, false_implies, not_true_eq_false, not_false_eq_true, and_true, true_and, forall_eq, implies_true, lm_nb0, lm_nb1]; exact hp
      · refine ⟨1, Or.inr rfl, fun post hp => ?_, fun post hp => ?_⟩
        · simp +decide only [wpX_isActive, wpX_isReaderActive, a1, a2, a3, a4, a5, a6, a7, e0, e6, true_implies, false_implies, not_true_eq_false, not_false_eq_true, and_true, true_and, forall_eq, implies_true, lm_nb0, lm_nb1]; exact hp
        · simp +decide only [wpY_active, a1, a2, a3, a4, a5, a6, a7, e0, e6, true_implies, false_implies, not_true_eq_false, not_false_eq_true, and_true, true_and, forall_eq, implies_true, lm_nb0, lm_nb1]; exact hp
  · obtain ⟨j, hj, rfl⟩ : ∃ j, j < Wn ∧ a = R + j := ⟨a - R, by omega, by omega⟩
    obtain ⟨a1, a2, a3, a4, a5, a6, a7, a8⟩ := lm_fW hR hW hj
    by_cases e0 : wp j = 0
    · refine ⟨0, Or.inl rfl, fun post hp => ?_, fun post hp => ?_⟩
      · simp +decide only [wpX_isActive, wpX_isWriterActive, a1, a2, a3, a4, a5, a6, a7, a8, e0, true_implies, false_implies, not_true_eq_false, not_false_eq_true, and_true, true_and, forall_eq, implies_true, lm_nb0, lm_nb1]; exact hp
      · simp +decide only [wpY_active, a1, a2, a3, a4, a5, a6, a7, a8, e0, true_implies, false_implies, not_true_eq_false, not_false_eq_true, and_true, true_and, forall_eq, implies_true, lm_nb0, lm_nb1]; exact hp
    · by_cases e6 : wp j = 8
      · refine ⟨0, Or.inl rfl, fun post hp => ?_, fun post hp => ?_⟩
        · simp +decide only [wpX_isActive, wpX_isWriterActive, a1, a2, a3, a4, a5, a6, a7, a8, e6, true_implies, false_implies, not_true_eq_false, not_false_eq_true, and_true, true_and, forall_eq, implies_true, lm_nb0, lm_nb1]; exact hp
        · simp +decide only [wpY_active, a1, a2, a3, a4, a5, a6, a7, a8, e6, true_implies, false_implies, not_true_eq_false, not_false_eq_true, and_true, true_and, forall_eq, implies_true, lm_nb0, lm_nb1]; exact hp
      · refine ⟨1, Or.inr rfl, fun post hp => ?_, fun post hp => ?_⟩
        · simp +decide only [wpX_isActive, wpX_isWriterActive, a1, a2, a3, a4, a5, a6, a7, a8, e0, e6, true_implies, false_implies, not_true_eq_false, not_false_eq_true, and_true, true_and, forall_eq, implies_true, lm_nb0, lm_nb1]; exact hp
        · simp +decide only [wpY_active, a1, a2, a3, a4, a5, a6, a7, a8, e0, e6, true_implies, false_implies, not_true_eq_false, not_false_eq_true, and_true, true_and, forall_eq, implies_true, lm_nb0, lm_nb1]; exact hp
theorem lm_next (hR : 1 ≤ R ∧ R ≤ 8) (hW : 1 ≤ Wn ∧ Wn ≤ 4) (hcu : cu < R + Wn) : ∀ d j, j + d = R + Wn → ∃ r : Int32, (r = -1 ∨ ∃ a, a < R + Wn ∧ r = nI a) ∧
    (∀ post : Int32 → Prop, post r → wX_nextActive_2 post (nI c) (nI R) (nI Wn) (nI lr) (nI ver) lock (nI cu) steps K V sz ind rp rk rr rv rs wp wkd wk wv wr wve ws (d + 1) (nI j)) ∧
    (∀ (post : Int32 → SY → Prop) (x2 x4 x5 : Int32) (n : Nat), wY_run_90 post (wY_run_37 post x2 (nI (R + Wn)) n) x2 (nI (R + Wn)) x4 x5 r (nI c) (nI R) (nI Wn) (nI lr) (nI ver) i0 i1 lock (nI cu) steps Kb Vb sz rp rk rr rv rs wp wkd wk wv wr wve ws →
      wY_run_49 post (wY_run_37 post x2 (nI (R + Wn)) n) x2 (nI (R + Wn)) x4 x5 (nI c) (nI R) (nI Wn) (nI lr) (nI ver) i0 i1 lock (nI cu) steps Kb Vb sz rp rk rr rv rs wp wkd wk wv wr wve ws (d + 1) (-1) (nI j)) := by
  intro d
  induction d with
  | zero =>
    intro j hj
    have h : nI R + nI Wn ≤ nI j := by rw [nI_add]; exact nI_le (by omega) (by omega)
    have h' : nI (R + Wn) ≤ nI j := nI_le (by omega) (by omega)
    exact ⟨-1, Or.inl rfl, fun post hp => br_t h hp, fun post x2 x4 x5 n hp => br_t h' hp⟩
  | succ d ih =>
    intro j hj
    have h : ¬ nI R + nI Wn ≤ nI j := by rw [nI_add]; exact nI_ge (by omega) (by omega)
    have h' : ¬ nI (R + Wn) ≤ nI j := nI_ge (by omega) (by omega)
    have ne : ¬ nI (R + Wn) = 0 := nI_ne0 (by omega) (by omega)
    have e : nI cu + nI j = nI (cu + j) := nI_add cu j
    have e' : (nI cu + nI j) - (nI cu + nI j) / nI (R + Wn) * nI (R + Wn) = nI ((cu + j) % (R + Wn)) := by
      rw [e]; exact pk_rem (by omega) (by omega) (by omega)
    have lt : (cu + j) % (R + Wn) < R + Wn := Nat.mod_lt _ (by omega)
    obtain ⟨b, hb, hx, hy⟩ := lm_act (c := c) (R := R) (Wn := Wn) (lr := lr) (ver := ver) (cu := cu) (lock := lock) (steps := steps) (ind := ind) (i0 := i0) (i1 := i1) (rp := rp) (rk := rk) (rr := rr) (rv := rv) (rs := rs) (wp := wp) (wkd := wkd) (wk := wk) (wv := wv) (wr := wr) (wve := wve) (ws := ws) (K := K) (V := V) (Kb := Kb) (Vb := Vb) (sz := sz) hR hW lt
    rcases hb with rfl | rfl
    · obtain ⟨r, hr, hX, hY⟩ := ih (j + 1) (by omega)
      refine ⟨r, hr, fun post hp => br_f h ?_, fun post x2 x4 x5 n hp => br_f h' (br_f lm_nn1 ⟨ne, nm_r e' (hy _ (br_t rfl (nm_r (nI_1 j) (hY post x2 x4 x5 n hp))))⟩)⟩
      rw [e]
      exact lx_wrap hR hW (by omega) _ (hx _ (br_t rfl (nm_r (nI_1 j) (hX post hp))))
    · have n10 : ¬ (1 : Int32) = 0 := by decide
      refine ⟨nI ((cu + j) % (R + Wn)), Or.inr ⟨_, lt, rfl⟩, fun post hp => br_f h ?_, fun post x2 x4 x5 n hp => br_f h' (br_f lm_nn1 ⟨ne, nm_r e' (hy _ (br_f n10 (nm_r (nI_1 j) ?_)))⟩)⟩
      · rw [e]
        exact lx_wrap hR hW (by omega) _ (hx _ (br_f n10 hp))
      · by_cases g : R + Wn ≤ j + 1
        · exact br_t (nI_le g (by omega)) hp
        · exact br_f (nI_ge (by omega) (by omega)) (br_t (nI_pos' (by omega)) hp)
def lm_XR (post : Int32 → SX → Prop) (x2 : Int32) (n : Nat) (x3 : Int32) (u : SX) : Prop := match u with
  | (f0, f1, f2, f3, f4, lock, f6, steps, K, V, sz, ind, rp, rk, rr, rv, rs, wp, wkd, wk, wv, wr, wve, ws) => wX_run_10 post x2 n x3 f0 f1 f2 f3 f4 lock f6 steps K V sz ind rp rk rr rv rs wp wkd wk wv wr wve ws
def lm_YR (post : Int32 → SY → Prop) (x2 x3 : Int32) (n : Nat) (x4 x5 : Int32) (v : SY) : Prop := match v with
  | (f0, f1, f2, f3, f4, i0, i1, lock, f6, steps, Kb, Vb, sz, rp, rk, rr, rv, rs, wp, wkd, wk, wv, wr, wve, ws) => wY_run_37 post x2 x3 n x4 x5 f0 f1 f2 f3 f4 i0 i1 lock f6 steps Kb Vb sz rp rk rr rv rs wp wkd wk wv wr wve ws
theorem lm_loop {m : Nat} (hm : m ≤ 64) : ∀ d i, i + d = m → ∀ (u : SX) (v : SY), lm_Rel R Wn u v →
    ∃ (r : Int32) (u' : SX) (v' : SY), lm_Rel R Wn u' v' ∧ (∀ post : Int32 → SX → Prop, post r u' → lm_XR post (nI m) (d + 1) (nI i) u) ∧
      (∀ post : Int32 → SY → Prop, post r v' → lm_YR post (nI m) (nI (R + Wn)) (d + 1) (nI i) (nI i) v) := by
  intro d
  induction d with
  | zero =>
    intro i hi u v I
    obtain ⟨c, lr, ver, cu, lock, steps, i0, i1, K, V, Kb, Vb, sz, ind, rp, rk, rr, rv, rs, wp, wkd, wk, wv, wr, wve, ws, rfl, rfl, F⟩ := I
    obtain rfl : i = m := by omega
    have h : nI i ≤ nI i := nI_le (Nat.le_refl i) (by omega)
    exact ⟨nI i, _, _, lm_mk F, fun post hp => br_t h hp, fun post hp => br_t h hp⟩
  | succ d ih =>
    intro i hi u v I
    obtain ⟨c, lr, ver, cu, lock, steps, i0, i1, K, V, Kb, Vb, sz, ind, rp, rk, rr, rv, rs, wp, wkd, wk, wv, wr, wve, ws, rfl, rfl, F⟩ := I
    have hR := F.2.1
    have hW := F.2.2.1
    have hcu := F.2.2.2.2.2.1
    have h : ¬ nI m ≤ nI i := nI_ge (by omega) (by omega)
    have ne : ¬ nI (R + Wn) = 0 := nI_ne0 (by omega) (by omega)
    obtain ⟨q, hq, hx, hy⟩ := lm_next (c := c) (R := R) (Wn := Wn) (lr := lr) (ver := ver) (cu := cu) (lock := lock) (steps := steps) (ind := ind) (i0 := i0) (i1 := i1) (rp := rp) (rk := rk) (rr := rr) (rv := rv) (rs := rs) (wp := wp) (wkd := wkd) (wk := wk) (wv := wv) (wr := wr) (wve := wve) (ws := ws) (K := K) (V := V) (Kb := Kb) (Vb := Vb) (sz := sz) hR hW hcu (R + Wn) 0 (by omega)
    rcases hq with rfl | ⟨a, ha, rfl⟩
    · exact ⟨nI i, _, _, lm_mk F, fun post hp => br_f h ⟨_, hx _ (br_t rfl hp)⟩, fun post hp => br_f h ⟨_, hy post _ _ _ _ (br_f lm_nn1 hp)⟩⟩
    · obtain ⟨r0, u1, v1, I1, hx1, hy1⟩ := lm_step (lm_mk F) (nI a)
      have na : ¬ nI a = -1 := lm_ne1 (by omega)
      have pa : 0 ≤ nI a := nI_pos' (by omega)
      have e' : (nI a + 1) - (nI a + 1) / nI (R + Wn) * nI (R + Wn) = nI ((a + 1) % (R + Wn)) := by
        rw [nI_1 a]; exact pk_rem (by omega) (by omega) (by omega)
      have lt : (a + 1) % (R + Wn) < R + Wn := Nat.mod_lt _ (by omega)
      obtain ⟨c, lr, ver, cu1, lock, steps, i0, i1, K, V, Kb, Vb, sz, ind, rp, rk, rr, rv, rs, wp, wkd, wk, wv, wr, wve, ws, rfl, rfl, F1⟩ := I1
      obtain ⟨g1, g2, g3, g4, g5, g6, g7, g8, g9, g10, g11⟩ := F1
      obtain ⟨r, u2, v2, I2, hX, hY⟩ := ih (i + 1) (by omega) _ _ (lm_mk (lock := lock) (steps := steps) (rk := rk) (rr := rr) (wk := wk) (wv := wv) (wr := wr) ⟨g1, g2, g3, g4, g5, lt, g7, g8, g9, g10, g11⟩)
      refine ⟨r, u2, v2, I2, fun post hp => br_f h ⟨_, hx _ (br_f na (hx1 _ ?_))⟩, fun post hp => br_f h ⟨_, hy post _ _ _ _ (br_t pa (hy1 _ (nm_r (nI_1 i) ⟨ne, nm_r e' (nm_r (nI_1 i) (hY post hp))⟩)))⟩⟩
      have z := lx_wrap (c := c) (R := R) (Wn := Wn) (lr := lr) (ver := ver) (cu := cu1) (lock := lock) (steps := steps) (ind := ind) (rp := rp) (rk := rk) (rr := rr) (rv := rv) (rs := rs) (wp := wp) (wkd := wkd) (wk := wk) (wv := wv) (wr := wr) (wve := wve) (ws := ws) (K := K) (V := V) (sz := sz) hR hW (a := a + 1) (by omega)
      rw [← nI_1 a] at z
      exact z _ (nm_r (nI_1 i) (hX post hp))
end LMN
theorem lm_cl (x : Int32) {L H : Int32} (lo hi : Nat) (eL : L = nI lo) (eH : H = nI hi) (h : lo ≤ hi) (hh : hi < 2 ^ 31) :
    ∃ c, lo ≤ c ∧ c ≤ hi ∧ ∀ P : Int32 → Prop, P (nI c) → ((L ≤ x → ((x ≤ H → P x) ∧ (¬ x ≤ H → P H))) ∧ (¬ L ≤ x → P L)) := by
  subst eL eH
  by_cases a : nI lo ≤ x
  · by_cases b : x ≤ nI hi
    · have p : ¬ x < 0 := Int32.not_lt.mpr (Int32.le_trans (nI_pos' (by omega)) a)
      obtain ⟨j, hj, rfl⟩ := nI_of p
      exact ⟨j, (nI_leI (by omega) hj).mp a, (nI_leI hj hh).mp b, fun P hp => br_t a (br_t b hp)⟩
    · exact ⟨hi, h, Nat.le_refl hi, fun P hp => br_t a (br_f b hp)⟩
  · exact ⟨lo, Nat.le_refl lo, h, fun P hp => br_f a hp⟩
theorem lm_run {R Wn : Nat} {u : SX} {v : SY} (I : lm_Rel R Wn u v) (a : Int32) : lm_G R Wn (fun post => wpX_run post u a) (fun post => wpY_run post v a) := by
  obtain ⟨m, hm0, hm, hc⟩ := lm_cl a (L := 0) (H := 64) 0 64 rfl rfl (by omega) (by omega)
  obtain ⟨r, u', v', I', hX, hY⟩ := lm_loop hm m 0 (by omega) u v I
  obtain ⟨c, lr, ver, cu, lock, steps, i0, i1, K, V, Kb, Vb, sz, ind, rp, rk, rr, rv, rs, wp, wkd, wk, wv, wr, wve, ws, rfl, rfl, F⟩ := I
  refine ⟨r, u', v', I', fun post hp => ?_, fun post hp => ?_⟩
  · exact hc (fun z => ∃ n10 : Nat, wX_run_10 post z n10 0 (nI c) (nI R) (nI Wn) (nI lr) (nI ver) lock (nI cu) steps K V sz ind rp rk rr rv rs wp wkd wk wv wr wve ws) ⟨m + 1, hX post hp⟩
  · exact hc (fun z => wY_run_20 post z (nI c) (nI R) (nI Wn) (nI lr) (nI ver) i0 i1 lock (nI cu) steps Kb Vb sz rp rk rr rv rs wp wkd wk wv wr wve ws) (nm_r (nI_add R Wn) ⟨m + 1, hY post hp⟩)
end
section
section LMF
variable {c R Wn lr ver cu : Nat} {lock steps i0 i1 : Int32} {K V Kb Vb sz ind rp rk rr rv rs wp wkd wk wv wr wve ws : Nat → Int32}
theorem lm_key (x M : Int32) : (x < 0 ∧ ¬ 0 ≤ x) ∨ (¬ x < 0 ∧ 0 ≤ x ∧ ¬ x ≤ M ∧ M < x) ∨ (¬ x < 0 ∧ 0 ≤ x ∧ x ≤ M ∧ ¬ M < x) := by
  by_cases h : x < 0
  · exact Or.inl ⟨h, Int32.not_le.mpr h⟩
  · by_cases g : x ≤ M
    · exact Or.inr (Or.inr ⟨h, Int32.not_lt.mp h, g, Int32.not_lt.mpr g⟩)
    · exact Or.inr (Or.inl ⟨h, Int32.not_lt.mp h, g, Int32.not_le.mp g⟩)
theorem lm_rng (a : Int32) {n m : Nat} (hn : n ≤ m) (hm : m < 2 ^ 31) : (a < 0 ∧ ¬ 0 ≤ a) ∨ (¬ a < 0 ∧ 0 ≤ a ∧ ¬ a < nI n ∧ nI n ≤ a) ∨
    (∃ j, j < n ∧ a = nI j ∧ ¬ nI j < 0 ∧ 0 ≤ nI j ∧ nI j < nI n ∧ ¬ nI n ≤ nI j ∧ vp_in (nI j) m ∧ (nI j).toNatClampNeg = j) := by
  by_cases h : a < 0
  · exact Or.inl ⟨h, Int32.not_le.mpr h⟩
  · obtain ⟨j, hj, rfl⟩ := nI_of h
    by_cases g : j < n
    · exact Or.inr (Or.inr ⟨j, g, rfl, h, nI_pos' hj, nI_lt g (by omega), nI_ge g (by omega), vp_in_nI (by omega) hm, nI_clamp hj⟩)
    · exact Or.inr (Or.inl ⟨h, nI_pos' hj, nI_nlt (by omega) hj, nI_le (by omega) hj⟩)
theorem lm_reader {u : SX} {v : SY} (I : lm_Rel R Wn u v) (a b : Int32) :
    ∃ r, (∀ post : Int32 → Prop, post r → wpX_reader post u a b) ∧ (∀ post : Int32 → Prop, post r → wpY_reader post v a b) := by
  obtain ⟨c, lr, ver, cu, lock, steps, i0, i1, K, V, Kb, Vb, sz, ind, rp, rk, rr, rv, rs, wp, wkd, wk, wv, wr, wve, ws, rfl, rfl, F⟩ := I
  have FF := F
  obtain ⟨hc, hR, hW, hlr, hver, hcu, h0, h1, hD, hAR, hAW⟩ := F
  rcases lm_rng a (n := R) (m := 8) (by omega) (by decide) with ⟨a1, a2⟩ | ⟨a1, a2, a3, a4⟩ | ⟨j, hj, rfl, a1, a2, a3, a4, a5, a6⟩
  · refine ⟨-4, fun post hp => ?_, fun post hp => ?_⟩
    · simp +decide only [wpX_reader, wpX_isReader, a1, a2, true_implies, false_implies, not_true_eq_false, not_false_eq_true, and_true, true_and, forall_eq, implies_true, lm_nb0, lm_nb1]; exact hp
    · simp +decide only [wpY_reader, a1, a2, true_implies, false_implies, not_true_eq_false, not_false_eq_true, and_true, true_and, forall_eq, implies_true, lm_nb0, lm_nb1]; exact hp
  · refine ⟨-4, fun post hp => ?_, fun post hp => ?_⟩
    · simp +decide only [wpX_reader, wpX_isReader, a1, a2, a3, a4, true_implies, false_implies, not_true_eq_false, not_false_eq_true, and_true, true_and, forall_eq, implies_true, lm_nb0, lm_nb1]; exact hp
    · simp +decide only [wpY_reader, a1, a2, a3, a4, true_implies, false_implies, not_true_eq_false, not_false_eq_true, and_true, true_and, forall_eq, implies_true, lm_nb0, lm_nb1]; exact hp
  · by_cases b0 : b = 0
    · subst b0
      refine ⟨rp j, fun post hp => ?_, fun post hp => ?_⟩
      · simp +decide only [wpX_reader, wpX_isReader, a1, a2, a3, a4, a5, a6, true_implies, false_implies, not_true_eq_false, not_false_eq_true, and_true, true_and, forall_eq, implies_true, lm_nb0, lm_nb1]; exact hp
      · simp +decide only [wpY_reader, a1, a2, a3, a4, a5, a6, true_implies, false_implies, not_true_eq_false, not_false_eq_true, and_true, true_and, forall_eq, implies_true, lm_nb0, lm_nb1]; exact hp
    · by_cases b1 : b = 1
      · subst b1
        refine ⟨rk j, fun post hp => ?_, fun post hp => ?_⟩
        · simp +decide only [wpX_reader, wpX_isReader, a1, a2, a3, a4, a5, a6, true_implies, false_implies, not_true_eq_false, not_false_eq_true, and_true, true_and, forall_eq, implies_true, lm_nb0, lm_nb1]; exact hp
        · simp +decide only [wpY_reader, a1, a2, a3, a4, a5, a6, true_implies, false_implies, not_true_eq_false, not_false_eq_true, and_true, true_and, forall_eq, implies_true, lm_nb0, lm_nb1]; exact hp
      · by_cases b2 : b = 2
        · subst b2
          refine ⟨rr j, fun post hp => ?_, fun post hp => ?_⟩
          · simp +decide only [wpX_reader, wpX_isReader, a1, a2, a3, a4, a5, a6, true_implies, false_implies, not_true_eq_false, not_false_eq_true, and_true, true_and, forall_eq, implies_true, lm_nb0, lm_nb1]; exact hp
          · simp +decide only [wpY_reader, a1, a2, a3, a4, a5, a6, true_implies, false_implies, not_true_eq_false, not_false_eq_true, and_true, true_and, forall_eq, implies_true, lm_nb0, lm_nb1]; exact hp
        · by_cases b3 : b = 3
          · subst b3
            refine ⟨rv j, fun post hp => ?_, fun post hp => ?_⟩
            · simp +decide only [wpX_reader, wpX_isReader, a1, a2, a3, a4, a5, a6, true_implies, false_implies, not_true_eq_false, not_false_eq_true, and_true, true_and, forall_eq, implies_true, lm_nb0, lm_nb1]; exact hp
            · simp +decide only [wpY_reader, a1, a2, a3, a4, a5, a6, true_implies, false_implies, not_true_eq_false, not_false_eq_true, and_true, true_and, forall_eq, implies_true, lm_nb0, lm_nb1]; exact hp
          · by_cases b4 : b = 4
            · subst b4
              refine ⟨rs j, fun post hp => ?_, fun post hp => ?_⟩
              · simp +decide only [wpX_reader, wpX_isReader, a1, a2, a3, a4, a5, a6, true_implies, false_implies, not_true_eq_false, not_false_eq_true, and_true, true_and, forall_eq, implies_true, lm_nb0, lm_nb1]; exact hp
              · simp +decide only [wpY_reader, a1, a2, a3, a4, a5, a6, true_implies, false_implies, not_true_eq_false, not_false_eq_true, and_true, true_and, forall_eq, implies_true, lm_nb0, lm_nb1]; exact hp
            · have hb : b < 0 ∨ (¬ b < 0 ∧ (4 : Int32) < b) := by
                by_cases h : b < 0
                · exact Or.inl h
                · refine Or.inr ⟨h, ?_⟩
                  obtain ⟨m, hm, rfl⟩ := nI_of h
                  have q : 4 < m := by
                    apply Nat.lt_of_not_le
                    intro g
                    have z : m = 0 ∨ m = 1 ∨ m = 2 ∨ m = 3 ∨ m = 4 := by omega
                    rcases z with rfl | rfl | rfl | rfl | rfl
                    · exact b0 rfl
                    · exact b1 rfl
                    · exact b2 rfl
                    · exact b3 rfl
                    · exact b4 rfl
                  exact nI_lt (a := 4) q hm
              refine ⟨-4, fun post hp => ?_, fun post hp => ?_⟩
              · rcases hb with h | ⟨h, h2⟩
                · simp +decide only [wpX_reader, wpX_isReader, a1, a2, a3, a4, a5, a6, h, true_implies, false_implies, not_true_eq_false, not_false_eq_true, and_true, true_and, forall_eq, implies_true, lm_nb0, lm_nb1]; exact hp
                · simp +decide only [wpX_reader, wpX_isReader, a1, a2, a3, a4, a5, a6, h, h2, true_implies, false_implies, not_true_eq_false, not_false_eq_true, and_true, true_and, forall_eq, implies_true, lm_nb0, lm_nb1]; exact hp
              · simp +decide only [wpY_reader, a1, a2, a3, a4, a5, a6, b0, b1, b2, b3, b4, true_implies, false_implies, not_true_eq_false, not_false_eq_true, and_true, true_and, forall_eq, implies_true, lm_nb0, lm_nb1]; exact hp
theorem lm_writer {u : SX} {v : SY} (I : lm_Rel R Wn u v) (a b : Int32) :
    ∃ r, (∀ post : Int32 → Prop, post r → wpX_writer post u a b) ∧ (∀ post : Int32 → Prop, post r → wpY_writer post v a b) := by
  obtain ⟨c, lr, ver, cu, lock, steps, i0, i1, K, V, Kb, Vb, sz, ind, rp, rk, rr, rv, rs, wp, wkd, wk, wv, wr, wve, ws, rfl, rfl, F⟩ := I
  have FF := F
  obtain ⟨hc, hR, hW, hlr, hver, hcu, h0, h1, hD, hAR, hAW⟩ := F
  rcases lm_rng a (n := Wn) (m := 4) (by omega) (by decide) with ⟨a1, a2⟩ | ⟨a1, a2, a3, a4⟩ | ⟨j, hj, rfl, a1, a2, a3, a4, a5, a6⟩
  · refine ⟨-4, fun post hp => ?_, fun post hp => ?_⟩
    · simp +decide only [wpX_writer, wpX_isWriter, a1, a2, true_implies, false_implies, not_true_eq_false, not_false_eq_true, and_true, true_and, forall_eq, implies_true, lm_nb0, lm_nb1]; exact hp
    · simp +decide only [wpY_writer, a1, a2, true_implies, false_implies, not_true_eq_false, not_false_eq_true, and_true, true_and, forall_eq, implies_true, lm_nb0, lm_nb1]; exact hp
  · refine ⟨-4, fun post hp => ?_, fun post hp => ?_⟩
    · simp +decide only [wpX_writer, wpX_isWriter, a1, a2, a3, a4, true_implies, false_implies, not_true_eq_false, not_false_eq_true, and_true, true_and, forall_eq, implies_true, lm_nb0, lm_nb1]; exact hp
    · simp +decide only [wpY_writer, a1, a2, a3, a4, true_implies, false_implies, not_true_eq_false, not_false_eq_true, and_true, true_and, forall_eq, implies_true, lm_nb0, lm_nb1]; exact hp
  · by_cases b0 : b = 0
    · subst b0
      refine ⟨wp j, fun post hp => ?_, fun post hp => ?_⟩
      · simp +decide only [wpX_writer, wpX_isWriter, a1, a2, a3, a4, a5, a6, true_implies, false_implies, not_true_eq_false, not_false_eq_true, and_true, true_and, forall_eq, implies_true, lm_nb0, lm_nb1]; exact hp
      · simp +decide only [wpY_writer, a1, a2, a3, a4, a5, a6, true_implies, false_implies, not_true_eq_false, not_false_eq_true, and_true, true_and, forall_eq, implies_true, lm_nb0, lm_nb1]; exact hp
    · by_cases b1 : b = 1
      · subst b1
        refine ⟨wk j, fun post hp => ?_, fun post hp => ?_⟩
        · simp +decide only [wpX_writer, wpX_isWriter, a1, a2, a3, a4, a5, a6, true_implies, false_implies, not_true_eq_false, not_false_eq_true, and_true, true_and, forall_eq, implies_true, lm_nb0, lm_nb1]; exact hp
        · simp +decide only [wpY_writer, a1, a2, a3, a4, a5, a6, true_implies, false_implies, not_true_eq_false, not_false_eq_true, and_true, true_and, forall_eq, implies_true, lm_nb0, lm_nb1]; exact hp
      · by_cases b2 : b = 2
        · subst b2
          refine ⟨wr j, fun post hp => ?_, fun post hp => ?_⟩
          · simp +decide only [wpX_writer, wpX_isWriter, a1, a2, a3, a4, a5, a6, true_implies, false_implies, not_true_eq_false, not_false_eq_true, and_true, true_and, forall_eq, implies_true, lm_nb0, lm_nb1]; exact hp
          · simp +decide only [wpY_writer, a1, a2, a3, a4, a5, a6, true_implies, false_implies, not_true_eq_false, not_false_eq_true, and_true, true_and, forall_eq, implies_true, lm_nb0, lm_nb1]; exact hp
        · by_cases b3 : b = 3
          · subst b3
            refine ⟨wve j, fun post hp => ?_, fun post hp => ?_⟩
            · simp +decide only [wpX_writer, wpX_isWriter, a1, a2, a3, a4, a5, a6, true_implies, false_implies, not_true_eq_false, not_false_eq_true, and_true, true_and, forall_eq, implies_true, lm_nb0, lm_nb1]; exact hp
            · simp +decide only [wpY_writer, a1, a2, a3, a4, a5, a6, true_implies, false_implies, not_true_eq_false, not_false_eq_true, and_true, true_and, forall_eq, implies_true, lm_nb0, lm_nb1]; exact hp
          · by_cases b4 : b = 4
            · subst b4
              refine ⟨ws j, fun post hp => ?_, fun post hp => ?_⟩
              · simp +decide only [wpX_writer, wpX_isWriter, a1, a2, a3, a4, a5, a6, true_implies, false_implies, not_true_eq_false, not_false_eq_true, and_true, true_and, forall_eq, implies_true, lm_nb0, lm_nb1]; exact hp
              · simp +decide only [wpY_writer, a1, a2, a3, a4, a5, a6, true_implies, false_implies, not_true_eq_false, not_false_eq_true, and_true, true_and, forall_eq, implies_true, lm_nb0, lm_nb1]; exact hp
            · by_cases b5 : b = 5
              · subst b5
                refine ⟨wv j, fun post hp => ?_, fun post hp => ?_⟩
                · simp +decide only [wpX_writer, wpX_isWriter, a1, a2, a3, a4, a5, a6, true_implies, false_implies, not_true_eq_false, not_false_eq_true, and_true, true_and, forall_eq, implies_true, lm_nb0, lm_nb1]; exact hp
                · simp +decide only [wpY_writer, a1, a2, a3, a4, a5, a6, true_implies, false_implies, not_true_eq_false, not_false_eq_true, and_true, true_and, forall_eq, implies_true, lm_nb0, lm_nb1]; exact hp
              · by_cases b6 : b = 6
                · subst b6
                  refine ⟨wkd j, fun post hp => ?_, fun post hp => ?_⟩
                  · simp +decide only [wpX_writer, wpX_isWriter, a1, a2, a3, a4, a5, a6, true_implies, false_implies, not_true_eq_false, not_false_eq_true, and_true, true_and, forall_eq, implies_true, lm_nb0, lm_nb1]; exact hp
                  · simp +decide only [wpY_writer, a1, a2, a3, a4, a5, a6, true_implies, false_implies, not_true_eq_false, not_false_eq_true, and_true, true_and, forall_eq, implies_true, lm_nb0, lm_nb1]; exact hp
                · have hb : b < 0 ∨ (¬ b < 0 ∧ (6 : Int32) < b) := by
                    by_cases h : b < 0
                    · exact Or.inl h
                    · refine Or.inr ⟨h, ?_⟩
                      obtain ⟨m, hm, rfl⟩ := nI_of h
                      have q : 6 < m := by
                        apply Nat.lt_of_not_le
                        intro g
                        have z : m = 0 ∨ m = 1 ∨ m = 2 ∨ m = 3 ∨ m = 4 ∨ m = 5 ∨ m = 6 := by omega
                        rcases z with rfl | rfl | rfl | rfl | rfl | rfl | rfl
                        · exact b0 rfl
                        · exact b1 rfl
                        · exact b2 rfl
                        · exact b3 rfl
                        · exact b4 rfl
                        · exact b5 rfl
                        · exact b6 rfl
                      exact nI_lt (a := 6) q hm
                  refine ⟨-4, fun post hp => ?_, fun post hp => ?_⟩
                  · rcases hb with h | ⟨h, h2⟩
                    · simp +decide only [wpX_writer, wpX_isWriter, a1, a2, a3, a4, a5, a6, h, true_implies, false_implies, not_true_eq_false, not_false_eq_true, and_true, true_and, forall_eq, implies_true, lm_nb0, lm_nb1]; exact hp
                    · simp +decide only [wpX_writer, wpX_isWriter, a1, a2, a3, a4, a5, a6, h, h2, true_implies, false_implies, not_true_eq_false, not_false_eq_true, and_true, true_and, forall_eq, implies_true, lm_nb0, lm_nb1]; exact hp
                  · simp +decide only [wpY_writer, a1, a2, a3, a4, a5, a6, b0, b1, b2, b3, b4, b5, b6, true_implies, false_implies, not_true_eq_false, not_false_eq_true, and_true, true_and, forall_eq, implies_true, lm_nb0, lm_nb1]; exact hp
theorem lm_global {u : SX} {v : SY} (I : lm_Rel R Wn u v) (b : Int32) :
    ∃ r, (∀ post : Int32 → Prop, post r → wpX_global post u b) ∧ (∀ post : Int32 → Prop, post r → wpY_global post v b) := by
  obtain ⟨c, lr, ver, cu, lock, steps, i0, i1, K, V, Kb, Vb, sz, ind, rp, rk, rr, rv, rs, wp, wkd, wk, wv, wr, wve, ws, rfl, rfl, F⟩ := I
  have FF := F
  obtain ⟨hc, hR, hW, hlr, hver, hcu, h0, h1, hD, hAR, hAW⟩ := F
  subst h0 h1
  have i2 : vp_in (nI lr) 2 := vp_in_nI hlr (by omega)
  have c2 : (nI lr).toNatClampNeg = lr := nI_clamp (by omega)
  have k0 : vp_in 0 2 := lm_i0
  have k1 : vp_in 1 2 := lm_i1
  have m0 : (0 : Int32).toNatClampNeg = 0 := lm_c0
  have m1 : (1 : Int32).toNatClampNeg = 1 := lm_c1
  by_cases b0 : b = 0
  · subst b0
    refine ⟨nI lr, fun post hp => ?_, fun post hp => ?_⟩
    · simp +decide only [wpX_global, i2, c2, k0, k1, m0, m1, true_implies, false_implies, not_true_eq_false, not_false_eq_true, and_true, true_and, forall_eq, implies_true, lm_nb0, lm_nb1]; exact hp
    · simp +decide only [wpY_global, i2, c2, k0, k1, m0, m1, true_implies, false_implies, not_true_eq_false, not_false_eq_true, and_true, true_and, forall_eq, implies_true, lm_nb0, lm_nb1]; exact hp
  · by_cases b1 : b = 1
    · subst b1
      refine ⟨nI ver, fun post hp => ?_, fun post hp => ?_⟩
      · simp +decide only [wpX_global, i2, c2, k0, k1, m0, m1, true_implies, false_implies, not_true_eq_false, not_false_eq_true, and_true, true_and, forall_eq, implies_true, lm_nb0, lm_nb1]; exact hp
      · simp +decide only [wpY_global, i2, c2, k0, k1, m0, m1, true_implies, false_implies, not_true_eq_false, not_false_eq_true, and_true, true_and, forall_eq, implies_true, lm_nb0, lm_nb1]; exact hp
    · by_cases b2 : b = 2
      · subst b2
        refine ⟨ind 0, fun post hp => ?_, fun post hp => ?_⟩
        · simp +decide only [wpX_global, i2, c2, k0, k1, m0, m1, true_implies, false_implies, not_true_eq_false, not_false_eq_true, and_true, true_and, forall_eq, implies_true, lm_nb0, lm_nb1]; exact hp
        · simp +decide only [wpY_global, i2, c2, k0, k1, m0, m1, true_implies, false_implies, not_true_eq_false, not_false_eq_true, and_true, true_and, forall_eq, implies_true, lm_nb0, lm_nb1]; exact hp
      · by_cases b3 : b = 3
        · subst b3
          refine ⟨ind 1, fun post hp => ?_, fun post hp => ?_⟩
          · simp +decide only [wpX_global, i2, c2, k0, k1, m0, m1, true_implies, false_implies, not_true_eq_false, not_false_eq_true, and_true, true_and, forall_eq, implies_true, lm_nb0, lm_nb1]; exact hp
          · simp +decide only [wpY_global, i2, c2, k0, k1, m0, m1, true_implies, false_implies, not_true_eq_false, not_false_eq_true, and_true, true_and, forall_eq, implies_true, lm_nb0, lm_nb1]; exact hp
        · by_cases b4 : b = 4
          · subst b4
            refine ⟨lock, fun post hp => ?_, fun post hp => ?_⟩
            · simp +decide only [wpX_global, i2, c2, k0, k1, m0, m1, true_implies, false_implies, not_true_eq_false, not_false_eq_true, and_true, true_and, forall_eq, implies_true, lm_nb0, lm_nb1]; exact hp
            · simp +decide only [wpY_global, i2, c2, k0, k1, m0, m1, true_implies, false_implies, not_true_eq_false, not_false_eq_true, and_true, true_and, forall_eq, implies_true, lm_nb0, lm_nb1]; exact hp
          · by_cases b5 : b = 5
            · subst b5
              refine ⟨sz lr, fun post hp => ?_, fun post hp => ?_⟩
              · simp +decide only [wpX_global, i2, c2, k0, k1, m0, m1, true_implies, false_implies, not_true_eq_false, not_false_eq_true, and_true, true_and, forall_eq, implies_true, lm_nb0, lm_nb1]; exact hp
              · simp +decide only [wpY_global, i2, c2, k0, k1, m0, m1, true_implies, false_implies, not_true_eq_false, not_false_eq_true, and_true, true_and, forall_eq, implies_true, lm_nb0, lm_nb1]; exact hp
            · by_cases b6 : b = 6
              · subst b6
                refine ⟨nI cu, fun post hp => ?_, fun post hp => ?_⟩
                · simp +decide only [wpX_global, i2, c2, k0, k1, m0, m1, true_implies, false_implies, not_true_eq_false, not_false_eq_true, and_true, true_and, forall_eq, implies_true, lm_nb0, lm_nb1]; exact hp
                · simp +decide only [wpY_global, i2, c2, k0, k1, m0, m1, true_implies, false_implies, not_true_eq_false, not_false_eq_true, and_true, true_and, forall_eq, implies_true, lm_nb0, lm_nb1]; exact hp
              · by_cases b7 : b = 7
                · subst b7
                  refine ⟨steps, fun post hp => ?_, fun post hp => ?_⟩
                  · simp +decide only [wpX_global, i2, c2, k0, k1, m0, m1, true_implies, false_implies, not_true_eq_false, not_false_eq_true, and_true, true_and, forall_eq, implies_true, lm_nb0, lm_nb1]; exact hp
                  · simp +decide only [wpY_global, i2, c2, k0, k1, m0, m1, true_implies, false_implies, not_true_eq_false, not_false_eq_true, and_true, true_and, forall_eq, implies_true, lm_nb0, lm_nb1]; exact hp
                · by_cases b8 : b = 8
                  · subst b8
                    refine ⟨nI c, fun post hp => ?_, fun post hp => ?_⟩
                    · simp +decide only [wpX_global, i2, c2, k0, k1, m0, m1, true_implies, false_implies, not_true_eq_false, not_false_eq_true, and_true, true_and, forall_eq, implies_true, lm_nb0, lm_nb1]; exact hp
                    · simp +decide only [wpY_global, i2, c2, k0, k1, m0, m1, true_implies, false_implies, not_true_eq_false, not_false_eq_true, and_true, true_and, forall_eq, implies_true, lm_nb0, lm_nb1]; exact hp
                  · by_cases b9 : b = 9
                    · subst b9
                      refine ⟨nI R, fun post hp => ?_, fun post hp => ?_⟩
                      · simp +decide only [wpX_global, i2, c2, k0, k1, m0, m1, true_implies, false_implies, not_true_eq_false, not_false_eq_true, and_true, true_and, forall_eq, implies_true, lm_nb0, lm_nb1]; exact hp
                      · simp +decide only [wpY_global, i2, c2, k0, k1, m0, m1, true_implies, false_implies, not_true_eq_false, not_false_eq_true, and_true, true_and, forall_eq, implies_true, lm_nb0, lm_nb1]; exact hp
                    · by_cases b10 : b = 10
                      · subst b10
                        refine ⟨nI Wn, fun post hp => ?_, fun post hp => ?_⟩
                        · simp +decide only [wpX_global, i2, c2, k0, k1, m0, m1, true_implies, false_implies, not_true_eq_false, not_false_eq_true, and_true, true_and, forall_eq, implies_true, lm_nb0, lm_nb1]; exact hp
                        · simp +decide only [wpY_global, i2, c2, k0, k1, m0, m1, true_implies, false_implies, not_true_eq_false, not_false_eq_true, and_true, true_and, forall_eq, implies_true, lm_nb0, lm_nb1]; exact hp
                      · have hb : b < 0 ∨ (¬ b < 0 ∧ (10 : Int32) < b) := by
                          by_cases h : b < 0
                          · exact Or.inl h
                          · refine Or.inr ⟨h, ?_⟩
                            obtain ⟨m, hm, rfl⟩ := nI_of h
                            have q : 10 < m := by
                              apply Nat.lt_of_not_le
                              intro g
                              have z : m = 0 ∨ m = 1 ∨ m = 2 ∨ m = 3 ∨ m = 4 ∨ m = 5 ∨ m = 6 ∨ m = 7 ∨ m = 8 ∨ m = 9 ∨ m = 10 := by omega
                              rcases z with rfl | rfl | rfl | rfl | rfl | rfl | rfl | rfl | rfl | rfl | rfl
                              · exact b0 rfl
                              · exact b1 rfl
                              · exact b2 rfl
                              · exact b3 rfl
                              · exact b4 rfl
                              · exact b5 rfl
                              · exact b6 rfl
                              · exact b7 rfl
                              · exact b8 rfl
                              · exact b9 rfl
                              · exact b10 rfl
                            exact nI_lt (a := 10) q hm
                        refine ⟨-4, fun post hp => ?_, fun post hp => ?_⟩
                        · rcases hb with h | ⟨h, h2⟩
                          · simp +decide only [wpX_global, h, true_implies, false_implies, not_true_eq_false, not_false_eq_true, and_true, true_and, forall_eq, implies_true, lm_nb0, lm_nb1]; exact hp
                          · simp +decide only [wpX_global, h, h2, true_implies, false_implies, not_true_eq_false, not_false_eq_true, and_true, true_and, forall_eq, implies_true, lm_nb0, lm_nb1]; exact hp
                        · simp +decide only [wpY_global, b0, b1, b2, b3, b4, b5, b6, b7, b8, b9, b10, true_implies, false_implies, not_true_eq_false, not_false_eq_true, and_true, true_and, forall_eq, implies_true, lm_nb0, lm_nb1]; exact hp
theorem lm_peek {u : SX} {v : SY} (I : lm_Rel R Wn u v) (a : Int32) :
    ∃ r, (∀ post : Int32 → Prop, post r → wpX_peek post u a) ∧ (∀ post : Int32 → Prop, post r → wpY_peek post v a) := by
  obtain ⟨c, lr, ver, cu, lock, steps, i0, i1, K, V, Kb, Vb, sz, ind, rp, rk, rr, rv, rs, wp, wkd, wk, wv, wr, wve, ws, rfl, rfl, F⟩ := I
  have FF := F
  obtain ⟨hc, hR, hW, hlr, hver, hcu, h0, h1, hD, hAR, hAW⟩ := F
  rcases lm_key a 9999 with ⟨a1, a2⟩ | ⟨a1, a2, a3, a4⟩ | ⟨a1, a2, a3, a4⟩
  · refine ⟨-4, fun post hp => ?_, fun post hp => ?_⟩
    · simp +decide only [wpX_peek, wpX_isKey, a1, a2, true_implies, false_implies, not_true_eq_false, not_false_eq_true, and_true, true_and, forall_eq, implies_true, lm_nb0, lm_nb1]; exact hp
    · simp +decide only [wpY_peek, a1, a2, true_implies, false_implies, not_true_eq_false, not_false_eq_true, and_true, true_and, forall_eq, implies_true, lm_nb0, lm_nb1]; exact hp
  · refine ⟨-4, fun post hp => ?_, fun post hp => ?_⟩
    · simp +decide only [wpX_peek, wpX_isKey, a1, a2, a3, a4, true_implies, false_implies, not_true_eq_false, not_false_eq_true, and_true, true_and, forall_eq, implies_true, lm_nb0, lm_nb1]; exact hp
    · simp +decide only [wpY_peek, a1, a2, a3, a4, true_implies, false_implies, not_true_eq_false, not_false_eq_true, and_true, true_and, forall_eq, implies_true, lm_nb0, lm_nb1]; exact hp
  · obtain ⟨q, hx, hy⟩ := lm_val (c := c) (R := R) (Wn := Wn) (lr := lr) (ver := ver) (cu := cu) (lock := lock) (steps := steps) (ind := ind) (i0 := i0) (i1 := i1) (rp := rp) (rk := rk) (rr := rr) (rv := rv) (rs := rs) (wp := wp) (wkd := wkd) (wk := wk) (wv := wv) (wr := wr) (wve := wve) (ws := ws) hD hlr a
    refine ⟨q, fun post hp => ?_, fun post hp => ?_⟩
    · simp +decide only [wpX_peek, wpX_isKey, a1, a2, a3, a4, true_implies, false_implies, not_true_eq_false, not_false_eq_true, and_true, true_and, forall_eq, implies_true, lm_nb0, lm_nb1]; exact hx _ hp
    · simp +decide only [wpY_peek, a1, a2, a3, a4, true_implies, false_implies, not_true_eq_false, not_false_eq_true, and_true, true_and, forall_eq, implies_true, lm_nb0, lm_nb1]; exact hy _ hp
theorem lm_inst {u : SX} {v : SY} (I : lm_Rel R Wn u v) (s a : Int32) :
    ∃ r, (∀ post : Int32 → Prop, post r → wpX_instance post u s a) ∧ (∀ post : Int32 → Prop, post r → wpY_instance post v s a) := by
  obtain ⟨c, lr, ver, cu, lock, steps, i0, i1, K, V, Kb, Vb, sz, ind, rp, rk, rr, rv, rs, wp, wkd, wk, wv, wr, wve, ws, rfl, rfl, F⟩ := I
  have FF := F
  obtain ⟨hc, hR, hW, hlr, hver, hcu, h0, h1, hD, hAR, hAW⟩ := F
  rcases lm_rng s (n := 2) (m := 2) (by omega) (by decide) with ⟨s1, s2⟩ | ⟨s1, s2, s3, s4⟩ | ⟨t, ht, rfl, s1, s2, s3, s4, s5, s6⟩
  · have n0 : ¬ s = 0 := fun e => by rw [e] at s1; exact absurd s1 (by decide)
    have n1 : ¬ s = 1 := fun e => by rw [e] at s1; exact absurd s1 (by decide)
    refine ⟨-4, fun post hp => ?_, fun post hp => ?_⟩
    · simp +decide only [wpX_instance, s1, s2, true_implies, false_implies, not_true_eq_false, not_false_eq_true, and_true, true_and, forall_eq, implies_true, lm_nb0, lm_nb1]; exact hp
    · simp +decide only [wpY_instance, wY_instance_12, n0, n1, true_implies, false_implies, not_true_eq_false, not_false_eq_true, and_true, true_and, forall_eq, implies_true, lm_nb0, lm_nb1]; exact hp
  · have s3' : ¬ s < 2 := s3
    have s4' : 2 ≤ s := s4
    have n0 : ¬ s = 0 := fun e => by rw [e] at s4'; exact absurd s4' (by decide)
    have n1 : ¬ s = 1 := fun e => by rw [e] at s4'; exact absurd s4' (by decide)
    refine ⟨-4, fun post hp => ?_, fun post hp => ?_⟩
    · simp +decide only [wpX_instance, s1, s2, s3', s4', true_implies, false_implies, not_true_eq_false, not_false_eq_true, and_true, true_and, forall_eq, implies_true, lm_nb0, lm_nb1]; exact hp
    · simp +decide only [wpY_instance, wY_instance_12, n0, n1, true_implies, false_implies, not_true_eq_false, not_false_eq_true, and_true, true_and, forall_eq, implies_true, lm_nb0, lm_nb1]; exact hp
  · have s3' : nI t < 2 := s3
    have s4' : ¬ 2 ≤ nI t := s4
    obtain ⟨q, hx, hy⟩ := lm_val (c := c) (R := R) (Wn := Wn) (lr := lr) (ver := ver) (cu := cu) (lock := lock) (steps := steps) (ind := ind) (i0 := i0) (i1 := i1) (rp := rp) (rk := rk) (rr := rr) (rv := rv) (rs := rs) (wp := wp) (wkd := wkd) (wk := wk) (wv := wv) (wr := wr) (wve := wve) (ws := ws) hD ht a
    have ht2 : t = 0 ∨ t = 1 := by omega
    rcases lm_key a 9999 with ⟨a1, a2⟩ | ⟨a1, a2, a3, a4⟩ | ⟨a1, a2, a3, a4⟩
    · refine ⟨-4, fun post hp => ?_, fun post hp => ?_⟩
      · simp +decide only [wpX_instance, wpX_isKey, s1, s2, s3', s4', a1, a2, true_implies, false_implies, not_true_eq_false, not_false_eq_true, and_true, true_and, forall_eq, implies_true, lm_nb0, lm_nb1]; exact hp
      · rcases ht2 with rfl | rfl
        · simp +decide only [wpY_instance, wY_instance_12, lm_e0, a1, a2, true_implies, false_implies, not_true_eq_false, not_false_eq_true, and_true, true_and, forall_eq, implies_true, lm_nb0, lm_nb1]; exact hp
        · simp +decide only [wpY_instance, wY_instance_12, lm_e1, lm_f1, a1, a2, true_implies, false_implies, not_true_eq_false, not_false_eq_true, and_true, true_and, forall_eq, implies_true, lm_nb0, lm_nb1]; exact hp
    · refine ⟨-4, fun post hp => ?_, fun post hp => ?_⟩
      · simp +decide only [wpX_instance, wpX_isKey, s1, s2, s3', s4', a1, a2, a3, a4, true_implies, false_implies, not_true_eq_false, not_false_eq_true, and_true, true_and, forall_eq, implies_true, lm_nb0, lm_nb1]; exact hp
      · rcases ht2 with rfl | rfl
        · simp +decide only [wpY_instance, wY_instance_12, lm_e0, a1, a2, a3, a4, true_implies, false_implies, not_true_eq_false, not_false_eq_true, and_true, true_and, forall_eq, implies_true, lm_nb0, lm_nb1]; exact hp
        · simp +decide only [wpY_instance, wY_instance_12, lm_e1, lm_f1, a1, a2, a3, a4, true_implies, false_implies, not_true_eq_false, not_false_eq_true, and_true, true_and, forall_eq, implies_true, lm_nb0, lm_nb1]; exact hp
    · refine ⟨q, fun post hp => ?_, fun post hp => ?_⟩
      · simp +decide only [wpX_instance, wpX_isKey, s1, s2, s3', s4', a1, a2, a3, a4, true_implies, false_implies, not_true_eq_false, not_false_eq_true, and_true, true_and, forall_eq, implies_true, lm_nb0, lm_nb1]; exact hx _ hp
      · rcases ht2 with rfl | rfl
        · simp +decide only [wpY_instance, wY_instance_12, lm_e0, a1, a2, a3, a4, true_implies, false_implies, not_true_eq_false, not_false_eq_true, and_true, true_and, forall_eq, implies_true, lm_nb0, lm_nb1]; exact hy _ hp
        · simp +decide only [wpY_instance, wY_instance_12, lm_e1, lm_f1, a1, a2, a3, a4, true_implies, false_implies, not_true_eq_false, not_false_eq_true, and_true, true_and, forall_eq, implies_true, lm_nb0, lm_nb1]; exact hy _ hp
end LMF
end
section
section LMT
variable {c R Wn lr ver cu : Nat} {lock steps i0 i1 : Int32} {K V Kb Vb sz ind rp rk rr rv rs wp wkd wk wv wr wve ws : Nat → Int32}
theorem lm_startLookup {u : SX} {v : SY} (I : lm_Rel R Wn u v) (a b : Int32) :
    lm_G R Wn (fun post => wpX_startLookup post u a b) (fun post => wpY_startLookup post v a b) := by
  obtain ⟨c, lr, ver, cu, lock, steps, i0, i1, K, V, Kb, Vb, sz, ind, rp, rk, rr, rv, rs, wp, wkd, wk, wv, wr, wve, ws, rfl, rfl, F⟩ := I
  have FF := F
  obtain ⟨hc, hR, hW, hlr, hver, hcu, h0, h1, hD, hAR, hAW⟩ := F
  rcases lm_rng a (n := R) (m := 8) (by omega) (by decide) with ⟨a1, a2⟩ | ⟨a1, a2, a3, a4⟩ | ⟨j, hj, rfl, a1, a2, a3, a4, a5, a6⟩
  · refine lm_g (r := 0) (u := (nI c, nI R, nI Wn, nI lr, nI ver, lock, nI cu, steps, K, V, sz, ind, rp, rk, rr, rv, rs, wp, wkd, wk, wv, wr, wve, ws)) (v := (nI c, nI R, nI Wn, nI lr, nI ver, i0, i1, lock, nI cu, steps, Kb, Vb, sz, rp, rk, rr, rv, rs, wp, wkd, wk, wv, wr, wve, ws)) (fun post hp => ?_) (fun post hp => ?_) (lm_mk FF)
    · simp +decide only [wpX_startLookup, wpX_isReader, wpX_isReaderActive, wpX_isKey, wpX_setReader, a1, a2, true_implies, false_implies, not_true_eq_false, not_false_eq_true, and_true, true_and, forall_eq, implies_true, lm_nb0, lm_nb1]; exact hp
    · simp +decide only [wpY_startLookup, wY_startLookup_36, a1, a2, true_implies, false_implies, not_true_eq_false, not_false_eq_true, and_true, true_and, forall_eq, implies_true, lm_nb0, lm_nb1]; exact hp
  · refine lm_g (r := 0) (u := (nI c, nI R, nI Wn, nI lr, nI ver, lock, nI cu, steps, K, V, sz, ind, rp, rk, rr, rv, rs, wp, wkd, wk, wv, wr, wve, ws)) (v := (nI c, nI R, nI Wn, nI lr, nI ver, i0, i1, lock, nI cu, steps, Kb, Vb, sz, rp, rk, rr, rv, rs, wp, wkd, wk, wv, wr, wve, ws)) (fun post hp => ?_) (fun post hp => ?_) (lm_mk FF)
    · simp +decide only [wpX_startLookup, wpX_isReader, wpX_isReaderActive, wpX_isKey, wpX_setReader, a1, a2, a3, a4, true_implies, false_implies, not_true_eq_false, not_false_eq_true, and_true, true_and, forall_eq, implies_true, lm_nb0, lm_nb1]; exact hp
    · simp +decide only [wpY_startLookup, wY_startLookup_36, a1, a2, a3, a4, true_implies, false_implies, not_true_eq_false, not_false_eq_true, and_true, true_and, forall_eq, implies_true, lm_nb0, lm_nb1]; exact hp
  · have hact : (¬ rp j = 0 ∧ ¬ rp j = 6) ∨ (rp j = 0 ∨ rp j = 6) := by
      by_cases e0 : rp j = 0
      · exact Or.inr (Or.inl e0)
      · by_cases e6 : rp j = 6
        · exact Or.inr (Or.inr e6)
        · exact Or.inl ⟨e0, e6⟩
    rcases hact with ⟨e0, e6⟩ | e
    · refine lm_g (r := 0) (u := (nI c, nI R, nI Wn, nI lr, nI ver, lock, nI cu, steps, K, V, sz, ind, rp, rk, rr, rv, rs, wp, wkd, wk, wv, wr, wve, ws)) (v := (nI c, nI R, nI Wn, nI lr, nI ver, i0, i1, lock, nI cu, steps, Kb, Vb, sz, rp, rk, rr, rv, rs, wp, wkd, wk, wv, wr, wve, ws)) (fun post hp => ?_) (fun post hp => ?_) (lm_mk FF)
      · simp +decide only [wpX_startLookup, wpX_isReader, wpX_isReaderActive, wpX_isKey, wpX_setReader, a1, a2, a3, a4, a5, a6, e0, e6, true_implies, false_implies, not_true_eq_false, not_false_eq_true, and_true, true_and, forall_eq, implies_true, lm_nb0, lm_nb1]; exact hp
      · simp +decide only [wpY_startLookup, wY_startLookup_36, a1, a2, a3, a4, a5, a6, e0, e6, true_implies, false_implies, not_true_eq_false, not_false_eq_true, and_true, true_and, forall_eq, implies_true, lm_nb0, lm_nb1]; exact hp
    · rcases lm_key b 9999 with ⟨k1, k2⟩ | ⟨k1, k2, k3, k4⟩ | ⟨k1, k2, k3, k4⟩
      · refine lm_g (r := 0) (u := (nI c, nI R, nI Wn, nI lr, nI ver, lock, nI cu, steps, K, V, sz, ind, rp, rk, rr, rv, rs, wp, wkd, wk, wv, wr, wve, ws)) (v := (nI c, nI R, nI Wn, nI lr, nI ver, i0, i1, lock, nI cu, steps, Kb, Vb, sz, rp, rk, rr, rv, rs, wp, wkd, wk, wv, wr, wve, ws)) (fun post hp => ?_) (fun post hp => ?_) (lm_mk FF)
        · rcases e with e | e <;> simp +decide only [wpX_startLookup, wpX_isReader, wpX_isReaderActive, wpX_isKey, wpX_setReader, a1, a2, a3, a4, a5, a6, e, k1, k2, true_implies, false_implies, not_true_eq_false, not_false_eq_true, and_true, true_and, forall_eq, implies_true, lm_nb0, lm_nb1] <;> exact hp
        · rcases e with e | e <;> simp +decide only [wpY_startLookup, wY_startLookup_36, a1, a2, a3, a4, a5, a6, e, k1, k2, true_implies, false_implies, not_true_eq_false, not_false_eq_true, and_true, true_and, forall_eq, implies_true, lm_nb0, lm_nb1] <;> exact hp
      · refine lm_g (r := 0) (u := (nI c, nI R, nI Wn, nI lr, nI ver, lock, nI cu, steps, K, V, sz, ind, rp, rk, rr, rv, rs, wp, wkd, wk, wv, wr, wve, ws)) (v := (nI c, nI R, nI Wn, nI lr, nI ver, i0, i1, lock, nI cu, steps, Kb, Vb, sz, rp, rk, rr, rv, rs, wp, wkd, wk, wv, wr, wve, ws)) (fun post hp => ?_) (fun post hp => ?_) (lm_mk FF)
        · rcases e with e | e <;> simp +decide only [wpX_startLookup, wpX_isReader, wpX_isReaderActive, wpX_isKey, wpX_setReader, a1, a2, a3, a4, a5, a6, e, k1, k2, k3, k4, true_implies, false_implies, not_true_eq_false, not_false_eq_true, and_true, true_and, forall_eq, implies_true, lm_nb0, lm_nb1] <;> exact hp
        · rcases e with e | e <;> simp +decide only [wpY_startLookup, wY_startLookup_36, a1, a2, a3, a4, a5, a6, e, k1, k2, k3, k4, true_implies, false_implies, not_true_eq_false, not_false_eq_true, and_true, true_and, forall_eq, implies_true, lm_nb0, lm_nb1] <;> exact hp
      · refine lm_g (r := 1) (u := (nI c, nI R, nI Wn, nI lr, nI ver, lock, nI cu, steps, K, V, sz, ind, upd rp j 1, upd rk j b, upd rr j (-3), upd rv j (-1), upd rs j (-1), wp, wkd, wk, wv, wr, wve, ws)) (v := (nI c, nI R, nI Wn, nI lr, nI ver, i0, i1, lock, nI cu, steps, Kb, Vb, sz, upd rp j 1, upd rk j b, upd rr j (-3), upd rv j (-1), upd rs j (-1), wp, wkd, wk, wv, wr, wve, ws)) (fun post hp => ?_) (fun post hp => ?_)
            (lm_mk ⟨hc, hR, hW, hlr, hver, hcu, h0, h1, hD, lm_ARu j hAR (fun i n => ⟨pk_un n, pk_un n, pk_un n⟩) (lm_rd1 pk_us), hAW⟩)
        · rcases e with e | e <;> simp +decide only [wpX_startLookup, wpX_isReader, wpX_isReaderActive, wpX_isKey, wpX_setReader, a1, a2, a3, a4, a5, a6, e, k1, k2, k3, k4, true_implies, false_implies, not_true_eq_false, not_false_eq_true, and_true, true_and, forall_eq, implies_true, lm_nb0, lm_nb1] <;> exact hp
        · rcases e with e | e <;> simp +decide only [wpY_startLookup, wY_startLookup_36, a1, a2, a3, a4, a5, a6, e, k1, k2, k3, k4, true_implies, false_implies, not_true_eq_false, not_false_eq_true, and_true, true_and, forall_eq, implies_true, lm_nb0, lm_nb1] <;> exact hp
theorem lm_startPut {u : SX} {v : SY} (I : lm_Rel R Wn u v) (a b d : Int32) :
    lm_G R Wn (fun post => wpX_startPut post u a b d) (fun post => wpY_startPut post v a b d) := by
  obtain ⟨c, lr, ver, cu, lock, steps, i0, i1, K, V, Kb, Vb, sz, ind, rp, rk, rr, rv, rs, wp, wkd, wk, wv, wr, wve, ws, rfl, rfl, F⟩ := I
  have FF := F
  obtain ⟨hc, hR, hW, hlr, hver, hcu, h0, h1, hD, hAR, hAW⟩ := F
  rcases lm_rng a (n := Wn) (m := 4) (by omega) (by decide) with ⟨a1, a2⟩ | ⟨a1, a2, a3, a4⟩ | ⟨j, hj, rfl, a1, a2, a3, a4, a5, a6⟩
  · refine lm_g (r := 0) (u := (nI c, nI R, nI Wn, nI lr, nI ver, lock, nI cu, steps, K, V, sz, ind, rp, rk, rr, rv, rs, wp, wkd, wk, wv, wr, wve, ws)) (v := (nI c, nI R, nI Wn, nI lr, nI ver, i0, i1, lock, nI cu, steps, Kb, Vb, sz, rp, rk, rr, rv, rs, wp, wkd, wk, wv, wr, wve, ws)) (fun post hp => ?_) (fun post hp => ?_) (lm_mk FF)
    · simp +decide only [wpX_startPut, wpX_isWriter, wpX_isWriterActive, wpX_isKey, wpX_isValue, wpX_setWriter, a1, a2, true_implies, false_implies, not_true_eq_false, not_false_eq_true, and_true, true_and, forall_eq, implies_true, lm_nb0, lm_nb1]; exact hp
    · simp +decide only [wpY_startPut, wpY_startWrite, wY_startWrite_36, wY_startWrite_68, wY_startWrite_98, a1, a2, true_implies, false_implies, not_true_eq_false, not_false_eq_true, and_true, true_and, forall_eq, implies_true, lm_nb0, lm_nb1]; exact hp
  · refine lm_g (r := 0) (u := (nI c, nI R, nI Wn, nI lr, nI ver, lock, nI cu, steps, K, V, sz, ind, rp, rk, rr, rv, rs, wp, wkd, wk, wv, wr, wve, ws)) (v := (nI c, nI R, nI Wn, nI lr, nI ver, i0, i1, lock, nI cu, steps, Kb, Vb, sz, rp, rk, rr, rv, rs, wp, wkd, wk, wv, wr, wve, ws)) (fun post hp => ?_) (fun post hp => ?_) (lm_mk FF)
    · simp +decide only [wpX_startPut, wpX_isWriter, wpX_isWriterActive, wpX_isKey, wpX_isValue, wpX_setWriter, a1, a2, a3, a4, true_implies, false_implies, not_true_eq_false, not_false_eq_true, and_true, true_and, forall_eq, implies_true, lm_nb0, lm_nb1]; exact hp
    · simp +decide only [wpY_startPut, wpY_startWrite, wY_startWrite_36, wY_startWrite_68, wY_startWrite_98, a1, a2, a3, a4, true_implies, false_implies, not_true_eq_false, not_false_eq_true, and_true, true_and, forall_eq, implies_true, lm_nb0, lm_nb1]; exact hp
  · have hact : (¬ wp j = 0 ∧ ¬ wp j = 8) ∨ (wp j = 0 ∨ wp j = 8) := by
      by_cases e0 : wp j = 0
      · exact Or.inr (Or.inl e0)
      · by_cases e6 : wp j = 8
        · exact Or.inr (Or.inr e6)
        · exact Or.inl ⟨e0, e6⟩
    rcases hact with ⟨e0, e6⟩ | e
    · refine lm_g (r := 0) (u := (nI c, nI R, nI Wn, nI lr, nI ver, lock, nI cu, steps, K, V, sz, ind, rp, rk, rr, rv, rs, wp, wkd, wk, wv, wr, wve, ws)) (v := (nI c, nI R, nI Wn, nI lr, nI ver, i0, i1, lock, nI cu, steps, Kb, Vb, sz, rp, rk, rr, rv, rs, wp, wkd, wk, wv, wr, wve, ws)) (fun post hp => ?_) (fun post hp => ?_) (lm_mk FF)
      · simp +decide only [wpX_startPut, wpX_isWriter, wpX_isWriterActive, wpX_isKey, wpX_isValue, wpX_setWriter, a1, a2, a3, a4, a5, a6, e0, e6, true_implies, false_implies, not_true_eq_false, not_false_eq_true, and_true, true_and, forall_eq, implies_true, lm_nb0, lm_nb1]; exact hp
      · simp +decide only [wpY_startPut, wpY_startWrite, wY_startWrite_36, wY_startWrite_68, wY_startWrite_98, a1, a2, a3, a4, a5, a6, e0, e6, true_implies, false_implies, not_true_eq_false, not_false_eq_true, and_true, true_and, forall_eq, implies_true, lm_nb0, lm_nb1]; exact hp
    · rcases lm_key b 9999 with ⟨k1, k2⟩ | ⟨k1, k2, k3, k4⟩ | ⟨k1, k2, k3, k4⟩
      · refine lm_g (r := 0) (u := (nI c, nI R, nI Wn, nI lr, nI ver, lock, nI cu, steps, K, V, sz, ind, rp, rk, rr, rv, rs, wp, wkd, wk, wv, wr, wve, ws)) (v := (nI c, nI R, nI Wn, nI lr, nI ver, i0, i1, lock, nI cu, steps, Kb, Vb, sz, rp, rk, rr, rv, rs, wp, wkd, wk, wv, wr, wve, ws)) (fun post hp => ?_) (fun post hp => ?_) (lm_mk FF)
        · rcases e with e | e <;> simp +decide only [wpX_startPut, wpX_isWriter, wpX_isWriterActive, wpX_isKey, wpX_isValue, wpX_setWriter, a1, a2, a3, a4, a5, a6, e, k1, k2, true_implies, false_implies, not_true_eq_false, not_false_eq_true, and_true, true_and, forall_eq, implies_true, lm_nb0, lm_nb1] <;> exact hp
        · rcases e with e | e <;> simp +decide only [wpY_startPut, wpY_startWrite, wY_startWrite_36, wY_startWrite_68, wY_startWrite_98, a1, a2, a3, a4, a5, a6, e, k1, k2, true_implies, false_implies, not_true_eq_false, not_false_eq_true, and_true, true_and, forall_eq, implies_true, lm_nb0, lm_nb1] <;> exact hp
      · refine lm_g (r := 0) (u := (nI c, nI R, nI Wn, nI lr, nI ver, lock, nI cu, steps, K, V, sz, ind, rp, rk, rr, rv, rs, wp, wkd, wk, wv, wr, wve, ws)) (v := (nI c, nI R, nI Wn, nI lr, nI ver, i0, i1, lock, nI cu, steps, Kb, Vb, sz, rp, rk, rr, rv, rs, wp, wkd, wk, wv, wr, wve, ws)) (fun post hp => ?_) (fun post hp => ?_) (lm_mk FF)
        · rcases e with e | e <;> simp +decide only [wpX_startPut, wpX_isWriter, wpX_isWriterActive, wpX_isKey, wpX_isValue, wpX_setWriter, a1, a2, a3, a4, a5, a6, e, k1, k2, k3, k4, true_implies, false_implies, not_true_eq_false, not_false_eq_true, and_true, true_and, forall_eq, implies_true, lm_nb0, lm_nb1] <;> exact hp
        · rcases e with e | e <;> simp +decide only [wpY_startPut, wpY_startWrite, wY_startWrite_36, wY_startWrite_68, wY_startWrite_98, a1, a2, a3, a4, a5, a6, e, k1, k2, k3, k4, true_implies, false_implies, not_true_eq_false, not_false_eq_true, and_true, true_and, forall_eq, implies_true, lm_nb0, lm_nb1] <;> exact hp
      · rcases lm_key d 999999 with ⟨l1, l2⟩ | ⟨l1, l2, l3, l4⟩ | ⟨l1, l2, l3, l4⟩
        · refine lm_g (r := 0) (u := (nI c, nI R, nI Wn, nI lr, nI ver, lock, nI cu, steps, K, V, sz, ind, rp, rk, rr, rv, rs, wp, wkd, wk, wv, wr, wve, ws)) (v := (nI c, nI R, nI Wn, nI lr, nI ver, i0, i1, lock, nI cu, steps, Kb, Vb, sz, rp, rk, rr, rv, rs, wp, wkd, wk, wv, wr, wve, ws)) (fun post hp => ?_) (fun post hp => ?_) (lm_mk FF)
          · rcases e with e | e <;> simp +decide only [wpX_startPut, wpX_isWriter, wpX_isWriterActive, wpX_isKey, wpX_isValue, wpX_setWriter, a1, a2, a3, a4, a5, a6, e, k1, k2, k3, k4, l1, l2, true_implies, false_implies, not_true_eq_false, not_false_eq_true, and_true, true_and, forall_eq, implies_true, lm_nb0, lm_nb1] <;> exact hp
          · rcases e with e | e <;> simp +decide only [wpY_startPut, wpY_startWrite, wY_startWrite_36, wY_startWrite_68, wY_startWrite_98, a1, a2, a3, a4, a5, a6, e, k1, k2, k3, k4, l1, l2, true_implies, false_implies, not_true_eq_false, not_false_eq_true, and_true, true_and, forall_eq, implies_true, lm_nb0, lm_nb1] <;> exact hp
        · refine lm_g (r := 0) (u := (nI c, nI R, nI Wn, nI lr, nI ver, lock, nI cu, steps, K, V, sz, ind, rp, rk, rr, rv, rs, wp, wkd, wk, wv, wr, wve, ws)) (v := (nI c, nI R, nI Wn, nI lr, nI ver, i0, i1, lock, nI cu, steps, Kb, Vb, sz, rp, rk, rr, rv, rs, wp, wkd, wk, wv, wr, wve, ws)) (fun post hp => ?_) (fun post hp => ?_) (lm_mk FF)
          · rcases e with e | e <;> simp +decide only [wpX_startPut, wpX_isWriter, wpX_isWriterActive, wpX_isKey, wpX_isValue, wpX_setWriter, a1, a2, a3, a4, a5, a6, e, k1, k2, k3, k4, l1, l2, l3, l4, true_implies, false_implies, not_true_eq_false, not_false_eq_true, and_true, true_and, forall_eq, implies_true, lm_nb0, lm_nb1] <;> exact hp
          · rcases e with e | e <;> simp +decide only [wpY_startPut, wpY_startWrite, wY_startWrite_36, wY_startWrite_68, wY_startWrite_98, a1, a2, a3, a4, a5, a6, e, k1, k2, k3, k4, l1, l2, l3, l4, true_implies, false_implies, not_true_eq_false, not_false_eq_true, and_true, true_and, forall_eq, implies_true, lm_nb0, lm_nb1] <;> exact hp
        · refine lm_g (r := 1) (u := (nI c, nI R, nI Wn, nI lr, nI ver, lock, nI cu, steps, K, V, sz, ind, rp, rk, rr, rv, rs, upd wp j 1, upd wkd j 1, upd wk j b, upd wv j d, upd wr j (-3), upd wve j (-1), upd ws j (-1))) (v := (nI c, nI R, nI Wn, nI lr, nI ver, i0, i1, lock, nI cu, steps, Kb, Vb, sz, rp, rk, rr, rv, rs, upd wp j 1, upd wkd j 1, upd wk j b, upd wv j d, upd wr j (-3), upd wve j (-1), upd ws j (-1))) (fun post hp => ?_) (fun post hp => ?_)
              (lm_mk ⟨hc, hR, hW, hlr, hver, hcu, h0, h1, hD, hAR, lm_AWu j hAW (fun i n => ⟨pk_un n, pk_un n, pk_un n, pk_un n⟩) (lm_wr1 pk_us (Or.inl pk_us))⟩)
          · rcases e with e | e <;> simp +decide only [wpX_startPut, wpX_isWriter, wpX_isWriterActive, wpX_isKey, wpX_isValue, wpX_setWriter, a1, a2, a3, a4, a5, a6, e, k1, k2, k3, k4, l1, l2, l3, l4, true_implies, false_implies, not_true_eq_false, not_false_eq_true, and_true, true_and, forall_eq, implies_true, lm_nb0, lm_nb1] <;> exact hp
          · rcases e with e | e <;> simp +decide only [wpY_startPut, wpY_startWrite, wY_startWrite_36, wY_startWrite_68, wY_startWrite_98, a1, a2, a3, a4, a5, a6, e, k1, k2, k3, k4, l1, l2, l3, l4, true_implies, false_implies, not_true_eq_false, not_false_eq_true, and_true, true_and, forall_eq, implies_true, lm_nb0, lm_nb1] <;> exact hp
theorem lm_startRemove {u : SX} {v : SY} (I : lm_Rel R Wn u v) (a b : Int32) :
    lm_G R Wn (fun post => wpX_startRemove post u a b) (fun post => wpY_startRemove post v a b) := by
  obtain ⟨c, lr, ver, cu, lock, steps, i0, i1, K, V, Kb, Vb, sz, ind, rp, rk, rr, rv, rs, wp, wkd, wk, wv, wr, wve, ws, rfl, rfl, F⟩ := I
  have FF := F
  obtain ⟨hc, hR, hW, hlr, hver, hcu, h0, h1, hD, hAR, hAW⟩ := F
  rcases lm_rng a (n := Wn) (m := 4) (by omega) (by decide) with ⟨a1, a2⟩ | ⟨a1, a2, a3, a4⟩ | ⟨j, hj, rfl, a1, a2, a3, a4, a5, a6⟩
  · refine lm_g (r := 0) (u := (nI c, nI R, nI Wn, nI lr, nI ver, lock, nI cu, steps, K, V, sz, ind, rp, rk, rr, rv, rs, wp, wkd, wk, wv, wr, wve, ws)) (v := (nI c, nI R, nI Wn, nI lr, nI ver, i0, i1, lock, nI cu, steps, Kb, Vb, sz, rp, rk, rr, rv, rs, wp, wkd, wk, wv, wr, wve, ws)) (fun post hp => ?_) (fun post hp => ?_) (lm_mk FF)
    · simp +decide only [wpX_startRemove, wpX_isWriter, wpX_isWriterActive, wpX_isKey, wpX_setWriter, a1, a2, true_implies, false_implies, not_true_eq_false, not_false_eq_true, and_true, true_and, forall_eq, implies_true, lm_nb0, lm_nb1]; exact hp
    · simp +decide only [wpY_startRemove, wpY_startWrite, wY_startWrite_36, wY_startWrite_68, wY_startWrite_98, a1, a2, true_implies, false_implies, not_true_eq_false, not_false_eq_true, and_true, true_and, forall_eq, implies_true, lm_nb0, lm_nb1]; exact hp
  · refine lm_g (r := 0) (u := (nI c, nI R, nI Wn, nI lr, nI ver, lock, nI cu, steps, K, V, sz, ind, rp, rk, rr, rv, rs, wp, wkd, wk, wv, wr, wve, ws)) (v := (nI c, nI R, nI Wn, nI lr, nI ver, i0, i1, lock, nI cu, steps, Kb, Vb, sz, rp, rk, rr, rv, rs, wp, wkd, wk, wv, wr, wve, ws)) (fun post hp => ?_) (fun post hp => ?_) (lm_mk FF)
    · simp +decide only [wpX_startRemove, wpX_isWriter, wpX_isWriterActive, wpX_isKey, wpX_setWriter, a1, a2, a3, a4, true_implies, false_implies, not_true_eq_false, not_false_eq_true, and_true, true_and, forall_eq, implies_true, lm_nb0, lm_nb1]; exact hp
    · simp +decide only [wpY_startRemove, wpY_startWrite, wY_startWrite_36, wY_startWrite_68, wY_startWrite_98, a1, a2, a3, a4, true_implies, false_implies, not_true_eq_false, not_false_eq_true, and_true, true_and, forall_eq, implies_true, lm_nb0, lm_nb1]; exact hp
  · have hact : (¬ wp j = 0 ∧ ¬ wp j = 8) ∨ (wp j = 0 ∨ wp j = 8) := by
      by_cases e0 : wp j = 0
      · exact Or.inr (Or.inl e0)
      · by_cases e6 : wp j = 8
        · exact Or.inr (Or.inr e6)
        · exact Or.inl ⟨e0, e6⟩
    rcases hact with ⟨e0, e6⟩ | e
    · refine lm_g (r := 0) (u := (nI c, nI R, nI Wn, nI lr, nI ver, lock, nI cu, steps, K, V, sz, ind, rp, rk, rr, rv, rs, wp, wkd, wk, wv, wr, wve, ws)) (v := (nI c, nI R, nI Wn, nI lr, nI ver, i0, i1, lock, nI cu, steps, Kb, Vb, sz, rp, rk, rr, rv, rs, wp, wkd, wk, wv, wr, wve, ws)) (fun post hp => ?_) (fun post hp => ?_) (lm_mk FF)
      · simp +decide only [wpX_startRemove, wpX_isWriter, wpX_isWriterActive, wpX_isKey, wpX_setWriter, a1, a2, a3, a4, a5, a6, e0, e6, true_implies, false_implies, not_true_eq_false, not_false_eq_true, and_true, true_and, forall_eq, implies_true, lm_nb0, lm_nb1]; exact hp
      · simp +decide only [wpY_startRemove, wpY_startWrite, wY_startWrite_36, wY_startWrite_68, wY_startWrite_98, a1, a2, a3, a4, a5, a6, e0, e6, true_implies, false_implies, not_true_eq_false, not_false_eq_true, and_true, true_and, forall_eq, implies_true, lm_nb0, lm_nb1]; exact hp
    · rcases lm_key b 9999 with ⟨k1, k2⟩ | ⟨k1, k2, k3, k4⟩ | ⟨k1, k2, k3, k4⟩
      · refine lm_g (r := 0) (u := (nI c, nI R, nI Wn, nI lr, nI ver, lock, nI cu, steps, K, V, sz, ind, rp, rk, rr, rv, rs, wp, wkd, wk, wv, wr, wve, ws)) (v := (nI c, nI R, nI Wn, nI lr, nI ver, i0, i1, lock, nI cu, steps, Kb, Vb, sz, rp, rk, rr, rv, rs, wp, wkd, wk, wv, wr, wve, ws)) (fun post hp => ?_) (fun post hp => ?_) (lm_mk FF)
        · rcases e with e | e <;> simp +decide only [wpX_startRemove, wpX_isWriter, wpX_isWriterActive, wpX_isKey, wpX_setWriter, a1, a2, a3, a4, a5, a6, e, k1, k2, true_implies, false_implies, not_true_eq_false, not_false_eq_true, and_true, true_and, forall_eq, implies_true, lm_nb0, lm_nb1] <;> exact hp
        · rcases e with e | e <;> simp +decide only [wpY_startRemove, wpY_startWrite, wY_startWrite_36, wY_startWrite_68, wY_startWrite_98, a1, a2, a3, a4, a5, a6, e, k1, k2, true_implies, false_implies, not_true_eq_false, not_false_eq_true, and_true, true_and, forall_eq, implies_true, lm_nb0, lm_nb1] <;> exact hp
      · refine lm_g (r := 0) (u := (nI c, nI R, nI Wn, nI lr, nI ver, lock, nI cu, steps, K, V, sz, ind, rp, rk, rr, rv, rs, wp, wkd, wk, wv, wr, wve, ws)) (v := (nI c, nI R, nI Wn, nI lr, nI ver, i0, i1, lock, nI cu, steps, Kb, Vb, sz, rp, rk, rr, rv, rs, wp, wkd, wk, wv, wr, wve, ws)) (fun post hp => ?_) (fun post hp => ?_) (lm_mk FF)
        · rcases e with e | e <;> simp +decide only [wpX_startRemove, wpX_isWriter, wpX_isWriterActive, wpX_isKey, wpX_setWriter, a1, a2, a3, a4, a5, a6, e, k1, k2, k3, k4, true_implies, false_implies, not_true_eq_false, not_false_eq_true, and_true, true_and, forall_eq, implies_true, lm_nb0, lm_nb1] <;> exact hp
        · rcases e with e | e <;> simp +decide only [wpY_startRemove, wpY_startWrite, wY_startWrite_36, wY_startWrite_68, wY_startWrite_98, a1, a2, a3, a4, a5, a6, e, k1, k2, k3, k4, true_implies, false_implies, not_true_eq_false, not_false_eq_true, and_true, true_and, forall_eq, implies_true, lm_nb0, lm_nb1] <;> exact hp
      · refine lm_g (r := 1) (u := (nI c, nI R, nI Wn, nI lr, nI ver, lock, nI cu, steps, K, V, sz, ind, rp, rk, rr, rv, rs, upd wp j 1, upd wkd j 2, upd wk j b, upd wv j (-1), upd wr j (-3), upd wve j (-1), upd ws j (-1))) (v := (nI c, nI R, nI Wn, nI lr, nI ver, i0, i1, lock, nI cu, steps, Kb, Vb, sz, rp, rk, rr, rv, rs, upd wp j 1, upd wkd j 2, upd wk j b, upd wv j (-1), upd wr j (-3), upd wve j (-1), upd ws j (-1))) (fun post hp => ?_) (fun post hp => ?_)
            (lm_mk ⟨hc, hR, hW, hlr, hver, hcu, h0, h1, hD, hAR, lm_AWu j hAW (fun i n => ⟨pk_un n, pk_un n, pk_un n, pk_un n⟩) (lm_wr1 pk_us (Or.inr pk_us))⟩)
        · rcases e with e | e <;> simp +decide only [wpX_startRemove, wpX_isWriter, wpX_isWriterActive, wpX_isKey, wpX_setWriter, a1, a2, a3, a4, a5, a6, e, k1, k2, k3, k4, true_implies, false_implies, not_true_eq_false, not_false_eq_true, and_true, true_and, forall_eq, implies_true, lm_nb0, lm_nb1] <;> exact hp
        · rcases e with e | e <;> simp +decide only [wpY_startRemove, wpY_startWrite, wY_startWrite_36, wY_startWrite_68, wY_startWrite_98, a1, a2, a3, a4, a5, a6, e, k1, k2, k3, k4, true_implies, false_implies, not_true_eq_false, not_false_eq_true, and_true, true_and, forall_eq, implies_true, lm_nb0, lm_nb1] <;> exact hp
end LMT
end
section
def lm_fl (v : Int32) : Nat → Nat → Int32
  | 0 => fun _ => 0
  | n + 1 => upd (lm_fl v n) n v
theorem lm_fl0 (v : Int32) (n i : Nat) (h : i < n) : lm_fl v n i = v := by
  induction n with
  | zero => omega
  | succ n ih =>
    show upd (lm_fl v n) n v i = v
    by_cases e : i = n
    · rw [e]; exact pk_us
    · rw [pk_un e]; exact ih (by omega)
section LMI
variable {c R Wn lr ver cu : Nat} {lock steps i0 i1 : Int32} {K V Kb Vb sz ind rp rk rr rv rs wp wkd wk wv wr wve ws : Nat → Int32}
theorem lx_i2 (post : SX → Prop) : ∀ d j, j + d = 4 → post (nI c, nI R, nI Wn, nI lr, nI ver, lock, nI cu, steps, K, V, sz, ind, rp, rk, rr, rv, rs, lm_fl 0 4, lm_fl 0 4, lm_fl (-1) 4, lm_fl (-1) 4, lm_fl (-3) 4, lm_fl (-1) 4, lm_fl (-1) 4) →
    wX_init_207 post (d + 1) (nI j) (nI c) (nI R) (nI Wn) (nI lr) (nI ver) lock (nI cu) steps K V sz ind rp rk rr rv rs (lm_fl 0 j) (lm_fl 0 j) (lm_fl (-1) j) (lm_fl (-1) j) (lm_fl (-3) j) (lm_fl (-1) j) (lm_fl (-1) j) := by
  intro d
  induction d with
  | zero =>
    intro j hj hp
    obtain rfl : j = 4 := by omega
    exact br_t (by decide +kernel) hp
  | succ d ih =>
    intro j hj hp
    have z := ih (j + 1) (by omega) hp
    have h : ¬ (4 : Int32) ≤ nI j := nI_ge (b := 4) (by omega) (by decide)
    have hi : vp_in (nI j) 4 := vp_in_nI (by omega) (by omega)
    have hc : (nI j).toNatClampNeg = j := nI_clamp (by omega)
    have e4 : nI j + 1 = nI (j + 1) := nI_1 j
    generalize d + 1 = m at z ⊢
    simp +decide only [wX_init_207, wpX_setWriter, h, hi, hc, e4, true_implies, false_implies, not_true_eq_false, not_false_eq_true, and_true, true_and, forall_eq, implies_true, lm_nb0, lm_nb1]
    exact z
theorem lx_i1 (post : SX → Prop) : ∀ d j, j + d = 8 →
    (∃ n : Nat, wX_init_207 post n 0 (nI c) (nI R) (nI Wn) (nI lr) (nI ver) lock (nI cu) steps K V sz ind (lm_fl 0 8) (lm_fl (-1) 8) (lm_fl (-3) 8) (lm_fl (-1) 8) (lm_fl (-1) 8) wp wkd wk wv wr wve ws) →
    wX_init_183 post (d + 1) (nI j) (nI c) (nI R) (nI Wn) (nI lr) (nI ver) lock (nI cu) steps K V sz ind (lm_fl 0 j) (lm_fl (-1) j) (lm_fl (-3) j) (lm_fl (-1) j) (lm_fl (-1) j) wp wkd wk wv wr wve ws := by
  intro d
  induction d with
  | zero =>
    intro j hj hp
    obtain rfl : j = 8 := by omega
    exact br_t (by decide +kernel) hp
  | succ d ih =>
    intro j hj hp
    have z := ih (j + 1) (by omega) hp
    have h : ¬ (8 : Int32) ≤ nI j := nI_ge (b := 8) (by omega) (by decide)
    have hi : vp_in (nI j) 8 := vp_in_nI (by omega) (by omega)
    have hc : (nI j).toNatClampNeg = j := nI_clamp (by omega)
    have e4 : nI j + 1 = nI (j + 1) := nI_1 j
    generalize d + 1 = m at z ⊢
    simp +decide only [wX_init_183, wpX_setReader, h, hi, hc, e4, true_implies, false_implies, not_true_eq_false, not_false_eq_true, and_true, true_and, forall_eq, implies_true, lm_nb0, lm_nb1]
    exact z
theorem ly_i2 (post : SY → Prop) : ∀ d j, j + d = 4 → post (nI c, nI R, nI Wn, nI lr, nI ver, i0, i1, lock, nI cu, steps, Kb, Vb, sz, rp, rk, rr, rv, rs, lm_fl 0 4, lm_fl 0 4, lm_fl (-1) 4, lm_fl (-1) 4, lm_fl (-3) 4, lm_fl (-1) 4, lm_fl (-1) 4) →
    wY_init_284 post (nI c) (nI R) (nI Wn) (nI lr) (nI ver) i0 i1 lock (nI cu) steps (d + 1) (nI j) Kb Vb sz rp rk rr rv rs (lm_fl 0 j) (lm_fl 0 j) (lm_fl (-1) j) (lm_fl (-1) j) (lm_fl (-3) j) (lm_fl (-1) j) (lm_fl (-1) j) := by
  intro d
  induction d with
  | zero =>
    intro j hj hp
    obtain rfl : j = 4 := by omega
    exact br_t (by decide +kernel) hp
  | succ d ih =>
    intro j hj hp
    have z := ih (j + 1) (by omega) hp
    have h : ¬ (4 : Int32) ≤ nI j := nI_ge (b := 4) (by omega) (by decide)
    have hi : vp_in (nI j) 4 := vp_in_nI (by omega) (by omega)
    have hc : (nI j).toNatClampNeg = j := nI_clamp (by omega)
    have e4 : nI j + 1 = nI (j + 1) := nI_1 j
    generalize d + 1 = m at z ⊢
    simp +decide only [wY_init_284, h, hi, hc, e4, true_implies, false_implies, not_true_eq_false, not_false_eq_true, and_true, true_and, forall_eq, implies_true, lm_nb0, lm_nb1]
    exact z
theorem ly_i1 (post : SY → Prop) : ∀ d j, j + d = 8 →
    (∃ n : Nat, wY_init_284 post (nI c) (nI R) (nI Wn) (nI lr) (nI ver) i0 i1 lock (nI cu) steps n 0 Kb Vb sz (lm_fl 0 8) (lm_fl (-1) 8) (lm_fl (-3) 8) (lm_fl (-1) 8) (lm_fl (-1) 8) wp wkd wk wv wr wve ws) →
    wY_init_227 post (nI c) (nI R) (nI Wn) (nI lr) (nI ver) i0 i1 lock (nI cu) steps (d + 1) (nI j) Kb Vb sz (lm_fl 0 j) (lm_fl (-1) j) (lm_fl (-3) j) (lm_fl (-1) j) (lm_fl (-1) j) wp wkd wk wv wr wve ws := by
  intro d
  induction d with
  | zero =>
    intro j hj hp
    obtain rfl : j = 8 := by omega
    exact br_t (by decide +kernel) hp
  | succ d ih =>
    intro j hj hp
    have z := ih (j + 1) (by omega) hp
    have h : ¬ (8 : Int32) ≤ nI j := nI_ge (b := 8) (by omega) (by decide)
    have hi : vp_in (nI j) 8 := vp_in_nI (by omega) (by omega)
    have hc : (nI j).toNatClampNeg = j := nI_clamp (by omega)
    have e4 : nI j + 1 = nI (j + 1) := nI_1 j
    generalize d + 1 = m at z ⊢
    simp +decide only [wY_init_227, h, hi, hc, e4, true_implies, false_implies, not_true_eq_false, not_false_eq_true, and_true, true_and, forall_eq, implies_true, lm_nb0, lm_nb1]
    exact z
end LMI
theorem lm_init (k0 k1 k2 : Int32) : ∃ (R Wn : Nat) (u : SX) (v : SY), lm_Rel R Wn u v ∧ (∀ post : SX → Prop, post u → wpX_init post k0 k1 k2) ∧
    (∀ post : SY → Prop, post v → wpY_init post k0 k1 k2) := by
  obtain ⟨c, hc1, hc2, hc⟩ := lm_cl k0 (L := 4) (H := 16) 4 16 rfl rfl (by omega) (by omega)
  obtain ⟨R, hr1, hr2, hr⟩ := lm_cl k1 (L := 1) (H := 8) 1 8 rfl rfl (by omega) (by omega)
  obtain ⟨Wn, hw1, hw2, hw⟩ := lm_cl k2 (L := 1) (H := 4) 1 4 rfl rfl (by omega) (by omega)
  have F : lm_F c R Wn 0 0 0 0 0 (fun _ => 0) (fun _ => 0) (fun _ => 0) (fun _ => 0) (fun _ => 0) (fun _ => 0) (lm_fl 0 8) (lm_fl (-1) 8) (lm_fl (-1) 8)
      (lm_fl 0 4) (lm_fl 0 4) (lm_fl (-1) 4) (lm_fl (-1) 4) :=
    ⟨⟨hc1, hc2⟩, ⟨hr1, hr2⟩, ⟨hw1, hw2⟩, by omega, by omega, by omega, rfl, rfl,
      fun s _ => ⟨fun _ => none, 0, by omega, nI_0.symm, lm_0 _ _ _, lm_0 _ _ _⟩,
      fun i hi => Or.inl (lm_fl0 0 8 i hi), fun i hi => Or.inl (lm_fl0 0 4 i hi)⟩
  refine ⟨R, Wn, _, _, lm_mk (lock := -1) (steps := 0) (rk := lm_fl (-1) 8) (rr := lm_fl (-3) 8) (wk := lm_fl (-1) 4) (wv := lm_fl (-1) 4) (wr := lm_fl (-3) 4) F,
    fun post hp => ?_, fun post hp => ?_⟩
  · refine hc (fun z => wpX_clamp (fun r_2 => (wpX_clamp (fun r_3 => (∃ n183 : Nat, wX_init_183 post n183 0 z r_2 r_3 0 0 (-1) 0 0 (fun _ => 0) (fun _ => 0) (fun _ => 0) (fun _ => 0) (fun _ => 0) (fun _ => 0) (fun _ => 0) (fun _ => 0) (fun _ => 0) (fun _ => 0) (fun _ => 0) (fun _ => 0) (fun _ => 0) (fun _ => 0) (fun _ => 0) (fun _ => 0))) k2 1 4)) k1 1 8) ?_
    refine hr (fun z => wpX_clamp (fun r_3 => (∃ n183 : Nat, wX_init_183 post n183 0 (nI c) z r_3 0 0 (-1) 0 0 (fun _ => 0) (fun _ => 0) (fun _ => 0) (fun _ => 0) (fun _ => 0) (fun _ => 0) (fun _ => 0) (fun _ => 0) (fun _ => 0) (fun _ => 0) (fun _ => 0) (fun _ => 0) (fun _ => 0) (fun _ => 0) (fun _ => 0) (fun _ => 0))) k2 1 4) ?_
    refine hw (fun z => ∃ n183 : Nat, wX_init_183 post n183 0 (nI c) (nI R) z 0 0 (-1) 0 0 (fun _ => 0) (fun _ => 0) (fun _ => 0) (fun _ => 0) (fun _ => 0) (fun _ => 0) (fun _ => 0) (fun _ => 0) (fun _ => 0) (fun _ => 0) (fun _ => 0) (fun _ => 0) (fun _ => 0) (fun _ => 0) (fun _ => 0) (fun _ => 0)) ?_
    exact ⟨9, lx_i1 (c := c) (R := R) (Wn := Wn) (lr := 0) (ver := 0) (cu := 0) (lock := -1) (steps := 0) post 8 0 rfl ⟨5, lx_i2 (c := c) (R := R) (Wn := Wn) (lr := 0) (ver := 0) (cu := 0) (lock := -1) (steps := 0) post 4 0 rfl hp⟩⟩
  · refine hc (fun z => wY_init_173 post k1 k2 z 0 0 0 0 0 0 0 (-1) 0 0 (fun _ => 0) (fun _ => 0) (fun _ => 0) (fun _ => 0) (fun _ => 0) (fun _ => 0) (fun _ => 0) (fun _ => 0) (fun _ => 0) (fun _ => 0) (fun _ => 0) (fun _ => 0) (fun _ => 0) (fun _ => 0) (fun _ => 0)) ?_
    refine hr (fun z => wY_init_198 post k2 z (nI c) 0 0 0 0 0 0 (-1) 0 0 (fun _ => 0) (fun _ => 0) (fun _ => 0) (fun _ => 0) (fun _ => 0) (fun _ => 0) (fun _ => 0) (fun _ => 0) (fun _ => 0) (fun _ => 0) (fun _ => 0) (fun _ => 0) (fun _ => 0) (fun _ => 0) (fun _ => 0)) ?_
    refine hw (fun z => ∃ n227 : Nat, wY_init_227 post (nI c) (nI R) z 0 0 0 0 (-1) 0 0 n227 0 (fun _ => 0) (fun _ => 0) (fun _ => 0) (fun _ => 0) (fun _ => 0) (fun _ => 0) (fun _ => 0) (fun _ => 0) (fun _ => 0) (fun _ => 0) (fun _ => 0) (fun _ => 0) (fun _ => 0) (fun _ => 0) (fun _ => 0)) ?_
    exact ⟨9, ly_i1 (c := c) (R := R) (Wn := Wn) (lr := 0) (ver := 0) (cu := 0) (lock := -1) (steps := 0) (i0 := 0) (i1 := 0) post 8 0 rfl ⟨5, ly_i2 (c := c) (R := R) (Wn := Wn) (lr := 0) (ver := 0) (cu := 0) (lock := -1) (steps := 0) (i0 := 0) (i1 := 0) post 4 0 rfl hp⟩⟩
end
section
theorem i_vc0 (k0 : Int32) (k1 : Int32) (k2 : Int32) : wpX_init (fun u => wpY_init (fun v => i_Rel 3 u v) k0 k1 k2) k0 k1 k2 := by
  obtain ⟨R, Wn, u, v, h, hx, hy⟩ := lm_init k0 k1 k2
  exact hx _ (hy _ ⟨R, Wn, h⟩)
theorem i_vc_startLookup {k : Nat} {u : SX} {v : SY} (I : i_Rel k u v) (hk : k + 4 ≤ 2051) (v1 : Int32) (v2 : Int32) : wpX_startLookup (fun r u' => wpY_startLookup (fun r' v' => r' = r ∧ i_Rel (k + 4) u' v') v v1 v2) u v1 v2 := by
  obtain ⟨R, Wn, J⟩ := I
  obtain ⟨r, u1, w1, h, hx, hy⟩ := lm_startLookup J v1 v2
  exact hx _ (hy _ ⟨rfl, R, Wn, h⟩)
theorem i_vc_startPut {k : Nat} {u : SX} {v : SY} (I : i_Rel k u v) (hk : k + 4 ≤ 2051) (v1 : Int32) (v2 : Int32) (v3 : Int32) : wpX_startPut (fun r u' => wpY_startPut (fun r' v' => r' = r ∧ i_Rel (k + 4) u' v') v v1 v2 v3) u v1 v2 v3 := by
  obtain ⟨R, Wn, J⟩ := I
  obtain ⟨r, u1, w1, h, hx, hy⟩ := lm_startPut J v1 v2 v3
  exact hx _ (hy _ ⟨rfl, R, Wn, h⟩)
theorem i_vc_startRemove {k : Nat} {u : SX} {v : SY} (I : i_Rel k u v) (hk : k + 4 ≤ 2051) (v1 : Int32) (v2 : Int32) : wpX_startRemove (fun r u' => wpY_startRemove (fun r' v' => r' = r ∧ i_Rel (k + 4) u' v') v v1 v2) u v1 v2 := by
  obtain ⟨R, Wn, J⟩ := I
  obtain ⟨r, u1, w1, h, hx, hy⟩ := lm_startRemove J v1 v2
  exact hx _ (hy _ ⟨rfl, R, Wn, h⟩)
theorem i_vc_step {k : Nat} {u : SX} {v : SY} (I : i_Rel k u v) (hk : k + 4 ≤ 2051) (v1 : Int32) : wpX_step (fun r u' => wpY_step (fun r' v' => r' = r ∧ i_Rel (k + 4) u' v') v v1) u v1 := by
  obtain ⟨R, Wn, J⟩ := I
  obtain ⟨r, u1, w1, h, hx, hy⟩ := lm_step J v1
  exact hx _ (hy _ ⟨rfl, R, Wn, h⟩)
theorem i_vc_run {k : Nat} {u : SX} {v : SY} (I : i_Rel k u v) (hk : k + 4 ≤ 2051) (v1 : Int32) : wpX_run (fun r u' => wpY_run (fun r' v' => r' = r ∧ i_Rel (k + 4) u' v') v v1) u v1 := by
  obtain ⟨R, Wn, J⟩ := I
  obtain ⟨r, u1, w1, h, hx, hy⟩ := lm_run J v1
  exact hx _ (hy _ ⟨rfl, R, Wn, h⟩)
theorem i_vc_peek {k : Nat} {u : SX} {v : SY} (I : i_Rel k u v) (hk : k + 4 ≤ 2051) (v1 : Int32) : wpX_peek (fun r => wpY_peek (fun r' => r' = r ∧ i_Rel (k + 4) u v) v v1) u v1 := by
  obtain ⟨R, Wn, J⟩ := I
  obtain ⟨r, hx, hy⟩ := lm_peek J v1
  exact hx _ (hy _ ⟨rfl, R, Wn, J⟩)
theorem i_vc_instance {k : Nat} {u : SX} {v : SY} (I : i_Rel k u v) (hk : k + 4 ≤ 2051) (v1 : Int32) (v2 : Int32) : wpX_instance (fun r => wpY_instance (fun r' => r' = r ∧ i_Rel (k + 4) u v) v v1 v2) u v1 v2 := by
  obtain ⟨R, Wn, J⟩ := I
  obtain ⟨r, hx, hy⟩ := lm_inst J v1 v2
  exact hx _ (hy _ ⟨rfl, R, Wn, J⟩)
theorem i_vc_reader {k : Nat} {u : SX} {v : SY} (I : i_Rel k u v) (hk : k + 4 ≤ 2051) (v1 : Int32) (v2 : Int32) : wpX_reader (fun r => wpY_reader (fun r' => r' = r ∧ i_Rel (k + 4) u v) v v1 v2) u v1 v2 := by
  obtain ⟨R, Wn, J⟩ := I
  obtain ⟨r, hx, hy⟩ := lm_reader J v1 v2
  exact hx _ (hy _ ⟨rfl, R, Wn, J⟩)
theorem i_vc_writer {k : Nat} {u : SX} {v : SY} (I : i_Rel k u v) (hk : k + 4 ≤ 2051) (v1 : Int32) (v2 : Int32) : wpX_writer (fun r => wpY_writer (fun r' => r' = r ∧ i_Rel (k + 4) u v) v v1 v2) u v1 v2 := by
  obtain ⟨R, Wn, J⟩ := I
  obtain ⟨r, hx, hy⟩ := lm_writer J v1 v2
  exact hx _ (hy _ ⟨rfl, R, Wn, J⟩)
theorem i_vc_global {k : Nat} {u : SX} {v : SY} (I : i_Rel k u v) (hk : k + 4 ≤ 2051) (v1 : Int32) : wpX_global (fun r => wpY_global (fun r' => r' = r ∧ i_Rel (k + 4) u v) v v1) u v1 := by
  obtain ⟨R, Wn, J⟩ := I
  obtain ⟨r, hx, hy⟩ := lm_global J v1
  exact hx _ (hy _ ⟨rfl, R, Wn, J⟩)
end
