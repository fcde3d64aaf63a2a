def lm_L (f : Int32 → Option Int32) (b n : Nat) (K V : Nat → Int32) : Prop :=
  (∀ i, i < n → f (K (b + i)) = some (V (b + i))) ∧
  (∀ q w, f q = some w → ∃ i, i < n ∧ K (b + i) = q) ∧
  (∀ i j, i < n → j < n → K (b + i) = K (b + j) → i = j)
def lm_set (f : Int32 → Option Int32) (q w : Int32) : Int32 → Option Int32 := fun z => if z = q then some w else f z
def lm_del (f : Int32 → Option Int32) (q : Int32) : Int32 → Option Int32 := fun z => if z = q then none else f z

theorem lm_0 (b : Nat) (K V : Nat → Int32) : lm_L (fun _ => none) b 0 K V :=
  ⟨fun i hi => absurd hi (Nat.not_lt_zero i), fun q w e => (by cases e), fun i j hi => absurd hi (Nat.not_lt_zero i)⟩

theorem lm_same {f : Int32 → Option Int32} {b n : Nat} {K V K' V' : Nat → Int32} (h : lm_L f b n K V)
    (hK : ∀ i, i < n → K' (b + i) = K (b + i)) (hV : ∀ i, i < n → V' (b + i) = V (b + i)) : lm_L f b n K' V' := by
  obtain ⟨h1, h2, h3⟩ := h
  refine ⟨fun i hi => ?_, fun q w e => ?_, fun i j hi hj e => ?_⟩
  · rw [hK i hi, hV i hi]; exact h1 i hi
  · obtain ⟨i, hi, e'⟩ := h2 q w e
    exact ⟨i, hi, by rw [hK i hi]; exact e'⟩
  · rw [hK i hi, hK j hj] at e; exact h3 i j hi hj e

theorem lm_miss {f : Int32 → Option Int32} {b n : Nat} {K V : Nat → Int32} {q : Int32} (h : lm_L f b n K V)
    (hm : ∀ i, i < n → ¬ K (b + i) = q) : f q = none := by
  cases e : f q with
  | none => rfl
  | some w => obtain ⟨i, hi, e'⟩ := h.2.1 q w e; exact absurd e' (hm i hi)
theorem lm_hit {f : Int32 → Option Int32} {b n p : Nat} {K V : Nat → Int32} {q : Int32} (h : lm_L f b n K V)
    (hp : p < n) (hk : K (b + p) = q) : f q = some (V (b + p)) := by rw [← hk]; exact h.1 p hp

theorem lm_put {f : Int32 → Option Int32} {b n p : Nat} {K V : Nat → Int32} {q : Int32} (w : Int32) (h : lm_L f b n K V)
    (hp : p < n) (hk : K (b + p) = q) : lm_L (lm_set f q w) b n K (upd V (b + p) w) := by
  obtain ⟨h1, h2, h3⟩ := h
  refine ⟨fun i hi => ?_, fun z y e => ?_, h3⟩
  · by_cases c : i = p
    · subst c
      show (if K (b + i) = q then some w else f (K (b + i))) = some (if b + i = b + i then w else V (b + i))
      rw [if_pos hk, if_pos rfl]
    · have c1 : ¬ K (b + i) = q := fun e => c (h3 i p hi hp (e.trans hk.symm))
      have c2 : ¬ b + i = b + p := fun e => c (by omega)
      show (if K (b + i) = q then some w else f (K (b + i))) = some (if b + i = b + p then w else V (b + i))
      rw [if_neg c1, if_neg c2]; exact h1 i hi
  · by_cases c : z = q
    · exact ⟨p, hp, by rw [hk, c]⟩
    · have e' : (if z = q then some w else f z) = some y := e
      rw [if_neg c] at e'; exact h2 z y e'

theorem lm_add {f : Int32 → Option Int32} {b n : Nat} {K V : Nat → Int32} {q : Int32} (w : Int32) (h : lm_L f b n K V)
    (hq : f q = none) : lm_L (lm_set f q w) b (n + 1) (upd K (b + n) q) (upd V (b + n) w) := by
  obtain ⟨h1, h2, h3⟩ := h
  have hn : ∀ i, i < n → ¬ K (b + i) = q := fun i hi e => by
    have := h1 i hi; rw [e, hq] at this; cases this
  have kn : upd K (b + n) q (b + n) = q := if_pos rfl
  have ko : ∀ i, i < n → upd K (b + n) q (b + i) = K (b + i) := fun i hi => if_neg (by omega)
  have vn : upd V (b + n) w (b + n) = w := if_pos rfl
  have vo : ∀ i, i < n → upd V (b + n) w (b + i) = V (b + i) := fun i hi => if_neg (by omega)
  refine ⟨fun i hi => ?_, fun z y e => ?_, fun i j hi hj e => ?_⟩
  · by_cases c : i < n
    · rw [ko i c, vo i c]
      show (if K (b + i) = q then some w else f (K (b + i))) = _
      rw [if_neg (hn i c)]; exact h1 i c
    · have : i = n := by omega
      subst this
      rw [kn, vn]
      show (if q = q then some w else f q) = _
      rw [if_pos rfl]
  · by_cases c : z = q
    · exact ⟨n, Nat.lt_succ_self n, by rw [kn, c]⟩
    · have e' : (if z = q then some w else f z) = some y := e
      rw [if_neg c] at e'
      obtain ⟨i, hi, ei⟩ := h2 z y e'
      exact ⟨i, Nat.lt_succ_of_lt hi, by rw [ko i hi]; exact ei⟩
  · by_cases ci : i < n
    · by_cases cj : j < n
      · rw [ko i ci, ko j cj] at e; exact h3 i j ci cj e
      · have : j = n := by omega
        subst this
        rw [ko i ci, kn] at e; exact absurd e (hn i ci)
    · have : i = n := by omega
      subst this
      by_cases cj : j < i
      · rw [kn, ko j cj] at e; exact absurd e.symm (hn j cj)
      · omega

theorem lm_rem {f : Int32 → Option Int32} {b n p : Nat} {K V K' V' : Nat → Int32} {q : Int32} (s : Nat → Nat)
    (h : lm_L f b n K V) (hp : p < n) (hk : K (b + p) = q)
    (hs : ∀ i, i < n - 1 → s i < n ∧ ¬ s i = p ∧ K' (b + i) = K (b + s i) ∧ V' (b + i) = V (b + s i))
    (hi : ∀ i j, i < n - 1 → j < n - 1 → s i = s j → i = j)
    (ho : ∀ j, j < n → ¬ j = p → ∃ i, i < n - 1 ∧ s i = j) : lm_L (lm_del f q) b (n - 1) K' V' := by
  obtain ⟨h1, h2, h3⟩ := h
  refine ⟨fun i c => ?_, fun z y e => ?_, fun i j ci cj e => ?_⟩
  · obtain ⟨a1, a2, a3, a4⟩ := hs i c
    rw [a3, a4]
    have c1 : ¬ K (b + s i) = q := fun e => a2 (h3 (s i) p a1 hp (e.trans hk.symm))
    show (if K (b + s i) = q then none else f (K (b + s i))) = _
    rw [if_neg c1]; exact h1 (s i) a1
  · have e' : (if z = q then none else f z) = some y := e
    by_cases c : z = q
    · rw [if_pos c] at e'; cases e'
    · rw [if_neg c] at e'
      obtain ⟨j, hj, ej⟩ := h2 z y e'
      have jp : ¬ j = p := fun x => c (by rw [← ej, x, hk])
      obtain ⟨i, hi', ei⟩ := ho j hj jp
      exact ⟨i, hi', by rw [(hs i hi').2.2.1, ei]; exact ej⟩
  · obtain ⟨a1, _, a3, _⟩ := hs i ci
    obtain ⟨b1, _, b3, _⟩ := hs j cj
    rw [a3, b3] at e
    exact hi i j ci cj (h3 (s i) (s j) a1 b1 e)

theorem lm_remL {f : Int32 → Option Int32} {b n p : Nat} {K V : Nat → Int32} {q : Int32}
    (h : lm_L f b n K V) (hp : p < n) (hk : K (b + p) = q) :
    lm_L (lm_del f q) b (n - 1) (upd K (b + p) (K (b + (n - 1)))) (upd V (b + p) (V (b + (n - 1)))) := by
  refine lm_rem (fun i => if i = p then n - 1 else i) h hp hk (fun i c => ?_) (fun i j ci cj e => ?_) (fun j hj jp => ?_)
  · by_cases c1 : i = p
    · subst c1
      skip
      rw [if_pos rfl]
      exact ⟨by omega, by omega, if_pos rfl, if_pos rfl⟩
    · skip
      rw [if_neg c1]
      exact ⟨by omega, c1, if_neg (by omega), if_neg (by omega)⟩
  · skip
    by_cases c1 : i = p
    · rw [if_pos c1] at e
      by_cases c2 : j = p
      · omega
      · rw [if_neg c2] at e; omega
    · rw [if_neg c1] at e
      by_cases c2 : j = p
      · rw [if_pos c2] at e; omega
      · rw [if_neg c2] at e; exact e
  · by_cases c : j = n - 1
    · exact ⟨p, by omega, by rw [if_pos rfl, c]⟩
    · exact ⟨j, by omega, by rw [if_neg jp]⟩

theorem lm_remS {f : Int32 → Option Int32} {b n p : Nat} {K V K' V' : Nat → Int32} {q : Int32}
    (h : lm_L f b n K V) (hp : p < n) (hk : K (b + p) = q)
    (lo : ∀ i, i < p → K' (b + i) = K (b + i) ∧ V' (b + i) = V (b + i))
    (up : ∀ i, p ≤ i → i < n - 1 → K' (b + i) = K (b + i + 1) ∧ V' (b + i) = V (b + i + 1)) :
    lm_L (lm_del f q) b (n - 1) K' V' := by
  refine lm_rem (fun i => if i < p then i else i + 1) h hp hk (fun i c => ?_) (fun i j ci cj e => ?_) (fun j hj jp => ?_)
  · by_cases c1 : i < p
    · skip
      rw [if_pos c1]
      exact ⟨by omega, by omega, (lo i c1).1, (lo i c1).2⟩
    · skip
      rw [if_neg c1]
      exact ⟨by omega, by omega, (up i (by omega) c).1, (up i (by omega) c).2⟩
  · skip
    by_cases c1 : i < p
    · rw [if_pos c1] at e
      by_cases c2 : j < p
      · rw [if_pos c2] at e; exact e
      · rw [if_neg c2] at e; omega
    · rw [if_neg c1] at e
      by_cases c2 : j < p
      · rw [if_pos c2] at e; omega
      · rw [if_neg c2] at e; omega
  · by_cases c : j < p
    · exact ⟨j, by omega, by rw [if_pos c]⟩
    · exact ⟨j - 1, by omega, by rw [if_neg (by omega)]; omega⟩

def lm_S (s : Nat) (K V Kb Vb sz : Nat → Int32) : Prop :=
  ∃ (f : Int32 → Option Int32) (n : Nat), n ≤ 16 ∧ sz s = nI n ∧ lm_L f (s * 16) n K V ∧ lm_L f (s * 16) n Kb Vb
def lm_D (K V Kb Vb sz : Nat → Int32) : Prop := ∀ s, s < 2 → lm_S s K V Kb Vb sz
def lm_out (s j : Nat) : Prop := j < s * 16 ∨ s * 16 + 16 ≤ j

theorem lm_Du {K V Kb Vb sz K1 V1 Kb1 Vb1 sz1 : Nat → Int32} (h : lm_D K V Kb Vb sz) (s : Nat) (hs : s < 2)
    (hK : ∀ j, lm_out s j → K1 j = K j) (hV : ∀ j, lm_out s j → V1 j = V j)
    (hKb : ∀ j, lm_out s j → Kb1 j = Kb j) (hVb : ∀ j, lm_out s j → Vb1 j = Vb j)
    (hz : ∀ j, ¬ j = s → sz1 j = sz j) (hS : lm_S s K1 V1 Kb1 Vb1 sz1) : lm_D K1 V1 Kb1 Vb1 sz1 := by
  intro t ht
  by_cases c : t = s
  · subst c; exact hS
  · obtain ⟨f, n, hn, e, hL, hLb⟩ := h t ht
    have o : ∀ i, i < n → lm_out s (t * 16 + i) := fun i hi => by unfold lm_out; omega
    exact ⟨f, n, hn, (hz t c).trans e, lm_same hL (fun i hi => hK _ (o i hi)) (fun i hi => hV _ (o i hi)),
      lm_same hLb (fun i hi => hKb _ (o i hi)) (fun i hi => hVb _ (o i hi))⟩
theorem lm_uo {f : Nat → Int32} {s p : Nat} {x : Int32} (hp : p < 16) : ∀ j, lm_out s j → upd f (s * 16 + p) x j = f j :=
  fun j hj => if_neg (by unfold lm_out at hj; omega)
theorem lm_rf {f : Nat → Int32} {s : Nat} : ∀ j, lm_out s j → f j = f j := fun _ _ => rfl

-- the five ends of an update, for both sides at once
theorem lm_u1 {K V Kb Vb sz : Nat → Int32} {f : Int32 → Option Int32} {s n p pb : Nat} {q : Int32} (w : Int32) (h : lm_D K V Kb Vb sz) (hs : s < 2)
    (hn : n ≤ 16) (ez : sz s = nI n) (hL : lm_L f (s * 16) n K V) (hLb : lm_L f (s * 16) n Kb Vb)
    (hp : p < n) (hk : K (s * 16 + p) = q) (hpb : pb < n) (hkb : Kb (s * 16 + pb) = q) :
    lm_D K (upd V (s * 16 + p) w) Kb (upd Vb (s * 16 + pb) w) sz :=
  lm_Du h s hs lm_rf (lm_uo (by omega)) lm_rf (lm_uo (by omega)) (fun _ _ => rfl)
    ⟨lm_set f q w, n, hn, ez, lm_put w hL hp hk, lm_put w hLb hpb hkb⟩
theorem lm_u2 {K V Kb Vb sz : Nat → Int32} {f : Int32 → Option Int32} {s n : Nat} {q : Int32} (w : Int32) (h : lm_D K V Kb Vb sz) (hs : s < 2)
    (hn : n < 16) (hL : lm_L f (s * 16) n K V) (hLb : lm_L f (s * 16) n Kb Vb) (hq : f q = none) :
    lm_D (upd K (s * 16 + n) q) (upd V (s * 16 + n) w) (upd Kb (s * 16 + n) q) (upd Vb (s * 16 + n) w) (upd sz s (nI (n + 1))) :=
  lm_Du h s hs (lm_uo hn) (lm_uo hn) (lm_uo hn) (lm_uo hn) (fun _ c => if_neg c)
    ⟨lm_set f q w, n + 1, hn, if_pos rfl, lm_add w hL hq, lm_add w hLb hq⟩
theorem lm_u3 {K V Kb Vb sz Kb1 Vb1 : Nat → Int32} {f : Int32 → Option Int32} {s n p pb : Nat} {q : Int32} (h : lm_D K V Kb Vb sz) (hs : s < 2)
    (hn : n ≤ 16) (hL : lm_L f (s * 16) n K V) (hLb : lm_L f (s * 16) n Kb Vb)
    (hp : p < n) (hk : K (s * 16 + p) = q) (hpb : pb < n) (hkb : Kb (s * 16 + pb) = q)
    (lo : ∀ i, ¬ (s * 16 + pb ≤ i ∧ i < s * 16 + (n - 1)) → Kb1 i = Kb i ∧ Vb1 i = Vb i)
    (up : ∀ i, s * 16 + pb ≤ i ∧ i < s * 16 + (n - 1) → Kb1 i = Kb (i + 1) ∧ Vb1 i = Vb (i + 1)) :
    lm_D (upd K (s * 16 + p) (K (s * 16 + (n - 1)))) (upd V (s * 16 + p) (V (s * 16 + (n - 1)))) Kb1 Vb1 (upd sz s (nI (n - 1))) :=
  lm_Du h s hs (lm_uo (by omega)) (lm_uo (by omega)) (fun j hj => (lo j (by unfold lm_out at hj; omega)).1) (fun j hj => (lo j (by unfold lm_out at hj; omega)).2)
    (fun _ c => if_neg c)
    ⟨lm_del f q, n - 1, by omega, if_pos rfl, lm_remL hL hp hk,
      lm_remS hLb hpb hkb (fun i hi => lo (s * 16 + i) (by omega)) (fun i h1 h2 => up (s * 16 + i) (by omega))⟩
