/-! ===== the wall: the least cost of false costs ===== -/
def zw_n (f : Nat → Nat) : Nat → Nat
  | 0 => 0
  | n + 1 => zw_n f n + f n
theorem zw_n_le {f g : Nat → Nat} : ∀ n, (∀ i, i < n → f i ≤ g i) → zw_n f n ≤ zw_n g n
  | 0, _ => Nat.le_refl _
  | n + 1, h => by
    have h1 := zw_n_le n (fun i hi => h i (by omega))
    have h2 := h n (by omega)
    show zw_n f n + f n ≤ zw_n g n + g n
    omega
theorem zw_n_cg {f g : Nat → Nat} (n : Nat) (h : ∀ i, i < n → f i = g i) : zw_n f n = zw_n g n :=
  Nat.le_antisymm (zw_n_le n (fun i hi => Nat.le_of_eq (h i hi))) (zw_n_le n (fun i hi => Nat.le_of_eq (h i hi).symm))
theorem zw_n_add {f g : Nat → Nat} : ∀ n, zw_n (fun i => f i + g i) n = zw_n f n + zw_n g n
  | 0 => rfl
  | n + 1 => by
    have h1 := zw_n_add (f := f) (g := g) n
    show zw_n (fun i => f i + g i) n + (f n + g n) = (zw_n f n + f n) + (zw_n g n + g n)
    omega
theorem zw_n_le2 {f g f' g' : Nat → Nat} (n : Nat) (h : ∀ i, i < n → f i + g i ≤ f' i + g' i) : zw_n f n + zw_n g n ≤ zw_n f' n + zw_n g' n := by
  rw [← zw_n_add, ← zw_n_add]
  exact zw_n_le n h
/-- one term differs -/
theorem zw_n_1 {f g : Nat → Nat} {k d : Nat} (n : Nat) (h : ∀ i, i < n → i ≠ k → f i ≤ g i) (hk : f k ≤ g k + d) : zw_n f n ≤ zw_n g n + d := by
  induction n with
  | zero => exact Nat.zero_le _
  | succ n ih =>
    show zw_n f n + f n ≤ zw_n g n + g n + d
    by_cases q : n = k
    · subst q
      have := zw_n_le n (fun i hi => h i (by omega) (by omega))
      omega
    · have := ih (fun i hi => h i (by omega))
      have := h n (by omega) q
      omega
theorem zw_n_ge1 {f : Nat → Nat} {k : Nat} : ∀ n, k < n → f k ≤ zw_n f n
  | 0, h => absurd h (Nat.not_lt_zero _)
  | n + 1, h => by
    show f k ≤ zw_n f n + f n
    by_cases q : k = n
    · subst q
      omega
    · have := zw_n_ge1 (f := f) (k := k) n (by omega)
      omega
theorem zw_n_ge2 {f : Nat → Nat} {k l : Nat} : ∀ n, k < n → l < n → k ≠ l → f k + f l ≤ zw_n f n
  | 0, h, _, _ => absurd h (Nat.not_lt_zero _)
  | n + 1, h, h', hkl => by
    show f k + f l ≤ zw_n f n + f n
    by_cases q : k = n
    · subst q
      have := zw_n_ge1 (f := f) (k := l) k (by omega)
      omega
    · by_cases q2 : l = n
      · subst q2
        have := zw_n_ge1 (f := f) (k := k) l (by omega)
        omega
      · have := zw_n_ge2 (f := f) (k := k) (l := l) n (by omega) (by omega) hkl
        omega
theorem zw_min {P : Nat → Prop} : ∀ k, P k → ∃ k, P k ∧ ∀ j, P j → k ≤ j := by
  intro k
  induction k using Nat.strongRecOn with
  | ind k ih =>
    intro hk
    by_cases q : ∃ j, j < k ∧ P j
    · obtain ⟨j, h1, h2⟩ := q
      exact ih j h1 h2
    · exact ⟨k, hk, fun j hj => by
        rcases Nat.lt_or_ge j k with h | h
        · exact absurd ⟨j, h, hj⟩ q
        · exact h⟩
/-- a graph: r ways from b to e, n docks -/
def zw_G (m n : Nat) (b e : Nat → Nat) : Prop := ∀ r, r < m → b r < n ∧ e r < n ∧ b r ≠ e r
def zw_E (m n : Nat) (b e : Nat → Nat) (c p : Nat → Int) : Nat := zw_n (fun v => (p v).natAbs) n + zw_n (fun r => (c r - p (b r) + p (e r)).natAbs) m
/-- which prices may be: 0 none, 1 none below 0, 2 none above, else any -/
def zw_O (σ : Nat → Nat) (p : Nat → Int) : Prop := ∀ v, (σ v = 0 → p v = 0) ∧ (σ v = 1 → 0 ≤ p v) ∧ (σ v = 2 → p v ≤ 0)
def zw_L (m n : Nat) (b e σ : Nat → Nat) (c : Nat → Int) (k : Nat) : Prop := ∃ p, zw_O σ p ∧ zw_E m n b e c p ≤ k
theorem zw_O0 {σ : Nat → Nat} : zw_O σ (fun _ => 0) := fun _ => ⟨fun _ => rfl, fun _ => Int.le_refl _, fun _ => Int.le_refl _⟩
theorem zw_phi_ex (m n : Nat) (b e σ : Nat → Nat) (c : Nat → Int) : ∃ k, zw_L m n b e σ c k ∧ ∀ j, zw_L m n b e σ c j → k ≤ j := zw_min _ ⟨fun _ => 0, zw_O0, Nat.le_refl _⟩
noncomputable def zw_phi (m n : Nat) (b e σ : Nat → Nat) (c : Nat → Int) : Nat := Classical.choose (zw_phi_ex m n b e σ c)
theorem zw_phi_p (m n : Nat) (b e σ : Nat → Nat) (c : Nat → Int) : ∃ p, zw_O σ p ∧ zw_E m n b e c p ≤ zw_phi m n b e σ c := (Classical.choose_spec (zw_phi_ex m n b e σ c)).1
theorem zw_phi_le {m n : Nat} {b e σ : Nat → Nat} {c p : Nat → Int} (h : zw_O σ p) : zw_phi m n b e σ c ≤ zw_E m n b e c p := (Classical.choose_spec (zw_phi_ex m n b e σ c)).2 _ ⟨p, h, Nat.le_refl _⟩
section
variable {m n : Nat} {b e σ : Nat → Nat}
theorem zw_E_a {c p : Nat → Int} {i : Nat} {d : Int} (hd : d = 1 ∨ d = -1) : zw_E m n b e (zw_a c i d) p ≤ zw_E m n b e c p + 1 := by
  unfold zw_E
  have := zw_n_1 (f := fun r => (zw_a c i d r - p (b r) + p (e r)).natAbs) (g := fun r => (c r - p (b r) + p (e r)).natAbs) (k := i) (d := 1) m (fun r _ hr => by
    unfold zw_a
    try dsimp only
    rw [if_neg hr]
    exact Nat.le_refl _) (by
    unfold zw_a
    try dsimp only
    rw [if_pos rfl]
    omega)
  omega
theorem zw_phi_a {c : Nat → Int} {i : Nat} {d : Int} (hd : d = 1 ∨ d = -1) : zw_phi m n b e σ (zw_a c i d) ≤ zw_phi m n b e σ c + 1 := by
  obtain ⟨p, h1, h2⟩ := zw_phi_p m n b e σ c
  have h3 := zw_phi_le (m := m) (n := n) (b := b) (e := e) (c := zw_a c i d) h1
  have h4 := zw_E_a (m := m) (n := n) (b := b) (e := e) (c := c) (p := p) (i := i) hd
  omega
theorem zw_phi_b {c : Nat → Int} {i : Nat} {d : Int} (hd : d = 1 ∨ d = -1) : zw_phi m n b e σ c ≤ zw_phi m n b e σ (zw_a c i d) + 1 := by
  have := zw_phi_a (m := m) (n := n) (b := b) (e := e) (σ := σ) (c := zw_a c i d) (i := i) (d := -d) (by omega)
  rw [zw_aa, show d + -d = 0 by omega, zw_a0] at this
  exact this
theorem zw_E_bd {c p : Nat → Int} {i : Nat} (hg : zw_G m n b e) (hi : i < m) : (c i).natAbs ≤ zw_E m n b e c p := by
  obtain ⟨h1, h2, h3⟩ := hg i hi
  have a1 := zw_n_ge2 (f := fun v => (p v).natAbs) n h1 h2 h3
  have a2 := zw_n_ge1 (f := fun r => (c r - p (b r) + p (e r)).natAbs) m hi
  unfold zw_E
  try dsimp only at a1 a2
  omega
theorem zw_phi_bd {c : Nat → Int} {i : Nat} (hg : zw_G m n b e) (hi : i < m) : (c i).natAbs ≤ zw_phi m n b e σ c := by
  obtain ⟨p, -, h2⟩ := zw_phi_p m n b e σ c
  exact Nat.le_trans (zw_E_bd hg hi) h2
/-- the steps at the dock u, to one side (s = 1) or to the other one -/
def zw_A (m : Nat) (b e : Nat → Nat) (u : Nat) (s : Int) (r : Nat) : Int := if r < m then (if b r = u then s else if e r = u then -s else 0) else 0
theorem zw_A_3 {u r : Nat} {s : Int} (hs : s = 1 ∨ s = -1) : zw_A m b e u s r = 0 ∨ zw_A m b e u s r = 1 ∨ zw_A m b e u s r = -1 := by
  unfold zw_A
  split
  · split
    · omega
    · split
      · omega
      · exact .inl rfl
  · exact .inl rfl
/-- the steps from the coordinate k on -/
def zw_t (A c : Nat → Int) (k : Nat) : Nat → Int := fun j => if k ≤ j then c j + A j else c j
theorem zw_ts {A c : Nat → Int} {k : Nat} : zw_t A c k = zw_t A (zw_a c k (A k)) (k + 1) := by
  funext j
  unfold zw_t zw_a
  by_cases q : j = k
  · rw [if_pos (by omega), if_neg (by omega), if_pos q, q]
  · by_cases q2 : k ≤ j
    · rw [if_pos q2, if_pos (by omega), if_neg q]
    · rw [if_neg q2, if_neg (by omega), if_neg q]
/-- the lesser of two prices at each dock on one side, the greater on the other -/
theorem zw_mm (s : Int) (p q : Nat → Int) : ∃ x y : Nat → Int, ∀ v, (x v = p v ∧ y v = q v ∧ (s = 1 → p v ≤ q v) ∧ (s ≠ 1 → q v ≤ p v)) ∨ (x v = q v ∧ y v = p v ∧ (s = 1 → q v ≤ p v) ∧ (s ≠ 1 → p v ≤ q v)) := by
  by_cases hs : s = 1
  · refine ⟨fun v => if p v ≤ q v then p v else q v, fun v => if p v ≤ q v then q v else p v, fun v => ?_⟩
    by_cases h : p v ≤ q v
    · exact .inl ⟨if_pos h, if_pos h, fun _ => h, fun x => absurd hs x⟩
    · exact .inr ⟨if_neg h, if_neg h, fun _ => by omega, fun x => absurd hs x⟩
  · refine ⟨fun v => if p v ≤ q v then q v else p v, fun v => if p v ≤ q v then p v else q v, fun v => ?_⟩
    by_cases h : p v ≤ q v
    · exact .inr ⟨if_pos h, if_pos h, fun x => absurd x hs, fun _ => h⟩
    · exact .inl ⟨if_neg h, if_neg h, fun x => absurd x hs, fun _ => by omega⟩
/-- what is gained behind the k-th step falls with it -/
theorem zw_sub {u k : Nat} {s : Int} {c : Nat → Int} (hg : zw_G m n b e) (hσ : σ u = 0) (hs : s = 1 ∨ s = -1) :
    zw_phi m n b e σ (zw_t (zw_A m b e u s) c k) + zw_phi m n b e σ c ≤ zw_phi m n b e σ (zw_a c k (zw_A m b e u s k)) + zw_phi m n b e σ (zw_t (zw_A m b e u s) c (k + 1)) := by
  obtain ⟨p, p1, p2⟩ := zw_phi_p m n b e σ (zw_a c k (zw_A m b e u s k))
  obtain ⟨q, q1, q2⟩ := zw_phi_p m n b e σ (zw_t (zw_A m b e u s) c (k + 1))
  obtain ⟨x, y, hxy⟩ := zw_mm s p q
  have x1 : zw_O σ x := fun v => by
    have a := p1 v
    have b := q1 v
    rcases hxy v with ⟨e1, -⟩ | ⟨e1, -⟩
    · rw [e1]
      exact a
    · rw [e1]
      exact b
  have y1 : zw_O σ y := fun v => by
    have a := p1 v
    have b := q1 v
    rcases hxy v with ⟨-, e1, -⟩ | ⟨-, e1, -⟩
    · rw [e1]
      exact b
    · rw [e1]
      exact a
  have l1 := zw_phi_le (m := m) (n := n) (b := b) (e := e) (c := zw_t (zw_A m b e u s) c k) x1
  have l2 := zw_phi_le (m := m) (n := n) (b := b) (e := e) (c := c) y1
  have d1 := zw_n_le2 (f := fun v => (x v).natAbs) (g := fun v => (y v).natAbs) (f' := fun v => (p v).natAbs) (g' := fun v => (q v).natAbs) n (fun v _ => by
    try dsimp only
    rcases hxy v with ⟨e1, e2, -⟩ | ⟨e1, e2, -⟩
    · rw [e1, e2]
      exact Nat.le_refl _
    · rw [e1, e2]
      omega)
  have d2 := zw_n_le2 (f := fun r => (zw_t (zw_A m b e u s) c k r - x (b r) + x (e r)).natAbs) (g := fun r => (c r - y (b r) + y (e r)).natAbs) (f' := fun r => (zw_a c k (zw_A m b e u s k) r - p (b r) + p (e r)).natAbs) (g' := fun r => (zw_t (zw_A m b e u s) c (k + 1) r - q (b r) + q (e r)).natAbs) m (fun r hr => by
    try dsimp only
    obtain ⟨-, -, g3⟩ := hg r hr
    have hb := hxy (b r)
    have he := hxy (e r)
    have u0 : p u = 0 ∧ q u = 0 ∧ x u = 0 ∧ y u = 0 := ⟨(p1 u).1 hσ, (q1 u).1 hσ, (x1 u).1 hσ, (y1 u).1 hσ⟩
    have ha : zw_a c k (zw_A m b e u s k) r = if r = k then c r + zw_A m b e u s r else c r := by
      unfold zw_a
      by_cases h : r = k
      · rw [if_pos h, if_pos h, h]
      · rw [if_neg h, if_neg h]
    have ht : zw_t (zw_A m b e u s) c k r = if k ≤ r then c r + zw_A m b e u s r else c r := rfl
    have ht2 : zw_t (zw_A m b e u s) c (k + 1) r = if k + 1 ≤ r then c r + zw_A m b e u s r else c r := rfl
    rw [ha, ht, ht2]
    have hA : zw_A m b e u s r = if b r = u then s else if e r = u then -s else 0 := if_pos hr
    generalize zw_A m b e u s r = a at *
    generalize c r = z at *
    by_cases h1 : b r = u
    · rw [if_pos h1] at hA
      rw [h1] at hb ⊢
      obtain ⟨u1, u2, u3, u4⟩ := u0
      rw [u1, u2, u3, u4]
      generalize p (e r) = pe at *
      generalize q (e r) = qe at *
      generalize x (e r) = xe at *
      generalize y (e r) = ye at *
      by_cases h2 : r = k
      · rw [if_pos (by omega), if_pos h2, if_neg (by omega)]
        omega
      · rw [if_neg h2]
        by_cases h3 : k ≤ r
        · rw [if_pos h3, if_pos (by omega)]
          omega
        · rw [if_neg h3, if_neg (by omega)]
          omega
    · rw [if_neg h1] at hA
      by_cases h4 : e r = u
      · rw [if_pos h4] at hA
        rw [h4] at he ⊢
        obtain ⟨u1, u2, u3, u4⟩ := u0
        rw [u1, u2, u3, u4]
        generalize p (b r) = pe at *
        generalize q (b r) = qe at *
        generalize x (b r) = xe at *
        generalize y (b r) = ye at *
        by_cases h2 : r = k
        · rw [if_pos (by omega), if_pos h2, if_neg (by omega)]
          omega
        · rw [if_neg h2]
          by_cases h3 : k ≤ r
          · rw [if_pos h3, if_pos (by omega)]
            omega
          · rw [if_neg h3, if_neg (by omega)]
            omega
      · rw [if_neg h4] at hA
        subst hA
        have e1 : (if k ≤ r then z + 0 else z) = z := by split <;> omega
        have e2 : (if r = k then z + 0 else z) = z := by split <;> omega
        have e3 : (if k + 1 ≤ r then z + 0 else z) = z := by split <;> omega
        rw [e1, e2, e3]
        generalize p (b r) = pb at *
        generalize q (b r) = qb at *
        generalize x (b r) = xb at *
        generalize y (b r) = yb at *
        generalize p (e r) = pe at *
        generalize q (e r) = qe at *
        generalize x (e r) = xe at *
        generalize y (e r) = ye at *
        omega)
  unfold zw_E at p2 q2 l1 l2
  omega
end
