/-! ===== the wall: one dock more ===== -/
def zw_i (k x : Nat) : Int := if x ≤ k then 1 else 0
def zw_q (k x : Nat) : Int := if x ≤ k then (k : Int) + 1 - x else 0
theorem zw_i_nn {k x : Nat} : 0 ≤ zw_i k x := by
  unfold zw_i
  split <;> omega
theorem zw_q_nn {k x : Nat} : 0 ≤ zw_q k x := by
  unfold zw_q
  split <;> omega
theorem zw_i_mono {k l x : Nat} (h : k ≤ l) : zw_i k x ≤ zw_i l x := by
  unfold zw_i
  by_cases q : x ≤ k
  · rw [if_pos q, if_pos (by omega)]
    exact Int.le_refl _
  · rw [if_neg q]
    split <;> omega
def zw_cv (F : Int → Int) : Prop := (∀ s, 0 ≤ F s) ∧ (∀ s, 2 * F s ≤ F (s + 1) + F (s - 1)) ∧ ∀ s t, s ≤ t → F (s + 1) - F (s - 1) ≤ F (t + 1) - F (t - 1)
def zw_up (F : Int → Int) (s : Int) : Int := F (s + 1) + F (s - 1)
theorem zw_cv_up {F : Int → Int} (h : zw_cv F) : zw_cv (zw_up F) := by
  obtain ⟨h1, h2, h3⟩ := h
  refine ⟨fun s => ?_, fun s => ?_, fun s t hst => ?_⟩
  · have a := h1 (s + 1)
    have b := h1 (s - 1)
    unfold zw_up
    omega
  · have a := h2 (s + 1)
    have b := h2 (s - 1)
    unfold zw_up
    rw [show s + 1 - 1 = s by omega] at *
    rw [show s - 1 + 1 = s by omega] at *
    omega
  · have a := h3 (s + 1) (t + 1) (by omega)
    have b := h3 (s - 1) (t - 1) (by omega)
    unfold zw_up
    rw [show s + 1 - 1 = s by omega, show t + 1 - 1 = t by omega] at *
    rw [show s - 1 + 1 = s by omega, show t - 1 + 1 = t by omega] at *
    omega
def zw_f1 (s : Int) : Int := if 1 ≤ s then s - 1 else 0
theorem zw_cv1 : zw_cv zw_f1 := by
  refine ⟨fun s => ?_, fun s => ?_, fun s t hst => ?_⟩
  · unfold zw_f1
    split <;> omega
  · unfold zw_f1
    split <;> split <;> split <;> omega
  · unfold zw_f1
    split <;> split <;> split <;> split <;> omega
def zw_it (F : Int → Int) : Nat → Int
  | 0 => F 0
  | d + 1 => zw_it (zw_up F) d
/-- how many steps are no 0 -/
def zw_D (A : Nat → Int) (k : Nat) : Nat → Nat
  | 0 => 0
  | l + 1 => zw_D A (k + 1) l + (if A k = 0 then 0 else 1)
theorem zw_D_le {A : Nat → Int} : ∀ (l k : Nat), zw_D A k l ≤ l
  | 0, _ => Nat.le_refl _
  | l + 1, k => by
    have := zw_D_le (A := A) l (k + 1)
    show zw_D A (k + 1) l + (if A k = 0 then 0 else 1) ≤ l + 1
    split <;> omega
section
variable {m n : Nat} {b e σ : Nat → Nat}
theorem zw_sp_phi {M j : Nat} {H : (Nat → Int) → Int} (hg : zw_G m n b e) (hM : j < M) {W : Nat → Int} (hW : ∀ x, j < x → W x = 0) : zw_sp M m (fun c => W (zw_phi m n b e σ c) * H c) := fun c i hi hc => by
  have := zw_phi_bd (σ := σ) (c := c) hg hi
  try dsimp only
  rw [hW _ (by omega), Int.zero_mul]
theorem zw_i_0 {j x : Nat} (h : j < x) : zw_i j x = 0 := if_neg (by omega)
theorem zw_q_0 {j x : Nat} (h : j < x) : zw_q j x = 0 := if_neg (by omega)
/-- what is gained behind the k-th step -/
noncomputable def zw_g (m n : Nat) (b e σ : Nat → Nat) (A : Nat → Int) (k : Nat) (c : Nat → Int) : Int := (zw_phi m n b e σ (zw_t A c k) : Int) - zw_phi m n b e σ c
theorem zw_peel1 {F : Int → Int} (hF : zw_cv F) {j x y : Nat} {s : Int} (h1 : y ≤ x + 1) (h2 : x ≤ y + 1) : 2 * (zw_i j x * F (s + ((y : Int) - x))) ≤ zw_i (j + 1) y * zw_up F s + (zw_q j x - zw_q j y) * (F (s + 1) - F (s - 1)) := by
  obtain ⟨f1, f2, -⟩ := hF
  have a0 := f1 (s + 1)
  have a1 := f1 (s - 1)
  have a2 := f2 s
  unfold zw_i zw_q zw_up
  rcases (show y = x ∨ y = x + 1 ∨ x = y + 1 by omega) with rfl | rfl | rfl
  · rw [Int.sub_self, Int.sub_self, Int.zero_mul, Int.add_zero]
    by_cases q : y ≤ j
    · rw [if_pos q, if_pos (by omega)]
      omega
    · rw [if_neg q]
      split <;> omega
  · rw [show s + (((x + 1 : Nat) : Int) - x) = s + 1 by omega]
    by_cases q : x ≤ j
    · rw [if_pos q, if_pos (show x + 1 ≤ j + 1 by omega), if_pos q]
      by_cases q2 : x + 1 ≤ j
      · rw [if_pos q2, show (j : Int) + 1 - x - ((j : Int) + 1 - ((x + 1 : Nat) : Int)) = 1 by omega]
        omega
      · rw [if_neg q2, show (j : Int) + 1 - x - 0 = 1 by omega]
        omega
    · rw [if_neg q, if_neg (show ¬ x + 1 ≤ j + 1 by omega), if_neg q, if_neg (by omega)]
      omega
  · rw [show s + ((y : Int) - ((y + 1 : Nat) : Int)) = s - 1 by omega]
    by_cases q : y + 1 ≤ j
    · rw [if_pos q, if_pos (show y ≤ j + 1 by omega), if_pos q, if_pos (show y ≤ j by omega), show (j : Int) + 1 - ((y + 1 : Nat) : Int) - ((j : Int) + 1 - y) = -1 by omega]
      omega
    · rw [if_neg q, if_neg q]
      by_cases q2 : y ≤ j
      · rw [if_pos (show y ≤ j + 1 by omega), if_pos q2, show (0 : Int) - ((j : Int) + 1 - y) = -1 by omega]
        omega
      · rw [if_neg q2]
        split <;> omega
theorem zw_peel {M j k u : Nat} {s : Int} {F : Int → Int} (hg : zw_G m n b e) (hσ : σ u = 0) (hs : s = 1 ∨ s = -1) (hF : zw_cv F) (hM : j + 1 < M) (hk : k < m) (hA : zw_A m b e u s k ≠ 0) (c0 : Nat → Int) :
    2 * zw_S M (fun c => zw_i j (zw_phi m n b e σ c) * F (zw_g m n b e σ (zw_A m b e u s) k c)) m c0 ≤ zw_S M (fun c => zw_i (j + 1) (zw_phi m n b e σ c) * zw_up F (zw_g m n b e σ (zw_A m b e u s) (k + 1) c)) m c0 := by
  have hd : zw_A m b e u s k = 1 ∨ zw_A m b e u s k = -1 := by
    have := zw_A_3 (m := m) (b := b) (e := e) (u := u) (r := k) hs
    omega
  have s1 := zw_S_s1 (M := M) (i := k) (d := zw_A m b e u s k) (zw_sp_phi (σ := σ) (H := fun c => zw_up F (zw_g m n b e σ (zw_A m b e u s) (k + 1) c)) hg hM (W := zw_i (j + 1)) (fun x hx => zw_i_0 hx)) hk hd c0
  have s2 := zw_S_s1 (M := M) (i := k) (d := zw_A m b e u s k) (zw_sp_phi (σ := σ) (H := fun c => F (zw_g m n b e σ (zw_A m b e u s) (k + 1) c + 1) - F (zw_g m n b e σ (zw_A m b e u s) (k + 1) c - 1)) hg (show j < M by omega) (W := zw_q j) (fun x hx => zw_q_0 hx)) hk hd c0
  have p1 := zw_S_le (M := M) (g := fun c => 2 * (zw_i j (zw_phi m n b e σ c) * F (zw_g m n b e σ (zw_A m b e u s) k c))) (h := fun c => zw_i (j + 1) (zw_phi m n b e σ (zw_a c k (zw_A m b e u s k))) * zw_up F (zw_g m n b e σ (zw_A m b e u s) (k + 1) (zw_a c k (zw_A m b e u s k))) + (zw_q j (zw_phi m n b e σ c) * (F (zw_g m n b e σ (zw_A m b e u s) (k + 1) (zw_a c k (zw_A m b e u s k)) + 1) - F (zw_g m n b e σ (zw_A m b e u s) (k + 1) (zw_a c k (zw_A m b e u s k)) - 1)) - zw_q j (zw_phi m n b e σ (zw_a c k (zw_A m b e u s k))) * (F (zw_g m n b e σ (zw_A m b e u s) (k + 1) (zw_a c k (zw_A m b e u s k)) + 1) - F (zw_g m n b e σ (zw_A m b e u s) (k + 1) (zw_a c k (zw_A m b e u s k)) - 1)))) m c0 (fun c => by
    have h := zw_peel1 hF (j := j) (s := zw_g m n b e σ (zw_A m b e u s) (k + 1) (zw_a c k (zw_A m b e u s k))) (zw_phi_a (m := m) (n := n) (b := b) (e := e) (σ := σ) (c := c) (i := k) hd) (zw_phi_b (m := m) (n := n) (b := b) (e := e) (σ := σ) (c := c) (i := k) hd)
    have e1 : zw_g m n b e σ (zw_A m b e u s) (k + 1) (zw_a c k (zw_A m b e u s k)) + ((zw_phi m n b e σ (zw_a c k (zw_A m b e u s k)) : Int) - zw_phi m n b e σ c) = zw_g m n b e σ (zw_A m b e u s) k c := by
      unfold zw_g
      rw [zw_ts (A := zw_A m b e u s) (c := c) (k := k)]
      omega
    rw [e1, Int.sub_mul] at h
    exact h)
  rw [zw_S_mul, zw_S_add, zw_S_sub, s1, s2, ← zw_S_sub] at p1
  have p2 := zw_S_le (M := M) (g := fun c => zw_q j (zw_phi m n b e σ c) * (F (zw_g m n b e σ (zw_A m b e u s) (k + 1) (zw_a c k (zw_A m b e u s k)) + 1) - F (zw_g m n b e σ (zw_A m b e u s) (k + 1) (zw_a c k (zw_A m b e u s k)) - 1)) - zw_q j (zw_phi m n b e σ c) * (F (zw_g m n b e σ (zw_A m b e u s) (k + 1) c + 1) - F (zw_g m n b e σ (zw_A m b e u s) (k + 1) c - 1))) (h := fun _ => 0) m c0 (fun c => by
    have h1 := zw_sub (k := k) (c := c) hg hσ hs
    have h2 := hF.2.2 (zw_g m n b e σ (zw_A m b e u s) (k + 1) (zw_a c k (zw_A m b e u s k))) (zw_g m n b e σ (zw_A m b e u s) (k + 1) c) (by
      unfold zw_g
      rw [← zw_ts (A := zw_A m b e u s) (c := c) (k := k)]
      omega)
    rw [← Int.mul_sub]
    have h3 := Int.mul_le_mul_of_nonneg_left h2 (zw_q_nn (k := j) (x := zw_phi m n b e σ c))
    rw [Int.mul_sub]
    omega)
  rw [zw_S_0] at p2
  omega
/-- all steps peeled off -/
theorem zw_peels {M u : Nat} {s : Int} (hg : zw_G m n b e) (hσ : σ u = 0) (hs : s = 1 ∨ s = -1) (c0 : Nat → Int) : ∀ (l k j : Nat) {F : Int → Int}, k + l = m → zw_cv F → j + l + 1 < M →
    (2 : Int) ^ zw_D (zw_A m b e u s) k l * zw_S M (fun c => zw_i j (zw_phi m n b e σ c) * F (zw_g m n b e σ (zw_A m b e u s) k c)) m c0 ≤ zw_it F (zw_D (zw_A m b e u s) k l) * zw_S M (fun c => zw_i (j + zw_D (zw_A m b e u s) k l) (zw_phi m n b e σ c)) m c0
  | 0, k, j, F, hk, hF, hM => by
    show (2 : Int) ^ 0 * _ ≤ F 0 * _
    rw [Int.pow_zero, Int.one_mul, ← zw_S_mul]
    refine zw_S_le m c0 (fun c => ?_)
    have : zw_t (zw_A m b e u s) c k = c := by
      funext r
      unfold zw_t zw_A
      split
      · rw [if_neg (by omega)]
        omega
      · rfl
    unfold zw_g
    rw [this, Int.sub_self, Int.mul_comm]
    exact Int.le_refl _
  | l + 1, k, j, F, hk, hF, hM => by
    by_cases hA : zw_A m b e u s k = 0
    · have ih := zw_peels (M := M) hg hσ hs c0 l (k + 1) j (F := F) (by omega) hF (by omega)
      have eD : zw_D (zw_A m b e u s) k (l + 1) = zw_D (zw_A m b e u s) (k + 1) l := by
        show zw_D (zw_A m b e u s) (k + 1) l + (if zw_A m b e u s k = 0 then 0 else 1) = _
        rw [if_pos hA]
        rfl
      rw [eD]
      have eS : zw_S M (fun c => zw_i j (zw_phi m n b e σ c) * F (zw_g m n b e σ (zw_A m b e u s) k c)) m c0 = zw_S M (fun c => zw_i j (zw_phi m n b e σ c) * F (zw_g m n b e σ (zw_A m b e u s) (k + 1) c)) m c0 := zw_S_cg m c0 (fun c => by
        unfold zw_g
        rw [zw_ts (A := zw_A m b e u s) (c := c) (k := k), hA, zw_a0])
      rw [eS]
      exact ih
    · have ih := zw_peels (M := M) hg hσ hs c0 l (k + 1) (j + 1) (F := zw_up F) (by omega) (zw_cv_up hF) (by omega)
      have eD : zw_D (zw_A m b e u s) k (l + 1) = zw_D (zw_A m b e u s) (k + 1) l + 1 := by
        show zw_D (zw_A m b e u s) (k + 1) l + (if zw_A m b e u s k = 0 then 0 else 1) = _
        rw [if_neg hA]
      have h := zw_peel (n := n) (j := j) (k := k) hg hσ hs hF (M := M) (by omega) (by omega) hA c0
      rw [eD, Int.pow_succ]
      rw [show j + 1 + zw_D (zw_A m b e u s) (k + 1) l = j + (zw_D (zw_A m b e u s) (k + 1) l + 1) by omega] at ih
      refine Int.le_trans ?_ ih
      rw [Int.mul_assoc]
      exact Int.mul_le_mul_of_nonneg_left h (Int.pow_nonneg (by decide))
/-! the dock u is treated too -/
def zw_o (σ : Nat → Nat) (u x : Nat) : Nat → Nat := fun v => if v = u then x else σ v
theorem zw_o_O {x u : Nat} {p : Nat → Int} (h : zw_O (zw_o σ u x) p) (hu : σ u = 0) (h0 : p u = 0) : zw_O σ p := fun v => by
  by_cases q : v = u
  · subst q
    rw [hu, h0]
    exact ⟨fun _ => rfl, fun _ => Int.le_refl _, fun _ => Int.le_refl _⟩
  · have := h v
    unfold zw_o at this
    rw [if_neg q] at this
    exact this
theorem zw_O_o {x u : Nat} {p : Nat → Int} (h : zw_O σ p) (hx : (x = 0 → p u = 0) ∧ (x = 1 → 0 ≤ p u) ∧ (x = 2 → p u ≤ 0)) : zw_O (zw_o σ u x) p := fun v => by
  unfold zw_o
  by_cases q : v = u
  · rw [if_pos q, q]
    exact hx
  · rw [if_neg q]
    exact h v
theorem zw_o_u {x y u : Nat} {p q : Nat → Int} (h : zw_O (zw_o σ u x) p) (hq : ∀ v, v ≠ u → q v = p v) (hy : (y = 0 → q u = 0) ∧ (y = 1 → 0 ≤ q u) ∧ (y = 2 → q u ≤ 0)) : zw_O (zw_o σ u y) q := fun v => by
  have := h v
  unfold zw_o at this ⊢
  by_cases e : v = u
  · rw [if_pos e, e]
    exact hy
  · rw [if_neg e] at this ⊢
    rw [hq v e]
    exact this
theorem zw_n_lt {f g : Nat → Nat} {k : Nat} : ∀ n, (∀ i, i < n → i ≠ k → f i ≤ g i) → k < n → f k + 1 ≤ g k → zw_n f n + 1 ≤ zw_n g n
  | 0, _, h, _ => absurd h (Nat.not_lt_zero _)
  | n + 1, h, hk, h1 => by
    show zw_n f n + f n + 1 ≤ zw_n g n + g n
    by_cases q : n = k
    · subst q
      have := zw_n_le n (fun i hi => h i (by omega) (by omega))
      omega
    · have := zw_n_lt n (fun i hi => h i (by omega)) (by omega) h1
      have := h n (by omega) q
      omega
/-- the price of u moved along with the costs -/
theorem zw_E_u {u : Nat} {s d : Int} {c p : Nat → Int} (hg : zw_G m n b e) : ∀ r, r < m → (fun v => if v = u then p v + s else p v) (b r) - (fun v => if v = u then p v + s else p v) (e r) = p (b r) - p (e r) + zw_A m b e u s r := fun r hr => by
  obtain ⟨-, -, h3⟩ := hg r hr
  unfold zw_A
  try dsimp only
  rw [if_pos hr]
  by_cases q : b r = u
  · rw [if_pos q, if_pos q, if_neg (by omega)]
    omega
  · rw [if_neg q, if_neg q]
    by_cases q2 : e r = u
    · rw [if_pos q2, if_pos q2]
      omega
    · rw [if_neg q2, if_neg q2]
      omega
theorem zw_stp {u x : Nat} {s : Int} {c : Nat → Int} (hg : zw_G m n b e) (hu : u < n) (hσ : σ u = 0) (hx : (s = 1 ∧ x = 1) ∨ (s = -1 ∧ x = 2)) :
    zw_phi m n b e (zw_o σ u x) (zw_t (zw_A m b e u s) c 0) ≤ zw_phi m n b e (zw_o σ u x) c + 1 ∧ (zw_phi m n b e σ (zw_t (zw_A m b e u s) c 0) ≤ zw_phi m n b e (zw_o σ u x) (zw_t (zw_A m b e u s) c 0) ∨ zw_phi m n b e (zw_o σ u x) c + 1 ≤ zw_phi m n b e (zw_o σ u x) (zw_t (zw_A m b e u s) c 0)) := by
  have ht : ∀ r, zw_t (zw_A m b e u s) c 0 r = c r + zw_A m b e u s r := fun r => if_pos (Nat.zero_le _)
  refine ⟨?_, ?_⟩
  · obtain ⟨p, p1, p2⟩ := zw_phi_p m n b e (zw_o σ u x) c
    have pu := p1 u
    unfold zw_o at pu
    rw [if_pos rfl] at pu
    have q1 : zw_O (zw_o σ u x) (fun v => if v = u then p v + s else p v) := zw_o_u p1 (fun v hv => if_neg hv) (by
      try dsimp only
      rw [if_pos rfl]
      omega)
    refine Nat.le_trans (zw_phi_le q1) ?_
    unfold zw_E at p2 ⊢
    have d1 := zw_n_1 (f := fun v => ((fun v => if v = u then p v + s else p v) v).natAbs) (g := fun v => (p v).natAbs) (k := u) (d := 1) n (fun v _ hv => by
      try dsimp only
      rw [if_neg hv]
      exact Nat.le_refl _) (by
      try dsimp only
      rw [if_pos rfl]
      omega)
    have d2 := zw_n_cg (f := fun r => (zw_t (zw_A m b e u s) c 0 r - (fun v => if v = u then p v + s else p v) (b r) + (fun v => if v = u then p v + s else p v) (e r)).natAbs) (g := fun r => (c r - p (b r) + p (e r)).natAbs) m (fun r hr => by
      have := zw_E_u (u := u) (s := s) (d := 0) (c := c) (p := p) hg r hr
      have := ht r
      try dsimp only at *
      congr 1
      omega)
    omega
  · obtain ⟨p, p1, p2⟩ := zw_phi_p m n b e (zw_o σ u x) (zw_t (zw_A m b e u s) c 0)
    by_cases h0 : p u = 0
    · exact .inl (Nat.le_trans (zw_phi_le (zw_o_O p1 hσ h0)) p2)
    · right
      have pu := p1 u
      unfold zw_o at pu
      rw [if_pos rfl] at pu
      have q1 : zw_O (zw_o σ u x) (fun v => if v = u then p v + -s else p v) := zw_o_u p1 (fun v hv => if_neg hv) (by
        try dsimp only
        rw [if_pos rfl]
        omega)
      have l1 := zw_phi_le (m := m) (n := n) (b := b) (e := e) (c := c) q1
      unfold zw_E at p2 l1
      have d1 := zw_n_lt (f := fun v => ((fun v => if v = u then p v + -s else p v) v).natAbs) (g := fun v => (p v).natAbs) (k := u) n (fun v _ hv => by
        try dsimp only
        rw [if_neg hv]
        exact Nat.le_refl _) hu (by
        try dsimp only
        rw [if_pos rfl]
        omega)
      have d2 := zw_n_cg (f := fun r => (c r - (fun v => if v = u then p v + -s else p v) (b r) + (fun v => if v = u then p v + -s else p v) (e r)).natAbs) (g := fun r => (zw_t (zw_A m b e u s) c 0 r - p (b r) + p (e r)).natAbs) m (fun r hr => by
        have h1 := zw_E_u (u := u) (s := -s) (d := 0) (c := c) (p := p) hg r hr
        have h2 := ht r
        have h3 : zw_A m b e u (-s) r = - zw_A m b e u s r := by
          unfold zw_A
          rw [if_pos hr, if_pos hr]
          by_cases y : b r = u
          · rw [if_pos y, if_pos y]
          · rw [if_neg y, if_neg y]
            by_cases y2 : e r = u
            · rw [if_pos y2, if_pos y2]
            · rw [if_neg y2, if_neg y2]
              rfl
        try dsimp only at *
        congr 1
        omega)
      omega
theorem zw_phi_o {u x : Nat} {c : Nat → Int} (hσ : σ u = 0) : zw_phi m n b e (zw_o σ u x) c ≤ zw_phi m n b e σ c := by
  obtain ⟨p, p1, p2⟩ := zw_phi_p m n b e σ c
  exact Nat.le_trans (zw_phi_le (zw_O_o p1 (by
    have := (p1 u).1 hσ
    omega))) p2
noncomputable def zw_N (M m n : Nat) (b e σ : Nat → Nat) (j : Nat) : Int := zw_S M (fun c => zw_i j (zw_phi m n b e σ c)) m (fun _ => 0)
theorem zw_dk1 {j A0 B0 A1 B1 : Nat} (h1 : A0 ≤ B0) (h2 : A1 ≤ B1) (h3 : A1 ≤ A0 + 1) (h4 : B1 ≤ A1 ∨ A0 + 1 ≤ A1) : zw_i j A0 - zw_i j B0 + ((zw_q j A1 - zw_q j B1) - (zw_q j A0 - zw_q j B0)) ≤ zw_i j B0 * zw_f1 ((B1 : Int) - B0) := by
  unfold zw_i zw_q zw_f1
  by_cases a : B0 ≤ j
  · rw [if_pos a, if_pos a, if_pos (show A0 ≤ j by omega), if_pos (show A0 ≤ j by omega), Int.one_mul]
    split <;> split <;> split <;> omega
  · rw [if_neg a, if_neg a, Int.zero_mul]
    split <;> split <;> split <;> omega
theorem zw_dock {M u x j : Nat} {s : Int} (hg : zw_G m n b e) (hu : u < n) (hσ : σ u = 0) (hx : (s = 1 ∧ x = 1) ∨ (s = -1 ∧ x = 2)) (hM : j + m + 1 < M) :
    (2 : Int) ^ zw_D (zw_A m b e u s) 0 m * zw_N M m n b e (zw_o σ u x) j ≤ (2 : Int) ^ zw_D (zw_A m b e u s) 0 m * zw_N M m n b e σ j + zw_it zw_f1 (zw_D (zw_A m b e u s) 0 m) * zw_N M m n b e σ (j + zw_D (zw_A m b e u s) 0 m) := by
  have hs : s = 1 ∨ s = -1 := by omega
  have hp := zw_peels (n := n) (σ := σ) (M := M) hg hσ hs (fun _ => 0) m 0 j (by omega) zw_cv1 (by omega)
  have hv : ∀ c, zw_t (zw_A m b e u s) c 0 = zw_v (zw_A m b e u s) c m := fun c => by
    funext r
    unfold zw_t zw_v
    rw [if_pos (Nat.zero_le _)]
    by_cases q : r < m
    · rw [if_pos q]
    · rw [if_neg q]
      unfold zw_A
      rw [if_neg q]
      omega
  have sh : ∀ (τ : Nat → Nat), zw_S M (fun c => zw_q j (zw_phi m n b e τ (zw_t (zw_A m b e u s) c 0))) m (fun _ => 0) = zw_S M (fun c => zw_q j (zw_phi m n b e τ c)) m (fun _ => 0) := fun τ => by
    have := zw_S_v (M := M) (m := m) (A := zw_A m b e u s) (fun i => zw_A_3 hs) m (g := fun c => zw_q j (zw_phi m n b e τ c)) (fun _ => 0) (Nat.le_refl _) (fun c i hi hc => by
      have := zw_phi_bd (σ := τ) (c := c) hg hi
      exact zw_q_0 (by omega))
    rw [← this]
    exact zw_S_cg m _ (fun c => by rw [hv])
  have p1 := zw_S_le (M := M) (g := fun c => zw_i j (zw_phi m n b e (zw_o σ u x) c) - zw_i j (zw_phi m n b e σ c) + ((zw_q j (zw_phi m n b e (zw_o σ u x) (zw_t (zw_A m b e u s) c 0)) - zw_q j (zw_phi m n b e σ (zw_t (zw_A m b e u s) c 0))) - (zw_q j (zw_phi m n b e (zw_o σ u x) c) - zw_q j (zw_phi m n b e σ c)))) (h := fun c => zw_i j (zw_phi m n b e σ c) * zw_f1 (zw_g m n b e σ (zw_A m b e u s) 0 c)) m (fun _ => 0) (fun c => by
    obtain ⟨h1, h2⟩ := zw_stp (c := c) hg hu hσ hx
    exact zw_dk1 (zw_phi_o hσ) (zw_phi_o hσ) h1 h2)
  rw [zw_S_add, zw_S_sub, zw_S_sub, zw_S_sub, zw_S_sub, sh, sh] at p1
  unfold zw_N
  have p2 : zw_S M (fun c => zw_i j (zw_phi m n b e (zw_o σ u x) c)) m (fun _ => 0) ≤ zw_S M (fun c => zw_i j (zw_phi m n b e σ c)) m (fun _ => 0) + zw_S M (fun c => zw_i j (zw_phi m n b e σ c) * zw_f1 (zw_g m n b e σ (zw_A m b e u s) 0 c)) m (fun _ => 0) := by omega
  have p0 : (0 : Int) ≤ 2 ^ zw_D (zw_A m b e u s) 0 m := Int.pow_nonneg (by decide)
  have p3 := Int.mul_le_mul_of_nonneg_left p2 p0
  rw [Int.mul_add] at p3
  omega
theorem zw_D_cg {A B : Nat → Int} (h : ∀ i, A i = 0 ↔ B i = 0) : ∀ (l k : Nat), zw_D A k l = zw_D B k l
  | 0, _ => rfl
  | l + 1, k => by
    show zw_D A (k + 1) l + (if A k = 0 then 0 else 1) = zw_D B (k + 1) l + (if B k = 0 then 0 else 1)
    rw [zw_D_cg h l (k + 1)]
    by_cases q : A k = 0
    · rw [if_pos q, if_pos ((h k).mp q)]
    · rw [if_neg q, if_neg (fun x => q ((h k).mpr x))]
def zw_d (m : Nat) (b e : Nat → Nat) (u : Nat) : Nat := zw_D (zw_A m b e u 1) 0 m
theorem zw_d_s {u : Nat} {s : Int} (hs : s = 1 ∨ s = -1) : zw_D (zw_A m b e u s) 0 m = zw_d m b e u := by
  unfold zw_d
  refine zw_D_cg (fun i => ?_) m 0
  unfold zw_A
  split
  · split
    · omega
    · split <;> omega
  · omega
/-- a dock whose tender can be out of the tree at one end only -/
theorem zw_dock1 {M u x j : Nat} (hg : zw_G m n b e) (hu : u < n) (hσ : σ u = 0) (hx : x = 1 ∨ x = 2) (hM : j + m + 1 < M) :
    (2 : Int) ^ zw_d m b e u * zw_N M m n b e (zw_o σ u x) j ≤ (2 : Int) ^ zw_d m b e u * zw_N M m n b e σ j + zw_it zw_f1 (zw_d m b e u) * zw_N M m n b e σ (j + zw_d m b e u) := by
  rcases hx with rfl | rfl
  · have := zw_dock (n := n) (σ := σ) (j := j) (M := M) (s := 1) (x := 1) hg hu hσ (.inl ⟨rfl, rfl⟩) hM
    rw [zw_d_s (.inl rfl)] at this
    exact this
  · have := zw_dock (n := n) (σ := σ) (j := j) (M := M) (s := -1) (x := 2) hg hu hσ (.inr ⟨rfl, rfl⟩) hM
    rw [zw_d_s (.inr rfl)] at this
    exact this
theorem zw_dock3 {M u j : Nat} (hg : zw_G m n b e) (hu : u < n) (hσ : σ u = 0) (hM : j + m + 1 < M) :
    (2 : Int) ^ zw_d m b e u * zw_N M m n b e (zw_o σ u 3) j ≤ (2 : Int) ^ zw_d m b e u * zw_N M m n b e σ j + 2 * (zw_it zw_f1 (zw_d m b e u) * zw_N M m n b e σ (j + zw_d m b e u)) := by
  have h1 := zw_dock1 (n := n) (σ := σ) (j := j) (M := M) (x := 1) hg hu hσ (.inl rfl) hM
  have h2 := zw_dock1 (n := n) (σ := σ) (j := j) (M := M) (x := 2) hg hu hσ (.inr rfl) hM
  have h3 : zw_N M m n b e (zw_o σ u 3) j ≤ zw_N M m n b e (zw_o σ u 1) j + zw_N M m n b e (zw_o σ u 2) j - zw_N M m n b e σ j := by
    unfold zw_N
    rw [← zw_S_add, ← zw_S_sub]
    refine zw_S_le m _ (fun c => ?_)
    have a1 := zw_phi_o (m := m) (n := n) (b := b) (e := e) (x := 1) (c := c) hσ
    have a2 := zw_phi_o (m := m) (n := n) (b := b) (e := e) (x := 2) (c := c) hσ
    have a3 : zw_phi m n b e (zw_o σ u 1) c ≤ zw_phi m n b e (zw_o σ u 3) c ∨ zw_phi m n b e (zw_o σ u 2) c ≤ zw_phi m n b e (zw_o σ u 3) c := by
      obtain ⟨p, p1, p2⟩ := zw_phi_p m n b e (zw_o σ u 3) c
      by_cases q : 0 ≤ p u
      · exact .inl (Nat.le_trans (zw_phi_le (zw_o_u p1 (fun _ _ => rfl) (by omega))) p2)
      · exact .inr (Nat.le_trans (zw_phi_le (zw_o_u p1 (fun _ _ => rfl) (by omega))) p2)
    try dsimp only
    unfold zw_i
    split <;> split <;> split <;> split <;> omega
  have p : (0 : Int) ≤ 2 ^ zw_d m b e u := Int.pow_nonneg (by decide)
  have h4 := Int.mul_le_mul_of_nonneg_left h3 p
  rw [Int.mul_sub, Int.mul_add] at h4
  omega
end
