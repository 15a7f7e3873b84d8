/-! ===== the wall: sums over boxes of numbers ===== -/
def zw_s (f : Nat → Int) : Nat → Int
  | 0 => 0
  | n + 1 => zw_s f n + f n
theorem zw_s_le {f g : Nat → Int} : ∀ n, (∀ i, i < n → f i ≤ g i) → zw_s f n ≤ zw_s g n
  | 0, _ => Int.le_refl _
  | n + 1, h => by
    have h1 := zw_s_le n (fun i hi => h i (by omega))
    have h2 := h n (by omega)
    show zw_s f n + f n ≤ zw_s g n + g n
    omega
theorem zw_s_cg {f g : Nat → Int} (n : Nat) (h : ∀ i, i < n → f i = g i) : zw_s f n = zw_s g n :=
  Int.le_antisymm (zw_s_le n (fun i hi => Int.le_of_eq (h i hi))) (zw_s_le n (fun i hi => Int.le_of_eq (h i hi).symm))
theorem zw_s_add {f g : Nat → Int} : ∀ n, zw_s (fun i => f i + g i) n = zw_s f n + zw_s g n
  | 0 => rfl
  | n + 1 => by
    have h1 := zw_s_add (f := f) (g := g) n
    show zw_s (fun i => f i + g i) n + (f n + g n) = (zw_s f n + f n) + (zw_s g n + g n)
    omega
theorem zw_s_sub {f g : Nat → Int} : ∀ n, zw_s (fun i => f i - g i) n = zw_s f n - zw_s g n
  | 0 => rfl
  | n + 1 => by
    have h1 := zw_s_sub (f := f) (g := g) n
    show zw_s (fun i => f i - g i) n + (f n - g n) = (zw_s f n + f n) - (zw_s g n + g n)
    omega
theorem zw_s_mul {f : Nat → Int} {x : Int} : ∀ n, zw_s (fun i => x * f i) n = x * zw_s f n
  | 0 => by
    show (0 : Int) = x * 0
    rw [Int.mul_zero]
  | n + 1 => by
    show zw_s (fun i => x * f i) n + x * f n = x * (zw_s f n + f n)
    rw [zw_s_mul n, Int.mul_add]
theorem zw_s_0 : ∀ n, zw_s (fun _ => 0) n = 0
  | 0 => rfl
  | n + 1 => by
    show zw_s (fun _ => 0) n + 0 = 0
    rw [zw_s_0 n]
    rfl
theorem zw_s_c {v : Int} : ∀ n : Nat, zw_s (fun _ => v) n = v * n
  | 0 => by
    show (0 : Int) = v * 0
    rw [Int.mul_zero]
  | n + 1 => by
    show zw_s (fun _ => v) n + v = v * ((n : Int) + 1)
    rw [zw_s_c n, Int.mul_add, Int.mul_one]
theorem zw_s_nn {f : Nat → Int} (n : Nat) (h : ∀ i, i < n → 0 ≤ f i) : 0 ≤ zw_s f n := by
  have := zw_s_le (f := fun _ => 0) n h
  rw [zw_s_0] at this
  exact this
theorem zw_s_one {k : Nat} {v : Int} : ∀ n, zw_s (fun i => if i = k then v else 0) n = if k < n then v else 0
  | 0 => by
    rw [if_neg (by omega)]
    rfl
  | n + 1 => by
    show zw_s (fun i => if i = k then v else 0) n + (if n = k then v else 0) = _
    rw [zw_s_one n]
    by_cases q : k < n
    · rw [if_pos q, if_neg (by omega), if_pos (by omega)]
      omega
    · rw [if_neg q]
      by_cases q2 : n = k
      · rw [if_pos q2, if_pos (by omega)]
        omega
      · rw [if_neg q2, if_neg (by omega)]
        rfl
theorem zw_s_sw {f : Nat → Nat → Int} {n : Nat} : ∀ m, zw_s (fun i => zw_s (fun j => f i j) m) n = zw_s (fun j => zw_s (fun i => f i j) n) m
  | 0 => zw_s_0 n
  | m + 1 => by
    show zw_s (fun i => zw_s (fun j => f i j) m + f i m) n = zw_s (fun j => zw_s (fun i => f i j) n) m + zw_s (fun i => f i m) n
    rw [zw_s_add, zw_s_sw m]
theorem zw_s_sh {f : Nat → Int} : ∀ n, zw_s (fun i => f (i + 1)) n + f 0 = zw_s f n + f n
  | 0 => rfl
  | n + 1 => by
    have := zw_s_sh (f := f) n
    show zw_s (fun i => f (i + 1)) n + f (n + 1) + f 0 = zw_s f n + f n + f (n + 1)
    omega
/-- a sum of terms of one sign is 0: each is -/
theorem zw_s_z {f : Nat → Int} : ∀ n, (∀ i, i < n → f i ≤ 0) → 0 ≤ zw_s f n → ∀ i, i < n → f i = 0
  | 0, _, _, i, hi => absurd hi (Nat.not_lt_zero _)
  | n + 1, h, h0, i, hi => by
    have h1 := h n (by omega)
    have h2 := zw_s_le (f := f) (g := fun _ => 0) n (fun i hi => h i (by omega))
    rw [zw_s_0] at h2
    have h0' : 0 ≤ zw_s f n + f n := h0
    by_cases q : i = n
    · subst q
      omega
    · exact zw_s_z n (fun i hi => h i (by omega)) (by omega) i (by omega)
/-! from -M to M -/
def zw_b (M : Nat) (f : Int → Int) : Int := zw_s (fun i => f ((i : Int) - M)) (2 * M + 1)
theorem zw_b_le {M : Nat} {f g : Int → Int} (h : ∀ t : Int, -(M : Int) ≤ t → t ≤ (M : Int) → f t ≤ g t) : zw_b M f ≤ zw_b M g := zw_s_le _ (fun i hi => h _ (by omega) (by omega))
theorem zw_b_cg {M : Nat} {f g : Int → Int} (h : ∀ t : Int, -(M : Int) ≤ t → t ≤ (M : Int) → f t = g t) : zw_b M f = zw_b M g := zw_s_cg _ (fun i hi => h _ (by omega) (by omega))
theorem zw_b_add {M : Nat} {f g : Int → Int} : zw_b M (fun t => f t + g t) = zw_b M f + zw_b M g := zw_s_add _
theorem zw_b_mul {M : Nat} {f : Int → Int} {x : Int} : zw_b M (fun t => x * f t) = x * zw_b M f := zw_s_mul _
theorem zw_b_0 {M : Nat} : zw_b M (fun _ => 0) = 0 := zw_s_0 _
theorem zw_b_nn {M : Nat} {f : Int → Int} (h : ∀ t, 0 ≤ f t) : 0 ≤ zw_b M f := zw_s_nn _ (fun _ _ => h _)
theorem zw_b_one {M : Nat} {k v : Int} (h1 : -(M : Int) ≤ k) (h2 : k ≤ (M : Int)) : zw_b M (fun t => if t = k then v else 0) = v := by
  unfold zw_b
  have e : zw_s (fun i => if (i : Int) - M = k then v else 0) (2 * M + 1) = zw_s (fun i => if i = (k + M).toNat then v else 0) (2 * M + 1) := zw_s_cg _ (fun i hi => by
    by_cases q : (i : Int) - M = k
    · rw [if_pos q, if_pos (by omega)]
    · rw [if_neg q, if_neg (by omega)])
  rw [e, zw_s_one, if_pos (by omega)]
theorem zw_b_sh {M : Nat} {f : Int → Int} (h1 : f (-(M : Int)) = 0) (h2 : f ((M : Int) + 1) = 0) : zw_b M (fun t => f (t + 1)) = zw_b M f := by
  unfold zw_b
  have e : zw_s (fun i => f ((i : Int) - M + 1)) (2 * M + 1) = zw_s (fun i => f (((i + 1 : Nat) : Int) - M)) (2 * M + 1) := zw_s_cg _ (fun i hi => by
    congr 1
    omega)
  have h3 : zw_s (fun i => f (((i + 1 : Nat) : Int) - M)) (2 * M + 1) + f (((0 : Nat) : Int) - M) = zw_s (fun j : Nat => f ((j : Int) - M)) (2 * M + 1) + f (((2 * M + 1 : Nat) : Int) - M) := zw_s_sh (f := fun j : Nat => f ((j : Int) - M)) (2 * M + 1)
  rw [e]
  have e0 : f (((0 : Nat) : Int) - M) = 0 := by
    rw [show ((0 : Nat) : Int) - M = -(M : Int) by omega]
    exact h1
  have e1 : f (((2 * M + 1 : Nat) : Int) - M) = 0 := by
    rw [show ((2 * M + 1 : Nat) : Int) - M = (M : Int) + 1 by omega]
    exact h2
  rw [e0, e1] at h3
  omega
theorem zw_b_sw {M n : Nat} {f : Int → Nat → Int} : zw_b M (fun t => zw_s (fun j => f t j) n) = zw_s (fun j => zw_b M (fun t => f t j)) n := zw_s_sw _
theorem zw_b_sw2 {M N : Nat} {f : Int → Int → Int} : zw_b M (fun t => zw_b N (fun u => f t u)) = zw_b N (fun u => zw_b M (fun t => f t u)) := zw_s_sw _
/-! many numbers -/
def zw_u (c : Nat → Int) (k : Nat) (t : Int) : Nat → Int := fun j => if j = k then t else c j
def zw_a (c : Nat → Int) (k : Nat) (t : Int) : Nat → Int := fun j => if j = k then c j + t else c j
theorem zw_ua {c : Nat → Int} {i k : Nat} {t d : Int} (h : i ≠ k) : zw_a (zw_u c k t) i d = zw_u (zw_a c i d) k t := by
  funext j
  unfold zw_a zw_u
  dsimp only
  by_cases q : j = i
  · rw [if_pos q, if_neg (by omega), if_neg (by omega), if_pos q]
  · rw [if_neg q]
    by_cases q2 : j = k
    · rw [if_pos q2, if_pos q2]
    · rw [if_neg q2, if_neg q2, if_neg q]
theorem zw_uk {c : Nat → Int} {k : Nat} {t d : Int} : zw_a (zw_u c k t) k d = zw_u c k (t + d) := by
  funext j
  unfold zw_a zw_u
  by_cases q : j = k
  · rw [if_pos q, if_pos q, if_pos q]
  · rw [if_neg q, if_neg q, if_neg q]
theorem zw_aa {c : Nat → Int} {k : Nat} {s t : Int} : zw_a (zw_a c k s) k t = zw_a c k (s + t) := by
  funext j
  unfold zw_a
  by_cases q : j = k
  · rw [if_pos q, if_pos q, if_pos q]
    omega
  · rw [if_neg q, if_neg q, if_neg q]
theorem zw_a0 {c : Nat → Int} {k : Nat} : zw_a c k 0 = c := by
  funext j
  unfold zw_a
  by_cases q : j = k
  · rw [if_pos q]
    omega
  · rw [if_neg q]
def zw_S (M : Nat) (g : (Nat → Int) → Int) : Nat → (Nat → Int) → Int
  | 0, c => g c
  | k + 1, c => zw_b M (fun t => zw_S M g k (zw_u c k t))
theorem zw_S_le' {M : Nat} {g h : (Nat → Int) → Int} : ∀ (k : Nat) (c : Nat → Int), (∀ c', (∀ j, k ≤ j → c' j = c j) → (∀ j, j < k → -(M : Int) ≤ c' j ∧ c' j ≤ (M : Int)) → g c' ≤ h c') → zw_S M g k c ≤ zw_S M h k c
  | 0, c, H => H c (fun _ _ => rfl) (fun j hj => absurd hj (Nat.not_lt_zero _))
  | k + 1, c, H => zw_b_le (fun t h1 h2 => zw_S_le' k _ (fun c' hc' hb => H c' (fun j hj => by
      rw [hc' j (by omega)]
      exact if_neg (by omega)) (fun j hj => by
      by_cases q : j = k
      · have := hc' j (by omega)
        unfold zw_u at this
        rw [if_pos q] at this
        rw [this]
        exact ⟨h1, h2⟩
      · exact hb j (by omega))))
theorem zw_S_le {M : Nat} {g h : (Nat → Int) → Int} (k : Nat) (c : Nat → Int) (H : ∀ c', g c' ≤ h c') : zw_S M g k c ≤ zw_S M h k c := zw_S_le' k c (fun c' _ _ => H c')
theorem zw_S_cg' {M : Nat} {g h : (Nat → Int) → Int} (k : Nat) (c : Nat → Int) (H : ∀ c', (∀ j, k ≤ j → c' j = c j) → (∀ j, j < k → -(M : Int) ≤ c' j ∧ c' j ≤ (M : Int)) → g c' = h c') : zw_S M g k c = zw_S M h k c :=
  Int.le_antisymm (zw_S_le' k c (fun c' h1 h2 => Int.le_of_eq (H c' h1 h2))) (zw_S_le' k c (fun c' h1 h2 => Int.le_of_eq (H c' h1 h2).symm))
theorem zw_S_cg {M : Nat} {g h : (Nat → Int) → Int} (k : Nat) (c : Nat → Int) (H : ∀ c', g c' = h c') : zw_S M g k c = zw_S M h k c := zw_S_cg' k c (fun c' _ _ => H c')
theorem zw_S_add {M : Nat} {g h : (Nat → Int) → Int} : ∀ (k : Nat) (c : Nat → Int), zw_S M (fun c => g c + h c) k c = zw_S M g k c + zw_S M h k c
  | 0, _ => rfl
  | k + 1, c => by
    show zw_b M (fun t => zw_S M (fun c => g c + h c) k (zw_u c k t)) = zw_b M (fun t => zw_S M g k (zw_u c k t)) + zw_b M (fun t => zw_S M h k (zw_u c k t))
    rw [← zw_b_add]
    exact zw_b_cg (fun t _ _ => zw_S_add k _)
theorem zw_S_mul {M : Nat} {g : (Nat → Int) → Int} {x : Int} : ∀ (k : Nat) (c : Nat → Int), zw_S M (fun c => x * g c) k c = x * zw_S M g k c
  | 0, _ => rfl
  | k + 1, c => by
    show zw_b M (fun t => zw_S M (fun c => x * g c) k (zw_u c k t)) = x * zw_b M (fun t => zw_S M g k (zw_u c k t))
    rw [← zw_b_mul]
    exact zw_b_cg (fun t _ _ => zw_S_mul k _)
theorem zw_S_sub {M : Nat} {g h : (Nat → Int) → Int} (k : Nat) (c : Nat → Int) : zw_S M (fun c => g c - h c) k c = zw_S M g k c - zw_S M h k c := by
  have e : zw_S M (fun c => g c - h c) k c = zw_S M (fun c => g c + -1 * h c) k c := zw_S_cg k c (fun c' => by omega)
  rw [e, zw_S_add, zw_S_mul]
  omega
theorem zw_S_0 {M : Nat} : ∀ (k : Nat) (c : Nat → Int), zw_S M (fun _ => 0) k c = 0
  | 0, _ => rfl
  | k + 1, c => by
    show zw_b M (fun t => zw_S M (fun _ => 0) k (zw_u c k t)) = 0
    rw [zw_b_cg (g := fun _ => 0) (fun t _ _ => zw_S_0 k _), zw_b_0]
theorem zw_S_nn {M : Nat} {g : (Nat → Int) → Int} (k : Nat) (c : Nat → Int) (h : ∀ c, 0 ≤ g c) : 0 ≤ zw_S M g k c := by
  have := zw_S_le (M := M) (g := fun _ => 0) k c h
  rw [zw_S_0] at this
  exact this
theorem zw_S_out {M : Nat} {g : (Nat → Int) → Int} {i : Nat} {d : Int} : ∀ (k : Nat) (c : Nat → Int), k ≤ i → zw_S M (fun c => g (zw_a c i d)) k c = zw_S M g k (zw_a c i d)
  | 0, _, _ => rfl
  | k + 1, c, hk => zw_b_cg (fun t _ _ => by rw [zw_S_out k _ (by omega), zw_ua (by omega)])
theorem zw_S_sh {M : Nat} {g : (Nat → Int) → Int} {i : Nat} : ∀ (k : Nat) (c : Nat → Int), i < k → (∀ c, c i = -(M : Int) ∨ c i = (M : Int) + 1 → g c = 0) → zw_S M (fun c => g (zw_a c i 1)) k c = zw_S M g k c
  | 0, _, hk, _ => absurd hk (Nat.not_lt_zero _)
  | k + 1, c, hk, h0 => by
    by_cases q : i = k
    · subst q
      have e : zw_S M (fun c => g (zw_a c i 1)) (i + 1) c = zw_b M (fun t => (fun t => zw_S M g i (zw_u c i t)) (t + 1)) := zw_b_cg (fun t _ _ => by rw [zw_S_out i _ (Nat.le_refl _), zw_uk])
      have z : ∀ t : Int, t = -(M : Int) ∨ t = (M : Int) + 1 → zw_S M g i (zw_u c i t) = 0 := fun t ht => by
        rw [zw_S_cg' (h := fun _ => 0) i _ (fun c' hc' _ => h0 c' (by
          rw [hc' i (Nat.le_refl _)]
          unfold zw_u
          rw [if_pos rfl]
          exact ht)), zw_S_0]
      rw [e, zw_b_sh (f := fun t => zw_S M g i (zw_u c i t)) (z _ (.inl rfl)) (z _ (.inr rfl))]
      rfl
    · exact zw_b_cg (fun t _ _ => zw_S_sh k _ (by omega) h0)
/-- g is 0 but on a box that lies inside of the one of M -/
def zw_sp (M m : Nat) (g : (Nat → Int) → Int) : Prop := ∀ c i, i < m → (c i ≤ -(M : Int) ∨ (M : Int) ≤ c i) → g c = 0
theorem zw_S_s1 {M m i : Nat} {g : (Nat → Int) → Int} {d : Int} (hs : zw_sp M m g) (hi : i < m) (hd : d = 1 ∨ d = -1) (c : Nat → Int) : zw_S M (fun c => g (zw_a c i d)) m c = zw_S M g m c := by
  rcases hd with rfl | rfl
  · exact zw_S_sh m c hi (fun c h => hs c i hi (by omega))
  · rw [← zw_S_sh (M := M) (g := fun c => g (zw_a c i (-1))) m c hi (fun c h => hs _ i hi (by
      unfold zw_a
      rw [if_pos rfl]
      omega))]
    exact zw_S_cg m c (fun c' => by rw [zw_aa, show (1 : Int) + -1 = 0 by decide, zw_a0])
def zw_v (A c : Nat → Int) (k : Nat) : Nat → Int := fun j => if j < k then c j + A j else c j
theorem zw_v0 {A c : Nat → Int} : zw_v A c 0 = c := by
  funext j
  exact if_neg (Nat.not_lt_zero _)
theorem zw_vs {A c : Nat → Int} {k : Nat} : zw_v A c (k + 1) = zw_a (zw_v A c k) k (A k) := by
  funext j
  unfold zw_v zw_a
  dsimp only
  by_cases q : j = k
  · rw [if_pos (by omega), if_pos q, if_neg (by omega), q]
  · rw [if_neg q]
    by_cases q2 : j < k
    · rw [if_pos q2, if_pos (by omega)]
    · rw [if_neg q2, if_neg (by omega)]
theorem zw_S_v {M m : Nat} {A : Nat → Int} (hA : ∀ i, A i = 0 ∨ A i = 1 ∨ A i = -1) : ∀ (k : Nat) {g : (Nat → Int) → Int} (c : Nat → Int), k ≤ m → (∀ c i, i < k → (c i ≤ -(M : Int) ∨ (M : Int) ≤ c i) → g c = 0) → zw_S M (fun c => g (zw_v A c k)) m c = zw_S M g m c
  | 0, g, c, _, _ => zw_S_cg m c (fun c' => by rw [zw_v0])
  | k + 1, g, c, hk, hs => by
    have e : zw_S M (fun c => g (zw_v A c (k + 1))) m c = zw_S M (fun c => (fun c => g (zw_a c k (A k))) (zw_v A c k)) m c := zw_S_cg m c (fun c' => by rw [zw_vs])
    rw [e, zw_S_v hA k (g := fun c => g (zw_a c k (A k))) c (by omega) (fun c i hi hc => hs _ i (by omega) (by
      unfold zw_a
      rw [if_neg (by omega)]
      exact hc))]
    rcases hA k with h | h | h
    · exact zw_S_cg m c (fun c' => by rw [h, zw_a0])
    · rw [h]
      exact zw_S_sh m c (by omega) (fun c q => hs c k (by omega) (by omega))
    · rw [h, ← zw_S_sh (M := M) (g := fun c => g (zw_a c k (-1))) m c (i := k) (by omega) (fun c q => hs _ k (by omega) (by
        unfold zw_a
        rw [if_pos rfl]
        omega))]
      exact zw_S_cg m c (fun c' => by rw [zw_aa, show (1 : Int) + -1 = 0 by decide, zw_a0])
theorem zw_S_sw {M n : Nat} {f : (Nat → Int) → Nat → Int} : ∀ (k : Nat) (c : Nat → Int), zw_S M (fun c => zw_s (fun j => f c j) n) k c = zw_s (fun j => zw_S M (fun c => f c j) k c) n
  | 0, _ => rfl
  | k + 1, c => by
    show zw_b M (fun t => zw_S M (fun c => zw_s (fun j => f c j) n) k (zw_u c k t)) = _
    rw [zw_b_cg (fun t _ _ => zw_S_sw k (zw_u c k t)), zw_b_sw]
    rfl
theorem zw_S_sb {M N : Nat} {f : (Nat → Int) → Int → Int} : ∀ (k : Nat) (c : Nat → Int), zw_S M (fun c => zw_b N (fun t => f c t)) k c = zw_b N (fun t => zw_S M (fun c => f c t) k c)
  | 0, _ => rfl
  | k + 1, c => by
    show zw_b M (fun t => zw_S M (fun c => zw_b N (fun u => f c u)) k (zw_u c k t)) = _
    rw [zw_b_cg (fun t _ _ => zw_S_sb k (zw_u c k t)), zw_b_sw2]
    rfl
theorem zw_S_SS {M N : Nat} {f : (Nat → Int) → (Nat → Int) → Int} {k : Nat} {c : Nat → Int} : ∀ (l : Nat) (a : Nat → Int), zw_S M (fun c => zw_S N (fun a => f c a) l a) k c = zw_S N (fun a => zw_S M (fun c => f c a) k c) l a
  | 0, _ => rfl
  | l + 1, a => by
    show zw_S M (fun c => zw_b N (fun t => zw_S N (fun a => f c a) l (zw_u a l t))) k c = zw_b N (fun t => zw_S N (fun a => zw_S M (fun c => f c a) k c) l (zw_u a l t))
    rw [zw_S_sb]
    exact zw_b_cg (fun t _ _ => zw_S_SS l _)
/-- a test for each number -/
def zw_all (Q : Nat → Int → Bool) (k : Nat) (c : Nat → Int) : Bool := match k with
  | 0 => true
  | k + 1 => zw_all Q k c && Q k (c k)
theorem zw_all_i {Q : Nat → Int → Bool} {c : Nat → Int} : ∀ k, zw_all Q k c = true ↔ ∀ i, i < k → Q i (c i) = true
  | 0 => ⟨fun _ i hi => absurd hi (Nat.not_lt_zero _), fun _ => rfl⟩
  | k + 1 => by
    show (zw_all Q k c && Q k (c k)) = true ↔ _
    rw [Bool.and_eq_true_iff, zw_all_i k]
    refine ⟨fun ⟨h1, h2⟩ i hi => ?_, fun h => ⟨fun i hi => h i (by omega), h k (by omega)⟩⟩
    by_cases q : i = k
    · rw [q]
      exact h2
    · exact h1 i (by omega)
def zw_P (M : Nat) (Q : Nat → Int → Bool) : Nat → Int
  | 0 => 1
  | k + 1 => zw_P M Q k * zw_b M (fun t => if Q k t = true then 1 else 0)
theorem zw_S_all {M : Nat} {Q : Nat → Int → Bool} : ∀ (k : Nat) (c : Nat → Int), zw_S M (fun c => if zw_all Q k c = true then 1 else 0) k c = zw_P M Q k
  | 0, _ => rfl
  | k + 1, c => by
    show zw_b M (fun t => zw_S M (fun c => if zw_all Q (k + 1) c = true then 1 else 0) k (zw_u c k t)) = zw_P M Q k * zw_b M (fun t => if Q k t = true then 1 else 0)
    rw [← zw_b_mul]
    refine zw_b_cg (fun t _ _ => ?_)
    by_cases q : Q k t = true
    · rw [if_pos q, Int.mul_one, ← zw_S_all k (zw_u c k t)]
      refine zw_S_cg' k _ (fun c' hc' _ => ?_)
      have e : c' k = t := by
        rw [hc' k (Nat.le_refl _)]
        exact if_pos rfl
      show (if (zw_all Q k c' && Q k (c' k)) = true then (1 : Int) else 0) = _
      rw [e, q, Bool.and_true]
    · rw [if_neg q, Int.mul_zero]
      refine (zw_S_cg' (h := fun _ => 0) k _ (fun c' hc' _ => ?_)).trans (zw_S_0 k _)
      have e : c' k = t := by
        rw [hc' k (Nat.le_refl _)]
        exact if_pos rfl
      show (if (zw_all Q k c' && Q k (c' k)) = true then (1 : Int) else 0) = _
      rw [e, if_neg]
      intro h
      exact q (Bool.and_eq_true_iff.mp h).2
/-- one point alone -/
def zw_eq (k : Nat) (x c : Nat → Int) : Bool := zw_all (fun i t => decide (t = x i)) k c
theorem zw_eq_i {k : Nat} {x c : Nat → Int} : zw_eq k x c = true ↔ ∀ i, i < k → c i = x i := by
  unfold zw_eq
  rw [zw_all_i]
  exact ⟨fun h i hi => of_decide_eq_true (h i hi), fun h i hi => decide_eq_true (h i hi)⟩
theorem zw_S_eq {M : Nat} {x : Nat → Int} (k : Nat) (c : Nat → Int) (hx : ∀ i, i < k → -(M : Int) ≤ x i ∧ x i ≤ (M : Int)) : zw_S M (fun c => if zw_eq k x c = true then 1 else 0) k c = 1 := by
  unfold zw_eq
  rw [zw_S_all]
  have : ∀ j, j ≤ k → zw_P M (fun i t => decide (t = x i)) j = 1 := by
    intro j
    induction j with
    | zero => exact fun _ => rfl
    | succ j ih =>
      intro hj
      show zw_P M _ j * zw_b M (fun t => if decide (t = x j) = true then 1 else 0) = 1
      rw [ih (by omega), Int.one_mul]
      have e : zw_b M (fun t => if decide (t = x j) = true then (1 : Int) else 0) = zw_b M (fun t => if t = x j then 1 else 0) := zw_b_cg (fun t _ _ => by
        by_cases q : t = x j
        · rw [if_pos q, if_pos (decide_eq_true q)]
        · rw [if_neg q, if_neg (fun h => q (of_decide_eq_true h))])
      rw [e, zw_b_one (hx j (by omega)).1 (hx j (by omega)).2]
  exact this k (Nat.le_refl _)
