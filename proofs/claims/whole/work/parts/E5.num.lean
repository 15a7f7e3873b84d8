/-! ===== the wall: the number of states ===== -/
theorem zw_C_r : ∀ (k m : Nat), zw_C (k + 1) m * (k + 1 - m) ≤ zw_C k m * (k + 1)
  | k, 0 => by
    rw [zw_C_z, zw_C_z]
    omega
  | 0, m + 1 => by
    rw [show 0 + 1 - (m + 1) = 0 by omega, Nat.mul_zero]
    exact Nat.zero_le _
  | k + 1, m + 1 => by
    have h1 := zw_C_r k m
    have h2 := zw_C_r k (m + 1)
    have e1 : zw_C (k + 1 + 1) (m + 1) = zw_C (k + 1) m + zw_C (k + 1) (m + 1) := zw_C_s
    have e2 : zw_C (k + 1) (m + 1) = zw_C k m + zw_C k (m + 1) := zw_C_s
    rw [e1, Nat.add_mul]
    by_cases q : m ≤ k + 1
    · have e3 : k + 1 + 1 - (m + 1) = k + 1 - m := by omega
      rw [e3]
      by_cases q2 : m + 1 ≤ k + 1
      · have e4 : zw_C (k + 1) (m + 1) * (k + 1 - m) = zw_C (k + 1) (m + 1) * (k + 1 - (m + 1)) + zw_C (k + 1) (m + 1) := by
          rw [show k + 1 - m = k + 1 - (m + 1) + 1 by omega, Nat.mul_succ]
        have e5 : zw_C (k + 1) (m + 1) * (k + 1 + 1) = zw_C k m * (k + 1) + zw_C k (m + 1) * (k + 1) + zw_C (k + 1) (m + 1) := by
          rw [Nat.mul_succ, e2, Nat.add_mul]
        omega
      · have e4 : k + 1 - m = 0 := by omega
        rw [e4, Nat.mul_zero, Nat.mul_zero]
        exact Nat.zero_le _
    · rw [show k + 1 + 1 - (m + 1) = 0 by omega, Nat.mul_zero, Nat.mul_zero]
      exact Nat.zero_le _
theorem zw_C_r2 {A m : Nat} (hm : m ≤ 16) : ∀ (d k : Nat), 16 * (A + 1) ≤ k → zw_C (k + d) m * A ^ d ≤ zw_C k m * (A + 1) ^ d
  | 0, k, _ => Nat.le_refl _
  | d + 1, k, hk => by
    have h1 := zw_C_r (k + d) m
    have h2 := zw_C_r2 (A := A) hm d k hk
    -- one step
    have h3 : zw_C (k + d + 1) m * A ≤ zw_C (k + d) m * (A + 1) := by
      have a1 : A * (k + d + 1) ≤ (A + 1) * (k + d + 1 - m) := by
        have : (A + 1) * (k + d + 1 - m) + (A + 1) * m = (A + 1) * (k + d + 1) := by
          rw [← Nat.mul_add]
          congr 1
          omega
        have b1 : (A + 1) * (k + d + 1) = A * (k + d + 1) + (k + d + 1) := Nat.succ_mul _ _
        have b2 : (A + 1) * m ≤ (A + 1) * 16 := Nat.mul_le_mul_left _ hm
        omega
      have a2 : 0 < k + d + 1 - m := by omega
      refine Nat.le_of_mul_le_mul_right (c := k + d + 1 - m) ?_ a2
      have c1 := Nat.mul_le_mul_right A h1
      have c2 := Nat.mul_le_mul_left (zw_C (k + d) m) a1
      have e1 : zw_C (k + d + 1) m * A * (k + d + 1 - m) = zw_C (k + d + 1) m * (k + d + 1 - m) * A := by rw [Nat.mul_assoc, Nat.mul_comm A, ← Nat.mul_assoc]
      have e2 : zw_C (k + d) m * (k + d + 1) * A = zw_C (k + d) m * (A * (k + d + 1)) := by rw [Nat.mul_assoc, Nat.mul_comm (k + d + 1)]
      rw [e1, Nat.mul_assoc (zw_C (k + d) m)]
      rw [e2] at c1
      exact Nat.le_trans c1 c2
    rw [Nat.pow_succ, Nat.pow_succ]
    have c1 := Nat.mul_le_mul_right (A ^ d) h3
    have c2 := Nat.mul_le_mul_right (A + 1) h2
    have e1 : zw_C (k + (d + 1)) m * (A ^ d * A) = zw_C (k + d + 1) m * A * A ^ d := by
      rw [Nat.mul_comm (A ^ d), ← Nat.mul_assoc]
      rfl
    have e2 : zw_C (k + d) m * (A + 1) * A ^ d = zw_C (k + d) m * A ^ d * (A + 1) := by rw [Nat.mul_assoc, Nat.mul_comm (A + 1), ← Nat.mul_assoc]
    rw [e1, ← Nat.mul_assoc]
    rw [e2] at c1
    exact Nat.le_trans c1 c2
theorem zw_C_pos : ∀ (k m : Nat), m ≤ k → 0 < zw_C k m
  | k, 0, _ => by
    rw [zw_C_z]
    decide
  | 0, m + 1, h => by omega
  | k + 1, m + 1, h => by
    rw [zw_C_s]
    have := zw_C_pos k m (by omega)
    omega
def zw_B (k : Nat) : Nat := 1000000 - 24 * (7992 * k + 9)
def zw_nb1 (n q m k : Nat) : Bool := decide (n < q) || decide (k < 1) || decide (q + (16 - m) < k) || decide (25 ^ (n - q) * 17500 ^ q * 46 ^ m * 1000001 ^ 48 < zw_B k * (2 ^ q * (23 ^ (n - q) * 12167 ^ q * 20 ^ m) * 1000000 ^ 48))
theorem zw_nb2 : ((List.range 9).all fun n => (List.range 9).all fun q => (List.range 17).all fun m => (List.range 5).all fun k => zw_nb1 n q m k) = true := by
  decide +kernel
theorem zw_num (n : Nat) (hn : n < 9) (q : Nat) (hq : q < 9) (m : Nat) (hm : m < 17) (k : Nat) (hk : k < 5) (h1 : q ≤ n) (h2 : 1 ≤ k) (h3 : k ≤ q + (16 - m)) : 25 ^ (n - q) * 17500 ^ q * 46 ^ m * 1000001 ^ 48 < zw_B k * (2 ^ q * (23 ^ (n - q) * 12167 ^ q * 20 ^ m) * 1000000 ^ 48) := by
  have h := List.all_eq_true.mp (List.all_eq_true.mp (List.all_eq_true.mp (List.all_eq_true.mp zw_nb2 n (List.mem_range.mpr hn)) q (List.mem_range.mpr hq)) m (List.mem_range.mpr hm)) k (List.mem_range.mpr hk)
  unfold zw_nb1 at h
  rw [Bool.or_eq_true_iff, Bool.or_eq_true_iff, Bool.or_eq_true_iff, decide_eq_true_iff, decide_eq_true_iff, decide_eq_true_iff, decide_eq_true_iff] at h
  rcases h with ((h | h) | h) | h
  · omega
  · omega
  · omega
  · exact h
def zw_qn (code : Nat → Nat) (n : Nat) : Nat := zw_n (fun v => if code v = 3 then 1 else 0) n
theorem zw_qn_le {code : Nat → Nat} {n : Nat} : zw_qn code n ≤ n := by
  unfold zw_qn
  have := zw_n_le (f := fun v => if code v = 3 then 1 else 0) (g := fun _ => 1) n (fun v _ => by
    try dsimp only
    split <;> omega)
  rw [zw_n_c, Nat.one_mul] at this
  exact this
theorem zw_Pr_q {code : Nat → Nat} {f : Nat → Int} {x y : Nat} (hf : ∀ v, f v = if code v = 3 then (y : Int) else x) : ∀ n, zw_Pr f n = ((x ^ (n - zw_qn code n) * y ^ zw_qn code n : Nat) : Int)
  | 0 => rfl
  | n + 1 => by
    show zw_Pr f n * f n = _
    rw [zw_Pr_q hf n, hf n]
    have hq := zw_qn_le (code := code) (n := n)
    by_cases q : code n = 3
    · have e : zw_qn code (n + 1) = zw_qn code n + 1 := by
        show zw_n _ n + (if code n = 3 then 1 else 0) = _
        rw [if_pos q]
        rfl
      rw [if_pos q, e, show n + 1 - (zw_qn code n + 1) = n - zw_qn code n by omega, Nat.pow_succ, ← Nat.mul_assoc]
      exact (Int.natCast_mul _ _).symm
    · have e : zw_qn code (n + 1) = zw_qn code n := by
        show zw_n _ n + (if code n = 3 then 1 else 0) = _
        rw [if_neg q]
        rfl
      rw [if_neg q, e, show n + 1 - zw_qn code n = n - zw_qn code n + 1 by omega, Nat.pow_succ, Nat.mul_assoc, Nat.mul_comm x, ← Nat.mul_assoc]
      exact (Int.natCast_mul _ _).symm
theorem zw_final {m n N k : Nat} {b e code : Nat → Nat} {H G : Nat → Int} {up par rk : Nat → Nat → Nat} {lab : Nat → Nat → Bool} {X t : Nat → Nat → Int} (hg : zw_G m n b e) (hm : m ≤ 16) (hn : n ≤ 8) (hk1 : 1 ≤ k) (hk4 : k ≤ 4) (hk : k ≤ zw_qn code n + (16 - m)) (hc : ∀ v, v < n → code v = 1 ∨ code v = 2 ∨ code v = 3) (hs : ∀ i, i < N → zw_St m n b e code H G (up i) (par i) (rk i) (lab i) (X i) (t i))
    (hd : ∀ i j, i < N → j < N → (∀ r, r < m → zw_h (up i) r n = zw_h (up j) r n) → (∀ v, v < n → (up i v = m + v ↔ up j v = m + v)) → (∀ r, r < m → zw_h (up i) r n = false → lab i r = lab j r) → i = j) : N < zw_B k := by
  have h1 := zw_states (K := 20000000) (M := 20000100) hg hc hs hd (by omega) (by omega)
  have h2 := zw_Nall (n := n) (code := code) (K := 20000000) (M := 20000100) hg hm hc (by omega)
  have h3 := zw_C_r2 (A := 1000000) hm (3 * m) 20000000 (by omega)
  rw [show 1000000 + 1 = 1000001 from rfl] at h3
  have hq := zw_qn_le (code := code) (n := n)
  have h4 := zw_num n (by omega) (zw_qn code n) (by omega) m (by omega) k (by omega) hq hk1 hk
  have e1 : zw_Pr (fun v => zw_tw (code v)) n = ((1 ^ (n - zw_qn code n) * 2 ^ zw_qn code n : Nat) : Int) := zw_Pr_q (fun v => rfl) n
  have e2 : zw_Pr (fun v => zw_be (code v)) n = ((23 ^ (n - zw_qn code n) * 12167 ^ zw_qn code n : Nat) : Int) := zw_Pr_q (fun v => rfl) n
  have e3 : zw_Pr (fun v => zw_al (code v)) n = ((25 ^ (n - zw_qn code n) * 17500 ^ zw_qn code n : Nat) : Int) := zw_Pr_q (fun v => rfl) n
  rw [e1, Nat.one_pow, Nat.one_mul] at h1
  rw [e2, e3] at h2
  have c0 := zw_C_pos 20000000 m (by omega)
  generalize zw_N 20000100 m n b e (zw_cd code n) 20000000 = NN at *
  generalize zw_qn code n = q at *
  generalize zw_C 20000000 m = C1 at *
  generalize zw_C (20000000 + 3 * m) m = C2 at *
  -- N 2^q C1 <= NN, NN Z <= W C2, C2 a <= C1 a'
  have f1 : ((N * (2 ^ q * C1) : Nat) : Int) ≤ NN := by
    rw [Int.natCast_mul, Int.natCast_mul]
    exact h1
  have f2 : ((N * (2 ^ q * C1) * (23 ^ (n - q) * 12167 ^ q * 20 ^ m) : Nat) : Int) ≤ ((25 ^ (n - q) * 17500 ^ q * (46 ^ m * C2) : Nat) : Int) := by
    have g1 := Int.mul_le_mul_of_nonneg_right f1 (Int.natCast_nonneg (23 ^ (n - q) * 12167 ^ q * 20 ^ m))
    rw [Int.natCast_mul _ (23 ^ (n - q) * 12167 ^ q * 20 ^ m)]
    refine Int.le_trans g1 ?_
    rw [Int.natCast_mul _ (20 ^ m), Int.natCast_mul _ (46 ^ m * C2), Int.natCast_mul (46 ^ m), Int.natCast_pow 20, Int.natCast_pow 46]
    exact h2
  have f3 : N * (2 ^ q * C1) * (23 ^ (n - q) * 12167 ^ q * 20 ^ m) ≤ 25 ^ (n - q) * 17500 ^ q * (46 ^ m * C2) := Int.ofNat_le.mp f2
  have f4 : C2 * 1000000 ^ 48 ≤ C1 * 1000001 ^ 48 := by
    have e48 : 48 = 3 * m + (48 - 3 * m) := by omega
    have g1 : (1000000 : Nat) ^ (48 - 3 * m) ≤ 1000001 ^ (48 - 3 * m) := Nat.pow_le_pow_left (by omega) _
    have g2 := Nat.mul_le_mul h3 g1
    rw [e48, Nat.pow_add, Nat.pow_add, ← Nat.mul_assoc, ← Nat.mul_assoc]
    exact g2
  generalize (1000000 : Nat) ^ 48 = a at *
  generalize (1000001 : Nat) ^ 48 = a' at *
  generalize 23 ^ (n - q) * 12167 ^ q * 20 ^ m = Z at *
  generalize 25 ^ (n - q) * 17500 ^ q = W at *
  generalize 46 ^ m = V at *
  generalize 2 ^ q = T at *
  rcases Nat.lt_or_ge N (zw_B k) with h | h
  · exact h
  · exfalso
    have s1 : N * (T * C1) * Z * a ≤ W * (V * C2) * a := Nat.mul_le_mul_right _ f3
    have s2 : W * (V * C2) * a = W * V * (C2 * a) := by rw [← Nat.mul_assoc W, Nat.mul_assoc (W * V)]
    have s3 : W * V * (C2 * a) ≤ W * V * (C1 * a') := Nat.mul_le_mul_left _ f4
    have s4 : W * V * (C1 * a') = W * V * a' * C1 := by rw [Nat.mul_comm C1, ← Nat.mul_assoc]
    have s5 : W * V * a' * C1 < zw_B k * (T * Z * a) * C1 := Nat.mul_lt_mul_of_pos_right h4 c0
    have s6 : zw_B k * (T * Z * a) * C1 ≤ N * (T * Z * a) * C1 := Nat.mul_le_mul_right _ (Nat.mul_le_mul_right _ h)
    have s7 : N * (T * Z * a) * C1 = N * (T * C1) * Z * a := by
      simp only [Nat.mul_comm, Nat.mul_left_comm, Nat.mul_assoc]
    omega
