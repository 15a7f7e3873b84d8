/-! ===== the wall: counting ===== -/
def zw_C : Nat → Nat → Nat
  | _, 0 => 1
  | 0, _ + 1 => 0
  | k + 1, m + 1 => zw_C k m + zw_C k (m + 1)
theorem zw_C_0 {m : Nat} : zw_C 0 (m + 1) = 0 := by unfold zw_C; rfl
theorem zw_C_s {k m : Nat} : zw_C (k + 1) (m + 1) = zw_C k m + zw_C k (m + 1) := by
  conv => lhs; unfold zw_C
theorem zw_C_z {k : Nat} : zw_C k 0 = 1 := by
  cases k <;> (unfold zw_C; rfl)
theorem zw_s_ap {f : Nat → Int} {a : Nat} : ∀ b, zw_s f (a + b) = zw_s f a + zw_s (fun i => f (a + i)) b
  | 0 => by
    show zw_s f a = zw_s f a + 0
    omega
  | b + 1 => by
    show zw_s f (a + b) + f (a + b) = zw_s f a + (zw_s (fun i => f (a + i)) b + f (a + b))
    rw [zw_s_ap b]
    omega
theorem zw_s_rv {f : Nat → Int} : ∀ n, zw_s (fun i => f (n - (i + 1))) n = zw_s f n
  | 0 => rfl
  | n + 1 => by
    have h := zw_s_sh (f := fun i => f (n + 1 - (i + 1))) n
    have e : zw_s (fun i => (fun i => f (n + 1 - (i + 1))) (i + 1)) n = zw_s (fun i => f (n - (i + 1))) n := zw_s_cg n (fun i _ => by
      show f _ = f _
      congr 1
      omega)
    rw [e, zw_s_rv n] at h
    show zw_s (fun i => f (n + 1 - (i + 1))) n + f (n + 1 - (n + 1)) = zw_s f n + f n
    rw [show n + 1 - (n + 1) = 0 by omega]
    rw [show n + 1 - (0 + 1) = n by omega, show n + 1 - (n + 1) = 0 by omega] at h
    omega
/-- no terms from N on -/
theorem zw_s_cut {f : Nat → Int} {N : Nat} (h0 : ∀ i, 0 ≤ f i) (hN : ∀ i, N ≤ i → f i = 0) (L : Nat) : zw_s f L ≤ zw_s f N := by
  rcases Nat.le_total L N with h | h
  · obtain ⟨d, rfl⟩ : ∃ d, N = L + d := ⟨N - L, by omega⟩
    rw [zw_s_ap]
    have := zw_s_nn (f := fun i => f (L + i)) d (fun i _ => h0 _)
    omega
  · obtain ⟨d, rfl⟩ : ∃ d, L = N + d := ⟨L - N, by omega⟩
    rw [zw_s_ap, zw_s_cg (g := fun _ => 0) d (fun i _ => hN _ (by omega)), zw_s_0]
    omega
theorem zw_s_C {m : Nat} : ∀ K, zw_s (fun i => (zw_C (K - (i + 1)) m : Int)) K = zw_C K (m + 1)
  | 0 => by
    rw [zw_C_0]
    rfl
  | K + 1 => by
    have h := zw_s_sh (f := fun i => (zw_C (K + 1 - (i + 1)) m : Int)) K
    have e : zw_s (fun i => (fun i => (zw_C (K + 1 - (i + 1)) m : Int)) (i + 1)) K = zw_s (fun i => (zw_C (K - (i + 1)) m : Int)) K := zw_s_cg K (fun i _ => by
      show ((zw_C (K + 1 - (i + 1 + 1)) m : Nat) : Int) = _
      rw [show K + 1 - (i + 1 + 1) = K - (i + 1) by omega])
    rw [e, zw_s_C K] at h
    show zw_s (fun i => (zw_C (K + 1 - (i + 1)) m : Int)) K + ((zw_C (K + 1 - (K + 1)) m : Nat) : Int) = _
    rw [zw_C_s]
    try dsimp only at h
    rw [show K + 1 - (0 + 1) = K by omega] at h
    omega
theorem zw_b_sp {M : Nat} {f : Int → Int} : zw_b M f = zw_s (fun i => f (-((i : Int) + 1))) M + f 0 + zw_s (fun i => f ((i : Int) + 1)) M := by
  unfold zw_b
  rw [show 2 * M + 1 = M + 1 + M by omega, zw_s_ap]
  show zw_s (fun i => f ((i : Int) - M)) M + f ((M : Int) - M) + _ = _
  have e1 : zw_s (fun i => f ((i : Int) - M)) M = zw_s (fun i => f (-((i : Int) + 1))) M := by
    rw [← zw_s_rv]
    exact zw_s_cg M (fun i hi => by
      show f _ = f _
      congr 1
      omega)
  have e2 : zw_s (fun i => f (((M + 1 + i : Nat) : Int) - M)) M = zw_s (fun i => f ((i : Int) + 1)) M := zw_s_cg M (fun i _ => by
    show f _ = f _
    congr 1
    omega)
  rw [e1, e2, Int.sub_self]
/-- positive numbers, K at most in all -/
def zw_pt (m K : Nat) (a : Nat → Int) : Bool := zw_all (fun _ t => decide (1 ≤ t)) m a && decide (zw_s a m ≤ K)
theorem zw_pt_i {m K : Nat} {a : Nat → Int} : zw_pt m K a = true ↔ (∀ i, i < m → 1 ≤ a i) ∧ zw_s a m ≤ K := by
  unfold zw_pt
  rw [Bool.and_eq_true_iff, zw_all_i, decide_eq_true_iff]
  exact ⟨fun ⟨h1, h2⟩ => ⟨fun i hi => of_decide_eq_true (h1 i hi), h2⟩, fun ⟨h1, h2⟩ => ⟨fun i hi => decide_eq_true (h1 i hi), h2⟩⟩
theorem zw_S_pt {M : Nat} : ∀ (m K : Nat) (c : Nat → Int), K ≤ M → zw_S M (fun a => if zw_pt m K a = true then 1 else 0) m c = zw_C K m
  | 0, K, c, _ => by
    show (if zw_pt 0 K c = true then (1 : Int) else 0) = _
    rw [if_pos (zw_pt_i.mpr ⟨fun i hi => absurd hi (Nat.not_lt_zero _), Int.natCast_nonneg _⟩), zw_C_z]
    rfl
  | m + 1, K, c, hK => by
    show zw_b M (fun t => zw_S M (fun a => if zw_pt (m + 1) K a = true then 1 else 0) m (zw_u c m t)) = _
    have e : ∀ t : Int, zw_S M (fun a => if zw_pt (m + 1) K a = true then 1 else 0) m (zw_u c m t) = if 1 ≤ t ∧ t ≤ K then (zw_C (K - t.toNat) m : Int) else 0 := fun t => by
      by_cases q : 1 ≤ t ∧ t ≤ K
      · rw [if_pos q, ← zw_S_pt (M := M) m (K - t.toNat) (zw_u c m t) (by omega)]
        refine zw_S_cg' m _ (fun a ha _ => ?_)
        have e : a m = t := by
          rw [ha m (Nat.le_refl _)]
          exact if_pos rfl
        have : zw_pt (m + 1) K a = true ↔ zw_pt m (K - t.toNat) a = true := by
          rw [zw_pt_i, zw_pt_i]
          have es : zw_s a (m + 1) = zw_s a m + t := by
            show zw_s a m + a m = _
            rw [e]
          rw [es]
          refine ⟨fun ⟨h1, h2⟩ => ⟨fun i hi => h1 i (by omega), by omega⟩, fun ⟨h1, h2⟩ => ⟨fun i hi => ?_, by omega⟩⟩
          by_cases x : i = m
          · rw [x, e]
            exact q.1
          · exact h1 i (by omega)
        by_cases x : zw_pt (m + 1) K a = true
        · rw [if_pos x, if_pos (this.mp x)]
        · rw [if_neg x, if_neg (fun y => x (this.mpr y))]
      · rw [if_neg q]
        refine (zw_S_cg' (h := fun _ => 0) m _ (fun a ha _ => if_neg (fun x => q ?_))).trans (zw_S_0 m _)
        have e : a m = t := by
          rw [ha m (Nat.le_refl _)]
          exact if_pos rfl
        obtain ⟨h1, h2⟩ := zw_pt_i.mp x
        have h3 := h1 m (by omega)
        have es : zw_s a (m + 1) = zw_s a m + t := by
          show zw_s a m + a m = _
          rw [e]
        have h4 := zw_s_nn (f := a) m (fun i hi => by have := h1 i (by omega); omega)
        omega
    rw [zw_b_cg (fun t _ _ => e t), zw_b_sp, ← zw_s_C]
    have z1 : zw_s (fun i => if 1 ≤ -((i : Int) + 1) ∧ -((i : Int) + 1) ≤ K then ((zw_C (K - (-((i : Int) + 1)).toNat) m : Nat) : Int) else 0) M = 0 := by
      rw [zw_s_cg (g := fun _ => 0) M (fun i _ => if_neg (by omega)), zw_s_0]
    rw [z1, if_neg (by omega)]
    obtain ⟨d, rfl⟩ : ∃ d, M = K + d := ⟨M - K, by omega⟩
    rw [zw_s_ap, zw_s_cg (g := fun i => ((zw_C (K - (i + 1)) m : Nat) : Int)) K (fun i hi => by
      rw [if_pos (by omega), show ((i : Int) + 1).toNat = i + 1 by omega]), zw_s_cg (g := fun _ => 0) d (fun i _ => if_neg (by omega)), zw_s_0]
    omega
theorem zw_sum2 {g : Nat → Int} {M : Nat} (h0 : 0 ≤ g 0) : zw_s (fun i => g (i + 1)) M + g 0 + zw_s (fun i => g (i + 1)) M ≤ 2 * zw_s g (M + 1) := by
  have h := zw_s_sh (f := g) M
  have h1 : zw_s g (M + 1) = zw_s g M + g M := rfl
  omega
/-- numbers of any sign -/
theorem zw_S_ab {M : Nat} : ∀ (m K : Nat) (c : Nat → Int), zw_S M (fun a => zw_i K (zw_n (fun i => (a i).natAbs) m)) m c ≤ (2 : Int) ^ m * zw_C (K + m) m
  | 0, K, c => by
    show zw_i K 0 ≤ 2 ^ 0 * _
    rw [zw_C_z]
    unfold zw_i
    rw [if_pos (Nat.zero_le _)]
    decide
  | m + 1, K, c => by
    show zw_b M (fun t => zw_S M (fun a => zw_i K (zw_n (fun i => (a i).natAbs) (m + 1))) m (zw_u c m t)) ≤ _
    have e : ∀ t : Int, zw_S M (fun a => zw_i K (zw_n (fun i => (a i).natAbs) (m + 1))) m (zw_u c m t) ≤ if t.natAbs ≤ K then (2 : Int) ^ m * zw_C (K - t.natAbs + m) m else 0 := fun t => by
      by_cases q : t.natAbs ≤ K
      · rw [if_pos q]
        refine Int.le_trans ?_ (zw_S_ab (M := M) m (K - t.natAbs) (zw_u c m t))
        refine zw_S_le' m _ (fun a ha _ => ?_)
        have e : a m = t := by
          rw [ha m (Nat.le_refl _)]
          exact if_pos rfl
        have es : zw_n (fun i => (a i).natAbs) (m + 1) = zw_n (fun i => (a i).natAbs) m + t.natAbs := by
          show _ + (a m).natAbs = _
          rw [e]
        rw [es]
        unfold zw_i
        split <;> split <;> omega
      · rw [if_neg q]
        refine Int.le_trans (zw_S_le' (h := fun _ => 0) m _ (fun a ha _ => ?_)) (Int.le_of_eq (zw_S_0 m _))
        have e : a m = t := by
          rw [ha m (Nat.le_refl _)]
          exact if_pos rfl
        have es : zw_n (fun i => (a i).natAbs) (m + 1) = zw_n (fun i => (a i).natAbs) m + t.natAbs := by
          show _ + (a m).natAbs = _
          rw [e]
        rw [es, zw_i_0 (by omega)]
        exact Int.le_refl _
    refine Int.le_trans (zw_b_le (fun t _ _ => e t)) ?_
    rw [zw_b_sp]
    -- by the size alone
    have p2 : (0 : Int) ≤ 2 ^ m := Int.pow_nonneg (by decide)
    have g0 : ∀ i : Nat, (0 : Int) ≤ if i ≤ K then (2 : Int) ^ m * zw_C (K - i + m) m else 0 := fun i => by
      split
      · exact Int.mul_nonneg p2 (Int.natCast_nonneg _)
      · exact Int.le_refl _
    have e1 : zw_s (fun i => if (-((i : Int) + 1)).natAbs ≤ K then (2 : Int) ^ m * ((zw_C (K - (-((i : Int) + 1)).natAbs + m) m : Nat) : Int) else 0) M = zw_s (fun i => (fun j : Nat => if j ≤ K then (2 : Int) ^ m * ((zw_C (K - j + m) m : Nat) : Int) else 0) (i + 1)) M := zw_s_cg M (fun i _ => by
      try dsimp only
      rw [show (-((i : Int) + 1)).natAbs = i + 1 by omega])
    have e2 : zw_s (fun i => if ((i : Int) + 1).natAbs ≤ K then (2 : Int) ^ m * ((zw_C (K - ((i : Int) + 1).natAbs + m) m : Nat) : Int) else 0) M = zw_s (fun i => (fun j : Nat => if j ≤ K then (2 : Int) ^ m * ((zw_C (K - j + m) m : Nat) : Int) else 0) (i + 1)) M := zw_s_cg M (fun i _ => by
      try dsimp only
      rw [show ((i : Int) + 1).natAbs = i + 1 by omega])
    have e4 : zw_s (fun j : Nat => if j ≤ K then (2 : Int) ^ m * ((zw_C (K - j + m) m : Nat) : Int) else 0) (M + 1) ≤ (2 : Int) ^ m * zw_C (K + m + 1) (m + 1) := by
      rw [← zw_s_C, ← zw_s_mul]
      refine Int.le_trans (zw_s_cut (N := K + m + 1) g0 (fun i hi => if_neg (by omega)) (M + 1)) (zw_s_le _ (fun i hi => ?_))
      by_cases q : i ≤ K
      · rw [if_pos q, show K + m + 1 - (i + 1) = K - i + m by omega]
        exact Int.le_refl _
      · rw [if_neg q]
        exact Int.mul_nonneg p2 (Int.natCast_nonneg _)
    have e8 : (2 : Int) ^ (m + 1) * zw_C (K + (m + 1)) (m + 1) = 2 * ((2 : Int) ^ m * zw_C (K + m + 1) (m + 1)) := by
      rw [Int.pow_succ, show K + (m + 1) = K + m + 1 by omega, Int.mul_comm ((2 : Int) ^ m) 2, Int.mul_assoc]
    have e9 := zw_sum2 (g := fun j : Nat => if j ≤ K then (2 : Int) ^ m * ((zw_C (K - j + m) m : Nat) : Int) else 0) (M := M) (g0 0)
    rw [e1, e2, e8]
    refine Int.le_trans e9 ?_
    omega
/-! the docks one by one -/
theorem zw_n_0 : ∀ n, zw_n (fun _ => 0) n = 0
  | 0 => rfl
  | n + 1 => by
    show zw_n (fun _ => 0) n + 0 = 0
    rw [zw_n_0 n]
theorem zw_n_sw {f : Nat → Nat → Nat} {n : Nat} : ∀ m, zw_n (fun i => zw_n (fun j => f i j) m) n = zw_n (fun j => zw_n (fun i => f i j) n) m
  | 0 => zw_n_0 n
  | m + 1 => by
    show zw_n (fun i => zw_n (fun j => f i j) m + f i m) n = zw_n (fun j => zw_n (fun i => f i j) n) m + zw_n (fun i => f i m) n
    rw [zw_n_add, zw_n_sw m]
theorem zw_n_one {k v : Nat} : ∀ n, zw_n (fun i => if i = k then v else 0) n ≤ v
  | 0 => Nat.zero_le _
  | n + 1 => by
    show zw_n (fun i => if i = k then v else 0) n + (if n = k then v else 0) ≤ v
    by_cases q : n = k
    · rw [if_pos q, zw_n_cg (g := fun _ => 0) n (fun i hi => if_neg (by omega)), zw_n_0]
      omega
    · rw [if_neg q]
      exact zw_n_one n
theorem zw_n_c {v : Nat} : ∀ n, zw_n (fun _ => v) n = v * n
  | 0 => rfl
  | n + 1 => by
    show zw_n (fun _ => v) n + v = v * (n + 1)
    rw [zw_n_c n]
    rfl
theorem zw_D_n {A : Nat → Int} : ∀ (l k : Nat), zw_D A k l = zw_n (fun i => if A (k + i) = 0 then 0 else 1) l
  | 0, _ => rfl
  | l + 1, k => by
    have h : ∀ (l : Nat) {f : Nat → Nat}, zw_n (fun i => f (i + 1)) l + f 0 = zw_n f l + f l := by
      intro l f
      induction l with
      | zero => rfl
      | succ l ih =>
        show zw_n (fun i => f (i + 1)) l + f (l + 1) + f 0 = zw_n f l + f l + f (l + 1)
        omega
    show zw_D A (k + 1) l + (if A k = 0 then 0 else 1) = zw_n (fun i => if A (k + i) = 0 then 0 else 1) l + (if A (k + l) = 0 then 0 else 1)
    rw [zw_D_n l (k + 1), ← h l (f := fun i => if A (k + i) = 0 then 0 else 1)]
    have e : zw_n (fun i => if A (k + 1 + i) = 0 then 0 else 1) l = zw_n (fun i => (fun i => if A (k + i) = 0 then 0 else 1) (i + 1)) l := zw_n_cg l (fun i _ => by
      try dsimp only
      rw [show k + 1 + i = k + (i + 1) by omega])
    rw [e]
    rfl
theorem zw_d_sum {m n : Nat} {b e : Nat → Nat} : zw_n (fun u => zw_d m b e u) n ≤ 2 * m := by
  have e1 : zw_n (fun u => zw_d m b e u) n ≤ zw_n (fun u => zw_n (fun r => (if u = b r then 1 else 0) + (if u = e r then 1 else 0)) m) n := zw_n_le n (fun u _ => by
    unfold zw_d
    rw [zw_D_n]
    refine zw_n_le m (fun r hr => ?_)
    rw [Nat.zero_add]
    have hA : zw_A m b e u 1 r = if b r = u then 1 else if e r = u then -1 else 0 := if_pos hr
    rw [hA]
    by_cases q : b r = u
    · rw [if_pos q, if_neg (by decide), if_pos q.symm]
      omega
    · rw [if_neg q, if_neg (fun x : u = b r => q x.symm)]
      by_cases q2 : e r = u
      · rw [if_pos q2, if_neg (by decide), if_pos q2.symm]
        decide
      · rw [if_neg q2, if_pos rfl]
        exact Nat.zero_le _)
  rw [zw_n_sw] at e1
  refine Nat.le_trans e1 ?_
  rw [← zw_n_c]
  refine zw_n_le m (fun r _ => ?_)
  rw [zw_n_add]
  have := zw_n_one (k := b r) (v := 1) n
  have := zw_n_one (k := e r) (v := 1) n
  omega
/-- a table: what a dock with d ways is worth -/
theorem zw_tab : ∀ d, d < 17 → (2 ^ d + zw_it zw_f1 d) * 20 ^ (d / 2) * 23 ≤ 25 * 23 ^ (d / 2) * 2 ^ d ∧ (2 ^ d + 2 * zw_it zw_f1 d) * 20 ^ (d / 2) * 12167 ≤ 17500 * 23 ^ (d / 2) * 2 ^ d ∧ 0 ≤ zw_it zw_f1 d := by
  decide +kernel
def zw_al (x : Nat) : Int := if x = 3 then 17500 else 25
def zw_be (x : Nat) : Int := if x = 3 then 12167 else 23
def zw_Pr (f : Nat → Int) : Nat → Int
  | 0 => 1
  | n + 1 => zw_Pr f n * f n
theorem zw_Pr_nn {f : Nat → Int} (h : ∀ i, 0 ≤ f i) : ∀ n, 0 ≤ zw_Pr f n
  | 0 => by show (0 : Int) ≤ 1; decide
  | n + 1 => Int.mul_nonneg (zw_Pr_nn h n) (h n)
def zw_cd (code : Nat → Nat) (j : Nat) : Nat → Nat := fun v => if v < j then code v else 0
theorem zw_cd_s {code : Nat → Nat} {j : Nat} : zw_cd code (j + 1) = zw_o (zw_cd code j) j (code j) := by
  funext v
  unfold zw_cd zw_o
  dsimp only
  by_cases q : v = j
  · rw [if_pos q, if_pos (by omega), q]
  · rw [if_neg q]
    by_cases q2 : v < j
    · rw [if_pos q2, if_pos (by omega)]
    · rw [if_neg q2, if_neg (by omega)]
section
variable {m n : Nat} {b e code : Nat → Nat}
theorem zw_N_mono {M j k : Nat} {σ : Nat → Nat} (h : j ≤ k) : zw_N M m n b e σ j ≤ zw_N M m n b e σ k := zw_S_le m _ (fun c => zw_i_mono h)
theorem zw_N_nn {M j : Nat} {σ : Nat → Nat} : 0 ≤ zw_N M m n b e σ j := zw_S_nn m _ (fun c => zw_i_nn)
theorem zw_can {x a b : Int} (hx : 0 < x) (h : x * a ≤ x * b) : a ≤ b := by
  exact Int.le_of_mul_le_mul_left h hx
theorem zw_dk {M j K : Nat} (hg : zw_G m n b e) (hm : m ≤ 16) (hj : j < n) (hc : code j = 1 ∨ code j = 2 ∨ code j = 3) (hM : K + m + 1 < M) :
    zw_N M m n b e (zw_cd code (j + 1)) K * (zw_be (code j) * 20 ^ (zw_d m b e j / 2)) ≤ zw_al (code j) * 23 ^ (zw_d m b e j / 2) * zw_N M m n b e (zw_cd code j) (K + zw_d m b e j) := by
  have hd : zw_d m b e j < 17 := by
    have := zw_D_le (A := zw_A m b e j 1) m 0
    unfold zw_d
    omega
  have h0 : zw_cd code j j = 0 := if_neg (Nat.lt_irrefl _)
  obtain ⟨t1, t2, t3⟩ := zw_tab _ hd
  have n1 := zw_N_mono (m := m) (n := n) (b := b) (e := e) (M := M) (σ := zw_cd code j) (show K ≤ K + zw_d m b e j by omega)
  have n2 := zw_N_nn (m := m) (n := n) (b := b) (e := e) (M := M) (σ := zw_cd code j) (j := K + zw_d m b e j)
  have d1 := zw_dock1 (n := n) (σ := zw_cd code j) (j := K) (M := M) (x := code j) hg hj h0
  have d3 := zw_dock3 (n := n) (σ := zw_cd code j) (j := K) (M := M) hg hj h0 hM
  rw [zw_cd_s]
  generalize zw_d m b e j = d at *
  have p2 : (0 : Int) < 2 ^ d := Int.pow_pos (by decide)
  have p20 : (0 : Int) ≤ 20 ^ (d / 2) := Int.pow_nonneg (by decide)
  generalize (20 : Int) ^ (d / 2) = x20 at *
  generalize (23 : Int) ^ (d / 2) = x23 at *
  generalize (2 : Int) ^ d = x2 at *
  generalize zw_it zw_f1 d = E at *
  generalize hA : zw_N M m n b e (zw_cd code j) K = A at *
  generalize zw_N M m n b e (zw_cd code j) (K + d) = B at *
  have a1 := Int.mul_le_mul_of_nonneg_left n1 (Int.le_of_lt p2)
  rcases (show (code j ≠ 3 ∧ (code j = 1 ∨ code j = 2)) ∨ code j = 3 by omega) with ⟨q, hc'⟩ | q
  · have d1 := d1 hc' hM
    unfold zw_be zw_al
    rw [if_neg q, if_neg q]
    generalize zw_N M m n b e (zw_o (zw_cd code j) j (code j)) K = N at *
    refine zw_can p2 ?_
    have h1 : x2 * N ≤ (x2 + E) * B := by
      rw [Int.add_mul]
      omega
    have h2 := Int.mul_le_mul_of_nonneg_right h1 (Int.mul_nonneg (show (0 : Int) ≤ 23 by decide) p20)
    have h3 := Int.mul_le_mul_of_nonneg_right t1 n2
    have e1 : x2 * (N * (23 * x20)) = x2 * N * (23 * x20) := by rw [Int.mul_assoc]
    have e2 : (x2 + E) * B * (23 * x20) = (x2 + E) * x20 * 23 * B := by
      rw [Int.mul_assoc, Int.mul_comm B, Int.mul_assoc (x2 + E) x20, Int.mul_comm x20 23, Int.mul_assoc (x2 + E)]
    have e3 : x2 * (25 * x23 * B) = 25 * x23 * x2 * B := by
      rw [← Int.mul_assoc, Int.mul_comm x2]
    rw [e1, e3]
    rw [e2] at h2
    exact Int.le_trans h2 h3
  · unfold zw_be zw_al
    rw [if_pos q, if_pos q]
    rw [q]
    generalize zw_N M m n b e (zw_o (zw_cd code j) j 3) K = N at *
    refine zw_can p2 ?_
    have h1 : x2 * N ≤ (x2 + 2 * E) * B := by
      rw [Int.add_mul, Int.mul_assoc]
      omega
    have h2 := Int.mul_le_mul_of_nonneg_right h1 (Int.mul_nonneg (show (0 : Int) ≤ 12167 by decide) p20)
    have h3 := Int.mul_le_mul_of_nonneg_right t2 n2
    have e1 : x2 * (N * (12167 * x20)) = x2 * N * (12167 * x20) := by rw [Int.mul_assoc]
    have e2 : (x2 + 2 * E) * B * (12167 * x20) = (x2 + 2 * E) * x20 * 12167 * B := by
      rw [Int.mul_assoc, Int.mul_comm B, Int.mul_assoc (x2 + 2 * E) x20, Int.mul_comm x20 12167, Int.mul_assoc (x2 + 2 * E)]
    have e3 : x2 * (17500 * x23 * B) = 17500 * x23 * x2 * B := by
      rw [← Int.mul_assoc, Int.mul_comm x2]
    rw [e1, e3]
    rw [e2] at h2
    exact Int.le_trans h2 h3
theorem zw_dks {M : Nat} (hg : zw_G m n b e) (hm : m ≤ 16) : ∀ (j K : Nat), j ≤ n → (∀ v, v < j → code v = 1 ∨ code v = 2 ∨ code v = 3) → K + zw_n (fun u => zw_d m b e u) j + m + 1 < M →
    zw_N M m n b e (zw_cd code j) K * (zw_Pr (fun v => zw_be (code v)) j * 20 ^ zw_n (fun u => zw_d m b e u / 2) j) ≤ zw_Pr (fun v => zw_al (code v)) j * 23 ^ zw_n (fun u => zw_d m b e u / 2) j * zw_N M m n b e (zw_cd code 0) (K + zw_n (fun u => zw_d m b e u) j)
  | 0, K, _, _, _ => by
    show zw_N M m n b e (zw_cd code 0) K * (1 * 1) ≤ 1 * 1 * _
    rw [Int.one_mul, Int.mul_one, Int.one_mul]
    exact Int.le_refl _
  | j + 1, K, hj, hc, hM => by
    have hM' : K + (zw_n (fun u => zw_d m b e u) j + zw_d m b e j) + m + 1 < M := hM
    have h1 := zw_dk (code := code) (M := M) (K := K) hg hm (show j < n by omega) (hc j (by omega)) (by omega)
    have h2 := zw_dks hg hm j (K + zw_d m b e j) (by omega) (fun v hv => hc v (by omega)) (M := M) (by omega)
    show zw_N M m n b e (zw_cd code (j + 1)) K * (zw_Pr (fun v => zw_be (code v)) j * zw_be (code j) * 20 ^ (zw_n (fun u => zw_d m b e u / 2) j + zw_d m b e j / 2)) ≤ zw_Pr (fun v => zw_al (code v)) j * zw_al (code j) * 23 ^ (zw_n (fun u => zw_d m b e u / 2) j + zw_d m b e j / 2) * zw_N M m n b e (zw_cd code 0) (K + (zw_n (fun u => zw_d m b e u) j + zw_d m b e j))
    rw [Int.pow_add, Int.pow_add, show K + (zw_n (fun u => zw_d m b e u) j + zw_d m b e j) = K + zw_d m b e j + zw_n (fun u => zw_d m b e u) j by omega]
    have q1 : (0 : Int) ≤ zw_Pr (fun v => zw_be (code v)) j := zw_Pr_nn (fun v => by unfold zw_be; split <;> decide) j
    have q2 : (0 : Int) ≤ zw_al (code j) := by unfold zw_al; split <;> decide
    have q3 : (0 : Int) ≤ 20 ^ zw_n (fun u => zw_d m b e u / 2) j := Int.pow_nonneg (by decide)
    have q4 : (0 : Int) ≤ 23 ^ (zw_d m b e j / 2) := Int.pow_nonneg (by decide)
    generalize (20 : Int) ^ zw_n (fun u => zw_d m b e u / 2) j = y20 at *
    generalize (23 : Int) ^ zw_n (fun u => zw_d m b e u / 2) j = y23 at *
    generalize (20 : Int) ^ (zw_d m b e j / 2) = x20 at *
    generalize (23 : Int) ^ (zw_d m b e j / 2) = x23 at *
    generalize zw_Pr (fun v => zw_be (code v)) j = B at *
    generalize zw_Pr (fun v => zw_al (code v)) j = A at *
    generalize zw_al (code j) = a at *
    generalize zw_be (code j) = c at *
    generalize zw_N M m n b e (zw_cd code (j + 1)) K = N2 at *
    generalize zw_N M m n b e (zw_cd code j) (K + zw_d m b e j) = N1 at *
    generalize zw_N M m n b e (zw_cd code 0) (K + zw_d m b e j + zw_n (fun u => zw_d m b e u) j) = N0 at *
    -- N2 c x20 <= a x23 N1, N1 B y20 <= A y23 N0
    have h3 := Int.mul_le_mul_of_nonneg_right h1 (Int.mul_nonneg q1 q3)
    have h4 := Int.mul_le_mul_of_nonneg_left h2 (Int.mul_nonneg q2 q4)
    have e1 : N2 * (B * c * (y20 * x20)) = N2 * (c * x20) * (B * y20) := by
      rw [Int.mul_assoc N2]
      congr 1
      rw [Int.mul_comm B c, Int.mul_assoc c B, Int.mul_assoc c x20, ← Int.mul_assoc B, Int.mul_comm (B * y20) x20]
    have e2 : a * x23 * N1 * (B * y20) = a * x23 * (N1 * (B * y20)) := Int.mul_assoc _ _ _
    have e3 : A * a * (y23 * x23) * N0 = a * x23 * (A * y23 * N0) := by
      rw [← Int.mul_assoc (a * x23)]
      congr 1
      rw [Int.mul_comm A a, Int.mul_assoc a A, Int.mul_assoc a x23, ← Int.mul_assoc A, Int.mul_comm (A * y23) x23]
    rw [e1, e3]
    rw [e2] at h3
    exact Int.le_trans h3 h4
theorem zw_N0 {M K : Nat} : zw_N M m n b e (zw_cd code 0) K ≤ (2 : Int) ^ m * zw_C (K + m) m := by
  refine Int.le_trans (zw_S_le m _ (fun c => ?_)) (zw_S_ab (M := M) m K (fun _ => 0))
  obtain ⟨p, p1, p2⟩ := zw_phi_p m n b e (zw_cd code 0) c
  have p0 : ∀ v, p v = 0 := fun v => (p1 v).1 (if_neg (Nat.not_lt_zero _))
  have h : zw_n (fun i => (c i).natAbs) m ≤ zw_phi m n b e (zw_cd code 0) c := by
    refine Nat.le_trans ?_ p2
    unfold zw_E
    have := zw_n_cg (f := fun i => (c i).natAbs) (g := fun r => (c r - p (b r) + p (e r)).natAbs) m (fun r _ => by
      try dsimp only
      rw [p0, p0]
      congr 1
      omega)
    omega
  unfold zw_i
  split <;> split <;> omega
/-- all docks treated -/
theorem zw_Nall {M K : Nat} (hg : zw_G m n b e) (hm : m ≤ 16) (hc : ∀ v, v < n → code v = 1 ∨ code v = 2 ∨ code v = 3) (hM : K + 3 * m + 1 < M) :
    zw_N M m n b e (zw_cd code n) K * (zw_Pr (fun v => zw_be (code v)) n * 20 ^ m) ≤ zw_Pr (fun v => zw_al (code v)) n * (46 ^ m * zw_C (K + 3 * m) m) := by
  have hs := zw_d_sum (m := m) (n := n) (b := b) (e := e)
  have hh : zw_n (fun u => zw_d m b e u / 2) n ≤ m := by
    have h2 : zw_n (fun u => zw_d m b e u / 2) n + zw_n (fun u => zw_d m b e u / 2) n ≤ zw_n (fun u => zw_d m b e u) n := by
      rw [← zw_n_add]
      exact zw_n_le n (fun u _ => by omega)
    omega
  have h1 := zw_dks (code := code) (M := M) hg hm n K (Nat.le_refl _) hc (by omega)
  have h2 := zw_N_mono (m := m) (n := n) (b := b) (e := e) (M := M) (σ := zw_cd code 0) (show K + zw_n (fun u => zw_d m b e u) n ≤ K + 2 * m by omega)
  have h3 := Int.le_trans h2 (zw_N0 (m := m) (n := n) (b := b) (e := e) (code := code) (M := M) (K := K + 2 * m))
  rw [show K + 2 * m + m = K + 3 * m by omega] at h3
  obtain ⟨d, hd⟩ : ∃ d, m = zw_n (fun u => zw_d m b e u / 2) n + d := ⟨m - zw_n (fun u => zw_d m b e u / 2) n, by omega⟩
  generalize zw_n (fun u => zw_d m b e u / 2) n = h at *
  have q1 : (0 : Int) ≤ zw_Pr (fun v => zw_al (code v)) n := zw_Pr_nn (fun v => by unfold zw_al; split <;> decide) n
  have q2 : (0 : Int) ≤ 20 ^ d := Int.pow_nonneg (by decide)
  have q3 : (0 : Int) ≤ 23 ^ h := Int.pow_nonneg (by decide)
  have q4 : (20 : Int) ^ d ≤ 23 ^ d := by
    clear hd
    induction d with
    | zero => exact Int.le_refl _
    | succ d ih =>
      rw [Int.pow_succ, Int.pow_succ]
      have ih := ih (Int.pow_nonneg (by decide))
      have : (0 : Int) ≤ 23 ^ d := Int.pow_nonneg (by decide)
      omega
  have e20 : (20 : Int) ^ m = 20 ^ h * 20 ^ d := by rw [← Int.pow_add, ← hd]
  have e46 : (46 : Int) ^ m = 23 ^ h * 23 ^ d * 2 ^ m := by
    rw [← Int.pow_add, ← hd]
    clear hd e20 h1 h2 h3 hs hh hM hc hm hg
    induction m with
    | zero => rfl
    | succ m ih =>
      rw [Int.pow_succ, Int.pow_succ, Int.pow_succ, ih]
      generalize (23 : Int) ^ m = x
      generalize (2 : Int) ^ m = y
      rw [Int.mul_assoc, Int.mul_assoc, Int.mul_comm y 2, ← Int.mul_assoc 23, Int.mul_comm y 46]
      rfl
  rw [e20, e46]
  generalize zw_Pr (fun v => zw_al (code v)) n = A at *
  generalize zw_Pr (fun v => zw_be (code v)) n = B at *
  generalize zw_N M m n b e (zw_cd code n) K = N2 at *
  generalize zw_N M m n b e (zw_cd code 0) (K + zw_n (fun u => zw_d m b e u) n) = N0 at *
  generalize (20 : Int) ^ h = y20 at *
  generalize (23 : Int) ^ h = y23 at *
  generalize (20 : Int) ^ d = x20 at *
  generalize (23 : Int) ^ d = x23 at *
  have s1 := Int.mul_le_mul_of_nonneg_right h1 q2
  have s2 : A * y23 * N0 * x20 ≤ A * (y23 * x23 * 2 ^ m * zw_C (K + 3 * m) m) := by
    rw [Int.mul_assoc A, Int.mul_assoc A]
    refine Int.mul_le_mul_of_nonneg_left ?_ q1
    rw [Int.mul_assoc y23, Int.mul_assoc y23, Int.mul_assoc y23]
    refine Int.mul_le_mul_of_nonneg_left ?_ q3
    rw [Int.mul_comm N0]
    have r1 := Int.mul_le_mul_of_nonneg_left h3 q2
    have r2 := Int.mul_le_mul_of_nonneg_right q4 (Int.mul_nonneg (show (0 : Int) ≤ 2 ^ m from Int.pow_nonneg (by decide)) (Int.natCast_nonneg (zw_C (K + 3 * m) m)))
    rw [Int.mul_assoc x23]
    exact Int.le_trans r1 r2
  have e1 : N2 * (B * (y20 * x20)) = N2 * (B * y20) * x20 := by rw [← Int.mul_assoc B, ← Int.mul_assoc N2]
  rw [e1]
  exact Int.le_trans s1 s2
end
