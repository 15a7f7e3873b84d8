/-! ===== the wall: states and their cones ===== -/
def zw_h (up : Nat → Nat) (r : Nat) : Nat → Bool
  | 0 => false
  | n + 1 => zw_h up r n || decide (up n = r)
theorem zw_h_i {up : Nat → Nat} {r : Nat} : ∀ n, zw_h up r n = true ↔ ∃ v, v < n ∧ up v = r
  | 0 => ⟨fun h => Bool.noConfusion h, fun ⟨v, hv, _⟩ => absurd hv (Nat.not_lt_zero _)⟩
  | n + 1 => by
    show (zw_h up r n || decide (up n = r)) = true ↔ _
    rw [Bool.or_eq_true_iff, zw_h_i n, decide_eq_true_iff]
    refine ⟨fun h => ?_, fun ⟨v, hv, h⟩ => ?_⟩
    · rcases h with ⟨v, hv, h⟩ | h
      · exact ⟨v, by omega, h⟩
      · exact ⟨n, by omega, h⟩
    · by_cases q : v = n
      · exact .inr (q ▸ h)
      · exact .inl ⟨v, by omega, h⟩
def zw_nb (b e : Nat → Nat) (v r : Nat) : Int := (if b r = v then 1 else 0) - (if e r = v then 1 else 0)
def zw_ta (x : Nat) : Int := if x = 1 then 1 else -1
/-- a state: a tree, labels of the other ways, flows -/
def zw_St (m n : Nat) (b e code : Nat → Nat) (H G : Nat → Int) (up par rk : Nat → Nat) (lab : Nat → Bool) (X t : Nat → Int) : Prop :=
  (∀ v, v < n → up v = m + v ∨ (up v < m ∧ ((b (up v) = v ∧ e (up v) = par v) ∨ (e (up v) = v ∧ b (up v) = par v)) ∧ par v < n ∧ rk (par v) < rk v)) ∧
  (∀ v w, v < n → w < n → up v = up w → v = w) ∧
  (∀ v, v < n → code v = 3 → up v ≠ m + v) ∧
  (∀ v, v < n → zw_s (fun r => zw_nb b e v r * X r) m = G v - zw_ta (code v) * t v) ∧
  (∀ r, r < m → 0 ≤ X r ∧ X r ≤ H r) ∧
  (∀ v, v < n → 0 ≤ t v ∧ (code v = 3 → t v = 0)) ∧
  (∀ v, v < n → up v < m → 0 < X (up v) ∧ X (up v) < H (up v)) ∧
  (∀ v, v < n → up v = m + v → 0 < t v) ∧
  (∀ r, r < m → zw_h up r n = false → (lab r = true → X r = H r) ∧ (lab r = false → X r = 0)) ∧
  (∀ v, v < n → up v ≠ m + v → t v = 0)
/-- false prices and false costs of a state, out of signs and positive numbers -/
def zw_sg (code : Nat → Nat) (δ : Nat → Int) (v : Nat) : Int := if code v = 3 then δ v else zw_ta (code v)
def zw_p (m n : Nat) (code up : Nat → Nat) (δ a : Nat → Int) (v : Nat) : Int := if v < n ∧ up v < m then zw_sg code δ v * a (up v) else 0
def zw_y (n : Nat) (up : Nat → Nat) (lab : Nat → Bool) (a : Nat → Int) (r : Nat) : Int := if zw_h up r n = true then 0 else if lab r = true then a r else - a r
def zw_c (m n : Nat) (b e code up : Nat → Nat) (lab : Nat → Bool) (δ a : Nat → Int) (r : Nat) : Int := zw_y n up lab a r + zw_p m n code up δ a (b r) - zw_p m n code up δ a (e r)
/-- signs: free at tight docks -/
def zw_dt (n : Nat) (code : Nat → Nat) (δ : Nat → Int) : Bool := zw_all (fun v t => if code v = 3 then decide (t = 1 ∨ t = -1) else decide (t = 1)) n δ
theorem zw_dt_i {n : Nat} {code : Nat → Nat} {δ : Nat → Int} : zw_dt n code δ = true ↔ ∀ v, v < n → (code v = 3 → δ v = 1 ∨ δ v = -1) ∧ (code v ≠ 3 → δ v = 1) := by
  unfold zw_dt
  rw [zw_all_i]
  refine ⟨fun h v hv => ?_, fun h v hv => ?_⟩
  · have := h v hv
    by_cases q : code v = 3
    · rw [if_pos q] at this
      exact ⟨fun _ => of_decide_eq_true this, fun x => absurd q x⟩
    · rw [if_neg q] at this
      exact ⟨fun x => absurd x q, fun _ => of_decide_eq_true this⟩
  · obtain ⟨h1, h2⟩ := h v hv
    by_cases q : code v = 3
    · rw [if_pos q]
      exact decide_eq_true (h1 q)
    · rw [if_neg q]
      exact decide_eq_true (h2 q)
def zw_tw (x : Nat) : Int := if x = 3 then 2 else 1
theorem zw_S_dt {n : Nat} {code : Nat → Nat} (c : Nat → Int) : zw_S 1 (fun δ => if zw_dt n code δ = true then 1 else 0) n c = zw_Pr (fun v => zw_tw (code v)) n := by
  unfold zw_dt
  rw [zw_S_all]
  have : ∀ j, zw_P 1 (fun v t => if code v = 3 then decide (t = 1 ∨ t = -1) else decide (t = 1)) j = zw_Pr (fun v => zw_tw (code v)) j := by
    intro j
    induction j with
    | zero => rfl
    | succ j ih =>
      show zw_P 1 _ j * zw_b 1 (fun t => if (if code j = 3 then decide (t = 1 ∨ t = -1) else decide (t = 1)) = true then 1 else 0) = zw_Pr _ j * zw_tw (code j)
      rw [ih]
      congr 1
      unfold zw_tw
      by_cases q : code j = 3
      · rw [if_pos q]
        have e : zw_b 1 (fun t => if (if code j = 3 then decide (t = 1 ∨ t = -1) else decide (t = 1)) = true then (1 : Int) else 0) = zw_b 1 (fun t => if decide (t = 1 ∨ t = -1) = true then 1 else 0) := zw_b_cg (fun t _ _ => by rw [if_pos q])
        rw [e]
        decide
      · rw [if_neg q]
        have e : zw_b 1 (fun t => if (if code j = 3 then decide (t = 1 ∨ t = -1) else decide (t = 1)) = true then (1 : Int) else 0) = zw_b 1 (fun t => if decide (t = 1) = true then 1 else 0) := zw_b_cg (fun t _ _ => by rw [if_neg q])
        rw [e]
        decide
  exact this n
theorem zw_n_s {f : Nat → Nat} : ∀ n, ((zw_n f n : Nat) : Int) = zw_s (fun i => (f i : Int)) n
  | 0 => rfl
  | n + 1 => by
    show ((zw_n f n + f n : Nat) : Int) = zw_s (fun i => (f i : Int)) n + (f n : Int)
    rw [← zw_n_s n]
    omega
section
variable {m n : Nat} {b e code : Nat → Nat} {H G : Nat → Int} {up par rk : Nat → Nat} {lab : Nat → Bool} {X t : Nat → Int}
theorem zw_sg1 {δ : Nat → Int} {v : Nat} (hδ : zw_dt n code δ = true) (hv : v < n) : zw_sg code δ v = 1 ∨ zw_sg code δ v = -1 := by
  unfold zw_sg
  by_cases q : code v = 3
  · rw [if_pos q]
    exact ((zw_dt_i.mp hδ) v hv).1 q
  · rw [if_neg q]
    unfold zw_ta
    split
    · exact .inl rfl
    · exact .inr rfl
theorem zw_s_inj {r : Nat} {x : Int} (hx : 0 ≤ x) (hI : ∀ v w, v < n → w < n → up v = up w → v = w) : zw_s (fun v => if up v = r then x else 0) n ≤ if zw_h up r n = true then x else 0 := by
  by_cases q : zw_h up r n = true
  · rw [if_pos q]
    obtain ⟨v, hv, h⟩ := (zw_h_i n).mp q
    have e : zw_s (fun w => if up w = r then x else 0) n = zw_s (fun w => if w = v then x else 0) n := zw_s_cg n (fun w hw => by
      by_cases q2 : up w = r
      · rw [if_pos q2, if_pos (hI w v hw hv (q2.trans h.symm))]
      · rw [if_neg q2, if_neg (fun x : w = v => q2 (by rw [x]; exact h))])
    rw [e, zw_s_one, if_pos hv]
    exact Int.le_refl _
  · rw [if_neg q, zw_s_cg (g := fun _ => 0) n (fun v hv => if_neg (fun h => q ((zw_h_i n).mpr ⟨v, hv, h⟩))), zw_s_0]
    exact Int.le_refl _
/-- what the false costs cost at most -/
theorem zw_c_E {δ a : Nat → Int} (hs : zw_St m n b e code H G up par rk lab X t) (hδ : zw_dt n code δ = true) (ha : ∀ r, r < m → 1 ≤ a r) : (zw_E m n b e (zw_c m n b e code up lab δ a) (zw_p m n code up δ a) : Int) ≤ zw_s a m := by
  obtain ⟨s1, s2, -⟩ := hs
  unfold zw_E
  rw [Int.natCast_add, zw_n_s, zw_n_s]
  have e2 : zw_s (fun r => (((zw_c m n b e code up lab δ a r - zw_p m n code up δ a (b r) + zw_p m n code up δ a (e r)).natAbs : Nat) : Int)) m = zw_s (fun r => if zw_h up r n = true then 0 else a r) m := zw_s_cg m (fun r hr => by
    have h1 := ha r hr
    have : zw_c m n b e code up lab δ a r - zw_p m n code up δ a (b r) + zw_p m n code up δ a (e r) = zw_y n up lab a r := by
      unfold zw_c
      omega
    rw [this]
    unfold zw_y
    split
    · rfl
    · split <;> omega)
  have e1 : zw_s (fun v => (((zw_p m n code up δ a v).natAbs : Nat) : Int)) n = zw_s (fun v => zw_s (fun r => if up v = r then a r else 0) m) n := zw_s_cg n (fun v hv => by
    unfold zw_p
    have e3 : zw_s (fun r => if up v = r then a r else 0) m = zw_s (fun r => if r = up v then a (up v) else 0) m := zw_s_cg m (fun r _ => by
      by_cases q : up v = r
      · rw [if_pos q, if_pos q.symm, q]
      · rw [if_neg q, if_neg (fun x : r = up v => q x.symm)])
    rw [e3, zw_s_one]
    by_cases q : up v < m
    · rw [if_pos ⟨hv, q⟩, if_pos q]
      have := ha _ q
      rcases zw_sg1 hδ hv with h | h
      · rw [h, Int.one_mul]
        omega
      · rw [h, Int.neg_mul, Int.one_mul]
        omega
    · rw [if_neg (fun x => q x.2), if_neg q]
      rfl)
  rw [e1, e2, zw_s_sw, ← zw_s_add]
  refine zw_s_le m (fun r hr => ?_)
  have h1 := ha r hr
  have := zw_s_inj (n := n) (up := up) (r := r) (x := a r) (by omega) s2
  by_cases q : zw_h up r n = true
  · rw [if_pos q] at this ⊢
    omega
  · rw [if_neg q] at this ⊢
    omega
theorem zw_p_O {δ a : Nat → Int} (hc : ∀ v, v < n → code v = 1 ∨ code v = 2 ∨ code v = 3) (ha : ∀ r, r < m → 1 ≤ a r) : zw_O (zw_cd code n) (zw_p m n code up δ a) := fun v => by
  unfold zw_cd zw_p zw_sg zw_ta
  by_cases hv : v < n
  · have h3 := hc v hv
    rw [if_pos hv]
    by_cases q : up v < m
    · have := ha _ q
      rw [if_pos ⟨hv, q⟩]
      refine ⟨fun h => by omega, fun h => ?_, fun h => ?_⟩
      · rw [if_neg (by omega), if_pos h]
        omega
      · rw [if_neg (by omega), if_neg (by omega)]
        omega
    · rw [if_neg (fun x => q x.2)]
      omega
  · rw [if_neg hv, if_neg (fun x => hv x.1)]
    omega
/-- other feasible flows have no greater false worth -/
theorem zw_dual {up' par' rk' : Nat → Nat} {lab' : Nat → Bool} {X' t' δ a : Nat → Int} (hg : zw_G m n b e) (hc : ∀ v, v < n → code v = 1 ∨ code v = 2 ∨ code v = 3) (hs : zw_St m n b e code H G up par rk lab X t) (hs' : zw_St m n b e code H G up' par' rk' lab' X' t') (hδ : zw_dt n code δ = true) (ha : ∀ r, r < m → 1 ≤ a r) :
    zw_s (fun r => zw_c m n b e code up lab δ a r * (X' r - X r)) m ≤ 0 ∧ (0 ≤ zw_s (fun r => zw_c m n b e code up lab δ a r * (X' r - X r)) m → (∀ r, r < m → zw_h up r n = false → X' r = X r) ∧ ∀ v, v < n → up v ≠ m + v → t' v = 0) := by
  obtain ⟨s1, s2, s3, s4, s5, s6, s7, s8, s9, s10⟩ := hs
  obtain ⟨r1, r2, r3, r4, r5, r6, r7, r8, r9, r10⟩ := hs'
  have e1 : zw_s (fun r => zw_c m n b e code up lab δ a r * (X' r - X r)) m = zw_s (fun r => zw_y n up lab a r * (X' r - X r)) m + zw_s (fun v => zw_p m n code up δ a v * (- zw_ta (code v) * (t' v - t v))) n := by
    have e2 : zw_s (fun v => zw_p m n code up δ a v * (- zw_ta (code v) * (t' v - t v))) n = zw_s (fun v => zw_s (fun r => zw_p m n code up δ a v * (zw_nb b e v r * (X' r - X r))) m) n := zw_s_cg n (fun v hv => by
      rw [zw_s_mul]
      congr 1
      have h1 := s4 v hv
      have h2 := r4 v hv
      have h3 : zw_s (fun r => zw_nb b e v r * (X' r - X r)) m = zw_s (fun r => zw_nb b e v r * X' r) m - zw_s (fun r => zw_nb b e v r * X r) m := by
        rw [← zw_s_sub]
        exact zw_s_cg m (fun r _ => Int.mul_sub _ _ _)
      rw [h3, h1, h2, Int.mul_sub, Int.neg_mul, Int.neg_mul]
      omega)
    rw [e2, zw_s_sw, ← zw_s_add]
    refine zw_s_cg m (fun r hr => ?_)
    obtain ⟨g1, g2, g3⟩ := hg r hr
    have e3 : zw_s (fun v => zw_p m n code up δ a v * (zw_nb b e v r * (X' r - X r))) n = zw_s (fun v => (if v = b r then zw_p m n code up δ a (b r) * (X' r - X r) else 0) - (if v = e r then zw_p m n code up δ a (e r) * (X' r - X r) else 0)) n := zw_s_cg n (fun v _ => by
      unfold zw_nb
      by_cases q : b r = v
      · have q2 : ¬ e r = v := by omega
        rw [if_pos q, if_neg q2, if_pos q.symm, if_neg (fun x : v = e r => q2 x.symm), q, Int.sub_zero, Int.one_mul, Int.sub_zero]
      · rw [if_neg q, if_neg (fun x : v = b r => q x.symm)]
        by_cases q2 : e r = v
        · rw [if_pos q2, if_pos q2.symm, q2, Int.zero_sub, Int.neg_mul, Int.one_mul, Int.mul_neg, Int.zero_sub]
        · rw [if_neg q2, if_neg (fun x : v = e r => q2 x.symm), Int.sub_self, Int.zero_mul, Int.mul_zero])
    rw [e3, zw_s_sub, zw_s_one, zw_s_one, if_pos g1, if_pos g2]
    unfold zw_c
    rw [Int.sub_mul, Int.add_mul]
    omega
  have n1 : ∀ r, r < m → zw_y n up lab a r * (X' r - X r) ≤ 0 := fun r hr => by
    have h1 := ha r hr
    have h2 := r5 r hr
    unfold zw_y
    by_cases q : zw_h up r n = true
    · rw [if_pos q, Int.zero_mul]
      exact Int.le_refl _
    · rw [if_neg q]
      obtain ⟨h3, h4⟩ := s9 r hr (Bool.eq_false_iff.mpr q)
      by_cases q2 : lab r = true
      · have := h3 q2
        rw [if_pos q2]
        exact Int.mul_nonpos_of_nonneg_of_nonpos (by omega) (by omega)
      · have := h4 (Bool.eq_false_iff.mpr q2)
        rw [if_neg q2, Int.neg_mul]
        have := Int.mul_nonneg (show 0 ≤ a r by omega) (show 0 ≤ X' r - X r by omega)
        omega
  have n2 : ∀ v, v < n → zw_p m n code up δ a v * (- zw_ta (code v) * (t' v - t v)) ≤ 0 ∧ (zw_p m n code up δ a v * (- zw_ta (code v) * (t' v - t v)) = 0 → up v ≠ m + v → t' v = 0) := fun v hv => by
    have h1 := r6 v hv
    have h2 := s6 v hv
    unfold zw_p
    rcases s1 v hv with q | ⟨q, -⟩
    · rw [if_neg (fun x => by omega), Int.zero_mul]
      exact ⟨Int.le_refl _, fun _ x => absurd q x⟩
    · have h3 := ha _ q
      have h4 := s10 v hv (by omega)
      rw [if_pos ⟨hv, q⟩, h4, Int.sub_zero]
      unfold zw_sg zw_ta
      by_cases q3 : code v = 3
      · rw [(h1.2 q3), Int.mul_zero, Int.mul_zero]
        exact ⟨Int.le_refl _, fun _ _ => rfl⟩
      · rw [if_neg q3]
        have h5 : 0 ≤ a (up v) * t' v := Int.mul_nonneg (by omega) h1.1
        have h6 : a (up v) * t' v = 0 → t' v = 0 := fun h => by
          rcases Int.mul_eq_zero.mp h with h | h
          · omega
          · exact h
        by_cases q1 : code v = 1
        · rw [if_pos q1, Int.one_mul, Int.neg_mul, Int.one_mul, Int.mul_neg]
          exact ⟨by omega, fun h _ => h6 (by omega)⟩
        · rw [if_neg q1, Int.neg_neg, Int.one_mul, Int.neg_mul, Int.one_mul, Int.neg_mul]
          exact ⟨by omega, fun h _ => h6 (by omega)⟩
  have m1 := zw_s_le (f := fun r => zw_y n up lab a r * (X' r - X r)) (g := fun _ => 0) m n1
  have m2 := zw_s_le (f := fun v => zw_p m n code up δ a v * (- zw_ta (code v) * (t' v - t v))) (g := fun _ => 0) n (fun v hv => (n2 v hv).1)
  rw [zw_s_0] at m1 m2
  rw [e1]
  refine ⟨by omega, fun h => ⟨fun r hr q => ?_, fun v hv q => ?_⟩⟩
  · have h1 := zw_s_z m n1 (by omega) r hr
    try dsimp only at h1
    have h2 := ha r hr
    unfold zw_y at h1
    rw [if_neg (by rw [q]; decide)] at h1
    by_cases q2 : lab r = true
    · rw [if_pos q2] at h1
      rcases Int.mul_eq_zero.mp h1 with h | h <;> omega
    · rw [if_neg q2] at h1
      rcases Int.mul_eq_zero.mp h1 with h | h <;> omega
  · have h1 := zw_s_z n (fun v hv => (n2 v hv).1) (by omega) v hv
    exact (n2 v hv).2 h1 q
/-- one false cost vector, one state -/
theorem zw_uniq {up' par' rk' : Nat → Nat} {lab' : Nat → Bool} {X' t' δ a δ' a' : Nat → Int} (hg : zw_G m n b e) (hc : ∀ v, v < n → code v = 1 ∨ code v = 2 ∨ code v = 3) (hs : zw_St m n b e code H G up par rk lab X t) (hs' : zw_St m n b e code H G up' par' rk' lab' X' t') (hδ : zw_dt n code δ = true) (ha : ∀ r, r < m → 1 ≤ a r) (hδ' : zw_dt n code δ' = true) (ha' : ∀ r, r < m → 1 ≤ a' r) (hcc : ∀ r, r < m → zw_c m n b e code up lab δ a r = zw_c m n b e code up' lab' δ' a' r) :
    (∀ r, r < m → zw_h up r n = zw_h up' r n) ∧ (∀ v, v < n → (up v = m + v ↔ up' v = m + v)) ∧ (∀ v, v < n → zw_p m n code up δ a v = zw_p m n code up' δ' a' v) ∧ ∀ r, r < m → zw_h up r n = false → lab r = lab' r ∧ a r = a' r := by
  obtain ⟨d1, d2⟩ := zw_dual hg hc hs hs' hδ ha
  obtain ⟨d3, d4⟩ := zw_dual hg hc hs' hs hδ' ha'
  have ee : zw_s (fun r => zw_c m n b e code up' lab' δ' a' r * (X r - X' r)) m = - zw_s (fun r => zw_c m n b e code up lab δ a r * (X' r - X r)) m := by
    have : zw_s (fun r => zw_c m n b e code up' lab' δ' a' r * (X r - X' r)) m = zw_s (fun r => -1 * (zw_c m n b e code up lab δ a r * (X' r - X r))) m := zw_s_cg m (fun r hr => by
      rw [hcc r hr, Int.neg_mul, Int.one_mul, ← Int.mul_neg]
      congr 1
      omega)
    rw [this, zw_s_mul]
    omega
  obtain ⟨x1, x2⟩ := d2 (by omega)
  obtain ⟨y1, y2⟩ := d4 (by omega)
  obtain ⟨s1, s2, s3, s4, s5, s6, s7, s8, s9, s10⟩ := hs
  obtain ⟨r1, r2, r3, r4, r5, r6, r7, r8, r9, r10⟩ := hs'
  have k1 : ∀ r, r < m → zw_h up r n = false → zw_h up' r n = false := fun r hr q => by
    refine Bool.eq_false_iff.mpr (fun h => ?_)
    obtain ⟨v, hv, rfl⟩ := (zw_h_i n).mp h
    have h1 := r7 v hv hr
    rw [x1 _ hr q] at h1
    obtain ⟨h2, h3⟩ := s9 _ hr q
    cases hl : lab (up' v) with
    | true => have := h2 hl; omega
    | false => have := h3 hl; omega
  have k2 : ∀ r, r < m → zw_h up' r n = false → zw_h up r n = false := fun r hr q => by
    refine Bool.eq_false_iff.mpr (fun h => ?_)
    obtain ⟨v, hv, rfl⟩ := (zw_h_i n).mp h
    have h1 := s7 v hv hr
    rw [y1 _ hr q] at h1
    obtain ⟨h2, h3⟩ := r9 _ hr q
    cases hl : lab' (up v) with
    | true => have := h2 hl; omega
    | false => have := h3 hl; omega
  have k3 : ∀ r, r < m → zw_h up r n = zw_h up' r n := fun r hr => by
    cases h : zw_h up r n with
    | false => exact (k1 r hr h).symm
    | true =>
      cases h' : zw_h up' r n with
      | true => rfl
      | false => exact absurd (k2 r hr h') (by rw [h]; decide)
  have k4 : ∀ v, v < n → (up v = m + v ↔ up' v = m + v) := fun v hv => by
    refine ⟨fun h => ?_, fun h => ?_⟩
    · by_cases q : up' v = m + v
      · exact q
      · have := y2 v hv q
        have := s8 v hv h
        omega
    · by_cases q : up v = m + v
      · exact q
      · have := x2 v hv q
        have := r8 v hv h
        omega
  have k5 : ∀ (k v : Nat), rk v ≤ k → v < n → zw_p m n code up δ a v = zw_p m n code up' δ' a' v := by
    intro k
    induction k with
    | zero =>
      intro v hk hv
      rcases s1 v hv with q | ⟨-, -, -, q⟩
      · have q' := (k4 v hv).mp q
        unfold zw_p
        rw [if_neg (fun x => by omega), if_neg (fun x => by omega)]
      · omega
    | succ k ih =>
      intro v hk hv
      rcases s1 v hv with q | ⟨q, q2, q3, q4⟩
      · have q' := (k4 v hv).mp q
        unfold zw_p
        rw [if_neg (fun x => by omega), if_neg (fun x => by omega)]
      · have ih := ih (par v) (by omega) q3
        have h1 : zw_h up (up v) n = true := (zw_h_i n).mpr ⟨v, hv, rfl⟩
        have h2 : zw_h up' (up v) n = true := by rw [← k3 _ q]; exact h1
        have h3 := hcc _ q
        unfold zw_c zw_y at h3
        rw [if_pos h1, if_pos h2] at h3
        rcases q2 with ⟨e1, e2⟩ | ⟨e1, e2⟩
        · rw [e1, e2] at h3
          omega
        · rw [e1, e2] at h3
          omega
  have k6 : ∀ v, v < n → zw_p m n code up δ a v = zw_p m n code up' δ' a' v := fun v hv => k5 _ v (Nat.le_refl _) hv
  refine ⟨k3, k4, k6, fun r hr q => ?_⟩
  obtain ⟨g1, g2, -⟩ := hg r hr
  have h3 := hcc r hr
  have h1 := ha r hr
  have h2 := ha' r hr
  have q' := k1 r hr q
  unfold zw_c zw_y at h3
  rw [k6 _ g1, k6 _ g2, if_neg (show ¬ zw_h up r n = true by rw [q]; decide), if_neg (show ¬ zw_h up' r n = true by rw [q']; decide)] at h3
  cases hl : lab r with
  | true =>
    rw [hl, if_pos rfl] at h3
    cases hl' : lab' r with
    | true =>
      rw [hl', if_pos rfl] at h3
      exact ⟨rfl, by omega⟩
    | false =>
      rw [hl', if_neg (by decide)] at h3
      omega
  | false =>
    rw [hl, if_neg (by decide)] at h3
    cases hl' : lab' r with
    | true =>
      rw [hl', if_pos rfl] at h3
      omega
    | false =>
      rw [hl', if_neg (by decide)] at h3
      exact ⟨rfl, by omega⟩
/-- of one state the numbers are told by the costs -/
theorem zw_uniq1 {δ a δ' a' : Nat → Int} (hg : zw_G m n b e) (hc : ∀ v, v < n → code v = 1 ∨ code v = 2 ∨ code v = 3) (hs : zw_St m n b e code H G up par rk lab X t) (hδ : zw_dt n code δ = true) (ha : ∀ r, r < m → 1 ≤ a r) (hδ' : zw_dt n code δ' = true) (ha' : ∀ r, r < m → 1 ≤ a' r) (hcc : ∀ r, r < m → zw_c m n b e code up lab δ a r = zw_c m n b e code up lab δ' a' r) :
    (∀ r, r < m → a r = a' r) ∧ ∀ v, v < n → δ v = δ' v := by
  obtain ⟨-, -, k1, k2⟩ := zw_uniq hg hc hs hs hδ ha hδ' ha' hcc
  have s1 := hs.1
  have s3 := hs.2.2.1
  have k3 : ∀ v, v < n → up v < m → a (up v) = a' (up v) ∧ zw_sg code δ v = zw_sg code δ' v := fun v hv q => by
    have h := k1 v hv
    unfold zw_p at h
    rw [if_pos ⟨hv, q⟩, if_pos ⟨hv, q⟩] at h
    have h1 := ha _ q
    have h2 := ha' _ q
    rcases zw_sg1 hδ hv with x | x <;> rcases zw_sg1 hδ' hv with y | y
    · rw [x, y, Int.one_mul, Int.one_mul] at h
      exact ⟨h, by rw [x, y]⟩
    · rw [x, y, Int.one_mul, Int.neg_mul, Int.one_mul] at h
      omega
    · rw [x, y, Int.one_mul, Int.neg_mul, Int.one_mul] at h
      omega
    · rw [x, y, Int.neg_mul, Int.one_mul, Int.neg_mul, Int.one_mul] at h
      exact ⟨by omega, by rw [x, y]⟩
  refine ⟨fun r hr => ?_, fun v hv => ?_⟩
  · cases q : zw_h up r n with
    | false => exact (k2 r hr q).2
    | true =>
      obtain ⟨v, hv, rfl⟩ := (zw_h_i n).mp q
      exact (k3 v hv hr).1
  · obtain ⟨h1, h2⟩ := (zw_dt_i.mp hδ) v hv
    obtain ⟨h3, h4⟩ := (zw_dt_i.mp hδ') v hv
    by_cases q : code v = 3
    · rcases s1 v hv with x | ⟨x, -⟩
      · exact absurd x (s3 v hv q)
      · have := (k3 v hv x).2
        unfold zw_sg at this
        rw [if_pos q, if_pos q] at this
        exact this
    · rw [h2 q, h4 q]
end
/-! many states -/
theorem zw_ite3 {p q : Bool} {x : Int} (h0 : 0 ≤ x) (hx : p = true → q = true → x ≤ 1) : (if p = true then (if q = true then x else 0) else 0) ≤ 1 := by
  by_cases h : p = true
  · rw [if_pos h]
    by_cases h2 : q = true
    · rw [if_pos h2]
      exact hx h h2
    · rw [if_neg h2]
      decide
  · rw [if_neg h]
    decide
theorem zw_states {m n N K M : Nat} {b e code : Nat → Nat} {H G : Nat → Int} {up par rk : Nat → Nat → Nat} {lab : Nat → Nat → Bool} {X t : Nat → Nat → Int} (hg : zw_G m n b e) (hc : ∀ v, v < n → code v = 1 ∨ code v = 2 ∨ code v = 3) (hs : ∀ i, i < N → zw_St m n b e code H G (up i) (par i) (rk i) (lab i) (X i) (t i))
    (hd : ∀ i j, i < N → j < N → (∀ r, r < m → zw_h (up i) r n = zw_h (up j) r n) → (∀ v, v < n → (up i v = m + v ↔ up j v = m + v)) → (∀ r, r < m → zw_h (up i) r n = false → lab i r = lab j r) → i = j) (hM : K ≤ M) (hM1 : 1 ≤ M) :
    (N : Int) * (zw_Pr (fun v => zw_tw (code v)) n * zw_C K m) ≤ zw_N M m n b e (zw_cd code n) K := by
  -- the point of a state
  have bd : ∀ i δ a, i < N → zw_dt n code δ = true → zw_pt m K a = true → zw_phi m n b e (zw_cd code n) (zw_c m n b e code (up i) (lab i) δ a) ≤ K := fun i δ a hi hδ ha => by
    obtain ⟨a1, a2⟩ := zw_pt_i.mp ha
    have h1 := zw_c_E (hs i hi) hδ a1
    have h2 := zw_phi_le (m := m) (n := n) (b := b) (e := e) (c := zw_c m n b e code (up i) (lab i) δ a) (zw_p_O (up := up i) (δ := δ) hc a1)
    omega
  have lhs : zw_S M (fun c => zw_s (fun i => zw_S 1 (fun δ => zw_S M (fun a => if zw_dt n code δ = true then (if zw_pt m K a = true then (if zw_eq m (zw_c m n b e code (up i) (lab i) δ a) c = true then 1 else 0) else 0) else 0) m (fun _ => 0)) n (fun _ => 0)) N) m (fun _ => 0) = (N : Int) * (zw_Pr (fun v => zw_tw (code v)) n * zw_C K m) := by
    rw [zw_S_sw, zw_s_cg (g := fun _ => zw_Pr (fun v => zw_tw (code v)) n * zw_C K m) N, zw_s_c, Int.mul_comm]
    intro i hi
    rw [zw_S_SS, ← zw_S_dt (fun _ => 0), Int.mul_comm, ← zw_S_mul]
    refine zw_S_cg n _ (fun δ => ?_)
    rw [zw_S_SS]
    by_cases hδ : zw_dt n code δ = true
    · rw [if_pos hδ, Int.mul_one, ← zw_S_pt (M := M) m K (fun _ => 0) hM]
      refine zw_S_cg m _ (fun a => ?_)
      by_cases ha : zw_pt m K a = true
      · rw [if_pos ha]
        refine (zw_S_cg (h := fun c => if zw_eq m (zw_c m n b e code (up i) (lab i) δ a) c = true then 1 else 0) m _ (fun c => by rw [if_pos hδ, if_pos ha])).trans (zw_S_eq m _ (fun r hr => ?_))
        have h1 := bd i δ a hi hδ ha
        have h2 := zw_phi_bd (σ := zw_cd code n) (c := zw_c m n b e code (up i) (lab i) δ a) hg hr
        omega
      · rw [if_neg ha]
        exact (zw_S_cg (h := fun _ => 0) m _ (fun c => by rw [if_pos hδ, if_neg ha])).trans (zw_S_0 m _)
    · rw [if_neg hδ, Int.mul_zero]
      refine (zw_S_cg (h := fun _ => 0) m _ (fun a => ?_)).trans (zw_S_0 m _)
      exact (zw_S_cg (h := fun _ => 0) m _ (fun c => by rw [if_neg hδ])).trans (zw_S_0 m _)
  rw [← lhs]
  refine zw_S_le m _ (fun c => ?_)
  by_cases q : ∃ i δ a, i < N ∧ zw_dt n code δ = true ∧ zw_pt m K a = true ∧ zw_eq m (zw_c m n b e code (up i) (lab i) δ a) c = true
  · obtain ⟨i, δ, a, hi, hδ, ha, hcc⟩ := q
    have hcc := zw_eq_i.mp hcc
    obtain ⟨a1, a2⟩ := zw_pt_i.mp ha
    -- it is alone
    have r1 : zw_i K (zw_phi m n b e (zw_cd code n) c) = 1 := by
      have h1 := bd i δ a hi hδ ha
      have : zw_phi m n b e (zw_cd code n) c ≤ zw_phi m n b e (zw_cd code n) (zw_c m n b e code (up i) (lab i) δ a) := by
        obtain ⟨p, p1, p2⟩ := zw_phi_p m n b e (zw_cd code n) (zw_c m n b e code (up i) (lab i) δ a)
        refine Nat.le_trans (zw_phi_le p1) ?_
        refine Nat.le_trans (Nat.le_of_eq ?_) p2
        unfold zw_E
        congr 1
        exact zw_n_cg m (fun r hr => by
          try dsimp only
          rw [hcc r hr])
      unfold zw_i
      rw [if_pos (by omega)]
    rw [r1]
    have l1 : zw_s (fun j => zw_S 1 (fun δ' => zw_S M (fun a' => if zw_dt n code δ' = true then (if zw_pt m K a' = true then (if zw_eq m (zw_c m n b e code (up j) (lab j) δ' a') c = true then 1 else 0) else 0) else 0) m (fun _ => 0)) n (fun _ => 0)) N ≤ zw_s (fun j => if j = i then 1 else 0) N := by
      refine zw_s_le N (fun j hj => ?_)
      by_cases hji : j = i
      · subst hji
        rw [if_pos rfl]
        have x1 : zw_S 1 (fun δ' => zw_S M (fun a' => if zw_dt n code δ' = true then (if zw_pt m K a' = true then (if zw_eq m (zw_c m n b e code (up j) (lab j) δ' a') c = true then 1 else 0) else 0) else 0) m (fun _ => 0)) n (fun _ => 0) ≤ zw_S 1 (fun δ' => if zw_eq n δ δ' = true then 1 else 0) n (fun _ => 0) := by
          refine zw_S_le n _ (fun δ' => ?_)
          have x2 : zw_S M (fun a' => if zw_dt n code δ' = true then (if zw_pt m K a' = true then (if zw_eq m (zw_c m n b e code (up j) (lab j) δ' a') c = true then 1 else 0) else 0) else 0) m (fun _ => 0) ≤ zw_S M (fun a' => (if zw_eq n δ δ' = true then 1 else 0) * (if zw_eq m a a' = true then 1 else 0)) m (fun _ => 0) := by
            refine zw_S_le m _ (fun a' => ?_)
            have nn : (0 : Int) ≤ (if zw_eq n δ δ' = true then 1 else 0) * (if zw_eq m a a' = true then 1 else 0) := by
              split
              · split <;> decide
              · rw [Int.zero_mul]
                exact Int.le_refl _
            by_cases hδ' : zw_dt n code δ' = true
            · rw [if_pos hδ']
              by_cases ha' : zw_pt m K a' = true
              · rw [if_pos ha']
                by_cases hc' : zw_eq m (zw_c m n b e code (up j) (lab j) δ' a') c = true
                · rw [if_pos hc']
                  have hc2 := zw_eq_i.mp hc'
                  obtain ⟨u1, u2⟩ := zw_uniq1 hg hc (hs j hi) hδ a1 hδ' (zw_pt_i.mp ha').1 (fun r hr => (hcc r hr).symm.trans (hc2 r hr))
                  rw [if_pos (zw_eq_i.mpr (fun v hv => (u2 v hv).symm)), if_pos (zw_eq_i.mpr (fun r hr => (u1 r hr).symm))]
                  decide
                · rw [if_neg hc']
                  exact nn
              · rw [if_neg ha']
                exact nn
            · rw [if_neg hδ']
              exact nn
          rw [zw_S_mul, zw_S_eq (M := M) (x := a) m (fun _ => 0) (fun r hr => by
            have h1 := a1 r hr
            have h2 : a r ≤ zw_s a m := by
              have := zw_s_le (f := fun i => if i = r then a r else 0) (g := a) m (fun i hi => by
                have := a1 i hi
                try dsimp only
                by_cases q : i = r
                · rw [if_pos q, q]
                  exact Int.le_refl _
                · rw [if_neg q]
                  omega)
              rw [zw_s_one, if_pos hr] at this
              exact this
            omega), Int.mul_one] at x2
          exact x2
        rw [zw_S_eq (M := 1) (x := δ) n (fun _ => 0) (fun v hv => by
          have := (zw_dt_i.mp hδ) v hv
          by_cases q : code v = 3
          · have := this.1 q
            omega
          · have := this.2 q
            omega)] at x1
        exact x1
      · rw [if_neg hji]
        refine Int.le_of_eq ?_
        refine (zw_S_cg (h := fun _ => 0) n _ (fun δ' => ?_)).trans (zw_S_0 n _)
        refine (zw_S_cg (h := fun _ => 0) m _ (fun a' => ?_)).trans (zw_S_0 m _)
        by_cases hδ' : zw_dt n code δ' = true
        · rw [if_pos hδ']
          by_cases ha' : zw_pt m K a' = true
          · rw [if_pos ha', if_neg]
            intro hc'
            have hc2 := zw_eq_i.mp hc'
            obtain ⟨u1, u2, -, u4⟩ := zw_uniq hg hc (hs j hj) (hs i hi) hδ' (zw_pt_i.mp ha').1 hδ a1 (fun r hr => (hc2 r hr).symm.trans (hcc r hr))
            exact hji (hd j i hj hi u1 u2 (fun r hr q => (u4 r hr q).1))
          · rw [if_neg ha']
        · rw [if_neg hδ']
    rw [zw_s_one, if_pos hi] at l1
    exact l1
  · refine Int.le_trans (Int.le_of_eq ?_) zw_i_nn
    rw [zw_s_cg (g := fun _ => 0) N, zw_s_0]
    intro i hi
    refine (zw_S_cg (h := fun _ => 0) n _ (fun δ => ?_)).trans (zw_S_0 n _)
    refine (zw_S_cg (h := fun _ => 0) m _ (fun a => ?_)).trans (zw_S_0 m _)
    by_cases hδ : zw_dt n code δ = true
    · rw [if_pos hδ]
      by_cases ha : zw_pt m K a = true
      · rw [if_pos ha, if_neg]
        exact fun hc' => q ⟨i, δ, a, hi, hδ, ha, hc'⟩
      · rw [if_neg ha]
    · rw [if_neg hδ]
