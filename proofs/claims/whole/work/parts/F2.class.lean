/-! ===== the wall: docks under givers' tenders and under takers' tenders ===== -/
theorem zw_sZ {f : Nat → Int} : ∀ n, zw_s f n = sZ f n
  | 0 => rfl
  | n + 1 => by
    show zw_s f n + f n = sZ f n + f n
    rw [zw_sZ n]
/-- 1 if d is on the way up from x, x too -/
noncomputable def zx_m (par : Nat → Nat) (d x : Nat) : Int := @ite Int (mv par d x) (Classical.propDecidable _) 1 0
theorem zx_m1 {par : Nat → Nat} {d x : Nat} (h : mv par d x) : zx_m par d x = 1 := by
  unfold zx_m
  exact if_pos h
theorem zx_m0 {par : Nat → Nat} {d x : Nat} (h : ¬ mv par d x) : zx_m par d x = 0 := by
  unfold zx_m
  exact if_neg h
theorem zx_m01 {par : Nat → Nat} {d x : Nat} : zx_m par d x = 0 ∨ zx_m par d x = 1 := by
  rcases Classical.em (mv par d x) with h | h
  · exact .inr (zx_m1 h)
  · exact .inl (zx_m0 h)
theorem zx_mx {par : Nat → Nat} {x : Nat} : zx_m par x x = 1 := zx_m1 ⟨0, rfl⟩
theorem zx_ms {n m : Nat} {bg en : Nat → Nat} {T : Nat → Prop} {up par rk : Nat → Nat} (hC : tc_r n m bg en T up par rk) {d x : Nat} (hx : x < n) : zx_m par d x = (if d = x then 1 else 0) + zx_m par d (par x) := by
  by_cases q : d = x
  · subst q
    rw [zx_mx, if_pos rfl, zx_m0 (fun ⟨t, ht⟩ => it_no hC hx t ht)]
    rfl
  · rw [if_neg q, Int.zero_add]
    rcases Classical.em (mv par d x) with h | h
    · rw [zx_m1 h, zx_m1]
      obtain ⟨t, ht⟩ := h
      cases t with
      | zero => exact absurd ht.symm q
      | succ t => exact ⟨t, ht⟩
    · rw [zx_m0 h, zx_m0]
      exact fun ⟨t, ht⟩ => h ⟨t + 1, ht⟩
/-- a price is the sum of what the ways up cost -/
theorem zx_path {n m : Nat} {bg en : Nat → Nat} {T : Nat → Prop} {up par rk : Nat → Nat} {c P : Nat → Int} (hC : tc_r n m bg en T up par rk) (hP : prI n bg c up par P) : ∀ (k x : Nat), rk x ≤ k → (x < n ∨ x = 8) → P x = zw_s (fun d => zx_m par d x * eC bg c (up d) d) n := by
  intro k
  have h8 : P 8 = zw_s (fun d => zx_m par d 8 * eC bg c (up d) d) n := by
    rw [hP.1, zw_s_cg (g := fun _ => 0) n, zw_s_0]
    intro d hd
    have hn := hC.1
    rw [zx_m0, Int.zero_mul]
    exact fun ⟨t, ht⟩ => by
      rw [it_8 hC.2.1] at ht
      omega
  induction k with
  | zero =>
    intro x hk hx
    rcases hx with hx | rfl
    · have := (hC.2.2.1 x hx).2.2.2.2
      omega
    · exact h8
  | succ k ih =>
    intro x hk hx
    rcases hx with hx | rfl
    · obtain ⟨-, -, -, h4, h5⟩ := hC.2.2.1 x hx
      have e : zw_s (fun d => zx_m par d x * eC bg c (up d) d) n = zw_s (fun d => (if d = x then eC bg c (up x) x else 0) + zx_m par d (par x) * eC bg c (up d) d) n := zw_s_cg n (fun d _ => by
        rw [zx_ms hC hx, Int.add_mul]
        congr 1
        by_cases q : d = x
        · rw [if_pos q, if_pos q, q, Int.one_mul]
        · rw [if_neg q, if_neg q, Int.zero_mul])
      rw [e, zw_s_add, zw_s_one, if_pos hx, ← ih (par x) (by omega) h4, hP.2 x hx]
      omega
    · exact h8
/-- routes cost nothing, tenders 1 -/
def zx_ci (r v : Nat) : Int := if v < r then 0 else 1
theorem zx_Qex {n r : Nat} {b0 e0 : Nat → Nat} {s : Nat → Int32} {up par rk dp : Nat → Nat} {pr : Nat → Int32} (c : Nat → Int) (hT : rT n r b0 e0 s up par rk dp pr) : ∃ Q, prI n (vb r b0 s) c up par Q := by
  obtain ⟨q, q1, q2⟩ := tc_rec (0 : Int) (fun d x => x + eC (vb r b0 s) c (up d) d) hT.1
  exact ⟨q, q1, q2⟩
section
variable {n r : Nat} {b0 e0 : Nat → Nat} {s : Nat → Int32} {up par rk : Nat → Nat}
theorem zx_upc (hg : gS n r b0 e0) (hC : tc_r n (r + n) (vb r b0 s) (ve r e0 s) (vT s) up par rk) {d : Nat} (hd : d < n) : (up d < r ∧ par d < n ∧ ((b0 (up d) = d ∧ e0 (up d) = par d) ∨ (e0 (up d) = d ∧ b0 (up d) = par d))) ∨ (up d = r + d ∧ par d = 8) := by
  have hn := hg.1
  obtain ⟨h1, -, h3, h4, -⟩ := hC.2.2.1 d hd
  by_cases q : up d < r
  · obtain ⟨g1, g2, g3⟩ := hg.2.2 _ q
    unfold tj vb ve at h3
    rw [if_pos q, if_pos q] at h3
    left
    rcases h3 with ⟨x, y⟩ | ⟨x, y⟩
    · exact ⟨q, by omega, .inl ⟨x, y⟩⟩
    · exact ⟨q, by omega, .inr ⟨x, y⟩⟩
  · obtain ⟨f, hf⟩ : ∃ f, up d = r + f := ⟨up d - r, by omega⟩
    right
    rw [hf] at h3
    unfold tj at h3
    rw [vb_t, ve_t] at h3
    by_cases q2 : s (42 + f) = 1
    · rw [if_pos q2, if_pos q2] at h3
      rcases h3 with ⟨x, y⟩ | ⟨x, y⟩
      · exact ⟨by omega, by omega⟩
      · omega
    · rw [if_neg q2, if_neg q2] at h3
      rcases h3 with ⟨x, y⟩ | ⟨x, y⟩
      · omega
      · exact ⟨by omega, by omega⟩
theorem zx_tend (hg : gS n r b0 e0) (hC : tc_r n (r + n) (vb r b0 s) (ve r e0 s) (vT s) up par rk) : ∀ (k d : Nat), rk d ≤ k → d < n → ∃ e, e < n ∧ up e = r + e
  | k, d, hk, hd => by
    rcases zx_upc hg hC hd with ⟨-, h2, -⟩ | ⟨h1, -⟩
    · have h5 := (hC.2.2.1 d hd).2.2.2.2
      cases k with
      | zero => omega
      | succ k => exact zx_tend hg hC k (par d) (by omega) h2
    · exact ⟨d, hd, h1⟩
theorem zx_Q1 {Q : Nat → Int} (hg : gS n r b0 e0) (hC : tc_r n (r + n) (vb r b0 s) (ve r e0 s) (vT s) up par rk) (hQ : prI n (vb r b0 s) (zx_ci r) up par Q) : ∀ (k d : Nat), rk d ≤ k → d < n → Q d = 1 ∨ Q d = -1
  | k, d, hk, hd => by
    have e := hQ.2 d hd
    rcases zx_upc hg hC hd with ⟨h1, h2, -⟩ | ⟨h1, h2⟩
    · have h5 := (hC.2.2.1 d hd).2.2.2.2
      cases k with
      | zero => omega
      | succ k =>
        have ih := zx_Q1 hg hC hQ k (par d) (by omega) h2
        unfold eC zx_ci at e
        rw [if_pos h1] at e
        split at e <;> omega
    · rw [h2, hQ.1] at e
      unfold eC zx_ci at e
      rw [if_neg (show ¬ up d < r by omega)] at e
      split at e <;> omega
theorem zx_Qd {Q : Nat → Int} (hg : gS n r b0 e0) (hC : tc_r n (r + n) (vb r b0 s) (ve r e0 s) (vT s) up par rk) (hQ : prI n (vb r b0 s) (zx_ci r) up par Q) {d : Nat} (hd : d < n) : Q d = 1 ∨ Q d = -1 := zx_Q1 hg hC hQ _ d (Nat.le_refl _) hd
theorem zx_prl {bg : Nat → Nat} {c c' P P' : Nat → Int} {x : Int} (h : prI n bg c up par P) (h' : prI n bg c' up par P') : prI n bg (fun v => c v - x * c' v) up par (fun p => P p - x * P' p) := by
  refine ⟨?_, fun d hd => ?_⟩
  · show P 8 - x * P' 8 = 0
    rw [h.1, h'.1, Int.mul_zero]
    rfl
  · show P d - x * P' d = P (par d) - x * P' (par d) + _
    rw [h.2 d hd, h'.2 d hd, Int.mul_add]
    unfold eC
    dsimp only
    split
    · rw [Int.mul_neg]
      omega
    · omega
/-- prices of docks differ by what seven routes cost at most, but for the tenders -/
theorem zx_P0 {c P : Nat → Int} (hg : gS n r b0 e0) (hC : tc_r n (r + n) (vb r b0 s) (ve r e0 s) (vT s) up par rk) (hP : prI n (vb r b0 s) c up par P) (hc : ∀ v, v < r → 0 ≤ c v ∧ c v ≤ 999) (h0 : ∀ v, r ≤ v → c v = 0) {x y : Nat} (hx : x < n ∨ x = 8) (hy : y < n ∨ y = 8) : P x - P y ≤ 6993 := by
  have hn := hg.1
  rw [zx_path hC hP _ x (Nat.le_refl _) hx, zx_path hC hP _ y (Nat.le_refl _) hy, ← zw_s_sub]
  have bd : ∀ d, d < n → zx_m par d x * eC (vb r b0 s) c (up d) d - zx_m par d y * eC (vb r b0 s) c (up d) d ≤ if up d < r then 999 else 0 := fun d hd => by
    rw [← Int.sub_mul]
    have e1 : -999 ≤ eC (vb r b0 s) c (up d) d ∧ eC (vb r b0 s) c (up d) d ≤ 999 ∧ (¬ up d < r → eC (vb r b0 s) c (up d) d = 0) := by
      unfold eC
      by_cases q : up d < r
      · have := hc _ q
        split <;> omega
      · rw [h0 _ (by omega)]
        split <;> omega
    generalize eC (vb r b0 s) c (up d) d = E at *
    rcases zx_m01 (par := par) (d := d) (x := x) with a | a <;> rcases zx_m01 (par := par) (d := d) (x := y) with b | b <;> rw [a, b]
    · rw [Int.sub_self, Int.zero_mul]
      split <;> omega
    · rw [show (0 : Int) - 1 = -1 by decide, Int.neg_mul, Int.one_mul]
      split <;> omega
    · rw [show (1 : Int) - 0 = 1 by decide, Int.one_mul]
      split <;> omega
    · rw [Int.sub_self, Int.zero_mul]
      split <;> omega
  refine Int.le_trans (zw_s_le n bd) ?_
  by_cases q : n = 0
  · subst q
    show (0 : Int) ≤ _
    decide
  · obtain ⟨e, he, hue⟩ := zx_tend hg hC _ 0 (Nat.le_refl _) (by omega)
    have h1 : zw_s (fun d => if up d < r then (999 : Int) else 0) n ≤ zw_s (fun d => 999 - (if d = e then 999 else 0)) n := zw_s_le n (fun d hd => by
      try dsimp only
      by_cases x : d = e
      · subst x
        rw [if_neg (by omega), if_pos rfl]
        decide
      · rw [if_neg x]
        split <;> omega)
    rw [zw_s_sub, zw_s_c, zw_s_one, if_pos he] at h1
    omega
end
/-- the gain of a way, by the classes of its ends -/
theorem zx_vgr {n r : Nat} {b0 e0 : Nat → Nat} {s : Nat → Int32} {up par rk dp : Nat → Nat} {pr : Nat → Int32} {Q : Nat → Int} (hg : gS n r b0 e0) (hP : rP n r b0 e0 s) (hT : rT n r b0 e0 s up par rk dp pr) (hQ : prI n (vb r b0 s) (zx_ci r) up par Q) {w : Nat} (hw : w < r + n) :
    -7992 ≤ (vg r b0 e0 s pr w).toInt - 10000 * (zx_ci r w + Q (vb r b0 s w) - Q (ve r e0 s w)) ∧ (vg r b0 e0 s pr w).toInt - 10000 * (zx_ci r w + Q (vb r b0 s w) - Q (ve r e0 s w)) ≤ 7992 ∧ (rG r b0 e0 s pr w).toInt = if 0 ≤ (vg r b0 e0 s pr w).toInt then (vg r b0 e0 s pr w).toInt else - (vg r b0 e0 s pr w).toInt := by
  have hn := hg.1
  have hC := hT.1.1
  have hc := hP.2.2.2.2.2.1
  obtain ⟨v0, v1, v2⟩ := vg_bd hg hT hc hw
  obtain ⟨σr, hS⟩ := gS_r hg
  have hPI := pI_rec hn hT hc
  have hP0 := zx_prl (x := 10000) hPI hQ
  have c1 : ∀ v, v < r → 0 ≤ (vc r s v).toInt ∧ (vc r s v).toInt ≤ 999 := fun v hv => by
    obtain ⟨c, h1, h2⟩ := hc v hv
    unfold vc
    rw [if_pos hv, h2, nI_toInt (by omega)]
    omega
  have c2 : ∀ v, r ≤ v → (vc r s v).toInt = 10000 := fun v hv => by
    unfold vc
    rw [if_neg (by omega)]
    decide
  have bd := fun x y => zx_P0 (x := x) (y := y) hg hC hP0 (fun v hv => by
    have := c1 v hv
    unfold zx_ci
    rw [if_pos hv]
    omega) (fun v hv => by
    have := c2 v hv
    unfold zx_ci
    rw [if_neg (by omega)]
    omega)
  try dsimp only at bd
  have d1 := bd _ _ (vb_pl (s := s) hS hw) (ve_pl (s := s) hS hw)
  have d2 := bd _ _ (ve_pl (s := s) hS hw) (vb_pl (s := s) hS hw)
  refine ⟨?_, ?_, zI_bd v1 v2⟩
  · by_cases q : w < r
    · have := c1 w q
      unfold zx_ci
      rw [if_pos q]
      omega
    · have := c2 w (by omega)
      unfold zx_ci
      rw [if_neg q]
      omega
  · by_cases q : w < r
    · have := c1 w q
      unfold zx_ci
      rw [if_pos q]
      omega
    · have := c2 w (by omega)
      unfold zx_ci
      rw [if_neg q]
      omega
theorem zx_vG {r : Nat} {b0 e0 : Nat → Nat} {s : Nat → Int32} {pr : Nat → Int32} {w : Nat} : vG r b0 e0 s pr w = true ↔ (s (74 + w) = 1 ∧ (vg r b0 e0 s pr w).toInt < 0) ∨ (s (74 + w) = 2 ∧ 0 < (vg r b0 e0 s pr w).toInt) := by
  have e0 : (0 : Int32).toInt = 0 := by decide
  unfold vG
  rw [Bool.or_eq_true_iff, Bool.and_eq_true_iff, Bool.and_eq_true_iff, decide_eq_true_iff, decide_eq_true_iff, i32_lt_iff, i32_lt_iff, e0, beq_iff_eq, beq_iff_eq]
/-- a good way: between the classes and large, or within one and small -/
theorem zx_gain {n r : Nat} {b0 e0 : Nat → Nat} {s : Nat → Int32} {up par rk dp : Nat → Nat} {pr : Nat → Int32} {Q : Nat → Int} (hg : gS n r b0 e0) (hP : rP n r b0 e0 s) (hT : rT n r b0 e0 s up par rk dp pr) (hf2 : ∀ d, d < n → s (74 + (r + d)) ≠ 2) (hQ : prI n (vb r b0 s) (zx_ci r) up par Q) {w : Nat} (hw : w < r + n) (hG : vG r b0 e0 s pr w = true) :
    (w < r ∧ Q (b0 w) ≠ Q (e0 w) ∧ 12008 ≤ (rG r b0 e0 s pr w).toInt ∧ zx_co r b0 e0 s w (zx_ci r) Q = -2) ∨ ((w < r → Q (b0 w) = Q (e0 w)) ∧ (rG r b0 e0 s pr w).toInt ≤ 7992 ∧ zx_co r b0 e0 s w (zx_ci r) Q = 0) := by
  have hC := hT.1.1
  obtain ⟨v1, v2, hz⟩ := zx_vgr hg hP hT hQ hw
  have hst := zx_vG.mp hG
  rw [hz]
  by_cases q : w < r
  · obtain ⟨g1, g2, g3⟩ := hg.2.2 w q
    have q1 := zx_Qd hg hC hQ g1
    have q2 := zx_Qd hg hC hQ g2
    have eb : vb r b0 s w = b0 w := if_pos q
    have ee : ve r e0 s w = e0 w := if_pos q
    have ec : zx_ci r w = 0 := if_pos q
    unfold zx_co
    rw [eb, ee, ec] at v1 v2 ⊢
    by_cases x : Q (b0 w) = Q (e0 w)
    · right
      refine ⟨fun _ => x, ?_, ?_⟩
      · split <;> omega
      · rw [x]
        split <;> omega
    · left
      refine ⟨q, x, ?_, ?_⟩
      · split <;> omega
      · rcases hst with ⟨y1, y2⟩ | ⟨y1, y2⟩
        · rw [if_pos y1]
          omega
        · rw [if_neg (by rw [y1]; decide)]
          omega
  · obtain ⟨d, rfl⟩ : ∃ d, w = r + d := ⟨w - r, by omega⟩
    have hd : d < n := by omega
    have q1 := zx_Qd hg hC hQ hd
    have q8 := hQ.1
    have y0 := hf2 d hd
    have ec : zx_ci r (r + d) = 1 := if_neg q
    rcases hst with ⟨y1, y2⟩ | ⟨y1, y2⟩
    · right
      unfold zx_co
      rw [vb_t, ve_t, ec] at v1 v2 ⊢
      rw [if_pos y1]
      refine ⟨fun z => absurd z q, ?_, ?_⟩
      · by_cases z : s (42 + d) = 1
        · rw [if_pos z, if_pos z] at v1 v2
          split <;> omega
        · rw [if_neg z, if_neg z] at v1 v2
          split <;> omega
      · by_cases z : s (42 + d) = 1
        · rw [if_pos z, if_pos z] at v1 v2 ⊢
          omega
        · rw [if_neg z, if_neg z] at v1 v2 ⊢
          omega
    · exact absurd y1 y0
/-- the way w goes from P to N and is EMPTY, or from N to P and is FULL -/
def zx_cg (b0 e0 : Nat → Nat) (s : Nat → Int32) (Q : Nat → Int) (w : Nat) : Prop := (s (74 + w) = 1 ∧ Q (b0 w) = -1 ∧ Q (e0 w) = 1) ∨ (s (74 + w) = 2 ∧ Q (b0 w) = 1 ∧ Q (e0 w) = -1)
theorem zx_good {n r : Nat} {b0 e0 : Nat → Nat} {s : Nat → Int32} {up par rk dp : Nat → Nat} {pr : Nat → Int32} {Q : Nat → Int} (hg : gS n r b0 e0) (hP : rP n r b0 e0 s) (hT : rT n r b0 e0 s up par rk dp pr) (hQ : prI n (vb r b0 s) (zx_ci r) up par Q) {w : Nat} (hw : w < r) (h : zx_cg b0 e0 s Q w) : vG r b0 e0 s pr w = true ∧ 12008 ≤ (rG r b0 e0 s pr w).toInt := by
  obtain ⟨v1, v2, hz⟩ := zx_vgr hg hP hT hQ (show w < r + n by omega)
  have eb : vb r b0 s w = b0 w := if_pos hw
  have ee : ve r e0 s w = e0 w := if_pos hw
  have ec : zx_ci r w = 0 := if_pos hw
  rw [eb, ee, ec] at v1 v2
  rw [hz, zx_vG]
  rcases h with ⟨h1, h2, h3⟩ | ⟨h1, h2, h3⟩
  · rw [h2, h3] at v1 v2
    refine ⟨.inl ⟨h1, by omega⟩, ?_⟩
    split <;> omega
  · rw [h2, h3] at v1 v2
    refine ⟨.inr ⟨h1, by omega⟩, ?_⟩
    split <;> omega
theorem zx_cg_of {n r : Nat} {b0 e0 : Nat → Nat} {s : Nat → Int32} {up par rk : Nat → Nat} {Q : Nat → Int} (hg : gS n r b0 e0) (hC : tc_r n (r + n) (vb r b0 s) (ve r e0 s) (vT s) up par rk) (hQ : prI n (vb r b0 s) (zx_ci r) up par Q) {w : Nat} (hw : w < r) (hl : s (74 + w) = 1 ∨ s (74 + w) = 2) (h : zx_co r b0 e0 s w (zx_ci r) Q = -2) : zx_cg b0 e0 s Q w := by
  obtain ⟨g1, g2, g3⟩ := hg.2.2 w hw
  have q1 := zx_Qd hg hC hQ g1
  have q2 := zx_Qd hg hC hQ g2
  unfold zx_co at h
  have eb : vb r b0 s w = b0 w := if_pos hw
  have ee : ve r e0 s w = e0 w := if_pos hw
  have ec : zx_ci r w = 0 := if_pos hw
  rw [eb, ee, ec] at h
  unfold zx_cg
  rcases hl with x | x
  · rw [if_pos x] at h
    exact .inl ⟨x, by omega, by omega⟩
  · rw [if_neg (by rw [x]; decide)] at h
    exact .inr ⟨x, by omega, by omega⟩
/-- a way between the classes isn't in the tree -/
theorem zx_cT {n r : Nat} {b0 e0 : Nat → Nat} {s : Nat → Int32} {up par rk : Nat → Nat} {Q : Nat → Int} (hg : gS n r b0 e0) (hC : tc_r n (r + n) (vb r b0 s) (ve r e0 s) (vT s) up par rk) (hQ : prI n (vb r b0 s) (zx_ci r) up par Q) {w : Nat} (hw : w < r) (h : vT s w) : Q (b0 w) = Q (e0 w) := by
  obtain ⟨d, hd, rfl⟩ := hC.2.2.2 w (by omega) h
  have e := hQ.2 d hd
  have ec : ∀ d', eC (vb r b0 s) (zx_ci r) (up d) d' = 0 := fun d' => by
    unfold eC zx_ci
    rw [if_pos hw]
    split <;> rfl
  rw [ec] at e
  rcases zx_upc hg hC hd with ⟨-, -, ⟨x, y⟩ | ⟨x, y⟩⟩ | ⟨x, -⟩
  · rw [x, y]
    omega
  · rw [x, y]
    omega
  · omega
