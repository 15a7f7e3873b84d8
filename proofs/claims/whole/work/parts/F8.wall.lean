/-! ===== the wall ===== -/
section
variable {n r : Nat} {b0 e0 : Nat → Nat}
theorem zx_same {x y : zx_T} {w : Nat} (h : zx_R n r b0 e0 x y w) : (∀ q, q < 41 → y.1 q = x.1 q) ∧ ∀ q, 42 ≤ q → q < 50 → y.1 q = x.1 q := by
  obtain ⟨s, up, par, rk, dp, pr⟩ := x
  obtain ⟨s', up2, par2, rk2, dp2, pr2⟩ := y
  obtain ⟨b, p, a, i, j, lv, -, -, -, -, -, -, -, -, -, -, -, -, -, -, hR, -⟩ := h
  exact ⟨hR.1, hR.2.2.1⟩
theorem zx_ch_c {f : Nat → zx_T} {N : Nat} (h : zx_ch n r b0 e0 f N) : ∀ i, i ≤ N → (∀ q, q < 41 → (f i).1 q = (f 0).1 q) ∧ ∀ q, 42 ≤ q → q < 50 → (f i).1 q = (f 0).1 q
  | 0, _ => ⟨fun _ _ => rfl, fun _ _ _ => rfl⟩
  | i + 1, hi => by
    obtain ⟨⟨w, hR⟩, -⟩ := h.2 i (by omega)
    obtain ⟨a, b⟩ := zx_same hR
    obtain ⟨c, d⟩ := zx_ch_c h i (by omega)
    exact ⟨fun q hq => (a q hq).trans (c q hq), fun q h1 h2 => (b q h1 h2).trans (d q h1 h2)⟩
theorem zx_vbc {s s' : Nat → Int32} (hn : n ≤ 8) (hr : r ≤ 16) (h1 : ∀ q, q < 41 → s' q = s q) (h2 : ∀ q, 42 ≤ q → q < 50 → s' q = s q) {w : Nat} (hw : w < r + n) : vb r b0 s' w = vb r b0 s w ∧ ve r e0 s' w = ve r e0 s w ∧ vc r s' w = vc r s w := by
  unfold vb ve vc
  by_cases q : w < r
  · rw [if_pos q, if_pos q, if_pos q, if_pos q, if_pos q, if_pos q, h1 (8 + w) (by omega)]
    exact ⟨rfl, rfl, rfl⟩
  · rw [if_neg q, if_neg q, if_neg q, if_neg q, if_neg q, if_neg q, h2 (42 + (w - r)) (by omega) (by omega)]
    exact ⟨rfl, rfl, rfl⟩
/-- what comes out of a dock stays -/
def zx_nt (n r : Nat) (b0 e0 : Nat → Nat) (s : Nat → Int32) (v : Nat) : Int := zC (r + n) (fun w => zw_nb (vb r b0 s) (ve r e0 s) v w) s
theorem zx_net {x y : zx_T} {w v : Nat} (hg : gS n r b0 e0) (hx : zx_ok n r b0 e0 x) (hR : zx_R n r b0 e0 x y w) (hv : v < n) : zx_nt n r b0 e0 y.1 v = zx_nt n r b0 e0 x.1 v := by
  obtain ⟨s, up, par, rk, dp, pr⟩ := x
  obtain ⟨s', up2, par2, rk2, dp2, pr2⟩ := y
  obtain ⟨σr, hS⟩ := gS_r hg
  obtain ⟨eqs, -, -, hC, hC2, hw, -, -, -, ld, hz, -⟩ := zx_pure hg hx hR
  have h := hz _ _ _ (zx_nP hC hv) (zx_nP hC2 hv)
  have h0 : zx_co r b0 e0 s w (fun w => zw_nb (vb r b0 s) (ve r e0 s) v w) (fun d => if d = v then -1 else 0) = 0 := by
    unfold zx_co zw_nb
    try dsimp only
    have e : (if vb r b0 s w = v then (1 : Int) else 0) - (if ve r e0 s w = v then 1 else 0) + (if vb r b0 s w = v then -1 else 0) - (if ve r e0 s w = v then -1 else 0) = 0 := by
      split <;> split <;> rfl
    rw [e]
    split <;> rfl
  rw [h0, Int.mul_zero, Int.add_zero] at h
  unfold zx_nt
  show zC (r + n) (fun w => zw_nb (vb r b0 s') (ve r e0 s') v w) s' = zC (r + n) (fun w => zw_nb (vb r b0 s) (ve r e0 s) v w) s
  rw [← h]
  unfold zC
  refine sZ_cg _ (fun u hu => ?_)
  unfold zw_nb
  try dsimp only
  rw [(eqs u hu).1, (eqs u hu).2.1]
theorem zx_ch_n {f : Nat → zx_T} {N : Nat} (hg : gS n r b0 e0) (h : zx_ch n r b0 e0 f N) {v : Nat} (hv : v < n) : ∀ i, i ≤ N → zx_nt n r b0 e0 (f i).1 v = zx_nt n r b0 e0 (f 0).1 v
  | 0, _ => rfl
  | i + 1, hi => by
    obtain ⟨⟨w, hR⟩, -⟩ := h.2 i (by omega)
    rw [zx_net hg (h.1 i (by omega)) hR hv]
    exact zx_ch_n hg h hv i (by omega)
theorem zx_ch_psi {f : Nat → zx_T} {N : Nat} (h : zx_ch n r b0 e0 f N) (i : Nat) : ∀ k, i + k ≤ N → zx_psi n r b0 e0 (f (i + k)) + k ≤ zx_psi n r b0 e0 (f i)
  | 0, _ => by
    show zx_psi n r b0 e0 (f i) + 0 ≤ _
    omega
  | k + 1, hk => by
    have h1 := (h.2 (i + k) (by omega)).2
    have h2 := zx_ch_psi h i k (by omega)
    have h1' : zx_psi n r b0 e0 (f (i + (k + 1))) < zx_psi n r b0 e0 (f (i + k)) := h1
    omega
/-- tenders' side of the sum over all ways -/
theorem zx_ntx {s : Nat → Int32} {v : Nat} (hg : gS n r b0 e0) (hv : v < n) : zx_nt n r b0 e0 s v = zw_s (fun w => zw_nb b0 e0 v w * (fl s w : Int)) r + (if s (42 + v) = 1 then 1 else -1) * (fl s (r + v) : Int) := by
  have hn := hg.1
  unfold zx_nt zC
  rw [← zw_sZ, zw_s_ap]
  congr 1
  · refine zw_s_cg r (fun w hw => ?_)
    unfold zw_nb vb ve
    try dsimp only
    rw [if_pos hw, if_pos hw]
  · have e3 : zw_s (fun d => zw_nb (vb r b0 s) (ve r e0 s) v (r + d) * (fl s (r + d) : Int)) n = zw_s (fun d => if d = v then (if s (42 + v) = 1 then 1 else -1) * (fl s (r + v) : Int) else 0) n := zw_s_cg n (fun d hd => by
      unfold zw_nb
      rw [vb_t, ve_t]
      by_cases q : d = v
      · rw [if_pos q, q]
        by_cases q2 : s (42 + v) = 1
        · rw [if_pos q2, if_pos q2, if_pos rfl, if_neg (by omega), if_pos q2]
          rfl
        · rw [if_neg q2, if_neg q2, if_neg (by omega), if_pos rfl, if_neg q2]
          rfl
      · rw [if_neg q]
        by_cases q2 : s (42 + d) = 1
        · rw [if_pos q2, if_pos q2, if_neg q, if_neg (by omega), Int.sub_zero, Int.zero_mul]
        · rw [if_neg q2, if_neg q2, if_neg (by omega), if_neg q, Int.sub_zero, Int.zero_mul])
    rw [e3, zw_s_one, if_pos hv]
theorem zx_L {s : Nat → Int32} : zC (r + n) (zx_ci r) s = zw_s (fun d => (fl s (r + d) : Int)) n := by
  unfold zC
  rw [← zw_sZ, zw_s_ap]
  have e1 : zw_s (fun v => zx_ci r v * (fl s v : Int)) r = 0 := by
    rw [zw_s_cg (g := fun _ => 0) r (fun v hv => by
      unfold zx_ci
      rw [if_pos hv, Int.zero_mul]), zw_s_0]
  rw [e1, Int.zero_add]
  refine zw_s_cg n (fun d _ => ?_)
  unfold zx_ci
  rw [if_neg (by omega), Int.one_mul]
/-- the class's potential, by the psi of both rows: one tree, one set of labels, one value -/
theorem zx_prT {bg en bg' en' : Nat → Nat} {T T' : Nat → Prop} {up par rk up' par' rk' : Nat → Nat} {c c' P P' : Nat → Int} {m : Nat} (hC : tc_r n m bg en T up par rk) (hC' : tc_r n m bg' en' T' up' par' rk') (hT : ∀ w, w < m → (T w ↔ T' w)) (hb : ∀ w, w < m → bg' w = bg w ∧ en' w = en w ∧ c' w = c w) (hP : prI n bg c up par P) (hP' : prI n bg' c' up' par' P') : ∀ d, (d < n ∨ d = 8) → P' d = P d := by
  have hQ : prI n bg c up par P' := by
    refine ⟨hP'.1, fun d hd => ?_⟩
    obtain ⟨h1, h2, h3, h4, h5⟩ := hC.2.2.1 d hd
    obtain ⟨d', hd', e⟩ := hC'.2.2.2 (up d) h1 ((hT _ h1).mp h2)
    obtain ⟨k1, k2, k3, k4, k5⟩ := hC'.2.2.1 d' hd'
    obtain ⟨b1, b2, b3⟩ := hb _ h1
    have h6 := hP'.2 d' hd'
    rw [e] at k3 h6
    unfold tj at h3 k3
    rw [b1, b2] at k3
    unfold eC at h6 ⊢
    rw [b1, b3] at h6
    have hne : d ≠ par d := fun x => by
      rw [← x] at h5
      omega
    have hne' : d' ≠ par' d' := fun x => by
      rw [← x] at k5
      omega
    rcases (show (d' = d ∧ par' d' = par d) ∨ (d' = par d ∧ par' d' = d) by omega) with ⟨x, y⟩ | ⟨x, y⟩
    · rw [x] at h6
      rw [x] at y
      rw [y] at h6
      exact h6
    · rw [y, x] at h6
      by_cases q : bg (up d) = d
      · rw [if_pos q]
        rw [if_neg (by omega)] at h6
        omega
      · rw [if_neg q]
        rw [if_pos (by omega)] at h6
        omega
  exact fun d hd => pr_un hC hP hQ (rk d) d (Nat.le_refl _) hd
theorem zx_g0 {m : Nat} {bg en : Nat → Nat} {T : Nat → Prop} {up par rk : Nat → Nat} {c P : Nat → Int} {w : Nat} (hC : tc_r n m bg en T up par rk) (hP : prI n bg c up par P) (hw : w < m) (h : T w) : c w + P (bg w) - P (en w) = 0 := by
  obtain ⟨d, hd, rfl⟩ := hC.2.2.2 w hw h
  obtain ⟨-, -, h3, -, h5⟩ := hC.2.2.1 d hd
  have h6 := hP.2 d hd
  have hne : d ≠ par d := fun x => by
    rw [← x] at h5
    omega
  unfold tj at h3
  unfold eC at h6
  rcases h3 with ⟨x, y⟩ | ⟨x, y⟩
  · rw [if_pos x] at h6
    rw [x, y]
    omega
  · rw [if_neg (by omega)] at h6
    rw [x, y]
    omega
end
section
variable {n r : Nat} {b0 e0 : Nat → Nat}
/-- prices as numbers, of a row -/
theorem zx_pI {s : Nat → Int32} {up par rk dp : Nat → Nat} {pr : Nat → Int32} (hg : gS n r b0 e0) (hO : zx_ok n r b0 e0 (s, up, par, rk, dp, pr)) : prI n (vb r b0 s) (fun v => (vc r s v).toInt) up par (fun p => (pr p).toInt) := pI_rec hg.1 hO.2.2.2.1 hO.1.2.2.2.2.2.1
/-- ps1 by any prices -/
theorem zx_ps1 {s : Nat → Int32} {up par rk dp : Nat → Nat} {pr : Nat → Int32} {P : Nat → Int} (hg : gS n r b0 e0) (hO : zx_ok n r b0 e0 (s, up, par, rk, dp, pr)) (h8 : P 8 = 0) : ps1 n r s pr = zw_s (fun w => ((vc r s w).toInt + P (vb r b0 s w) - P (ve r e0 s w)) * zx_X n r b0 s up par w) (r + n) - zw_s (fun v => P v * (9 * zx_nt n r b0 e0 s v + 1)) n := by
  have hC := hO.2.2.2.1.1.1
  have h1 := zx_Xc (s := s) hC (zx_pI hg hO)
  have h2 := zx_Xg (s := s) (up := up) (par := par) (c := fun w => (vc r s w).toInt) hg h8
  have h3 : zw_s (fun v => P v * zw_s (fun w => zw_nb (vb r b0 s) (ve r e0 s) v w * zx_X n r b0 s up par w) (r + n)) n = zw_s (fun v => P v * (9 * zx_nt n r b0 e0 s v + 1)) n := zw_s_cg n (fun v hv => by
    rw [zx_Xn hC hv]
    rfl)
  rw [h3] at h2
  have h4 : zw_s (fun p => (pr p).toInt) n = sZ (fun d => (pr d).toInt) n := zw_sZ n
  unfold ps1 zR
  rw [h4] at h1
  try dsimp only at h1 h2
  rw [h2, h1]
  omega
/-- one tree, one set of labels: one value -/
theorem zx_psiq {s s' : Nat → Int32} {up par rk dp up' par' rk' dp' : Nat → Nat} {pr pr' : Nat → Int32} (hg : gS n r b0 e0) (hO : zx_ok n r b0 e0 (s, up, par, rk, dp, pr)) (hO' : zx_ok n r b0 e0 (s', up', par', rk', dp', pr')) (h1 : ∀ q, q < 41 → s' q = s q) (h2 : ∀ q, 42 ≤ q → q < 50 → s' q = s q) (hnt : ∀ v, v < n → zx_nt n r b0 e0 s' v = zx_nt n r b0 e0 s v) (hlb : ∀ w, w < r + n → s' (74 + w) = s (74 + w)) : psi n r b0 e0 s' pr' = psi n r b0 e0 s pr := by
  have hn := hg.1
  have hr := hg.2.1
  have hC := hO.2.2.2.1.1.1
  have hC' := hO'.2.2.2.1.1.1
  have hP := hO.1
  have hP' := hO'.1
  have hf := hO.2.1
  have hf' := hO'.2.1
  have eqs := fun w (hw : w < r + n) => zx_vbc (b0 := b0) (e0 := e0) hn hr h1 h2 hw
  have hT : ∀ w, w < r + n → (vT s w ↔ vT s' w) := fun w hw => by
    unfold vT
    rw [hlb w hw]
  have hI := zx_pI hg hO
  have hI' := zx_pI hg hO'
  have hpr : ∀ d, (d < n ∨ d = 8) → (pr' d).toInt = (pr d).toInt := zx_prT hC hC' hT (fun w hw => ⟨(eqs w hw).1, (eqs w hw).2.1, by rw [(eqs w hw).2.2]⟩) hI hI'
  have hhl : ∀ v, v < r → hl s' v = hl s v := fun v hv => by
    unfold hl
    rw [h1 (24 + v) (by omega)]
  obtain ⟨σr, hS⟩ := gS_r hg
  -- ps1
  have e1 : ps1 n r s' pr' = ps1 n r s pr := by
    rw [zx_ps1 (P := fun p => (pr p).toInt) hg hO hI.1, zx_ps1 (P := fun p => (pr p).toInt) hg hO' hI.1]
    congr 1
    · refine zw_s_cg _ (fun w hw => ?_)
      try dsimp only
      rw [(eqs w hw).1, (eqs w hw).2.1, (eqs w hw).2.2]
      by_cases q : vT s w
      · have := zx_g0 hC hI hw q
        try dsimp only at this
        rw [this, Int.zero_mul, Int.zero_mul]
      · have q' : ¬ vT s' w := fun x => q ((hT w hw).mpr x)
        congr 1
        rw [zx_X0 hC q, zx_X0 hC' q']
        by_cases x : w < r
        · obtain ⟨a1, a2, -⟩ := zx_lab hf x
          obtain ⟨c1, c2, -⟩ := zx_lab hf' x
          rcases zx_l12 hP hw q with y | y
          · rw [a1 y, c1 (by rw [hlb w hw]; exact y)]
          · rw [a2 y, c2 (by rw [hlb w hw]; exact y), hhl w x]
        · obtain ⟨d, rfl⟩ : ∃ d, w = r + d := ⟨w - r, by omega⟩
          rw [zx_t0 hP hf (by omega) q, zx_t0 hP' hf' (by omega) q']
    · refine zw_s_cg n (fun v hv => ?_)
      try dsimp only
      rw [hnt v hv]
  have e2 : ps2 r b0 e0 s' pr' = ps2 r b0 e0 s pr := by
    unfold ps2
    refine ct_cg r (fun v hv => ?_)
    obtain ⟨g1, g2, -⟩ := hg.2.2 v hv
    have ev : vg r b0 e0 s' pr' v = vg r b0 e0 s pr v := by
      unfold vg
      obtain ⟨x1, x2, x3⟩ := eqs v (by omega)
      rw [x1, x2, x3]
      have y1 : vb r b0 s v = b0 v := if_pos hv
      have y2 : ve r e0 s v = e0 v := if_pos hv
      rw [y1, y2, Int32.toInt_inj.mp (hpr _ (.inl g1)), Int32.toInt_inj.mp (hpr _ (.inl g2))]
    unfold vG
    rw [ev, hlb v (by omega), hhl v hv]
  unfold psi
  rw [e1, e2]
/-- no route is good at prices of 10000 and -10000 alone: nothing can fall -/
theorem zx_lo {s : Nat → Int32} {up par rk dp : Nat → Nat} {pr : Nat → Int32} {Q : Nat → Int} (hg : gS n r b0 e0) (hO : zx_ok n r b0 e0 (s, up, par, rk, dp, pr)) (h8 : Q 8 = 0) (hw : ∀ w, w < r → Q (b0 w) = Q (e0 w) ∨ hl s w = 0) (ht : ∀ v, v < n → Q v = if s (42 + v) = 1 then -1 else 1) :
    - zw_s (fun v => 10000 * Q v * (9 * zx_nt n r b0 e0 s v + 1)) n ≤ ps1 n r s pr ∧ ((∀ w, w < r → ¬ vT s w ∧ fl s w = 0) → ps1 n r s pr = - zw_s (fun v => 10000 * Q v * (9 * zx_nt n r b0 e0 s v + 1)) n) := by
  have hn := hg.1
  have hC := hO.2.2.2.1.1.1
  have hf := hO.2.1
  have hsf := hO.2.2.2.2
  have hc := hO.1.2.2.2.2.2.1
  have h := zx_ps1 (P := fun v => 10000 * Q v) hg hO (by
    try dsimp only
    rw [h8]
    rfl)
  try dsimp only at h
  have tend : ∀ d, d < n → (vc r s (r + d)).toInt + 10000 * Q (vb r b0 s (r + d)) - 10000 * Q (ve r e0 s (r + d)) = 0 := fun d hd => by
    have e1 : (vc r s (r + d)).toInt = 10000 := by
      unfold vc
      rw [if_neg (by omega)]
      decide
    have e2 := ht d hd
    rw [e1, vb_t, ve_t]
    by_cases q : s (42 + d) = 1
    · rw [if_pos q] at e2
      rw [if_pos q, if_pos q, e2, h8]
      decide
    · rw [if_neg q] at e2
      rw [if_neg q, if_neg q, e2, h8]
      decide
  have rt : ∀ w, w < r → 0 ≤ zx_X n r b0 s up par w ∧ (hl s w = 0 → zx_X n r b0 s up par w = 0) := fun w hw => by
    by_cases q : vT s w
    · obtain ⟨d, hd, e⟩ := hC.2.2.2 w (by omega) q
      obtain ⟨a, b⟩ := zx_Xt hg hC hf hsf hd
      rw [e] at a b
      have b := b hw
      exact ⟨by omega, fun x => by omega⟩
    · rw [zx_X0 hC q]
      have := (zx_lab hf hw).2.2.1
      exact ⟨by omega, fun x => by omega⟩
  have hbe : ∀ w, w < r → vb r b0 s w = b0 w ∧ ve r e0 s w = e0 w := fun w hw => ⟨if_pos hw, if_pos hw⟩
  have sp : zw_s (fun w => ((vc r s w).toInt + 10000 * Q (vb r b0 s w) - 10000 * Q (ve r e0 s w)) * zx_X n r b0 s up par w) (r + n) = zw_s (fun w => ((vc r s w).toInt + 10000 * Q (vb r b0 s w) - 10000 * Q (ve r e0 s w)) * zx_X n r b0 s up par w) r := by
    rw [zw_s_ap, zw_s_cg (g := fun _ => 0) n (fun d hd => by
      rw [tend d hd, Int.zero_mul]), zw_s_0, Int.add_zero]
  rw [sp] at h
  refine ⟨?_, fun hz => ?_⟩
  · have := zw_s_nn (f := fun w => ((vc r s w).toInt + 10000 * Q (vb r b0 s w) - 10000 * Q (ve r e0 s w)) * zx_X n r b0 s up par w) r (fun w hw' => by
      try dsimp only
      obtain ⟨a, b⟩ := rt w hw'
      obtain ⟨x, y⟩ := hbe w hw'
      have c1 := (vc_bd (n := n) (b0 := b0) (e0 := e0) hc w).1
      rcases hw w hw' with q | q
      · rw [x, y, q]
        exact Int.mul_nonneg (by omega) a
      · rw [b q, Int.mul_zero]
        exact Int.le_refl _)
    omega
  · have : zw_s (fun w => ((vc r s w).toInt + 10000 * Q (vb r b0 s w) - 10000 * Q (ve r e0 s w)) * zx_X n r b0 s up par w) r = 0 := by
      rw [zw_s_cg (g := fun _ => 0) r (fun w hw' => by
        obtain ⟨a, b⟩ := hz w hw'
        rw [zx_X0 hC a, b]
        exact Int.mul_zero _), zw_s_0]
    omega
end
