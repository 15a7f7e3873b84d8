/-! ===== the wall: until no way between the classes is good ===== -/
theorem zx_prc {n : Nat} {bg bg' : Nat → Nat} {c P : Nat → Int} {up par : Nat → Nat} (h : ∀ d, d < n → bg (up d) = bg' (up d)) (hP : prI n bg c up par P) : prI n bg' c up par P := by
  refine ⟨hP.1, fun d hd => ?_⟩
  rw [hP.2 d hd]
  unfold eC
  rw [h d hd]
def zx_pot (n r : Nat) (s : Nat → Int32) (Q : Nat → Int) : Int := 8 * zC (r + n) (zx_ci r) s - sZ Q n
theorem zx_stA {n r : Nat} {b0 e0 : Nat → Nat} {s s' : Nat → Int32} {up par rk up2 par2 rk2 : Nat → Nat} {pr : Nat → Int32} {w : Nat} {Q Q2 : Nat → Int} (hg : gS n r b0 e0) (h : zx_P n r b0 e0 s s' up par rk up2 par2 rk2 pr w) (hQ : prI n (vb r b0 s) (zx_ci r) up par Q) (hQ2 : prI n (vb r b0 s) (zx_ci r) up2 par2 Q2) :
    (w < r → hl s w ≠ 0 → zx_co r b0 e0 s w (zx_ci r) Q = -2 → zx_pot n r s' Q2 + 2 ≤ zx_pot n r s Q) ∧
    ((zx_co r b0 e0 s w (zx_ci r) Q = 0 ∨ (w < r ∧ hl s w = 0)) → zC (r + n) (zx_ci r) s' = zC (r + n) (zx_ci r) s ∧ ∀ d, d < n → Q2 d = Q d) := by
  have hn := hg.1
  obtain ⟨-, -, -, -, -, -, -, -, -, ld, hz, hk⟩ := h
  have ez := hz _ _ _ hQ hQ2
  refine ⟨fun hw hl0 hco => ?_, fun hh => ?_⟩
  · rw [hco] at ez
    unfold zx_pot
    rcases hk with ⟨k1, -, k2⟩ | ⟨k1, A, hA, k2⟩ | ⟨k1, k2, A, hA, k3⟩
    · have e := k1 hw
      have e2 := sZ_cg n (k2 _ _ _ hQ hQ2)
      rw [e2]
      have : 1 ≤ (ld : Int) := by omega
      omega
    · obtain ⟨e1, e2⟩ := k2 _ _ _ hQ hQ2
      rw [hco] at e1 e2
      have := sZ_le1 (f := Q) (g := Q2) (k := A) (v := 2) (n := n) (fun d hd => by
        have := e1 d hd
        omega) hA (by omega)
      omega
    · obtain ⟨e1, e2⟩ := k3 _ _ _ hQ hQ2
      rw [hco] at e1
      have hA := hA hw
      have e2 := e2 hA
      have := sZ_le1 (f := fun d => Q d + -2) (g := Q2) (k := A) (v := 2) (n := n) (fun d hd => by
        have := e1 d hd
        try dsimp only
        omega) hA (by
        try dsimp only
        omega)
      rw [sZ_add, sZ_cst] at this
      omega
  · by_cases hco : zx_co r b0 e0 s w (zx_ci r) Q = 0
    · rw [hco, Int.mul_zero, Int.add_zero] at ez
      refine ⟨ez, fun d hd => ?_⟩
      rcases hk with ⟨-, -, k2⟩ | ⟨-, A, -, k2⟩ | ⟨-, -, A, -, k3⟩
      · exact k2 _ _ _ hQ hQ2 d hd
      · have := (k2 _ _ _ hQ hQ2).1 d hd
        omega
      · have := (k3 _ _ _ hQ hQ2).1 d hd
        omega
    · obtain ⟨hw, hl0⟩ : w < r ∧ hl s w = 0 := by
        rcases hh with x | x
        · exact absurd x hco
        · exact x
      rcases hk with ⟨k1, -, k2⟩ | ⟨k1, -⟩ | ⟨k1, -⟩
      · have e := k1 hw
        rw [hl0] at e
        subst e
        refine ⟨?_, k2 _ _ _ hQ hQ2⟩
        rw [ez]
        show _ + (0 : Int) * _ = _
        rw [Int.zero_mul, Int.add_zero]
      · exact absurd hl0 (k1 hw)
      · exact absurd hl0 (k1 hw)
/-- good between the classes, and it holds something -/
def zx_rg (r : Nat) (b0 e0 : Nat → Nat) (s : Nat → Int32) (Q : Nat → Int) (w : Nat) : Prop := w < r ∧ hl s w ≠ 0 ∧ zx_cg b0 e0 s Q w
def zx_zg (r : Nat) (b0 e0 : Nat → Nat) (s : Nat → Int32) (Q : Nat → Int) (w : Nat) : Bool := decide (w < r) && decide (hl s w = 0) && (decide (s (74 + w) = 1 ∧ Q (b0 w) = -1 ∧ Q (e0 w) = 1) || decide (s (74 + w) = 2 ∧ Q (b0 w) = 1 ∧ Q (e0 w) = -1))
theorem zx_zg_i {r : Nat} {b0 e0 : Nat → Nat} {s : Nat → Int32} {Q : Nat → Int} {w : Nat} : zx_zg r b0 e0 s Q w = true ↔ w < r ∧ hl s w = 0 ∧ zx_cg b0 e0 s Q w := by
  unfold zx_zg zx_cg
  rw [Bool.and_eq_true_iff, Bool.and_eq_true_iff, Bool.or_eq_true_iff, decide_eq_true_iff, decide_eq_true_iff, decide_eq_true_iff, decide_eq_true_iff]
  exact ⟨fun ⟨⟨a, b⟩, c⟩ => ⟨a, b, c⟩, fun ⟨a, b, c⟩ => ⟨⟨a, b⟩, c⟩⟩
/-- how long it may last -/
def zx_W (n r : Nat) (b0 e0 : Nat → Nat) (s : Nat → Int32) (Q : Nat → Int) (z0 w : Nat) : Nat := if (s 40).toNatClampNeg = 1 then zx_d (r + n) (s 41).toNatClampNeg w else zx_d (r + n) (s 41).toNatClampNeg w / 2 + (if zx_zg r b0 e0 s Q z0 = true then 12 else 0)
theorem zx_W_le {n r : Nat} {b0 e0 : Nat → Nat} {s : Nat → Int32} {Q : Nat → Int} {z0 w : Nat} (hg : gS n r b0 e0) (hP : rP n r b0 e0 s) (hw : w < r) : zx_W n r b0 e0 s Q z0 w ≤ 23 := by
  have hn := hg.1
  have hr := hg.2.1
  obtain ⟨-, -, -, ⟨p, hp1, hp2⟩, -⟩ := hP
  unfold zx_W
  rw [hp1, nI_clamp (by omega)]
  have := zx_d_lt (m := r + n) (a := p) (w := w) (by omega) (by omega)
  split
  · omega
  · split <;> omega
/-- what a pivot does while a way between the classes is good -/
theorem zx_stB {n r : Nat} {b0 e0 : Nat → Nat} {s s' : Nat → Int32} {up par rk dp up2 par2 rk2 dp2 : Nat → Nat} {pr pr2 : Nat → Int32} {w z0 : Nat} {Q Q2 : Nat → Int} (hg : gS n r b0 e0) (hO : zx_ok n r b0 e0 (s, up, par, rk, dp, pr)) (hR : zx_R n r b0 e0 (s, up, par, rk, dp, pr) (s', up2, par2, rk2, dp2, pr2) w) (hz0 : ∀ v, v < r → v ≠ z0 → hl s v ≠ 0) (hQ : prI n (vb r b0 s) (zx_ci r) up par Q) (hQ2 : prI n (vb r b0 s) (zx_ci r) up2 par2 Q2) :
    (zx_rg r b0 e0 s Q w ∧ zx_pot n r s' Q2 + 2 ≤ zx_pot n r s Q) ∨
    (zC (r + n) (zx_ci r) s' = zC (r + n) (zx_ci r) s ∧ (∀ d, d < n → Q2 d = Q d) ∧ (∀ v, v < r → Q (b0 v) ≠ Q (e0 v) → hl s v ≠ 0 → s' (74 + v) = s (74 + v) ∧ fl s' v = fl s v) ∧
      ∀ v, zx_rg r b0 e0 s Q v → zx_rg r b0 e0 s' Q2 v ∧ zx_W n r b0 e0 s' Q2 z0 v + 1 ≤ zx_W n r b0 e0 s Q z0 v) := by
  have hp := zx_pure hg hO hR
  obtain ⟨hP, hf, -, hT, -⟩ := hO
  have hn := hg.1
  have hr := hg.2.1
  obtain ⟨b, p, a, i, j, lv, b1, b2, b3, b4, b5, b6, b7, hw, hG, -, -, -, -, -, hPV, -⟩ := hR
  obtain ⟨stA1, stA2⟩ := zx_stA hg hp hQ hQ2
  obtain ⟨eqs, hhl, e40, hC, hC2, -, hwT, hoff, hlab, ld, -, hk⟩ := hp
  have hf2 : ∀ d, d < n → s (74 + (r + d)) ≠ 2 := fun d hd => by
    obtain ⟨_, _, _, _, x, _⟩ := hf.2 d hd
    exact x
  have hgn := zx_gain hg hP hT hf2 hQ hw hG
  have hl12 : s (74 + w) = 1 ∨ s (74 + w) = 2 := by
    rcases hlab with x | x
    · exact .inl x.1
    · exact .inr x.1
  by_cases hreal : w < r ∧ hl s w ≠ 0 ∧ zx_co r b0 e0 s w (zx_ci r) Q = -2
  · exact .inl ⟨⟨hreal.1, hreal.2.1, zx_cg_of hg hC hQ hreal.1 hl12 hreal.2.2⟩, stA1 hreal.1 hreal.2.1 hreal.2.2⟩
  · right
    have hcase : zx_co r b0 e0 s w (zx_ci r) Q = 0 ∨ (w < r ∧ hl s w = 0) := by
      rcases hgn with ⟨x1, x2, x3, x4⟩ | ⟨-, -, x⟩
      · right
        refine ⟨x1, ?_⟩
        by_cases y : hl s w = 0
        · exact y
        · exact absurd ⟨x1, y, x4⟩ hreal
      · exact .inl x
    obtain ⟨f1, f2⟩ := stA2 hcase
    -- a way between the classes that holds something stays as it is
    have hkeep : ∀ v, v < r → Q (b0 v) ≠ Q (e0 v) → hl s v ≠ 0 → s' (74 + v) = s (74 + v) ∧ fl s' v = fl s v := fun v hv hq hh => by
      refine hoff v (by omega) (fun x => hq (zx_cT hg hC hQ hv x)) (fun e => ?_)
      subst e
      rcases hgn with ⟨x1, x2, x3, x4⟩ | ⟨x, -⟩
      · exact hreal ⟨x1, hh, x4⟩
      · exact hq (x hv)
    refine ⟨f1, f2, hkeep, fun v hv => ?_⟩
    obtain ⟨v1, v2, v3⟩ := hv
    obtain ⟨g1, g2, -⟩ := hg.2.2 v v1
    have hqv : Q (b0 v) ≠ Q (e0 v) := by
      rcases v3 with ⟨-, x, y⟩ | ⟨-, x, y⟩ <;> omega
    have hcg : zx_cg b0 e0 s' Q2 v := by
      unfold zx_cg
      rw [(hkeep v v1 hqv v2).1, f2 _ g1, f2 _ g2]
      exact v3
    refine ⟨⟨v1, by rw [hhl v v1]; exact v2, hcg⟩, ?_⟩
    have hvw : v ≠ w := fun e => by
      subst e
      rcases hgn with ⟨x1, x2, x3, x4⟩ | ⟨x, -⟩
      · exact hreal ⟨x1, v2, x4⟩
      · exact hqv (x v1)
    obtain ⟨vG1, vG2⟩ := zx_good hg hP hT hQ v1 v3
    have e41 : s' 41 = nI a := hPV.2.1
    unfold zx_W
    rw [e40, e41, b3, b4, nI_clamp (by omega), nI_clamp (by omega), nI_clamp (by omega)]
    -- a way good between the classes that holds nothing: as it was, or it has entered
    have hzg : zx_zg r b0 e0 s' Q2 z0 = true → zx_zg r b0 e0 s Q z0 = true ∧ z0 ≠ w := fun x => by
      obtain ⟨x1, x2, x3⟩ := zx_zg_i.mp x
      obtain ⟨y1, y2, -⟩ := hg.2.2 z0 x1
      have hq0 : Q (b0 z0) ≠ Q (e0 z0) := by
        have a1 := f2 _ y1
        have a2 := f2 _ y2
        rcases x3 with ⟨-, x, y⟩ | ⟨-, x, y⟩ <;> omega
      have h0 : hl s z0 = 0 := by rw [← hhl z0 x1]; exact x2
      have hne : z0 ≠ w := fun e => by
        subst e
        rcases hk with ⟨-, k, -⟩ | ⟨k, -⟩ | ⟨k, -⟩
        · -- it has turned, and isn't good then
          rcases hgn with ⟨z1, z2, z3, z4⟩ | ⟨z, -⟩
          · have hc0 := zx_cg_of hg hC hQ x1 hl12 z4
            unfold zx_cg at hc0 x3
            rw [k, f2 _ y1, f2 _ y2] at x3
            rcases hc0 with ⟨c1, c2, c3⟩ | ⟨c1, c2, c3⟩
            · rw [if_pos c1] at x3
              rcases x3 with ⟨d1, -⟩ | ⟨-, d2, -⟩
              · exact absurd d1 (by decide)
              · omega
            · rw [if_neg (by rw [c1]; decide)] at x3
              rcases x3 with ⟨-, d2, -⟩ | ⟨d1, -⟩
              · omega
              · exact absurd d1 (by decide)
          · exact hq0 (z x1)
        · exact k x1 h0
        · exact k x1 h0
      refine ⟨zx_zg_i.mpr ⟨x1, h0, ?_⟩, hne⟩
      have e := (hoff z0 (by omega) (fun x => hq0 (zx_cT hg hC hQ x1 x)) hne).1
      unfold zx_cg at x3 ⊢
      rw [e, f2 _ y1, f2 _ y2] at x3
      exact x3
    have hvm : v < r + n := by omega
    by_cases hb1 : b = 1
    · rw [if_pos hb1, if_pos hb1]
      subst hb1
      rcases zx_look1 (z := rG r b0 e0 s pr) hvm vG1 (r + n) 0 p (by omega) b5 (by omega) with x | x
      · rw [b7] at x
        exact absurd (Option.some.inj x).symm hvw
      · rw [b7] at x
        exact x
    · rw [if_neg hb1, if_neg hb1]
      have l0 := zx_d_lt (m := r + n) b5 hvm
      have l1 := zx_d_lt (m := r + n) b6 hvm
      rcases zx_look (z := rG r b0 e0 s pr) hvm vG1 b1 (r + n) 0 p none (Nat.zero_le _) b5 with x | x
      · rw [b7] at x
        obtain ⟨v', hv', hle⟩ := x
        have hv' : w = v' := Option.some.inj hv'
        subst hv'
        -- w is large too: it holds nothing
        rcases hgn with ⟨z1, z2, z3, z4⟩ | ⟨-, z, -⟩
        · have h0 : hl s w = 0 := by
            by_cases y : hl s w = 0
            · exact y
            · exact absurd ⟨z1, y, z4⟩ hreal
          have hwz : w = z0 := by
            by_cases y : w = z0
            · exact y
            · exact absurd h0 (hz0 w z1 y)
          have t1 : zx_zg r b0 e0 s Q z0 = true := by
            rw [← hwz]
            exact zx_zg_i.mpr ⟨z1, h0, zx_cg_of hg hC hQ z1 hl12 z4⟩
          have t2 : ¬ zx_zg r b0 e0 s' Q2 z0 = true := fun y => (hzg y).2 hwz.symm
          rw [if_pos t1, if_neg t2]
          omega
        · omega
      · rw [b7] at x
        try dsimp only at x
        have hmin : 2 ≤ min (r + n) (b - 0) ∨ r + n = 1 := by omega
        rcases hmin with y | y
        · by_cases t2 : zx_zg r b0 e0 s' Q2 z0 = true
          · rw [if_pos t2, if_pos (hzg t2).1]
            omega
          · rw [if_neg t2]
            omega
        · have : min (r + n) (b - 0) = 1 := by omega
          omega
