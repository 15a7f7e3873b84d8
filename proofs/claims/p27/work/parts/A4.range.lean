/-! ===== range: how gains move where one cost moves ===== -/
theorem ct_z {P : Nat → Bool} : ∀ n, ct P n = 0 ↔ ∀ i, i < n → P i = false
  | 0 => ⟨fun _ i hi => absurd hi (Nat.not_lt_zero _), fun _ => rfl⟩
  | n + 1 => by
    have ih := ct_z (P := P) n
    show ct P n + (if P n = true then 1 else 0) = 0 ↔ _
    constructor
    · intro h i hi
      by_cases e : i = n
      · rw [e]
        cases hp : P n with
        | false => rfl
        | true =>
          rw [hp, if_pos rfl] at h
          omega
      · exact ih.mp (by omega) i (by omega)
    · intro h
      rw [ih.mpr (fun i hi => h i (by omega)), h n (by omega)]
      rfl
theorem pr_st {n r : Nat} {b0 e0 : Nat → Nat} {s : Nat → Int32} {up par rk dp : Nat → Nat} {pr : Nat → Int32} (hn : n ≤ 8) (hT : rT n r b0 e0 s up par rk dp pr) (hc : ∀ w, w < r → ∃ c, c ≤ 999 ∧ s (8 + w) = nI c) {d : Nat} (hd : d < n) : (pr d).toInt = (pr (par d)).toInt + (if vb r b0 s (up d) = d then - (vc r s (up d)).toInt else (vc r s (up d)).toInt) := by
  have hpar := (hT.1.1.2.2.1 d hd).2.2.2.1
  have hdp := Nat.le_trans (td_le hT.1 hT.2.1 hpar) hn
  obtain ⟨i1, i2⟩ := pr_bd (b0 := b0) (e0 := e0) hn hT hc 8 (par d) hdp (Nat.le_refl _) hpar
  obtain ⟨j1, j2⟩ := vc_bd (n := n) (b0 := b0) (e0 := e0) hc (up d)
  rw [hT.2.2.2 d hd]
  by_cases q : vb r b0 s (up d) = d
  · rw [if_pos q, if_pos q]
    have e1 : (0 - vc r s (up d)).toInt = - (vc r s (up d)).toInt := by
      rw [i32_sub (by show -2147483648 ≤ 0 - _; omega) (by show 0 - _ < 2147483648; omega)]
      show 0 - _ = _
      omega
    rw [i32_add (by rw [e1]; omega) (by rw [e1]; omega), e1]
  · rw [if_neg q, if_neg q, i32_add (by omega) (by omega)]
theorem wk_up {n : Nat} {par dp : Nat → Nat} (ht : td n par dp) (hn : n ≤ 8) {t d : Nat} (hd : d < n) (hne : d ≠ t) : wk par t (dp d) d = wk par t (dp (par d)) (par d) := by
  rw [ht.2 d hd]
  show (if d = t ∨ d = 8 then d else _) = _
  rw [if_neg (by omega)]
theorem wk_t {n : Nat} {par dp : Nat → Nat} (ht : td n par dp) {t : Nat} (hd : t < n) : wk par t (dp t) t = t := by
  rw [ht.2 t hd]
  show (if t = t ∨ t = 8 then t else _) = _
  rw [if_pos (.inl rfl)]
theorem wk_it {par : Nat → Nat} {t : Nat} : ∀ k x, ∃ j, wk par t k x = it par j x
  | 0, x => ⟨0, rfl⟩
  | k + 1, x => by
    show ∃ j, (if x = t ∨ x = 8 then x else wk par t k (par x)) = _
    by_cases q : x = t ∨ x = 8
    · exact ⟨0, by rw [if_pos q]; rfl⟩
    · obtain ⟨j, hj⟩ := wk_it (par := par) (t := t) k (par x)
      exact ⟨j + 1, by rw [if_neg q, hj]; rfl⟩
/-- how prices move where the cost of one way moves by D; t: the dock whose way up it is (9: none) -/
theorem pr_mv {n r ρ t : Nat} {b0 e0 : Nat → Nat} {s s' : Nat → Int32} {up par rk dp : Nat → Nat} {pr pr' : Nat → Int32} {D : Int} (hn : n ≤ 8) (hT : rT n r b0 e0 s up par rk dp pr) (hT' : rT n r b0 e0 s' up par rk dp pr') (hc : ∀ w, w < r → ∃ c, c ≤ 999 ∧ s (8 + w) = nI c) (hc' : ∀ w, w < r → ∃ c, c ≤ 999 ∧ s' (8 + w) = nI c) (hvb : ∀ w, vb r b0 s' w = vb r b0 s w) (h8 : t ≠ 8) (hρ : t < n → up t = ρ) (hu : ∀ d, d < n → up d = ρ → d = t) (hD : (vc r s' ρ).toInt = (vc r s ρ).toInt + D) (hoth : ∀ w, w ≠ ρ → vc r s' w = vc r s w) : ∀ (k p : Nat), dp p ≤ k → (p < n ∨ p = 8) → (pr' p).toInt = (pr p).toInt + (if wk par t (dp p) p = t then (if vb r b0 s ρ = t then - D else D) else 0)
  | k, p, hk, hp => by
    have hC := hT.1.1
    rcases hp with hp | rfl
    · have h1 := hT.2.1.2 p hp
      cases k with
      | zero => omega
      | succ k =>
        have ih := pr_mv hn hT hT' hc hc' hvb h8 hρ hu hD hoth k (par p) (by omega) (hC.2.2.1 p hp).2.2.2.1
        rw [pr_st hn hT hc hp, pr_st hn hT' hc' hp, ih, hvb]
        by_cases q : p = t
        · subst q
          have hno : wk par p (dp (par p)) (par p) ≠ p := by
            obtain ⟨j, hj⟩ := wk_it (par := par) (t := p) (dp (par p)) (par p)
            rw [hj]
            exact it_no hC hp j
          rw [wk_t hT.2.1 hp, if_pos rfl, hρ hp, hD, if_neg hno]
          by_cases q2 : vb r b0 s ρ = p
          · simp only [if_pos q2]
            omega
          · simp only [if_neg q2]
            omega
        · rw [wk_up hT.2.1 hn hp q, hoth _ (fun e => q (hu p hp e))]
          generalize (if vb r b0 s (up p) = p then - (vc r s (up p)).toInt else (vc r s (up p)).toInt) = x
          generalize (if wk par t (dp (par p)) (par p) = t then (if vb r b0 s ρ = t then - D else D) else 0) = y
          omega
    · rw [hT.2.2.1, hT'.2.2.1, hT.2.1.1]
      show _ = _ + (if 8 = t then _ else 0)
      rw [if_neg (fun e => h8 e.symm)]
      omega
  termination_by k => k
/-- how the gain of w moves if the route ρ costs one more, as the class reckons it -/
def muW (r : Nat) (b0 e0 : Nat → Nat) (s : Nat → Int32) (par dp : Nat → Nat) (ρ t w : Nat) : Int32 := if t = 9 then (if w = ρ then 1 else 0) else (if vb r b0 s ρ = t then 0 - ((if wk par t (dp (vb r b0 s w)) (vb r b0 s w) = t then (1 : Int32) else 0) - (if wk par t (dp (ve r e0 s w)) (ve r e0 s w) = t then (1 : Int32) else 0)) else ((if wk par t (dp (vb r b0 s w)) (vb r b0 s w) = t then (1 : Int32) else 0) - (if wk par t (dp (ve r e0 s w)) (ve r e0 s w) = t then (1 : Int32) else 0)))
def tpW (n : Nat) (s : Nat → Int32) (up : Nat → Nat) (ρ t : Nat) : Prop := (s (74 + ρ) ≠ 0 ∧ t = 9) ∨ (s (74 + ρ) = 0 ∧ t < n ∧ up t = ρ)
theorem gn_mv {n r ρ t w : Nat} {b0 e0 : Nat → Nat} {s s' : Nat → Int32} {up par rk dp : Nat → Nat} {pr pr' : Nat → Int32} {D : Int} (hg : gS n r b0 e0) (hT : rT n r b0 e0 s up par rk dp pr) (hT' : rT n r b0 e0 s' up par rk dp pr') (hc : ∀ w, w < r → ∃ c, c ≤ 999 ∧ s (8 + w) = nI c) (hc' : ∀ w, w < r → ∃ c, c ≤ 999 ∧ s' (8 + w) = nI c) (hvb : ∀ w, vb r b0 s' w = vb r b0 s w) (hve : ∀ w, ve r e0 s' w = ve r e0 s w) (ht : tpW n s up ρ t) (hD : (vc r s' ρ).toInt = (vc r s ρ).toInt + D) (hoth : ∀ w, w ≠ ρ → vc r s' w = vc r s w) (hw : w < r + n) (hst : s (74 + w) ≠ 0) :
    (muW r b0 e0 s par dp ρ t w = -1 ∧ (vg r b0 e0 s' pr' w).toInt = (vg r b0 e0 s pr w).toInt - D) ∨ (muW r b0 e0 s par dp ρ t w = 0 ∧ (vg r b0 e0 s' pr' w).toInt = (vg r b0 e0 s pr w).toInt) ∨ (muW r b0 e0 s par dp ρ t w = 1 ∧ (vg r b0 e0 s' pr' w).toInt = (vg r b0 e0 s pr w).toInt + D) := by
  have hn := hg.1
  have hC := hT.1.1
  have hpb := gb_pl (s := s) hg hw
  have hpe := ge_pl (s := s) hg hw
  have e1 := (vg_bd hg hT hc hw).1
  have e2 := (vg_bd hg hT' hc' hw).1
  rw [hvb, hve] at e2
  have h8 : t ≠ 8 := by
    rcases ht with ⟨_, h⟩ | ⟨_, h, _⟩ <;> omega
  have hρ : t < n → up t = ρ := fun h => by
    rcases ht with ⟨_, h2⟩ | ⟨_, _, h2⟩
    · omega
    · exact h2
  have hu : ∀ d, d < n → up d = ρ → d = t := fun d hd e => by
    rcases ht with ⟨h1, _⟩ | ⟨_, h1, h2⟩
    · have := (hC.2.2.1 d hd).2.1
      rw [e] at this
      exact absurd this h1
    · exact tc_inj hC hd h1 (e.trans h2.symm)
  have pv := pr_mv hn hT hT' hc hc' hvb h8 hρ hu hD hoth
  have pb := pv _ _ (Nat.le_refl _) hpb
  have pe := pv _ _ (Nat.le_refl _) hpe
  rcases ht with ⟨h1, h2⟩ | ⟨h1, h2, h3⟩
  · have nb : ¬ wk par t (dp (vb r b0 s w)) (vb r b0 s w) = t := fun e => by
      have := wk_pl hC (d := t) (dp (vb r b0 s w)) _ hpb
      omega
    have ne : ¬ wk par t (dp (ve r e0 s w)) (ve r e0 s w) = t := fun e => by
      have := wk_pl hC (d := t) (dp (ve r e0 s w)) _ hpe
      omega
    rw [if_neg nb] at pb
    rw [if_neg ne] at pe
    unfold muW
    rw [if_pos h2]
    by_cases q : w = ρ
    · rw [if_pos q]
      refine .inr (.inr ⟨rfl, ?_⟩)
      subst q
      rw [hD] at e2
      omega
    · rw [if_neg q]
      refine .inr (.inl ⟨rfl, ?_⟩)
      rw [e1, e2, hoth w q]
      omega
  · have hwr : w ≠ ρ := fun e => hst (e ▸ h1)
    rw [hoth w hwr] at e2
    unfold muW
    rw [if_neg (show ¬ t = 9 by omega)]
    have m1 : (0 : Int32) - (1 - 0) = -1 := by decide
    have m2 : (0 : Int32) - (0 - 1) = 1 := by decide
    have m3 : (0 : Int32) - (0 - 0) = 0 := by decide
    have m4 : (0 : Int32) - (1 - 1) = 0 := by decide
    have m5 : (1 : Int32) - 0 = 1 := by decide
    have m6 : (0 : Int32) - 1 = -1 := by decide
    have m7 : (0 : Int32) - 0 = 0 := by decide
    have m8 : (1 : Int32) - 1 = 0 := by decide
    by_cases q : vb r b0 s ρ = t
    · rw [if_pos q]
      by_cases qb : wk par t (dp (vb r b0 s w)) (vb r b0 s w) = t
      · by_cases qe : wk par t (dp (ve r e0 s w)) (ve r e0 s w) = t
        · rw [if_pos qb, if_pos qe, m4]
          rw [if_pos qb, if_pos q] at pb
          rw [if_pos qe, if_pos q] at pe
          exact .inr (.inl ⟨rfl, by omega⟩)
        · rw [if_pos qb, if_neg qe, m1]
          rw [if_pos qb, if_pos q] at pb
          rw [if_neg qe] at pe
          exact .inl ⟨rfl, by omega⟩
      · by_cases qe : wk par t (dp (ve r e0 s w)) (ve r e0 s w) = t
        · rw [if_neg qb, if_pos qe, m2]
          rw [if_neg qb] at pb
          rw [if_pos qe, if_pos q] at pe
          exact .inr (.inr ⟨rfl, by omega⟩)
        · rw [if_neg qb, if_neg qe, m3]
          rw [if_neg qb] at pb
          rw [if_neg qe] at pe
          exact .inr (.inl ⟨rfl, by omega⟩)
    · rw [if_neg q]
      by_cases qb : wk par t (dp (vb r b0 s w)) (vb r b0 s w) = t
      · by_cases qe : wk par t (dp (ve r e0 s w)) (ve r e0 s w) = t
        · rw [if_pos qb, if_pos qe, m8]
          rw [if_pos qb, if_neg q] at pb
          rw [if_pos qe, if_neg q] at pe
          exact .inr (.inl ⟨rfl, by omega⟩)
        · rw [if_pos qb, if_neg qe, m5]
          rw [if_pos qb, if_neg q] at pb
          rw [if_neg qe] at pe
          exact .inr (.inr ⟨rfl, by omega⟩)
      · by_cases qe : wk par t (dp (ve r e0 s w)) (ve r e0 s w) = t
        · rw [if_neg qb, if_pos qe, m6]
          rw [if_neg qb] at pb
          rw [if_pos qe, if_neg q] at pe
          exact .inl ⟨rfl, by omega⟩
        · rw [if_neg qb, if_neg qe, m7]
          rw [if_neg qb] at pb
          rw [if_neg qe] at pe
          exact .inr (.inl ⟨rfl, by omega⟩)
/-- whether a way limits, by its state and by how its gain moves -/
def limB (u : Bool) (st mu : Int32) : Bool := if st = 0 then false else if st = 2 then decide (¬ (if u = true then mu else 0 - mu) ≤ 0) else decide (¬ 0 ≤ (if u = true then mu else 0 - mu))
theorem lim_w {st mu : Int32} {G G' D : Int} {u : Bool} (hst : st = 0 ∨ st = 1 ∨ st = 2) (hG : (st = 1 → 0 ≤ G) ∧ (st = 2 → G ≤ 0)) (hm : st ≠ 0 → (mu = -1 ∧ G' = G - D) ∨ (mu = 0 ∧ G' = G) ∨ (mu = 1 ∧ G' = G + D)) (hD : (u = true ∧ 0 ≤ D) ∨ (u = false ∧ D ≤ 0)) : ((st = 1 → 0 ≤ G') ∧ (st = 2 → G' ≤ 0)) ↔ (limB u st mu = true → D.natAbs ≤ G.natAbs) := by
  have n12 : ¬ (1 : Int32) = 2 := by decide
  have n21 : ¬ (2 : Int32) = 1 := by decide
  rcases hst with rfl | rfl | rfl
  · have e : limB u 0 mu = false := if_pos rfl
    rw [e]
    exact ⟨fun _ h => absurd h (by decide), fun _ => ⟨fun h => absurd h (by decide), fun h => absurd h (by decide)⟩⟩
  · have g := hG.1 rfl
    have w1 : ∀ {X : Prop}, ((0 ≤ G') ↔ X) → (((1 : Int32) = 1 → 0 ≤ G') ∧ ((1 : Int32) = 2 → G' ≤ 0) ↔ X) := fun hX => ⟨fun a => hX.mp (a.1 rfl), fun a => ⟨fun _ => hX.mpr a, fun e => absurd e n12⟩⟩
    refine w1 ?_
    rcases hm (by decide) with ⟨rfl, h⟩ | ⟨rfl, h⟩ | ⟨rfl, h⟩
    · rcases hD with ⟨rfl, hD⟩ | ⟨rfl, hD⟩
      · exact ⟨fun _ _ => by omega, fun a => by have := a (by decide); omega⟩
      · exact ⟨fun _ a => absurd a (by decide), fun _ => by omega⟩
    · rcases hD with ⟨rfl, hD⟩ | ⟨rfl, hD⟩
      · exact ⟨fun _ a => absurd a (by decide), fun _ => by omega⟩
      · exact ⟨fun _ a => absurd a (by decide), fun _ => by omega⟩
    · rcases hD with ⟨rfl, hD⟩ | ⟨rfl, hD⟩
      · exact ⟨fun _ a => absurd a (by decide), fun _ => by omega⟩
      · exact ⟨fun _ _ => by omega, fun a => by have := a (by decide); omega⟩
  · have g := hG.2 rfl
    have w1 : ∀ {X : Prop}, ((G' ≤ 0) ↔ X) → (((2 : Int32) = 1 → 0 ≤ G') ∧ ((2 : Int32) = 2 → G' ≤ 0) ↔ X) := fun hX => ⟨fun a => hX.mp (a.2 rfl), fun a => ⟨fun e => absurd e n21, fun _ => hX.mpr a⟩⟩
    refine w1 ?_
    rcases hm (by decide) with ⟨rfl, h⟩ | ⟨rfl, h⟩ | ⟨rfl, h⟩
    · rcases hD with ⟨rfl, hD⟩ | ⟨rfl, hD⟩
      · exact ⟨fun _ a => absurd a (by decide), fun _ => by omega⟩
      · exact ⟨fun _ _ => by omega, fun a => by have := a (by decide); omega⟩
    · rcases hD with ⟨rfl, hD⟩ | ⟨rfl, hD⟩
      · exact ⟨fun _ a => absurd a (by decide), fun _ => by omega⟩
      · exact ⟨fun _ a => absurd a (by decide), fun _ => by omega⟩
    · rcases hD with ⟨rfl, hD⟩ | ⟨rfl, hD⟩
      · exact ⟨fun _ _ => by omega, fun a => by have := a (by decide); omega⟩
      · exact ⟨fun _ a => absurd a (by decide), fun _ => by omega⟩
/-- no way is good: told of states and gains -/
theorem end_iff {n r : Nat} {b0 e0 : Nat → Nat} {s : Nat → Int32} {pr : Nat → Int32} : ct (vG r b0 e0 s pr) (r + n) = 0 ↔ ∀ w, w < r + n → (s (74 + w) = 1 → 0 ≤ (vg r b0 e0 s pr w).toInt) ∧ (s (74 + w) = 2 → (vg r b0 e0 s pr w).toInt ≤ 0) := by
  have ez : (0 : Int32).toInt = 0 := by decide
  rw [ct_z]
  constructor
  · intro h w hw
    have h1 := h w hw
    unfold vG at h1
    rw [Bool.or_eq_false_iff] at h1
    refine ⟨fun e => ?_, fun e => ?_⟩
    · have := h1.1
      rw [e] at this
      have h2 : ¬ vg r b0 e0 s pr w < 0 := fun x => by simp [x] at this
      rw [i32_lt_iff, ez] at h2
      omega
    · have := h1.2
      rw [e] at this
      have h2 : ¬ 0 < vg r b0 e0 s pr w := fun x => by simp [x] at this
      rw [i32_lt_iff, ez] at h2
      omega
  · intro h w hw
    obtain ⟨h1, h2⟩ := h w hw
    unfold vG
    rw [Bool.or_eq_false_iff]
    refine ⟨?_, ?_⟩
    · by_cases e : s (74 + w) = 1
      · have : ¬ vg r b0 e0 s pr w < 0 := by
          rw [i32_lt_iff, ez]
          have := h1 e
          omega
        simp [this]
      · simp [e]
    · by_cases e : s (74 + w) = 2
      · have : ¬ 0 < vg r b0 e0 s pr w := by
          rw [i32_lt_iff, ez]
          have := h2 e
          omega
        simp [this]
      · simp [e]
