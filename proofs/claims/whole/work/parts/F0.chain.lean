/-! ===== the wall: pivots in a row ===== -/
abbrev zx_T := (Nat → Int32) × (Nat → Nat) × (Nat → Nat) × (Nat → Nat) × (Nat → Nat) × (Nat → Int32)
/-- one pivot: w enters -/
def zx_R (n r : Nat) (b0 e0 : Nat → Nat) (x y : zx_T) (w : Nat) : Prop := match x, y with
  | (s, up, par, _, _, pr), (s', up2, par2, rk2, dp2, pr2) => ∃ b p a i j lv, 1 ≤ b ∧ b ≤ 24 ∧ s 40 = nI b ∧ s 41 = nI p ∧ p < r + n ∧ a < r + n ∧ enS b (r + n) (vG r b0 e0 s pr) (rG r b0 e0 s pr) (r + n) 0 p none = (a, some w) ∧ w < r + n ∧ vG r b0 e0 s pr w = true ∧
    tap par (vA r b0 e0 s w) (vB r b0 e0 s w) i j ∧ lmin (fun k => vr r s 1000000000 w (rgW up par w (vA r b0 e0 s w) (vB r b0 e0 s w) i k) (rgL (vb r b0 s) up par (vE s w) (vA r b0 e0 s w) (vB r b0 e0 s w) i k)) (i + 1 + j) lv ∧
    (lv = i → up2 = up ∧ par2 = par) ∧ (lv < i → pvU up par up2 par2 w (vA r b0 e0 s w) (vB r b0 e0 s w) (i - 1 - lv)) ∧ (i < lv → pvU up par up2 par2 w (vB r b0 e0 s w) (vA r b0 e0 s w) (lv - i - 1)) ∧
    pvR n r b0 e0 s up par pr pr2 a w i j lv s' ∧ rT n r b0 e0 s' up2 par2 rk2 dp2 pr2
def zx_ok (n r : Nat) (b0 e0 : Nat → Nat) (x : zx_T) : Prop := match x with
  | (s, up, par, rk, dp, pr) => rP n r b0 e0 s ∧ fP n r 7992 s ∧ zR n r s ≤ 79920000 ∧ rT n r b0 e0 s up par rk dp pr ∧ sfP n r (vb r b0 s) up s
def zx_psi (n r : Nat) (b0 e0 : Nat → Nat) (x : zx_T) : Int := match x with
  | (s, _, _, _, _, pr) => psi n r b0 e0 s pr
theorem zx_both {n r y : Nat} {b0 e0 : Nat → Nat} {σ8 : gj_S} {s : Nat → Int32} {up par rk dp : Nat → Nat} {pr : Nat → Int32} (hL : cL n r b0 e0 s up par rk dp pr y σ8) {P : Nat} (hO : zx_ok n r b0 e0 (s, up, par, rk, dp, pr)) (hlg : lgM P s (y + 1) σ8) (hPb : P < 2 ^ 30) :
    (∃ x8, f_X7_makePivot y σ8 = some (-1, x8)) ∨
    (∃ w x8 s' up2 par2 rk2 dp2 pr2, w < r + n ∧ f_X7_makePivot y σ8 = some (nI w, x8) ∧ cL n r b0 e0 s' up2 par2 rk2 dp2 pr2 y x8 ∧ lgM (P + 1) s' (y + 1) x8 ∧ zx_R n r b0 e0 (s, up, par, rk, dp, pr) (s', up2, par2, rk2, dp2, pr2) w ∧ zx_ok n r b0 e0 (s', up2, par2, rk2, dp2, pr2) ∧ psi n r b0 e0 s' pr2 < psi n r b0 e0 s pr) := by
  have hg := hL.1
  obtain ⟨hP, hf, hZ, hT, hsf⟩ := hO
  obtain ⟨σr, hSr⟩ := gS_r hg
  have hS9 : rS n r b0 e0 (gj_sI σr 198 s) := by
    unfold rS at hSr ⊢
    rw [sI_ne (by decide), sI_ne (by decide), sI_ne (by decide), sI_ne (by decide)]
    exact hSr
  have e9 : (gj_sI σr 198 s).1 198 = s := sI_eq
  obtain ⟨b, p, a, best, q1, q2, q3, q4, q5, q6, q7, q8, q9, q10⟩ := r9_pivot hS9 (by rw [e9]; exact hP) (by rw [e9]; exact hT)
  rw [e9] at q3 q4 q6 q7 q10
  obtain ⟨c1, c2⟩ := c8_pivot hL hf (by omega) hlg.1 hPb q1 q2 q3 q4 q5 q6 q7
  cases best with
  | none => exact .inl ⟨_, c1 rfl⟩
  | some w =>
    obtain ⟨i, j, lv, up2, par2, rk2, dp2, pr2, -, -, d1, d2, d3, d4, d5, ⟨v, x9⟩, ex, rfl, h2, h3, h4⟩ := q10 w rfl
    obtain ⟨⟨v8, x8⟩, e8, rfl, f2, f3, f4, f5, f6⟩ := c2 w rfl i j lv up2 par2 rk2 dp2 pr2 (x9.1 198) d1 d2 h3 h4
    obtain ⟨hw, hG⟩ := q7 w rfl
    try dsimp only at h2 h3 h4
    obtain ⟨t1, t2, t3⟩ := tr_step hg hT hP hf (by omega) hsf hw hG d1 d2 h3 h4 d3 d4 d5
    have hst : s (74 + w) = 1 ∨ s (74 + w) = 2 := by
      unfold vG at hG
      rcases Bool.or_eq_true_iff.mp hG with q | q
      · exact .inl (eq_of_beq (Bool.and_eq_true_iff.mp q).1)
      · exact .inr (eq_of_beq (Bool.and_eq_true_iff.mp q).1)
    have hP2 := pv_P hS9 (by exact hP) q8 h3 h4
    have hf2 := pv_F hg hT hf (by omega) hw hst d1 d2 h3
    have hpa : p < r + n ∧ a < r + n := by omega
    exact .inr ⟨w, x8, x9.1 198, up2, par2, rk2, dp2, pr2, hw, e8, f3, lg_pv hPb hlg h3 f4 f5 f6, ⟨b, p, a, i, j, lv, q1, q2, q3, q4, hpa.1, hpa.2, q6, hw, hG, d1, d2, d3, d4, d5, h3, h4⟩, ⟨hP2, fP_Z hP2 hf2 (by omega) (Int.le_trans t2 hZ), Int.le_trans t2 hZ, h4, t1⟩, t3⟩
/-- k pivots, one behind the other -/
def zx_ch (n r : Nat) (b0 e0 : Nat → Nat) (f : Nat → zx_T) (k : Nat) : Prop := (∀ i, i ≤ k → zx_ok n r b0 e0 (f i)) ∧ ∀ i, i < k → (∃ w, zx_R n r b0 e0 (f i) (f (i + 1)) w) ∧ zx_psi n r b0 e0 (f (i + 1)) < zx_psi n r b0 e0 (f i)
theorem zx_run {n r y N : Nat} {b0 e0 : Nat → Nat} (hN : N < 2 ^ 30) : ∀ (k : Nat) {c P : Nat} {σ8 x8 : gj_S} {s : Nat → Int32} {up par rk dp : Nat → Nat} {pr : Nat → Int32} (fu : Nat), c + k = N → cL n r b0 e0 s up par rk dp pr y σ8 → zx_ok n r b0 e0 (s, up, par, rk, dp, pr) → lgM P s (y + 1) σ8 → P + k < 2 ^ 30 → gj_lp (fb_X7_makePivots_l2 y (nI N)) fu (nI c, σ8) = some (nI N, x8) → ∃ f, f 0 = (s, up, par, rk, dp, pr) ∧ zx_ch n r b0 e0 f k
  | 0, c, P, σ8, x8, s, up, par, rk, dp, pr, fu, hc, hL, hO, hlg, hPb, h => ⟨fun _ => (s, up, par, rk, dp, pr), rfl, fun i _ => hO, fun i hi => absurd hi (Nat.not_lt_zero _)⟩
  | k + 1, c, P, σ8, x8, s, up, par, rk, dp, pr, fu, hc, hL, hO, hlg, hPb, h => by
    have hn := hL.1.1
    have hr := hL.1.2.1
    cases fu with
    | zero => exact absurd h (by intro x; cases x)
    | succ fu =>
      rcases zx_both hL hO hlg (by omega) with ⟨y8, a1⟩ | ⟨w, y8, s', up2, par2, rk2, dp2, pr2, a0, a1, a2, a3, a4, a5, a6⟩
      · exfalso
        rw [gj_lp_e (b := (nI c, y8)) (by unfold fb_X7_makePivots_l2; dsimp only; rw [if_neg (nI_ge (by omega) (by omega)), a1]; rfl)] at h
        have h1 : nI c = nI N := congrArg Prod.fst (Option.some.inj h)
        have := (nI_eq (by omega) (by omega)).mp h1
        omega
      · have hne : ¬ nI w = -1 := nI_m1 (by omega)
        rw [gj_lp_g (a' := (nI (c + 1), y8)) (by unfold fb_X7_makePivots_l2; dsimp only; rw [if_neg (nI_ge (by omega) (by omega)), a1]; dsimp only [Option.bind_some]; rw [if_neg hne, nI_1])] at h
        obtain ⟨f, f0, f1, f2⟩ := zx_run hN k (c := c + 1) (P := P + 1) fu (by omega) a2 a5 a3 (by omega) h
        refine ⟨fun i => if i = 0 then (s, up, par, rk, dp, pr) else f (i - 1), rfl, fun i hi => ?_, fun i hi => ?_⟩
        · dsimp only
          by_cases q : i = 0
          · rw [if_pos q]
            exact hO
          · rw [if_neg q]
            exact f1 _ (by omega)
        · dsimp only
          by_cases q : i = 0
          · subst q
            rw [if_pos rfl, if_neg (by omega), show 0 + 1 - 1 = 0 by omega, f0]
            exact ⟨⟨w, a4⟩, a6⟩
          · rw [if_neg q, if_neg (by omega)]
            have := f2 (i - 1) (by omega)
            rw [show i - 1 + 1 = i + 1 - 1 by omega] at this
            exact this
/-- a trial broken off: a million pivots from the beginning -/
theorem zx_hit (h : hitW) : ∃ n r b0 e0 s1 f, gS n r b0 e0 ∧ okR n r s1 ∧ bgR n r s1 (f 0).1 ∧ zx_ch n r b0 e0 f 1000000 := by
  obtain ⟨n, r, b0, e0, s1, z3, x7, x8, hg, hk, hp, h1, h2⟩ := h
  have hn := hg.1
  have hr := hg.2.1
  obtain ⟨hb, hc, hh, hd, hzz⟩ := hk
  obtain ⟨s', hs'⟩ := bg_ex n r hn hr s1
  obtain ⟨φ, hI⟩ := bg_tI hg hs' hb hc hh hd
  obtain ⟨iP, iF, iZ, up, par, rk, dp, pr, iT, iS, -⟩ := hI
  obtain ⟨x7', e7, s7, g2, g3⟩ := c8_all (y := 35) hg hp hs' iP iT
  rw [h1] at e7
  obtain rfl := Option.some.inj e7
  unfold f_X7_makePivots at h2
  rcases q : gj_lp (fb_X7_makePivots_l2 35 1000000) 2000000 (0, x7) with _ | ⟨v, z⟩
  · rw [q] at h2
    exact absurd h2 (by intro x; cases x)
  · rw [q] at h2
    have e : (v, z) = ((1000000 : Int32), x8) := Option.some.inj h2
    rw [e] at q
    obtain ⟨f, f0, f1⟩ := zx_run (N := 1000000) (by omega) 1000000 (c := 0) (P := 0) 2000000 (by omega) g2 ⟨iP, iF, iZ, iT, iS⟩ g3 (by omega) q
    exact ⟨n, r, b0, e0, s1, f, hg, ⟨hb, hc, hh, hd, hzz⟩, by rw [f0]; exact hs', f1⟩
