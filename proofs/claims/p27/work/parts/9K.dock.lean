/-! ===== dock, way ===== -/
/-- what a dock lacks, what is stuck at it -/
def vl (r : Nat) (s : Nat → Int32) (d : Nat) : Int32 := if s (42 + d) = 0 then s (50 + (r + d)) else 0
def vk (r : Nat) (s : Nat → Int32) (d : Nat) : Int32 := if s (42 + d) = 1 then s (50 + (r + d)) else 0
theorem c8_lack {n r F b : Nat} {b0 e0 : Nat → Nat} {s : Nat → Int32} {σ : gj_S} (hg : gS n r b0 e0) (h : pm n r b0 e0 s b σ) (hf : fP n r F s) {d : Nat} (hd : d < n) : f_X1_lackOf b (nI d) σ = some (vl r s d) := by
  have hn := hg.1
  have hr := hg.2.1
  obtain ⟨q1, -, -, -, q5, -⟩ := h.2.2.2.2.2 (r + d) (by omega)
  have g : gj_in (nI (r + d)) 24 := gi (by omega) (by omega)
  unfold f_X1_lackOf vl
  rw [h.2.1, nI_add, if_pos g, if_pos g, nI_clamp (by omega), q1, q5, vb_t]
  rcases (hf.2 d hd).choose_spec.2.2.2.2 with e | e
  · rw [if_neg (show ¬ s (42 + d) = 1 by rw [e]; decide), if_pos (show nI 8 = 8 from rfl), if_pos e]
  · rw [if_pos e, if_neg (show ¬ nI d = 8 from fun q => by have := (nI_eq (b := 8) (by omega) (by omega)).mp q; omega), if_neg (by rw [e]; decide)]
theorem c8_stuck {n r F b : Nat} {b0 e0 : Nat → Nat} {s : Nat → Int32} {σ : gj_S} (hg : gS n r b0 e0) (h : pm n r b0 e0 s b σ) (hf : fP n r F s) {d : Nat} (hd : d < n) : f_X1_stuckOf b (nI d) σ = some (vk r s d) := by
  have hn := hg.1
  have hr := hg.2.1
  obtain ⟨-, q1, -, -, q5, -⟩ := h.2.2.2.2.2 (r + d) (by omega)
  have g : gj_in (nI (r + d)) 24 := gi (by omega) (by omega)
  unfold f_X1_stuckOf vk
  rw [h.2.1, nI_add, if_pos g, if_pos g, nI_clamp (by omega), q1, q5, ve_t]
  rcases (hf.2 d hd).choose_spec.2.2.2.2 with e | e
  · rw [if_neg (show ¬ s (42 + d) = 1 by rw [e]; decide), if_neg (show ¬ nI d = 8 from fun q => by have := (nI_eq (b := 8) (by omega) (by omega)).mp q; omega), if_neg (by rw [e]; decide)]
  · rw [if_pos e, if_pos (show nI 8 = 8 from rfl), if_pos e]
theorem r9_lack {n r : Nat} {b0 e0 : Nat → Nat} {σ : gj_S} (h : rS n r b0 e0 σ) {d : Nat} (hd : d < n) : f_X9_lackOf (nI d) σ = some (vl r (σ.1 198) d) := by
  have hn := h.1
  have hr := h.2.1
  unfold f_X9_lackOf vl
  have c50 : (50 : Int32) + nI r + nI d = nI (50 + (r + d)) := by rw [show (50 : Int32) = nI 50 from rfl, nI_add, nI_add, Nat.add_assoc]
  simp only [rd0, h.2.2.2.1, c50, show (42 : Int32) = nI 42 from rfl, nI_add, nI_clamp (show 42 + d < 2 ^ 31 by omega), nI_clamp (show 50 + (r + d) < 2 ^ 31 by omega)]
  rw [if_pos (gi (by omega) (by omega)), if_pos (gj0 (by decide)), if_pos (gi (by omega) (by omega))]
  by_cases q : σ.1 198 (42 + d) = 0
  · rw [if_pos q, if_pos q]
  · rw [if_neg q, if_neg q]
theorem r9_stuck {n r : Nat} {b0 e0 : Nat → Nat} {σ : gj_S} (h : rS n r b0 e0 σ) {d : Nat} (hd : d < n) : f_X9_stuckOf (nI d) σ = some (vk r (σ.1 198) d) := by
  have hn := h.1
  have hr := h.2.1
  unfold f_X9_stuckOf vk
  have c50 : (50 : Int32) + nI r + nI d = nI (50 + (r + d)) := by rw [show (50 : Int32) = nI 50 from rfl, nI_add, nI_add, Nat.add_assoc]
  simp only [rd0, h.2.2.2.1, c50, show (42 : Int32) = nI 42 from rfl, nI_add, nI_clamp (show 42 + d < 2 ^ 31 by omega), nI_clamp (show 50 + (r + d) < 2 ^ 31 by omega)]
  rw [if_pos (gi (by omega) (by omega)), if_pos (gj0 (by decide)), if_pos (gi (by omega) (by omega))]
  by_cases q : σ.1 198 (42 + d) = 1
  · rw [if_pos q, if_pos q]
  · rw [if_neg q, if_neg q]
/-- up from x till d or the hub -/
def wk (par : Nat → Nat) (d : Nat) : Nat → Nat → Nat
  | 0, x => x
  | f + 1, x => if x = d ∨ x = 8 then x else wk par d f (par x)
theorem r9_wk {n r : Nat} {b0 e0 : Nat → Nat} {up par rk dp : Nat → Nat} {pr : Nat → Int32} {τ : gj_S} (h : rL n r b0 e0 up par rk dp pr τ) {d : Nat} (hd : d < n) {b2 b3 : Int32} : ∀ (k x : Nat), dp x = k → (x < n ∨ x = 8) → ∀ fu, k < fu → gj_lp (fb_X9_underOf_l17 (nI d) b2 b3 τ) fu (nI x) = some (nI (wk par d k x))
  | k, x, hk, hx, fu, hfu => by
    have hn := h.1.1
    obtain ⟨fu', rfl⟩ : ∃ y, fu = y + 1 := ⟨fu - 1, by omega⟩
    by_cases q1 : x = d
    · subst q1
      rw [gj_lp_e (b := nI x) (by unfold fb_X9_underOf_l17; rw [if_pos rfl])]
      cases k with
      | zero => rfl
      | succ k => show _ = some (nI (if x = x ∨ x = 8 then x else _)); rw [if_pos (.inl rfl)]
    · by_cases q2 : x = 8
      · subst q2
        have e8 : nI 8 = 8 := rfl
        rw [gj_lp_e (b := nI 8) (by unfold fb_X9_underOf_l17; rw [if_neg (fun e => q1 ((nI_eq (by omega) (by omega)).mp e)), if_pos (show nI 8 = 8 from rfl)])]
        cases k with
        | zero => rfl
        | succ k => show _ = some (nI (if 8 = d ∨ 8 = 8 then 8 else _)); rw [if_pos (.inr rfl)]
      · have hxn : x < n := by omega
        have hdp := h.2.1.2.1.2 x hxn
        cases k with
        | zero => omega
        | succ k =>
          rw [gj_lp_g (a' := nI (par x)) (by
            unfold fb_X9_underOf_l17
            rw [if_neg (fun e => q1 ((nI_eq (by omega) (by omega)).mp e)), if_neg (show ¬ nI x = 8 from fun e => q2 ((nI_eq (b := 8) (by omega) (by omega)).mp e)), r9_above h hxn]
            rfl)]
          rw [r9_wk h hd k (par x) (by omega) (h.2.1.1.1.2.2.1 x hxn).2.2.2.1 fu' (by omega)]
          show _ = some (nI (if x = d ∨ x = 8 then x else wk par d k (par x)))
          rw [if_neg (by omega)]
  termination_by k => k
theorem c8_wk {n r y : Nat} {b0 e0 : Nat → Nat} {s : Nat → Int32} {up par rk dp : Nat → Nat} {pr : Nat → Int32} {σ : gj_S} (h : cL n r b0 e0 s up par rk dp pr y σ) {d : Nat} (hd : d < n ∨ d = 8) : ∀ (k x c : Nat), dp x = k → (x < n ∨ x = 8) → c + k ≤ 8 → ∀ fu, k < fu → gj_lp (fb_X5_hangsFrom_l5 (y + 10) (nI d) σ) fu (nI x, nI c) = some (nI (wk par d k x))
  | k, x, c, hk, hx, hc, fu, hfu => by
    have hn := h.1.1
    obtain ⟨fu', rfl⟩ : ∃ y, fu = y + 1 := ⟨fu - 1, by omega⟩
    have n9 : ¬ (9 : Int32) ≤ nI c := by rw [show (9 : Int32) = nI 9 from rfl]; exact nI_ge (by omega) (by omega)
    by_cases q1 : x = d
    · subst q1
      rw [gj_lp_e (b := nI x) (by unfold fb_X5_hangsFrom_l5; dsimp only; rw [if_neg n9, if_pos rfl])]
      cases k with
      | zero => rfl
      | succ k => show _ = some (nI (if x = x ∨ x = 8 then x else _)); rw [if_pos (.inl rfl)]
    · by_cases q2 : x = 8
      · subst q2
        rw [gj_lp_e (b := nI 8) (by unfold fb_X5_hangsFrom_l5; dsimp only; rw [if_neg n9, if_neg (fun e => q1 ((nI_eq (by omega) (by omega)).mp e)), if_pos (show nI 8 = 8 from rfl)])]
        cases k with
        | zero => rfl
        | succ k => show _ = some (nI (if 8 = d ∨ 8 = 8 then 8 else _)); rw [if_pos (.inr rfl)]
      · have hxn : x < n := by omega
        have hdp := h.2.2.1.2.1.2 x hxn
        cases k with
        | zero => omega
        | succ k =>
          rw [gj_lp_g (a' := (nI (par x), nI (c + 1))) (by
            unfold fb_X5_hangsFrom_l5
            dsimp only
            rw [if_neg n9, if_neg (fun e => q1 ((nI_eq (by omega) (by omega)).mp e)), if_neg (show ¬ nI x = 8 from fun e => q2 ((nI_eq (b := 8) (by omega) (by omega)).mp e)), if_pos (gi (by omega) (by omega)), nI_clamp (by omega), (c8_par h hxn).1, nI_1])]
          rw [c8_wk h hd k (par x) (c + 1) (by omega) (h.2.2.1.1.1.2.2.1 x hxn).2.2.2.1 (by omega) fu' (by omega)]
          show _ = some (nI (if x = d ∨ x = 8 then x else wk par d k (par x)))
          rw [if_neg (by omega)]
  termination_by k => k
theorem wk_pl {n m : Nat} {bg en : Nat → Nat} {T : Nat → Prop} {up par rk : Nat → Nat} (h : tc_r n m bg en T up par rk) {d : Nat} : ∀ (k x : Nat), (x < n ∨ x = 8) → (wk par d k x < n ∨ wk par d k x = 8)
  | 0, _, hx => hx
  | k + 1, x, hx => by
    unfold wk
    by_cases q : x = d ∨ x = 8
    · rw [if_pos q]; exact hx
    · rw [if_neg q]
      exact wk_pl h k (par x) (h.2.2.1 x (by omega)).2.2.2.1
/-- how many docks hang from d -/
def vu (par dp : Nat → Nat) (d n : Nat) : Int32 := su (fun o => if wk par d (dp o) o = d then 1 else 0) n
theorem c8_hf {n r y : Nat} {b0 e0 : Nat → Nat} {s : Nat → Int32} {up par rk dp : Nat → Nat} {pr : Nat → Int32} {σ : gj_S} (h : cL n r b0 e0 s up par rk dp pr y σ) {d x : Nat} (hd : d < n ∨ d = 8) (hx : x < n ∨ x = 8) : f_X5_hangsFrom (y + 10) (nI x) (nI d) σ = some (if wk par d (dp x) x = d then 1 else 0) := by
  have hn := h.1.1
  have hdp := cL_dp h hx
  unfold f_X5_hangsFrom
  rw [show (0 : Int32) = nI 0 from rfl, c8_wk h hd (dp x) x 0 rfl hx (by omega) 5000 (by omega)]
  dsimp only [Option.bind_some]
  have hw := wk_pl h.2.2.1.1.1 (d := d) (dp x) x hx
  by_cases q : wk par d (dp x) x = d
  · rw [if_pos q, if_pos (by rw [q])]
  · rw [if_neg q, if_neg (fun e => q ((nI_eq (by omega) (by omega)).mp e))]
theorem c8_under {n r y : Nat} {b0 e0 : Nat → Nat} {s : Nat → Int32} {up par rk dp : Nat → Nat} {pr : Nat → Int32} {σ : gj_S} (h : cL n r b0 e0 s up par rk dp pr y σ) {d : Nat} (hd : d < n) : f_X7_countHanging y (nI d) σ = some (vu par dp d n) := by
  have hn := h.1.1
  unfold f_X7_countHanging vu
  rw [lp_sum (N := n) (v := fun o => if wk par d (dp o) o = d then 1 else 0) (by omega) (fun c => ?_) (fun k hk c => ?_)]
  · rfl
  · unfold fb_X7_countHanging_l4
    dsimp only
    rw [h.2.1.1, if_pos (nI_le (by omega) (by omega))]
  · unfold fb_X7_countHanging_l4
    dsimp only
    rw [h.2.1.1, if_neg (nI_ge hk (by omega)), c8_hf h (.inl hd) (.inl hk), nI_1]
    dsimp only [Option.bind_some]
    by_cases q : wk par d (dp k) k = d
    · rw [if_pos q, if_neg (show ¬ (1 : Int32) = 0 by decide)]
    · rw [if_neg q, if_pos rfl]
theorem r9_under {n r : Nat} {b0 e0 : Nat → Nat} {up par rk dp : Nat → Nat} {pr : Nat → Int32} {τ : gj_S} (h : rL n r b0 e0 up par rk dp pr τ) {d : Nat} (hd : d < n) : f_X9_underOf (nI d) τ = some (vu par dp d n) := by
  have hn := h.1.1
  unfold f_X9_underOf vu
  rw [lp_sum (N := n) (v := fun o => if wk par d (dp o) o = d then 1 else 0) (by omega) (fun c => ?_) (fun k hk c => ?_)]
  · rfl
  · unfold fb_X9_underOf_l4
    dsimp only
    rw [if_pos (gj0 (by decide)), rd0, h.1.2.2.1, if_pos (nI_le (by omega) (by omega))]
  · unfold fb_X9_underOf_l4
    dsimp only
    have hdp := rL_dp h (.inl hk)
    have hw := wk_pl h.2.1.1.1 (d := d) (dp k) k (.inl hk)
    rw [if_pos (gj0 (by decide)), rd0, h.1.2.2.1, if_neg (nI_ge hk (by omega)), r9_wk h hd (dp k) k rfl (.inl hk) 5000 (by omega), nI_1]
    dsimp only [Option.bind_some]
    by_cases q : wk par d (dp k) k = d
    · rw [if_pos q, if_pos (by rw [q])]
    · rw [if_neg q, if_neg (fun e => q ((nI_eq (by omega) (by omega)).mp e))]
theorem k_2 {K : Nat} {σ : gj_S} (hR : REL K σ) (c1 c2 c3 c4 c5 : Int32) : ∃ τ, gl_2 c1 c2 c3 c4 c5 σ = some τ ∧ REL (K + 100) τ := by
  obtain ⟨n, r, b0, e0, hS, ⟨hB1, up, par, rk, dp, pr, hT, ht⟩, -⟩ := id hR
  have hn := hS.1
  have hr := hS.2.1
  have hg := rS_g hS
  obtain ⟨P, hPK, hP, hf, hp⟩ := id hB1
  have hL := rel_cL hS hB1 hT ht
  have ed := c8_hasDock hg hp.1 c1
  have ez : (0 : Int32).toInt = 0 := by decide
  have r2 : f_X9_within c2.toInt64 0 6 = some (bI (decide (0 ≤ c2.toInt ∧ c2.toInt ≤ 6))) := by
    have := wiL c2 0 6
    rw [ez, show (6 : Int32).toInt = 6 by decide] at this
    exact this
  refine rc_T hR ?_
  by_cases hin : inR c1 n = true ∧ (0 ≤ c2.toInt ∧ c2.toInt ≤ 6)
  · obtain ⟨hin1, hin2⟩ := hin
    rw [hin1] at ed
    obtain ⟨d, hd, rfl⟩ := inR_of hin1
    have hin3 : inR c2 7 = true := decide_eq_true (by omega)
    obtain ⟨p, hp7, rfl⟩ := inR_of hin3
    have g8 : gj_in (nI d) 8 := gi (by omega) (by omega)
    have g9 : gj_in (nI d) 9 := gi (by omega) (by omega)
    have cd : (nI d).toNatClampNeg = d := nI_clamp (by omega)
    obtain ⟨t1, t2, t3, t4⟩ := ht.2.2.2 d hd
    have nb : ¬ bI true = 0 := by decide
    have ref : ∀ (σ1 : gj_S), σ1.1 = σ.1 → ∀ (v : Int32), (∀ z, rL n r b0 e0 up par rk dp pr z → z.1 198 = σ.1 198 → (if nI p = 0 then (if gj_in ((0 : Int32) + nI d) 180 then some ((z.1 198 (Int32.toNatClampNeg ((0 : Int32) + nI d))), z) else none) else (if nI p = 1 then (if gj_in (nI d) 9 then some ((z.1 205 (Int32.toNatClampNeg (nI d))), z) else none) else (if nI p = 2 then (if gj_in (nI d) 9 then some ((z.1 204 (Int32.toNatClampNeg (nI d))), z) else none) else (if nI p = 3 then (if gj_in (nI d) 9 then some ((z.1 203 (Int32.toNatClampNeg (nI d))), z) else none) else (if nI p = 4 then ((f_X9_underOf (nI d) z).bind fun x9 => some (x9, z)) else (if nI p = 5 then ((f_X9_lackOf (nI d) z).bind fun x10 => some (x10, z)) else ((f_X9_stuckOf (nI d) z).bind fun x11 => some (x11, z)))))))) = some (v, z)) → TP (f_X9_dock (nI d) (nI p) σ1) (fun x => x.1 = v ∧ x.2.1 188 0 = 0 ∧ frK σ1 x.2 ∧ x.2.2 = σ1.2) := by
      intro σ1 hσ v hz
      have hS1 : rS n r b0 e0 σ1 := by unfold rS at hS ⊢; rw [hσ]; exact hS
      have e1 := r9_isDock hS1 (nI d)
      rw [hin1] at e1
      unfold f_X9_dock
      refine tp_beq e1 (tp_beq (x := 0) (by rw [if_neg nb, r2, decide_eq_true hin2]; rfl) (tp_f (show ¬ (0 : Int32) = 1 by decide) ?_))
      have h0 : smX σ1 (gj_sI σ1 188 (upd (σ1.1 188) 0 0)) := smX_t
      have e198 : (gj_sI σ1 188 (upd (σ1.1 188) 0 0)).1 198 = σ.1 198 := by rw [smX_s h0, hσ]
      refine tp_bind (r9_lay (smX_S h0 hS1) (by rw [e198]; exact hT)) (fun z hz1 => ?_)
      have ezs : z.1 198 = σ.1 198 := by rw [sm9_s hz1.1, e198]
      refine tp_eq (hz z hz1.2 ezs) ⟨rfl, ?_, frK_tr (frK_X h0) (frK_X (smX_9 hz1.1)), hz1.1.2⟩
      show z.1 188 0 = 0
      rw [hz1.1.1 188 (by decide) (by decide) (by decide)]
      rfl
    have e0d : (0 : Int32) + nI d = nI d := by rw [show (0 : Int32) = nI 0 from rfl, nI_add, Nat.zero_add]
    have cls : ∀ v, f_X8_dock (nI d) (nI p) σ = some v → g_X8_dock (nI d) (nI p) σ ≠ some () := by
      intro v hv hq
      unfold g_X8_dock at hq
      rw [ed] at hq
      dsimp only [Option.bind_some] at hq
      rw [if_neg nb] at hq
      rcases (show p = 0 ∨ p = 1 ∨ p = 2 ∨ p = 3 ∨ p = 4 ∨ p = 5 ∨ p = 6 by omega) with rfl | rfl | rfl | rfl | rfl | rfl | rfl
      · rw [if_pos (show nI 0 = 0 from rfl), if_pos g8] at hq; cases hq
      · rw [if_neg (by decide), if_pos (show nI 1 = 1 from rfl), if_pos g9] at hq; cases hq
      · rw [if_neg (by decide), if_neg (by decide), if_pos (show nI 2 = 2 from rfl), if_pos g9] at hq; cases hq
      · rw [if_neg (by decide), if_neg (by decide), if_neg (by decide), if_pos (show nI 3 = 3 from rfl), if_pos g9] at hq; cases hq
      · rw [if_neg (by decide), if_neg (by decide), if_neg (by decide), if_neg (by decide), if_pos (show nI 4 = 4 from rfl), c8_under hL hd] at hq; cases hq
      · rw [if_neg (by decide), if_neg (by decide), if_neg (by decide), if_neg (by decide), if_neg (by decide), if_pos (show nI 5 = 5 from rfl), c8_lack hg hp.1 hf hd] at hq; cases hq
      · rw [if_neg (by decide), if_neg (by decide), if_neg (by decide), if_neg (by decide), if_neg (by decide), if_neg (by decide), if_pos (show nI 6 = 6 from rfl), c8_stuck hg hp.1 hf hd] at hq; cases hq
    have fin : ∀ v, f_X8_dock (nI d) (nI p) σ = some v → (∀ σ1 : gj_S, σ1.1 = σ.1 → TP (f_X9_dock (nI d) (nI p) σ1) (fun x => x.1 = v ∧ x.2.1 188 0 = 0 ∧ frK σ1 x.2 ∧ x.2.2 = σ1.2)) → (g_X8_dock (nI d) (nI p) σ = some () ∧ TP (f_X9_dock (nI d) (nI p) σ) (fun x => x.2.1 188 0 = 1 ∧ frK σ x.2)) ∨ (g_X8_dock (nI d) (nI p) σ ≠ some () ∧ ∃ v, f_X8_dock (nI d) (nI p) σ = some v ∧ ∀ σ1 : gj_S, σ1.1 = σ.1 → TP (f_X9_dock (nI d) (nI p) σ1) (fun x => x.1 = v ∧ x.2.1 188 0 = 0 ∧ frK σ1 x.2 ∧ x.2.2 = σ1.2)) := fun v h1 h2 => .inr ⟨cls v h1, v, h1, h2⟩
    have open8 : f_X8_dock (nI d) (nI p) σ = (if nI p = 0 then (if gj_in (nI d) 8 then some (σ.1 18 (Int32.toNatClampNeg (nI d))) else none) else (if nI p = 1 then (if gj_in (nI d) 9 then some (σ.1 30 (Int32.toNatClampNeg (nI d))) else none) else (if nI p = 2 then (if gj_in (nI d) 9 then some (σ.1 29 (Int32.toNatClampNeg (nI d))) else none) else (if nI p = 3 then (if gj_in (nI d) 9 then some (σ.1 27 (Int32.toNatClampNeg (nI d))) else none) else (if nI p = 4 then ((f_X7_countHanging 16 (nI d) σ).bind fun x6 => some x6) else (if nI p = 5 then ((f_X1_lackOf 17 (nI d) σ).bind fun x7 => some x7) else (if nI p = 6 then ((f_X1_stuckOf 17 (nI d) σ).bind fun x8 => some x8) else none))))))) := by
      unfold f_X8_dock
      rw [ed]
      dsimp only [Option.bind_some]
      rw [if_neg nb]
    rcases (show p = 0 ∨ p = 1 ∨ p = 2 ∨ p = 3 ∨ p = 4 ∨ p = 5 ∨ p = 6 by omega) with rfl | rfl | rfl | rfl | rfl | rfl | rfl
    · refine fin (σ.1 198 d) ?_ (fun σ1 hσ => ref σ1 hσ _ (fun z hz ez => ?_))
      · rw [open8, if_pos (show nI 0 = 0 from rfl), if_pos g8, cd]
        exact congrArg some (hp.1.2.2.2.2.1 d hd)
      · rw [if_pos (show nI 0 = 0 from rfl)]
        simp only [e0d]
        rw [if_pos (gi (by omega) (by omega)), cd, ez]
    · refine fin (pr d) ?_ (fun σ1 hσ => ref σ1 hσ _ (fun z hz ez => ?_))
      · rw [open8, if_neg (by decide), if_pos (show nI 1 = 1 from rfl), if_pos g9, cd]
        exact congrArg some t4
      · rw [if_neg (by decide), if_pos (show nI 1 = 1 from rfl), if_pos g9, cd, (hz.2.2.2.2.2 d hd).2.2]
    · refine fin (nI (dp d)) ?_ (fun σ1 hσ => ref σ1 hσ _ (fun z hz ez => ?_))
      · rw [open8, if_neg (by decide), if_neg (by decide), if_pos (show nI 2 = 2 from rfl), if_pos g9, cd]
        exact congrArg some t3
      · rw [if_neg (by decide), if_neg (by decide), if_pos (show nI 2 = 2 from rfl), if_pos g9, cd, (hz.2.2.2.2.2 d hd).2.1]
    · refine fin (nI (up d)) ?_ (fun σ1 hσ => ref σ1 hσ _ (fun z hz ez => ?_))
      · rw [open8, if_neg (by decide), if_neg (by decide), if_neg (by decide), if_pos (show nI 3 = 3 from rfl), if_pos g9, cd]
        exact congrArg some t1
      · rw [if_neg (by decide), if_neg (by decide), if_neg (by decide), if_pos (show nI 3 = 3 from rfl), if_pos g9, cd, (hz.2.2.2.2.2 d hd).1]
    · refine fin (vu par dp d n) ?_ (fun σ1 hσ => ref σ1 hσ _ (fun z hz ez => ?_))
      · rw [open8, if_neg (by decide), if_neg (by decide), if_neg (by decide), if_neg (by decide), if_pos (show nI 4 = 4 from rfl), c8_under hL hd]
        rfl
      · rw [if_neg (by decide), if_neg (by decide), if_neg (by decide), if_neg (by decide), if_pos (show nI 4 = 4 from rfl), r9_under hz hd]
        rfl
    · refine fin (vl r (σ.1 198) d) ?_ (fun σ1 hσ => ref σ1 hσ _ (fun z hz ez => ?_))
      · rw [open8, if_neg (by decide), if_neg (by decide), if_neg (by decide), if_neg (by decide), if_neg (by decide), if_pos (show nI 5 = 5 from rfl), c8_lack hg hp.1 hf hd]
        rfl
      · rw [if_neg (by decide), if_neg (by decide), if_neg (by decide), if_neg (by decide), if_neg (by decide), if_pos (show nI 5 = 5 from rfl), r9_lack hz.1 hd, ez]
        rfl
    · refine fin (vk r (σ.1 198) d) ?_ (fun σ1 hσ => ref σ1 hσ _ (fun z hz ez => ?_))
      · rw [open8, if_neg (by decide), if_neg (by decide), if_neg (by decide), if_neg (by decide), if_neg (by decide), if_neg (by decide), if_pos (show nI 6 = 6 from rfl), c8_stuck hg hp.1 hf hd]
        rfl
      · rw [if_neg (by decide), if_neg (by decide), if_neg (by decide), if_neg (by decide), if_neg (by decide), if_neg (by decide), r9_stuck hz.1 hd, ez]
        rfl
  · refine .inl ⟨?_, ?_⟩
    · unfold g_X8_dock
      rw [ed]
      dsimp only [Option.bind_some]
      cases h1 : inR c1 n with
      | false => rw [if_pos (show bI false = 0 by decide)]
      | true =>
        have h2 : ¬ (0 ≤ c2.toInt ∧ c2.toInt ≤ 6) := fun q => hin ⟨h1, q⟩
        have hne : ∀ v : Int32, (0 ≤ v.toInt ∧ v.toInt ≤ 6) → ¬ c2 = v := fun v hv e => h2 (by rw [e]; exact hv)
        rw [if_neg (show ¬ bI true = 0 by decide), if_neg (hne 0 (by decide)), if_neg (hne 1 (by decide)), if_neg (hne 2 (by decide)), if_neg (hne 3 (by decide)), if_neg (hne 4 (by decide)), if_neg (hne 5 (by decide)), if_neg (hne 6 (by decide))]
    · unfold f_X9_dock
      refine tp_beq (r9_isDock hS c1) (tp_beq (x := 1) ?_ (tp_t rfl (tp_some ⟨rfl, frK_X smX_t⟩)))
      cases h1 : inR c1 n with
      | false => rw [if_pos (show bI false = 0 by decide)]
      | true =>
        rw [if_neg (show ¬ bI true = 0 by decide), r2, decide_eq_false (fun q => hin ⟨h1, q⟩)]
        rfl
