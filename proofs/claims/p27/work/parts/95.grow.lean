/-! ===== the class: its plan against a row, its tree ===== -/
/-- the plan at cell b tells what the row s tells -/
def pm (n r : Nat) (b0 e0 : Nat → Nat) (s : Nat → Int32) (b : Nat) (σ : gj_S) : Prop :=
  σ.1 b 0 = nI n ∧ σ.1 b 1 = nI r ∧ σ.1 b 2 = s 40 ∧ σ.1 b 3 = s 41 ∧ (∀ d, d < n → σ.1 (b + 1) d = s d) ∧
  ∀ w, w < r + n → σ.1 (b + 2) w = nI (vb r b0 s w) ∧ σ.1 (b + 3) w = nI (ve r e0 s w) ∧ σ.1 (b + 4) w = vc r s w ∧ σ.1 (b + 5) w = (if w < r then s (24 + w) else 1000000) ∧ σ.1 (b + 6) w = s (50 + w) ∧ σ.1 (b + 7) w = s (74 + w)
/-- docks and routes alone -/
def gS (n r : Nat) (b0 e0 : Nat → Nat) : Prop := n ≤ 8 ∧ r ≤ 16 ∧ ∀ w, w < r → b0 w < n ∧ e0 w < n ∧ b0 w ≠ e0 w
theorem rS_g {n r : Nat} {b0 e0 : Nat → Nat} {σ : gj_S} (h : rS n r b0 e0 σ) : gS n r b0 e0 := ⟨h.1, h.2.1, fun w hw => (h.2.2.2.2 w hw).2.2⟩
theorem gb_pl {n r : Nat} {b0 e0 : Nat → Nat} {s : Nat → Int32} (h : gS n r b0 e0) {w : Nat} (hw : w < r + n) : vb r b0 s w < n ∨ vb r b0 s w = 8 := by
  unfold vb
  by_cases q : w < r
  · rw [if_pos q]; exact .inl (h.2.2 w q).1
  · rw [if_neg q]
    split
    · exact .inl (by omega)
    · exact .inr rfl
theorem ge_pl {n r : Nat} {b0 e0 : Nat → Nat} {s : Nat → Int32} (h : gS n r b0 e0) {w : Nat} (hw : w < r + n) : ve r e0 s w < n ∨ ve r e0 s w = 8 := by
  unfold ve
  by_cases q : w < r
  · rw [if_pos q]; exact .inl (h.2.2 w q).2.1
  · rw [if_neg q]
    split
    · exact .inr rfl
    · exact .inl (by omega)
/-- only the cells from lo to hi differ -/
def smC (lo hi : Nat) (σ τ : gj_S) : Prop := (∀ k, (k < lo ∨ hi < k) → τ.1 k = σ.1 k) ∧ τ.2 = σ.2
theorem smC_rf {lo hi : Nat} {σ : gj_S} : smC lo hi σ σ := ⟨fun _ _ => rfl, rfl⟩
theorem smC_tr {lo hi : Nat} {a b c : gj_S} (h1 : smC lo hi a b) (h2 : smC lo hi b c) : smC lo hi a c := ⟨fun k p => (h2.1 k p).trans (h1.1 k p), h2.2.trans h1.2⟩
theorem smC_I {lo hi k : Nat} {σ τ : gj_S} {f : Nat → Int32} (h1 : lo ≤ k) (h2 : k ≤ hi) (h : smC lo hi σ τ) : smC lo hi σ (gj_sI τ k f) := ⟨fun q hq => by
  show (if q = k then f else τ.1 q) = _
  rw [if_neg (by omega)]
  exact h.1 q hq, h.2⟩
theorem smC_wd {lo hi lo2 hi2 : Nat} {σ τ : gj_S} (h1 : lo2 ≤ lo) (h2 : hi ≤ hi2) (h : smC lo hi σ τ) : smC lo2 hi2 σ τ := ⟨fun k hk => h.1 k (by omega), h.2⟩
theorem smC_pm {n r lo hi b : Nat} {b0 e0 : Nat → Nat} {s : Nat → Int32} {σ τ : gj_S} (h : smC lo hi σ τ) (hb : b + 8 < lo ∨ hi < b) (hp : pm n r b0 e0 s b σ) : pm n r b0 e0 s b τ := by
  unfold pm at hp ⊢
  rw [h.1 b (by omega), h.1 (b + 1) (by omega), h.1 (b + 2) (by omega), h.1 (b + 3) (by omega), h.1 (b + 4) (by omega), h.1 (b + 5) (by omega), h.1 (b + 6) (by omega), h.1 (b + 7) (by omega)]
  exact hp
theorem sI_eq {σ : gj_S} {k : Nat} {f : Nat → Int32} : (gj_sI σ k f).1 k = f := if_pos rfl
theorem sI_ne {σ : gj_S} {k q : Nat} {f : Nat → Int32} (h : q ≠ k) : (gj_sI σ k f).1 q = σ.1 q := if_neg h
theorem c8_hang {t d p : Nat} {w c : Int32} {σ : gj_S} (hd : d < 9) (hp : p < 9) (hpd : p ≠ d) : ∃ τ, f_X5_hang t (nI d) (nI p) w c σ = some τ ∧ τ.1 (t + 1) = upd (σ.1 (t + 1)) d w ∧ τ.1 (t + 2) = upd (σ.1 (t + 2)) d (nI p) ∧ τ.1 (t + 3) = upd (σ.1 (t + 3)) d (σ.1 (t + 3) p + 1) ∧ τ.1 (t + 4) = upd (σ.1 (t + 4)) d c ∧ smC (t + 1) (t + 4) σ τ := by
  have gd : gj_in (nI d) 9 := gi hd (by omega)
  have gp : gj_in (nI p) 9 := gi hp (by omega)
  unfold f_X5_hang
  rw [if_pos gd, if_pos gd]
  dsimp only [Option.bind_some]
  rw [if_pos gp, if_pos gd, if_pos gd]
  rw [nI_clamp (show d < 2 ^ 31 by omega), nI_clamp (show p < 2 ^ 31 by omega)]
  refine ⟨_, rfl, ?_, ?_, ?_, ?_, smC_I (by omega) (by omega) (smC_I (by omega) (by omega) (smC_I (by omega) (by omega) (smC_I (by omega) (by omega) smC_rf)))⟩
  · rw [sI_ne (by omega), sI_ne (by omega), sI_ne (by omega), sI_eq]
  · rw [sI_ne (by omega), sI_ne (by omega), sI_eq, sI_ne (by omega)]
  · rw [sI_ne (by omega), sI_eq, sI_ne (by omega), sI_ne (by omega)]
  · rw [sI_eq, sI_ne (by omega), sI_ne (by omega), sI_ne (by omega)]
/-- what has been hung, with whom it hangs from -/
def h8 (n : Nat) (up par dp : Nat → Nat) (pr : Nat → Int32) (t : Nat) (σ : gj_S) : Prop := ht_ok n up par dp pr (σ.1 (t + 1)) (σ.1 (t + 3)) (σ.1 (t + 4)) ∧ σ.1 (t + 2) 8 = 8 ∧ ∀ d, d < n → σ.1 (t + 3) d ≠ -1 → σ.1 (t + 2) d = nI (par d)
set_option maxHeartbeats 2000000 in
theorem c8_by {n r t b : Nat} {b0 e0 : Nat → Nat} {s : Nat → Int32} {up par rk dp : Nat → Nat} {pr : Nat → Int32} {σ : gj_S} (hg : gS n r b0 e0) (hbt : b + 8 < t) (hp : pm n r b0 e0 s b σ) (hT : rT n r b0 e0 s up par rk dp pr) (hh : h8 n up par dp pr t σ) {w : Nat} (hw : w < r + n) (hTw : vT s w) :
    ∃ x τ, f_X5_hangsBy t b (nI w) σ = some (x, τ) ∧ smC (t + 1) (t + 4) σ τ ∧ h8 n up par dp pr t τ ∧ ((x = 0 ∧ τ = σ ∧ (σ.1 (t + 3) (vb r b0 s w) = -1 ↔ σ.1 (t + 3) (ve r e0 s w) = -1)) ∨ (x = 1 ∧ hu (σ.1 (t + 3)) n + 1 = hu (τ.1 (t + 3)) n)) := by
  have hn := hg.1
  have hr := hg.2.1
  obtain ⟨hC, hD, hP⟩ := hT
  have hdp : ∀ p, (p < n ∨ p = 8) → dp p ≤ 8 := fun p hp => Nat.le_trans (td_le hC hD hp) hn
  obtain ⟨q1, q2, q3, -⟩ := hp.2.2.2.2.2 w hw
  have hpb := gb_pl (s := s) hg hw
  have hpe := ge_pl (s := s) hg hw
  have gw : gj_in (nI w) 24 := gi (by omega) (by omega)
  have gb : gj_in (nI (vb r b0 s w)) 9 := gi (by omega) (by omega)
  have ge : gj_in (nI (ve r e0 s w)) 9 := gi (by omega) (by omega)
  obtain ⟨d, hd, hu0⟩ := hC.1.2.2.2 w hw hTw
  obtain ⟨a1, a2, a3, a4, a5⟩ := hC.1.2.2.1 d hd
  rw [hu0] at a3
  have hpd : par d ≠ d := by intro e; rw [e] at a5; omega
  obtain ⟨hh1, hh2, hh3⟩ := hh
  unfold f_X5_hangsBy
  rw [if_pos gw, if_pos gw]
  simp only [nI_clamp (show w < 2 ^ 31 by omega), q1, q2, q3]
  simp only [nI_clamp (show vb r b0 s w < 2 ^ 31 by omega), nI_clamp (show ve r e0 s w < 2 ^ 31 by omega)]
  rw [if_pos gb]
  have step : ∀ (e p : Nat) (c : Int32), e = d → p = par d → σ.1 (t + 3) e = -1 → σ.1 (t + 3) p ≠ -1 → (p < n ∨ p = 8) → (pr d = c) → ∃ τ, f_X5_hang t (nI e) (nI p) (nI w) c σ = some τ ∧ smC (t + 1) (t + 4) σ τ ∧ h8 n up par dp pr t τ ∧ hu (σ.1 (t + 3)) n + 1 = hu (τ.1 (t + 3)) n := by
    intro e p c he hpp hde hdp2 hpl hc
    subst he
    subst hpp
    obtain ⟨τ, e1, e2, e3, e4, e5, e6⟩ := c8_hang (t := t) (d := e) (p := par e) (w := nI w) (c := c) (σ := σ) (by omega) (by omega) hpd
    refine ⟨τ, e1, e6, ⟨?_, ?_, fun f hf hfn => ?_⟩, ?_⟩
    · have hpl2 := ht_pl hh1 hD.1 hP.1 hpl hdp2
      rw [e2, e4, e5, hpl2.1, nI_1, ← hD.2 e hd, ← hu0, ← hc]
      exact ht_up hn (fun p => by have := hdp p; omega) hh1 hd (.inr hdp2) hpd
    · rw [e3]
      show (if 8 = e then _ else _) = _
      rw [if_neg (by omega)]
      exact hh2
    · rw [e3]
      show (if f = e then _ else _) = _
      by_cases q : f = e
      · rw [if_pos q, q]
      · rw [if_neg q]
        refine hh3 f hf (fun h => hfn ?_)
        rw [e4]
        show (if f = e then _ else _) = _
        rw [if_neg q]
        exact h
    · rw [e4]
      unfold hu
      have hne : σ.1 (t + 3) (par e) + 1 ≠ -1 := by
        rw [(ht_pl hh1 hD.1 hP.1 hpl hdp2).1, nI_1]
        exact nI_m1 (by have := hdp _ hpl; omega)
      have gen : ∀ m, ct (fun d => decide (upd (σ.1 (t + 3)) e (σ.1 (t + 3) (par e) + 1) d ≠ -1)) m = ct (fun d => decide (σ.1 (t + 3) d ≠ -1)) m + (if e < m then 1 else 0) := by
        intro m
        induction m with
        | zero => rfl
        | succ m ih =>
          unfold ct
          rw [ih]
          by_cases q : m = e
          · subst q
            have c1 : decide (upd (σ.1 (t + 3)) m (σ.1 (t + 3) (par m) + 1) m ≠ -1) = true := decide_eq_true (by show (if m = m then _ else _) ≠ _; rw [if_pos rfl]; exact hne)
            have c2 : ¬ decide (σ.1 (t + 3) m ≠ -1) = true := fun q => of_decide_eq_true q hde
            rw [if_pos c1, if_neg c2, if_neg (by omega), if_pos (by omega)]
          · have c1 : upd (σ.1 (t + 3)) e (σ.1 (t + 3) (par e) + 1) m = σ.1 (t + 3) m := by
              show (if m = e then _ else _) = _
              rw [if_neg q]
            rw [c1]
            by_cases q2 : e < m
            · rw [if_pos q2, if_pos (show e < m + 1 by omega)]
              omega
            · rw [if_neg q2, if_neg (show ¬ e < m + 1 by omega)]
              omega
      rw [gen n, if_pos hd]
  by_cases hb : σ.1 (t + 3) (vb r b0 s w) = -1
  · rw [if_pos hb, if_pos gb, if_pos hb, if_pos ge]
    by_cases he : σ.1 (t + 3) (ve r e0 s w) = -1
    · rw [if_pos he]
      exact ⟨_, _, rfl, smC_rf, ⟨hh1, hh2, hh3⟩, .inl ⟨rfl, rfl, ⟨fun _ => he, fun _ => hb⟩⟩⟩
    · rw [if_neg he, if_pos ge, if_pos gw]
      have hbd : vb r b0 s w = d ∧ ve r e0 s w = par d := by
        rcases a3 with a3 | a3
        · exact a3
        · exfalso
          rcases hh1.2.2 d hd with q | ⟨q1, q2, q3, q4⟩
          · rw [a3.1] at he; exact he q
          · rcases q4 with q4 | q4
            · rw [a3.2, q4, hh1.1] at hb; exact absurd hb (by decide)
            · rw [a3.2] at hb; exact q4 hb
      have hpl := ht_pl hh1 hD.1 hP.1 hpe he
      obtain ⟨τ, f1, f2, f3, f4⟩ := step _ _ (σ.1 (t + 4) (ve r e0 s w) - vc r s w) hbd.1 hbd.2 hb he hpe (by
        rw [hpl.2, hP.2 d hd, hu0, if_pos hbd.1, hbd.2]
        apply Int32.toBitVec_inj.mp
        simp [BitVec.sub_eq_add_neg])
      rw [f1]
      exact ⟨_, _, rfl, f2, f3, .inr ⟨rfl, f4⟩⟩
  · rw [if_neg hb, if_pos ge]
    by_cases he : σ.1 (t + 3) (ve r e0 s w) = -1
    · rw [if_pos he, if_pos gb, if_pos gw]
      have hbd : ve r e0 s w = d ∧ vb r b0 s w = par d := by
        rcases a3 with a3 | a3
        · exfalso
          rcases hh1.2.2 d hd with q | ⟨q1, q2, q3, q4⟩
          · rw [a3.1] at hb; exact hb q
          · rcases q4 with q4 | q4
            · rw [a3.2, q4, hh1.1] at he; exact absurd he (by decide)
            · rw [a3.2] at he; exact q4 he
        · exact a3
      have hpl := ht_pl hh1 hD.1 hP.1 hpb hb
      obtain ⟨τ, f1, f2, f3, f4⟩ := step _ _ (σ.1 (t + 4) (vb r b0 s w) + vc r s w) hbd.1 hbd.2 he hb hpb (by
        rw [hpl.2, hP.2 d hd, hu0, if_neg (by rw [hbd.2]; exact hpd), hbd.2])
      rw [f1]
      exact ⟨_, _, rfl, f2, f3, .inr ⟨rfl, f4⟩⟩
    · rw [if_neg he, if_pos gb, if_neg hb]
      exact ⟨_, _, rfl, smC_rf, ⟨hh1, hh2, hh3⟩, .inl ⟨rfl, rfl, ⟨fun q => absurd q hb, fun q => absurd q he⟩⟩⟩
/-- all ways looked at once -/
theorem c8_pass {n r t b : Nat} {b0 e0 : Nat → Nat} {s : Nat → Int32} {up par rk dp : Nat → Nat} {pr : Nat → Int32} {σ : gj_S} (hg : gS n r b0 e0) (hbt : b + 8 < t) (hp : pm n r b0 e0 s b σ) (hT : rT n r b0 e0 s up par rk dp pr) (hh : h8 n up par dp pr t σ) {b3 : Int32} :
    TP (gj_lp (fb_X5_grow_l81 t b b3) 5000 (nI (hu (σ.1 (t + 3)) n), 0, σ)) (fun z => smC (t + 1) (t + 4) σ z.2 ∧ h8 n up par dp pr t z.2 ∧ z.1 = nI (hu (z.2.1 (t + 3)) n) ∧ ((∀ d, d < n → z.2.1 (t + 3) d ≠ -1) ∨ hu (σ.1 (t + 3)) n < hu (z.2.1 (t + 3)) n)) := by
  have hn := hg.1
  have hr := hg.2.1
  refine tp_lp (I := fun a => ∃ w, a.2.1 = nI w ∧ w ≤ r + n ∧ smC (t + 1) (t + 4) σ a.2.2 ∧ h8 n up par dp pr t a.2.2 ∧ a.1 = nI (hu (a.2.2.1 (t + 3)) n) ∧ ((a.2.2 = σ ∧ ∀ v, v < w → vT s v → (σ.1 (t + 3) (vb r b0 s v) = -1 ↔ σ.1 (t + 3) (ve r e0 s v) = -1)) ∨ hu (σ.1 (t + 3)) n < hu (a.2.2.1 (t + 3)) n)) (fun a => r + n - a.2.1.toNatClampNeg) ?_ 5000 _ ⟨0, rfl, by omega, smC_rf, hh, rfl, .inl ⟨rfl, fun v hv => absurd hv (Nat.not_lt_zero _)⟩⟩ (by dsimp only; omega)
  rintro ⟨c, wi, τ⟩ ⟨w, h1, h2, h3, h4, h5, h6⟩
  dsimp only at h1 h2 h3 h4 h5 h6
  subst h1
  subst h5
  have hp' := smC_pm h3 (.inl (by omega)) hp
  unfold fb_X5_grow_l81
  dsimp only
  refine tp_beq (x := nI (r + n)) (by unfold f_X1_countWays; rw [hp'.1, hp'.2.1, nI_add]) ?_
  by_cases e : w = r + n
  · subst e
    refine tp_t (nI_le (by omega) (by omega)) (tp_some ⟨h3, h4, rfl, ?_⟩)
    rcases h6 with ⟨q1, q2⟩ | q
    · subst q1
      exact .inl (fun d hd => ht_full hT.1.1 h4.1 (fun v hv hTv => q2 v hv hTv) (rk d) d (Nat.le_refl _) hd)
    · exact .inr q
  · have hm : r + n - (nI w + 1).toNatClampNeg < r + n - (nI w).toNatClampNeg := by
      rw [nI_1, nI_clamp (by omega), nI_clamp (by omega)]
      omega
    have hs7 : τ.1 (b + 7) (nI w).toNatClampNeg = s (74 + w) := by
      rw [nI_clamp (by omega)]
      exact (hp'.2.2.2.2.2 w (by omega)).2.2.2.2.2
    refine tp_f (nI_ge (by omega) (by omega)) (tp_t (gi (by omega) (by omega)) ?_)
    by_cases hTw : s (74 + w) = 0
    · refine tp_t (by rw [hs7]; exact hTw) ?_
      obtain ⟨x, τ', e1, e2, e3, e4⟩ := c8_by hg hbt hp' hT h4 (w := w) (by omega) hTw
      refine tp_beq e1 ?_
      rcases e4 with ⟨f1, f2, f3⟩ | ⟨f1, f2⟩
      · subst f2
        refine tp_t f1 (tp_some ⟨⟨w + 1, nI_1 _, by omega, h3, h4, by simp, ?_⟩, hm⟩)
        dsimp only
        rcases h6 with ⟨q1, q2⟩ | q
        · subst q1
          refine .inl ⟨rfl, fun v hv hTv => ?_⟩
          by_cases e6 : v = w
          · subst e6
            exact f3
          · exact q2 v (by omega) hTv
        · exact .inr q
      · refine tp_f (by rw [f1]; exact show ¬ (1 : Int32) = 0 by decide) (tp_some ⟨⟨w + 1, nI_1 _, by omega, smC_tr h3 e2, e3, by dsimp only; rw [nI_1, f2], .inr ?_⟩, hm⟩)
        dsimp only
        rcases h6 with ⟨q1, q2⟩ | q
        · subst q1
          omega
        · omega
    · refine tp_f (by rw [hs7]; exact hTw) (tp_some ⟨⟨w + 1, nI_1 _, by omega, h3, h4, by simp, ?_⟩, hm⟩)
      dsimp only
      rcases h6 with ⟨q1, q2⟩ | q
      · refine .inl ⟨q1, fun v hv hTv => ?_⟩
        by_cases e6 : v = w
        · subst e6
          exact absurd hTv hTw
        · exact q2 v (by omega) hTv
      · exact .inr q
theorem hu_all {D : Nat → Int32} : ∀ n, hu D n = n → ∀ d, d < n → D d ≠ -1
  | 0, _, d, hd => absurd hd (Nat.not_lt_zero _)
  | n + 1, h, d, hd => by
    unfold hu ct at h
    have h0 := ct_le (P := fun d => decide (D d ≠ -1)) n
    by_cases q : decide (D n ≠ -1) = true
    · rw [if_pos q] at h
      by_cases e : d = n
      · rw [e]; exact of_decide_eq_true q
      · exact hu_all n (by unfold hu; omega) d (by omega)
    · rw [if_neg q] at h
      omega
theorem all_hu {D : Nat → Int32} : ∀ n, (∀ d, d < n → D d ≠ -1) → hu D n = n
  | 0, _ => rfl
  | n + 1, h => by
    unfold hu ct
    have := all_hu n (fun d hd => h d (by omega))
    unfold hu at this
    rw [this, if_pos (decide_eq_true (h n (by omega)))]
/-- the tree of the class -/
def t8 (n : Nat) (up par dp : Nat → Nat) (pr : Nat → Int32) (t : Nat) (σ : gj_S) : Prop := σ.1 (t + 2) 8 = 8 ∧ σ.1 (t + 3) 8 = 0 ∧ σ.1 (t + 4) 8 = 0 ∧ ∀ d, d < n → σ.1 (t + 1) d = nI (up d) ∧ σ.1 (t + 2) d = nI (par d) ∧ σ.1 (t + 3) d = nI (dp d) ∧ σ.1 (t + 4) d = pr d
theorem c8_l62 {n r t b : Nat} {b0 e0 : Nat → Nat} {s : Nat → Int32} {up par rk dp : Nat → Nat} {pr : Nat → Int32} {σ : gj_S} (hg : gS n r b0 e0) (hbt : b + 8 < t) (hp : pm n r b0 e0 s b σ) (hT : rT n r b0 e0 s up par rk dp pr) (hh : h8 n up par dp pr t σ) (h0 : hu (σ.1 (t + 3)) n = 0) :
    TP (gj_lp (fb_X5_grow_l62 t b) 5000 (0, 0, σ)) (fun z => smC (t + 1) (t + 4) σ z ∧ t8 n up par dp pr t z) := by
  have hn := hg.1
  refine tp_lp (I := fun a => ∃ k, a.2.1 = nI k ∧ k ≤ n ∧ smC (t + 1) (t + 4) σ a.2.2 ∧ h8 n up par dp pr t a.2.2 ∧ a.1 = nI (hu (a.2.2.1 (t + 3)) n) ∧ k ≤ hu (a.2.2.1 (t + 3)) n) (fun a => n - a.2.1.toNatClampNeg) ?_ 5000 _ ⟨0, rfl, by omega, smC_rf, hh, by dsimp only; rw [h0]; rfl, by omega⟩ (by dsimp only; omega)
  rintro ⟨c, ki, τ⟩ ⟨k, h1, h2, h3, h4, h5, h6⟩
  dsimp only at h1 h2 h3 h4 h5 h6
  subst h1
  subst h5
  have hp' := smC_pm h3 (.inl (by omega)) hp
  have hle := hu_le (D := τ.1 (t + 3)) (n := n)
  have fin : hu (τ.1 (t + 3)) n = n → smC (t + 1) (t + 4) σ τ ∧ t8 n up par dp pr t τ := by
    intro q
    have hall := hu_all n q
    obtain ⟨⟨g1, g2, g3⟩, g4, g5⟩ := h4
    refine ⟨h3, g4, g1, g2, fun d hd => ?_⟩
    rcases g3 d hd with a | a
    · exact absurd a (hall d hd)
    · exact ⟨a.2.1, g5 d hd (hall d hd), a.1, a.2.2.1⟩
  unfold fb_X5_grow_l62
  dsimp only
  rw [hp'.1]
  by_cases e : k = n
  · exact tp_t (nI_le (by omega) (by omega)) (tp_some (fin (by omega)))
  · refine tp_f (nI_ge (by omega) (by omega)) ?_
    by_cases e2 : hu (τ.1 (t + 3)) n = n
    · exact tp_t (nI_le (by omega) (by omega)) (tp_some (fin e2))
    · refine tp_f (nI_ge (by omega) (by omega)) (tp_bind (c8_pass hg hbt hp' hT h4) (fun z hz => ?_))
      obtain ⟨z1, z2, z3, z4⟩ := hz
      refine tp_some ⟨⟨k + 1, nI_1 _, by omega, smC_tr h3 z1, z2, z3, ?_⟩, ?_⟩
      · dsimp only
        rcases z4 with q | q
        · rw [all_hu n q]
          omega
        · omega
      · dsimp only
        rw [nI_1, nI_clamp (by omega), nI_clamp (by omega)]
        omega
theorem c8_l2 {t b : Nat} {σ : gj_S} : TP (gj_lp (fb_X5_grow_l2 t b) 5000 (0, σ)) (fun z => smC (t + 1) (t + 5) σ z ∧ ∀ j, j < 9 → z.1 (t + 5) j = σ.1 (t + 4) j ∧ z.1 (t + 2) j = 8 ∧ z.1 (t + 3) j = (if j = 8 then 0 else -1) ∧ z.1 (t + 4) j = 0) := by
  refine tp_lp (I := fun a => ∃ k, a.1 = nI k ∧ k ≤ 9 ∧ smC (t + 1) (t + 5) σ a.2 ∧ (∀ j, k ≤ j → a.2.1 (t + 4) j = σ.1 (t + 4) j) ∧ ∀ j, j < k → a.2.1 (t + 5) j = σ.1 (t + 4) j ∧ a.2.1 (t + 2) j = 8 ∧ a.2.1 (t + 3) j = (if j = 8 then 0 else -1) ∧ a.2.1 (t + 4) j = 0) (fun a => 9 - a.1.toNatClampNeg) ?_ 5000 _ ⟨0, rfl, by omega, smC_rf, fun _ _ => rfl, fun j hj => absurd hj (Nat.not_lt_zero _)⟩ (by dsimp only; omega)
  rintro ⟨x, τ⟩ ⟨k, h1, h2, h3, h4, h5⟩
  dsimp only at h1 h2 h3 h4 h5
  subst h1
  unfold fb_X5_grow_l2
  dsimp only
  by_cases e : k = 9
  · subst e
    exact tp_t (by decide) (tp_some ⟨h3, h5⟩)
  · have hg : gj_in (nI k) 9 := gi (by omega) (by omega)
    refine tp_f (by rw [show (9 : Int32) = nI 9 from rfl]; exact nI_ge (by omega) (by omega)) (tp_t hg (tp_t hg (tp_t hg (tp_beq rfl (tp_beq (x := if k = 8 then 0 else -1) ?_ (tp_t hg (tp_t hg (tp_beq rfl ?_))))))))
    · by_cases q : k = 8
      · subst q
        rfl
      · rw [if_neg q, if_neg (show ¬ nI k = 8 from fun e => q ((nI_eq (b := 8) (by omega) (by omega)).mp e))]
    · rw [nI_clamp (show k < 2 ^ 31 by omega)]
      have v5 := h4 k (Nat.le_refl _)
      refine tp_some ⟨⟨k + 1, nI_1 _, by omega, smC_I (by omega) (by omega) (smC_I (by omega) (by omega) (smC_I (by omega) (by omega) (smC_I (by omega) (by omega) h3))), fun j hj => ?_, fun j hj => ?_⟩, ?_⟩
      · dsimp only
        rw [sI_eq, sI_ne (by omega), sI_ne (by omega), sI_ne (by omega)]
        show (if j = k then _ else τ.1 (t + 4) j) = _
        rw [if_neg (by omega)]
        exact h4 j (by omega)
      · dsimp only
        rw [sI_ne (show t + 5 ≠ t + 4 by omega), sI_ne (show t + 5 ≠ t + 3 by omega), sI_ne (show t + 5 ≠ t + 2 by omega), sI_eq, sI_ne (show t + 2 ≠ t + 4 by omega), sI_ne (show t + 2 ≠ t + 3 by omega), sI_eq, sI_ne (show t + 2 ≠ t + 5 by omega), sI_ne (show t + 3 ≠ t + 4 by omega), sI_eq, sI_ne (show t + 3 ≠ t + 2 by omega), sI_ne (show t + 3 ≠ t + 5 by omega), sI_eq, sI_ne (show t + 4 ≠ t + 3 by omega), sI_ne (show t + 4 ≠ t + 2 by omega), sI_ne (show t + 4 ≠ t + 5 by omega)]
        show (if j = k then τ.1 (t + 4) k else τ.1 (t + 5) j) = _ ∧ (if j = k then 8 else τ.1 (t + 2) j) = _ ∧ (if j = k then (if k = 8 then 0 else -1) else τ.1 (t + 3) j) = _ ∧ (if j = k then 0 else τ.1 (t + 4) j) = _
        by_cases q : j = k
        · subst q
          simp only [if_pos]
          exact ⟨v5, trivial, trivial, trivial⟩
        · simp only [if_neg q]
          exact h5 j (by omega)
      · dsimp only
        first | omega | ((repeat rw [nI_1]); (repeat rw [nI_clamp (by omega)]); omega)
/-- the class's tree is the certificate's -/
theorem c8_grow {n r t b : Nat} {b0 e0 : Nat → Nat} {s : Nat → Int32} {up par rk dp : Nat → Nat} {pr : Nat → Int32} {σ : gj_S} (hg : gS n r b0 e0) (hbt : b + 8 < t) (hp : pm n r b0 e0 s b σ) (hT : rT n r b0 e0 s up par rk dp pr) : TP (f_X5_grow t b σ) (fun z => smC (t + 1) (t + 5) σ z ∧ t8 n up par dp pr t z ∧ ∀ j, j < 9 → z.1 (t + 5) j = σ.1 (t + 4) j) := by
  have hn := hg.1
  unfold f_X5_grow
  refine tp_bind c8_l2 (fun z hz => ?_)
  obtain ⟨z1, z2⟩ := hz
  have hD : ∀ d, d < n → z.1 (t + 3) d = -1 := fun d hd => by
    rw [(z2 d (by omega)).2.2.1, if_neg (by omega)]
  have h0 : hu (z.1 (t + 3)) n = 0 := by
    unfold hu
    have : ∀ m, m ≤ n → ct (fun d => decide (z.1 (t + 3) d ≠ -1)) m = 0 := by
      intro m
      induction m with
      | zero => intro _; rfl
      | succ m ih =>
        intro hm
        unfold ct
        rw [ih (by omega), if_neg (show ¬ decide (z.1 (t + 3) m ≠ -1) = true from fun q => (of_decide_eq_true q) (hD m (by omega)))]
    exact this n (Nat.le_refl _)
  refine tp_bind (c8_l62 hg hbt (smC_pm z1 (.inl (by omega)) hp) hT ⟨⟨(z2 8 (by omega)).2.2.1, (z2 8 (by omega)).2.2.2, fun d hd => .inl (hD d hd)⟩, (z2 8 (by omega)).2.1, fun d hd q => absurd (hD d hd) q⟩ h0) (fun y hy => ?_)
  refine tp_some ⟨smC_tr z1 (smC_wd (by omega) (by omega) hy.1), hy.2, fun j hj => ?_⟩
  rw [hy.1.1 (t + 5) (by omega)]
  exact (z2 j hj).1
