/-! ===== the reference: the tree after a pivot, the pivot ===== -/
theorem tc_cg {n m : Nat} {bg en bg' en' : Nat → Nat} {T T' : Nat → Prop} {up par rk : Nat → Nat} (h : tc_r n m bg en T up par rk) (hc : ∀ w, w < m → bg' w = bg w ∧ en' w = en w ∧ (T' w ↔ T w)) : tc_r n m bg' en' T' up par rk := by
  refine ⟨h.1, h.2.1, fun d hd => ?_, fun w hw ht => h.2.2.2 w hw ((hc w hw).2.2.mp ht)⟩
  obtain ⟨a1, a2, a3, a4⟩ := h.2.2.1 d hd
  obtain ⟨c1, c2, c3⟩ := hc _ a1
  refine ⟨a1, c3.mpr a2, ?_, a4⟩
  unfold tj at a3 ⊢
  rw [c1, c2]
  exact a3
/-- rows that tell the same costs and the same tenders -/
def rwE (s s' : Nat → Int32) : Prop := (∀ q, 8 ≤ q → q < 24 → s' q = s q) ∧ ∀ q, 42 ≤ q → q < 50 → s' q = s q
theorem rwE_rf {s : Nat → Int32} : rwE s s := ⟨fun _ _ _ => rfl, fun _ _ _ => rfl⟩
theorem rwE_b {n r : Nat} {b0 e0 : Nat → Nat} {σ : gj_S} (hS : rS n r b0 e0 σ) {s s' : Nat → Int32} (h : rwE s s') {w : Nat} (hw : w < r + n) : vb r b0 s' w = vb r b0 s w ∧ ve r e0 s' w = ve r e0 s w ∧ vc r s' w = vc r s w := by
  have hn := hS.1
  have hr := hS.2.1
  unfold vb ve vc
  by_cases q : w < r
  · simp only [if_pos q]
    exact ⟨trivial, trivial, h.1 _ (by omega) (by omega)⟩
  · simp only [if_neg q]
    rw [h.2 _ (by omega) (by omega)]
    exact ⟨rfl, rfl, trivial⟩
theorem rT_cg {n r : Nat} {b0 e0 : Nat → Nat} {σ : gj_S} (hS : rS n r b0 e0 σ) {s s' : Nat → Int32} {up par rk dp : Nat → Nat} {pr : Nat → Int32} (h : rwE s s') (hT : ∀ w, w < r + n → (vT s' w ↔ vT s w)) (hr : rT n r b0 e0 s up par rk dp pr) : rT n r b0 e0 s' up par rk dp pr := by
  obtain ⟨⟨c1, c2, c3⟩, d, p1, p2⟩ := hr
  refine ⟨⟨tc_cg c1 (fun w hw => ⟨(rwE_b hS h hw).1, (rwE_b hS h hw).2.1, hT w hw⟩), c2, c3⟩, d, p1, fun e he => ?_⟩
  have hu := (c1.2.2.1 e he).1
  rw [p2 e he, (rwE_b hS h hu).1, (rwE_b hS h hu).2.2]
/-- how the ways up change: from A on the way up turned round, k + 1 docks -/
def pvU (up par up2 par2 : Nat → Nat) (w A B k : Nat) : Prop := (∀ d, (∀ t, t ≤ k → d ≠ it par t A) → up2 d = up d ∧ par2 d = par d) ∧ up2 A = w ∧ par2 A = B ∧ ∀ t, t < k → up2 (it par (t + 1) A) = up (it par t A) ∧ par2 (it par (t + 1) A) = it par t A
theorem vAB_tj {r : Nat} {b0 e0 : Nat → Nat} {s : Nat → Int32} {w : Nat} : tj (vb r b0 s) (ve r e0 s) w (vA r b0 e0 s w) (vB r b0 e0 s w) := by
  unfold vA vB tj
  by_cases q : s (74 + w) = 1
  · rw [if_pos q, if_pos q]
    exact .inl ⟨rfl, rfl⟩
  · rw [if_neg q, if_neg q]
    exact .inr ⟨rfl, rfl⟩
/-- the tree behind the pivot -/
def pvT (s : Nat → Int32) (w out : Nat) (v : Nat) : Prop := if out = w then vT s v else (v = w ∨ (vT s v ∧ v ≠ out))
theorem pv_tree {n r : Nat} {b0 e0 : Nat → Nat} {σ : gj_S} (hS : rS n r b0 e0 σ) {s : Nat → Int32} {up par rk dp : Nat → Nat} {pr : Nat → Int32} (hT : rT n r b0 e0 s up par rk dp pr) {w i j lv : Nat} (hw : w < r + n) (hwT : ¬ vT s w) (ht : tap par (vA r b0 e0 s w) (vB r b0 e0 s w) i j) (hl : lv < i + 1 + j) :
    ∃ up2 par2 rk2 dp2 pr2, (∀ s', rwE s s' → (∀ v, v < r + n → (vT s' v ↔ pvT s w (rgW up par w (vA r b0 e0 s w) (vB r b0 e0 s w) i lv) v)) → rT n r b0 e0 s' up2 par2 rk2 dp2 pr2) ∧
      (lv = i → up2 = up ∧ par2 = par) ∧ (lv < i → pvU up par up2 par2 w (vA r b0 e0 s w) (vB r b0 e0 s w) (i - 1 - lv)) ∧ (i < lv → pvU up par up2 par2 w (vB r b0 e0 s w) (vA r b0 e0 s w) (lv - i - 1)) := by
  have hn := hS.1
  have hC := hT.1.1
  have hA := vA_pl (s := s) hS hw
  have hB := vB_pl (s := s) hS hw
  have htj := vAB_tj (r := r) (b0 := b0) (e0 := e0) (s := s) (w := w)
  generalize vA r b0 e0 s w = A at *
  generalize vB r b0 e0 s w = B at *
  have ht' : tap par B A j i := ⟨ht.1.symm, tp0_sw ht.2⟩
  have uT : ∀ d, d < n → up d ≠ w := fun d hd q => hwT (q ▸ (hC.2.2.1 d hd).2.1)
  have fin : ∀ (T2 : Nat → Prop) (up2 par2 rk2 : Nat → Nat), tc_r n (r + n) (vb r b0 s) (ve r e0 s) T2 up2 par2 rk2 → ∃ rk3 dp2 pr2, ∀ s', rwE s s' → (∀ v, v < r + n → (vT s' v ↔ T2 v)) → rT n r b0 e0 s' up2 par2 rk3 dp2 pr2 := by
    intro T2 up2 par2 rk2 h2
    obtain ⟨rk3, h3⟩ := tc_norm h2
    obtain ⟨dp2, hd2⟩ := td_ex h3
    obtain ⟨pr2, hp2⟩ := tpr_ex (r := r) (b0 := b0) (s := s) h3
    refine ⟨rk3, dp2, pr2, fun s' e1 e2 => ?_⟩
    refine ⟨⟨tc_cg h3.1 (fun v hv => ⟨(rwE_b hS e1 hv).1, (rwE_b hS e1 hv).2.1, e2 v hv⟩), h3.2⟩, hd2, hp2.1, fun e he => ?_⟩
    have hu := (h3.1.2.2.1 e he).1
    rw [hp2.2 e he, (rwE_b hS e1 hu).1, (rwE_b hS e1 hu).2.2]
  rcases Nat.lt_trichotomy lv i with q | q | q
  · -- on A's side
    have dA : ∀ t, t < i → it par t A < n := fun t q => tap_docks hC hA ht q
    have eW : rgW up par w A B i lv = up (it par (i - 1 - lv) A) := by unfold rgW; rw [if_pos q]
    obtain ⟨up2, par2, rk2, c, o1, o2, o3, o4⟩ := tc_ex (i - 1 - lv) hC hw hwT htj (dA 0 (by omega)) hB (dA _ (by omega)) (fun l e => ht.2.1 _ (by omega) l e.symm)
    obtain ⟨rk3, dp2, pr2, h3⟩ := fin _ up2 par2 rk2 c
    refine ⟨up2, par2, rk3, dp2, pr2, fun s' e1 e2 => h3 s' e1 (fun v hv => ?_), fun e => by omega, fun _ => ⟨o1, o2, o3, o4⟩, fun e => by omega⟩
    rw [e2 v hv, eW]
    unfold pvT
    rw [if_neg (uT _ (dA _ (by omega)))]
  · subst q
    have eW : rgW up par w A B lv lv = w := by unfold rgW; rw [if_neg (by omega), if_pos rfl]
    obtain ⟨rk3, dp2, pr2, h3⟩ := fin _ up par rk hC
    refine ⟨up, par, rk3, dp2, pr2, fun s' e1 e2 => h3 s' e1 (fun v hv => ?_), fun _ => ⟨rfl, rfl⟩, fun e => by omega, fun e => by omega⟩
    rw [e2 v hv, eW]
    unfold pvT
    rw [if_pos rfl]
  · have dB : ∀ t, t < j → it par t B < n := fun t q => tap_docks hC hB ht' q
    have eW : rgW up par w A B i lv = up (it par (lv - i - 1) B) := by unfold rgW; rw [if_neg (by omega), if_neg (by omega)]
    obtain ⟨up2, par2, rk2, c, o1, o2, o3, o4⟩ := tc_ex (lv - i - 1) hC hw hwT (tj_sw htj) (dB 0 (by omega)) hA (dB _ (by omega)) (fun l e => ht'.2.1 _ (by omega) l e.symm)
    obtain ⟨rk3, dp2, pr2, h3⟩ := fin _ up2 par2 rk2 c
    refine ⟨up2, par2, rk3, dp2, pr2, fun s' e1 e2 => h3 s' e1 (fun v hv => ?_), fun e => by omega, fun e => by omega, fun _ => ⟨o1, o2, o3, o4⟩⟩
    rw [e2 v hv, eW]
    unfold pvT
    rw [if_neg (uT _ (dB _ (by omega)))]
/-- a row that all calls keep -/
def rP (n r : Nat) (b0 e0 : Nat → Nat) (s : Nat → Int32) : Prop := (∃ up par rk, tc_ok n (r + n) (vb r b0 s) (ve r e0 s) (vT s) up par rk) ∧ (∀ w, w < r + n → s (74 + w) = 0 ∨ s (74 + w) = 1 ∨ s (74 + w) = 2) ∧ (∃ b, 1 ≤ b ∧ b ≤ 24 ∧ s 40 = nI b) ∧ (∃ p, s 41 = nI p ∧ (p < r + n ∨ (p = 0 ∧ r + n = 0))) ∧ (∃ q, q ≤ 16 ∧ s 99 = nI q) ∧ (∀ w, w < r → ∃ c, c ≤ 999 ∧ s (8 + w) = nI c) ∧ (∀ w, w < r → ∃ c, c ≤ 999 ∧ s (24 + w) = nI c) ∧ ∀ d, d < n → -999 ≤ (s d).toInt ∧ (s d).toInt ≤ 999
theorem rP_T {n r : Nat} {b0 e0 : Nat → Nat} {s : Nat → Int32} (h : rP n r b0 e0 s) : ∃ up par rk dp pr, rT n r b0 e0 s up par rk dp pr := by
  obtain ⟨⟨up, par, rk, hc⟩, -⟩ := h
  obtain ⟨dp, hd⟩ := td_ex hc
  obtain ⟨pr, hp⟩ := tpr_ex (r := r) (b0 := b0) (s := s) hc
  exact ⟨up, par, rk, dp, pr, hc, hd, hp⟩
/-- the row behind a pivot -/
def pvR (n r : Nat) (b0 e0 : Nat → Nat) (s : Nat → Int32) (up par : Nat → Nat) (pr pr2 : Nat → Int32) (a w i j lv : Nat) (s' : Nat → Int32) : Prop :=
  (∀ q, q < 41 → s' q = s q) ∧ s' 41 = nI a ∧ (∀ q, 42 ≤ q → q < 50 → s' q = s q) ∧
  (∀ k, k < i + 1 + j → s' (50 + rgW up par w (vA r b0 e0 s w) (vB r b0 e0 s w) i k) = s (50 + rgW up par w (vA r b0 e0 s w) (vB r b0 e0 s w) i k) + (if rgL (vb r b0 s) up par (vE s w) (vA r b0 e0 s w) (vB r b0 e0 s w) i k = true then vr r s 1000000000 w (rgW up par w (vA r b0 e0 s w) (vB r b0 e0 s w) i lv) (rgL (vb r b0 s) up par (vE s w) (vA r b0 e0 s w) (vB r b0 e0 s w) i lv) else 0 - vr r s 1000000000 w (rgW up par w (vA r b0 e0 s w) (vB r b0 e0 s w) i lv) (rgL (vb r b0 s) up par (vE s w) (vA r b0 e0 s w) (vB r b0 e0 s w) i lv))) ∧
  (∀ v, v < 24 → (∀ k, k < i + 1 + j → v ≠ rgW up par w (vA r b0 e0 s w) (vB r b0 e0 s w) i k) → s' (50 + v) = s (50 + v)) ∧
  (∀ v, v < 24 → s' (74 + v) = if v = w then (if rgW up par w (vA r b0 e0 s w) (vB r b0 e0 s w) i lv = w then (if s (74 + w) = 1 then 2 else 1) else 0) else if v = rgW up par w (vA r b0 e0 s w) (vB r b0 e0 s w) i lv then (if rgL (vb r b0 s) up par (vE s w) (vA r b0 e0 s w) (vB r b0 e0 s w) i lv = true then 2 else 1) else s (74 + v)) ∧
  s' 98 = s 98 + 1 ∧ s' 99 = (if 16 ≤ s 99 then s 99 else s 99 + 1) ∧ s' 100 = nI w ∧ s' 101 = nI (rgW up par w (vA r b0 e0 s w) (vB r b0 e0 s w) i lv) ∧ s' 102 = vr r s 1000000000 w (rgW up par w (vA r b0 e0 s w) (vB r b0 e0 s w) i lv) (rgL (vb r b0 s) up par (vE s w) (vA r b0 e0 s w) (vB r b0 e0 s w) i lv) ∧ s' 103 = nI (i + 1 + j) ∧ s' 104 = nI (ct (fun d => decide (pr2 d ≠ pr d)) n) ∧ ∀ q, 105 ≤ q → q < 180 → s' q = s (q - 5)
/-- what a pivot leaves alone -/
def smP (σ τ : gj_S) : Prop := (∀ k, k ≠ 188 → k ≠ 198 → (k < 203 ∨ 208 < k) → τ.1 k = σ.1 k) ∧ (∀ j, j ≠ 30 → (j < 33 ∨ 36 < j) → τ.1 188 j = σ.1 188 j) ∧ τ.2 = σ.2
theorem smP_rf {σ : gj_S} : smP σ σ := ⟨fun _ _ _ _ => rfl, fun _ _ _ => rfl, rfl⟩
theorem smP_tr {a b c : gj_S} (h1 : smP a b) (h2 : smP b c) : smP a c := ⟨fun k p q r => (h2.1 k p q r).trans (h1.1 k p q r), fun j p q => (h2.2.1 j p q).trans (h1.2.1 j p q), h2.2.2.trans h1.2.2⟩
theorem smP_9 {a b : gj_S} (h : sm9 a b) : smP a b := ⟨fun k p q r => h.1 k (by omega) (by omega) (by omega), fun j p q => by rw [h.1 188 (by decide) (by decide) (by decide)], h.2⟩
theorem smP_R {a b : gj_S} (h : smR a b) : smP a b := ⟨fun k p q r => h.1 k (by omega) (by omega) p, fun j p q => h.2.1 j q, h.2.2⟩
theorem smP_s {a b : gj_S} (h : ∀ k, k ≠ 198 → b.1 k = a.1 k) (h2 : b.2 = a.2) : smP a b := ⟨fun k p q r => h k q, fun j p q => by rw [h 188 (by decide)], h2⟩
theorem smP_S {n r : Nat} {b0 e0 : Nat → Nat} {σ τ : gj_S} (h3 : smP σ τ) (h : rS n r b0 e0 σ) : rS n r b0 e0 τ := by
  have e : ∀ k, k ≠ 188 → k ≠ 198 → (k < 203 ∨ 208 < k) → τ.1 k = σ.1 k := h3.1
  unfold rS at h ⊢
  rw [e 190 (by decide) (by decide) (by decide), e 191 (by decide) (by decide) (by decide), e 194 (by decide) (by decide) (by decide), e 195 (by decide) (by decide) (by decide)]
  exact h
