/-! ===== the reference's state as all calls keep it; guards; acts ===== -/
def inR (b : Int32) (n : Nat) : Bool := decide (0 ≤ b.toInt ∧ b.toInt < n)
theorem inR_of {b : Int32} {n : Nat} (h : inR b n = true) : ∃ d, d < n ∧ b = nI d := by
  have h' := of_decide_eq_true h
  have h3 := Int32.toInt_lt b
  refine ⟨b.toInt.toNat, by omega, Int32.toInt_inj.mp ?_⟩
  rw [nI_toInt (by omega)]
  omega
theorem inR_nI {d n : Nat} (h : d < n) (hn : n ≤ 1000) : inR (nI d) n = true := by
  refine decide_eq_true ?_
  rw [nI_toInt (by omega)]
  omega
theorem bI_01 (b : Bool) : (if bI b = 0 ∨ bI b = 1 then some (bI b) else none) = some (bI b) := by cases b <;> decide
theorem wiL (b lo hi : Int32) : f_X9_within b.toInt64 lo.toInt64 hi.toInt64 = some (bI (decide (lo.toInt ≤ b.toInt ∧ b.toInt ≤ hi.toInt))) := by
  rw [wi_row32]
  simp only [i32_le_iff]
  by_cases q : lo.toInt ≤ b.toInt ∧ b.toInt ≤ hi.toInt
  · rw [if_pos q]
    simp [bI, q]
  · rw [if_neg q]
    simp [bI, q]
theorem wiN {b : Int32} {n : Nat} (hn : n ≤ 1000) : f_X9_within b.toInt64 0 (nI n - 1).toInt64 = some (bI (inR b n)) := by
  have h1 : (nI n - 1).toInt = (n : Int) - 1 := by
    rw [i32_sub (by rw [nI_toInt (by omega)]; show -2147483648 ≤ (n : Int) - 1; omega) (by rw [nI_toInt (by omega)]; show (n : Int) - 1 < 2147483648; omega), nI_toInt (by omega)]
    rfl
  rw [show (0 : Int64) = Int32.toInt64 0 by decide, wiL, h1]
  unfold inR
  congr 2
  have : (0 : Int32).toInt = 0 := by decide
  rw [this]
  have e : (0 ≤ b.toInt ∧ b.toInt ≤ (n : Int) - 1) ↔ (0 ≤ b.toInt ∧ b.toInt < (n : Int)) := by omega
  simp only [e]
theorem r9_isDock {n r : Nat} {b0 e0 : Nat → Nat} {σ : gj_S} (h : rS n r b0 e0 σ) (b : Int32) : f_X9_isDock b σ = some (bI (inR b n)) := by
  have hn := h.1
  unfold f_X9_isDock
  rw [if_pos (gj0 (by decide)), rd0, h.2.2.1, wiN (by omega)]
  exact bI_01 _
theorem r9_isRoute {n r : Nat} {b0 e0 : Nat → Nat} {σ : gj_S} (h : rS n r b0 e0 σ) (b : Int32) : f_X9_isRoute b σ = some (bI (inR b r)) := by
  have hn := h.2.1
  unfold f_X9_isRoute
  rw [if_pos (gj0 (by decide)), rd0, h.2.2.2.1, wiN (by omega)]
  exact bI_01 _
theorem r9_isWay {n r : Nat} {b0 e0 : Nat → Nat} {σ : gj_S} (h : rS n r b0 e0 σ) (b : Int32) : f_X9_isWay b σ = some (bI (inR b (r + n))) := by
  have hn := h.1
  have hr := h.2.1
  unfold f_X9_isWay
  rw [r9_ways h]
  dsimp only [Option.bind_some]
  rw [wiN (by omega)]
  exact bI_01 _
theorem bI_0 {b : Bool} : bI b = 0 ↔ b = false := by cases b <;> decide
/-- the reference's state: n docks, r routes, u rows that can be undone -/
def RI (n r : Nat) (b0 e0 : Nat → Nat) (u : Nat) (σ : gj_S) : Prop := rS n r b0 e0 σ ∧ rP n r b0 e0 (σ.1 198) ∧ u ≤ 12 ∧ σ.1 188 23 = nI u ∧ (∀ t, t < u → rP n r b0 e0 (ur σ t)) ∧ (∀ k, k < 2 → σ.1 201 k = 0 ∨ (σ.1 201 k = 1 ∧ rP n r b0 e0 (kr σ k))) ∧ ∃ t, t ≤ 600 ∧ σ.1 188 2 = nI t
/-- what a call that only reads leaves alone -/
def smX (σ τ : gj_S) : Prop := (∀ k, k ≠ 188 → (k < 203 ∨ 210 < k) → τ.1 k = σ.1 k) ∧ (∀ j, j ≠ 0 → j ≠ 30 → (j < 33 ∨ 36 < j) → j ≠ 40 → τ.1 188 j = σ.1 188 j) ∧ τ.2 = σ.2
theorem smX_rf {σ : gj_S} : smX σ σ := ⟨fun _ _ _ => rfl, fun _ _ _ _ _ => rfl, rfl⟩
theorem smX_tr {a b c : gj_S} (h1 : smX a b) (h2 : smX b c) : smX a c := ⟨fun k p q => (h2.1 k p q).trans (h1.1 k p q), fun j p q r s => (h2.2.1 j p q r s).trans (h1.2.1 j p q r s), h2.2.2.trans h1.2.2⟩
theorem smX_9 {a b : gj_S} (h : sm9 a b) : smX a b := ⟨fun k p q => h.1 k (by omega) (by omega) (by omega), fun j _ _ _ _ => by rw [h.1 188 (by decide) (by decide) (by decide)], h.2⟩
theorem smX_R {a b : gj_S} (h : smR a b) : smX a b := ⟨fun k p q => h.1 k (by omega) (by omega) p, fun j _ _ q _ => h.2.1 j q, h.2.2⟩
theorem smX_t {σ : gj_S} {x : Int32} : smX σ (gj_sI σ 188 (upd (σ.1 188) 0 x)) := ⟨fun k p _ => if_neg p, fun j p _ _ _ => by
  show (if j = 0 then x else σ.1 188 j) = _
  rw [if_neg p], rfl⟩
theorem smX_O {σ : gj_S} {j : Nat} {x : Int32} (hj : j = 0 ∨ j = 30 ∨ (33 ≤ j ∧ j ≤ 36) ∨ j = 40) : smX σ (gj_sI σ 188 (upd (σ.1 188) j x)) := ⟨fun k p _ => if_neg p, fun l a b c d => by
  show (if l = j then x else σ.1 188 l) = _
  rw [if_neg (by omega)], rfl⟩
theorem smX_S {n r : Nat} {b0 e0 : Nat → Nat} {σ τ : gj_S} (h3 : smX σ τ) (h : rS n r b0 e0 σ) : rS n r b0 e0 τ := by
  have e := h3.1
  unfold rS at h ⊢
  rw [e 190 (by decide) (by decide), e 191 (by decide) (by decide), e 194 (by decide) (by decide), e 195 (by decide) (by decide)]
  exact h
theorem smX_s {σ τ : gj_S} (h3 : smX σ τ) : τ.1 198 = σ.1 198 := h3.1 198 (by decide) (by decide)
theorem RI_X {n r u : Nat} {b0 e0 : Nat → Nat} {σ τ : gj_S} (h3 : smX σ τ) (h : RI n r b0 e0 u σ) : RI n r b0 e0 u τ := by
  obtain ⟨h1, h2, h4, h5, h6, h7, h8⟩ := h
  refine ⟨smX_S h3 h1, by rw [smX_s h3]; exact h2, h4, (h3.2.1 23 (by decide) (by decide) (by decide) (by decide)).trans h5, fun t ht => ?_, fun k hk => ?_, ?_⟩
  · unfold ur
    rw [h3.1 199 (by decide) (by decide)]
    exact h6 t ht
  · unfold kr
    rw [h3.1 201 (by decide) (by decide), h3.1 200 (by decide) (by decide)]
    exact h7 k hk
  · rw [h3.2.1 2 (by decide) (by decide) (by decide) (by decide)]
    exact h8
/-- another row in place of the one that stands -/
theorem RI_row {n r u : Nat} {b0 e0 : Nat → Nat} {σ τ : gj_S} (h : RI n r b0 e0 u σ) (h1 : ∀ k, k ≠ 188 → k ≠ 198 → (k < 203 ∨ 210 < k) → τ.1 k = σ.1 k) (h2 : ∀ j, j ≠ 0 → j ≠ 30 → (j < 33 ∨ 36 < j) → j ≠ 40 → τ.1 188 j = σ.1 188 j) (hP : rP n r b0 e0 (τ.1 198)) : RI n r b0 e0 u τ := by
  obtain ⟨k1, k2, k4, k5, k6, k7, k8⟩ := h
  refine ⟨?_, hP, k4, (h2 23 (by decide) (by decide) (by decide) (by decide)).trans k5, fun t ht => ?_, fun k hk => ?_, ?_⟩
  · unfold rS at k1 ⊢
    rw [h1 190 (by decide) (by decide) (by decide), h1 191 (by decide) (by decide) (by decide), h1 194 (by decide) (by decide) (by decide), h1 195 (by decide) (by decide) (by decide)]
    exact k1
  · unfold ur
    rw [h1 199 (by decide) (by decide) (by decide)]
    exact k6 t ht
  · unfold kr
    rw [h1 201 (by decide) (by decide) (by decide), h1 200 (by decide) (by decide) (by decide)]
    exact k7 k hk
  · rw [h2 2 (by decide) (by decide) (by decide) (by decide)]
    exact k8
/-- one row more can be undone -/
def kpR (u : Nat) (σ z : gj_S) : Prop := (∀ c, c ≠ 199 → c ≠ 188 → z.1 c = σ.1 c) ∧ (∀ j, j ≠ 23 → z.1 188 j = σ.1 188 j) ∧ z.2 = σ.2 ∧ (u < 12 → z.1 188 23 = nI (u + 1) ∧ (∀ t, t < u → rwQ (ur σ t) (ur z t)) ∧ rwQ (σ.1 198) (ur z u)) ∧ (u = 12 → z.1 188 23 = nI 12 ∧ (∀ t, t < 11 → rwQ (ur σ (t + 1)) (ur z t)) ∧ rwQ (σ.1 198) (ur z 11))
theorem kp_RI {n r u : Nat} {b0 e0 : Nat → Nat} {σ z : gj_S} (h : RI n r b0 e0 u σ) (k : kpR u σ z) : RI n r b0 e0 (if u < 12 then u + 1 else 12) z := by
  obtain ⟨k1, k2, k4, k5, k6, k7, k8⟩ := h
  obtain ⟨l1, l2, l3, l4, l5⟩ := k
  have hS : rS n r b0 e0 z := by
    unfold rS at k1 ⊢
    rw [l1 190 (by decide) (by decide), l1 191 (by decide) (by decide), l1 194 (by decide) (by decide), l1 195 (by decide) (by decide)]
    exact k1
  have hK : ∀ k, k < 2 → z.1 201 k = 0 ∨ (z.1 201 k = 1 ∧ rP n r b0 e0 (kr z k)) := fun k hk => by
    unfold kr
    rw [l1 201 (by decide) (by decide), l1 200 (by decide) (by decide)]
    exact k7 k hk
  have hT : ∃ t, t ≤ 600 ∧ z.1 188 2 = nI t := by
    rw [l2 2 (by decide)]
    exact k8
  have hP : rP n r b0 e0 (z.1 198) := by rw [l1 198 (by decide) (by decide)]; exact k2
  by_cases q : u < 12
  · rw [if_pos q]
    obtain ⟨a, b, c⟩ := l4 q
    refine ⟨hS, hP, by omega, a, fun t ht => ?_, hK, hT⟩
    by_cases e : t = u
    · subst e
      exact rP_cg k1 c k2
    · exact rP_cg k1 (b t (by omega)) (k6 t (by omega))
  · rw [if_neg q]
    obtain ⟨a, b, c⟩ := l5 (by omega)
    refine ⟨hS, hP, by omega, a, fun t ht => ?_, hK, hT⟩
    by_cases e : t = 11
    · subst e
      exact rP_cg k1 c k2
    · exact rP_cg k1 (b t (by omega)) (k6 (t + 1) (by omega))
theorem r9_kp {n r u : Nat} {b0 e0 : Nat → Nat} {σ : gj_S} (h : RI n r b0 e0 u σ) : TP (f_X9_keeps σ) (fun z => kpR u σ z) := r9_keeps h.2.2.1 h.2.2.2.1
/-- one pivot, coarsely: it comes to its end and keeps the state -/
theorem r9_pv {n r u : Nat} {b0 e0 : Nat → Nat} {σ : gj_S} (h : RI n r b0 e0 u σ) : TP (f_X9_pivot σ) (fun x => RI n r b0 e0 u x.2) := by
  obtain ⟨up, par, rk, dp, pr, hT⟩ := rP_T h.2.1
  obtain ⟨b, p, a, best, b1, b2, b3, b4, -, b5, b6, b7, b8, b9⟩ := r9_pivot h.1 h.2.1 hT
  cases best with
  | none =>
    refine tp_mono (b8 rfl) (fun x hx => ?_)
    obtain ⟨-, x2, x3⟩ := hx
    exact RI_row h (fun k h1 h2 h3 => x2.1 k h1 h2 (by omega)) (fun j h1 h2 h3 h4 => x2.2.1 j h2 h3) (by rw [x3]; exact h.2.1)
  | some w =>
    obtain ⟨i, j, lv, up2, par2, rk2, dp2, pr2, -, -, -, -, -, -, -, c⟩ := b9 w rfl
    refine tp_mono c (fun x hx => ?_)
    obtain ⟨-, x2, x3, x4⟩ := hx
    exact RI_row h (fun k h1 h2 h3 => x2.1 k h1 h2 (by omega)) (fun j h1 h2 h3 h4 => x2.2.1 j h2 h3) (pv_P h.1 h.2.1 b7 x3 x4)
