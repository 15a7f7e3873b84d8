/-! ===== trees over the hub (place 8): certificates, exchange of one way, values along the way up, the apex ===== -/
/-- the way w joins the places d and p -/
def tj (bg en : Nat → Nat) (w d p : Nat) : Prop := (bg w = d ∧ en w = p) ∨ (en w = d ∧ bg w = p)
theorem tj_sw {bg en : Nat → Nat} {w d p : Nat} (h : tj bg en w d p) : tj bg en w p d := by
  rcases h with ⟨a, b⟩ | ⟨a, b⟩
  · exact .inr ⟨b, a⟩
  · exact .inl ⟨b, a⟩
/-- all docks below n hang from the hub by the ways of T: up and par say how, rk falls on the way up -/
def tc_r (n m : Nat) (bg en : Nat → Nat) (T : Nat → Prop) (up par rk : Nat → Nat) : Prop :=
  n ≤ 8 ∧ par 8 = 8 ∧ (∀ d, d < n → up d < m ∧ T (up d) ∧ tj bg en (up d) d (par d) ∧ (par d < n ∨ par d = 8) ∧ rk (par d) < rk d) ∧ (∀ w, w < m → T w → ∃ d, d < n ∧ up d = w)
theorem tc_inj {n m : Nat} {bg en : Nat → Nat} {T : Nat → Prop} {up par rk : Nat → Nat} (h : tc_r n m bg en T up par rk) {d e : Nat} (hd : d < n) (he : e < n) (hu : up d = up e) : d = e := by
  obtain ⟨-, -, j1, -, r1⟩ := h.2.2.1 d hd
  obtain ⟨-, -, j2, -, r2⟩ := h.2.2.1 e he
  rw [hu] at j1
  by_cases hde : d = e
  · exact hde
  · exfalso
    unfold tj at j1 j2
    have : par d = e ∧ par e = d := by omega
    rw [this.1] at r1
    rw [this.2] at r2
    omega
def it (f : Nat → Nat) : Nat → Nat → Nat
  | 0, x => x
  | k + 1, x => it f k (f x)
theorem it_s {f : Nat → Nat} : ∀ (k x : Nat), it f (k + 1) x = f (it f k x)
  | 0, _ => rfl
  | k + 1, x => it_s k (f x)
theorem it_add {f : Nat → Nat} : ∀ (k l x : Nat), it f (k + l) x = it f l (it f k x)
  | 0, l, x => by rw [Nat.zero_add]; rfl
  | k + 1, l, x => by
    rw [Nat.add_right_comm]
    exact it_add k l (f x)
theorem it_8 {f : Nat → Nat} (h : f 8 = 8) : ∀ k, it f k 8 = 8
  | 0 => rfl
  | k + 1 => by show it f k (f 8) = 8; rw [h]; exact it_8 h k
theorem it_pl {n m : Nat} {bg en : Nat → Nat} {T : Nat → Prop} {up par rk : Nat → Nat} (h : tc_r n m bg en T up par rk) : ∀ (k x : Nat), (x < n ∨ x = 8) → (it par k x < n ∨ it par k x = 8)
  | 0, _, hx => hx
  | k + 1, x, hx => by
    rcases hx with hx | rfl
    · exact it_pl h k (par x) (h.2.2.1 x hx).2.2.2.1
    · show it par k (par 8) < n ∨ it par k (par 8) = 8
      rw [h.2.1]
      exact it_pl h k 8 (.inr rfl)
theorem it_rk {n m : Nat} {bg en : Nat → Nat} {T : Nat → Prop} {up par rk : Nat → Nat} (h : tc_r n m bg en T up par rk) : ∀ (k x : Nat), (x < n ∨ x = 8) → rk (it par k x) ≤ rk x
  | 0, _, _ => Nat.le_refl _
  | k + 1, x, hx => by
    rcases hx with hx | rfl
    · have := it_rk h k (par x) (h.2.2.1 x hx).2.2.2.1
      have h2 := (h.2.2.1 x hx).2.2.2.2
      exact Nat.le_trans this (Nat.le_of_lt h2)
    · show rk (it par k (par 8)) ≤ rk 8
      rw [h.2.1]
      exact it_rk h k 8 (.inr rfl)
/-- above a dock one never comes back to it -/
theorem it_no {n m : Nat} {bg en : Nat → Nat} {T : Nat → Prop} {up par rk : Nat → Nat} (h : tc_r n m bg en T up par rk) {x : Nat} (hx : x < n) (k : Nat) : it par k (par x) ≠ x := by
  intro e
  have h1 := it_rk h k (par x) (h.2.2.1 x hx).2.2.2.1
  have h2 := (h.2.2.1 x hx).2.2.2.2
  rw [e] at h1
  omega
theorem it_off {f g : Nat → Nat} {a : Nat} (hfg : ∀ y, y ≠ a → g y = f y) : ∀ (k x : Nat), (∀ i, i < k → it f i x ≠ a) → it g k x = it f k x
  | 0, _, _ => rfl
  | k + 1, x, h => by
    show it g k (g x) = it f k (f x)
    rw [hfg x (h 0 (by omega))]
    exact it_off hfg k (f x) (fun i hi => h (i + 1) (by omega))
/-- one way in, the first way up from A out -/
theorem tc_e0 {n m : Nat} {bg en : Nat → Nat} {T : Nat → Prop} {up par rk : Nat → Nat} {w A B : Nat} (h : tc_r n m bg en T up par rk) (hw : w < m) (hT : ¬ T w) (hj : tj bg en w A B) (hA : A < n) (hB : B < n ∨ B = 8) (hx : ∀ j, it par j B ≠ A) :
    ∃ up' par' rk' : Nat → Nat, tc_r n m bg en (fun v => v = w ∨ (T v ∧ v ≠ up A)) up' par' rk' ∧ (∀ d, d ≠ A → up' d = up d ∧ par' d = par d) ∧ up' A = w ∧ par' A = B := by
  have hA8 : A ≠ 8 := by have := h.1; omega
  refine ⟨fun d => if d = A then w else up d, fun d => if d = A then B else par d, fun d => @ite _ (∃ j, it par j d = A) (Classical.propDecidable _) (rk d + rk B + 1) (rk d), ⟨h.1, ?_, ?_, ?_⟩, ?_, ?_, ?_⟩
  · show (if 8 = A then B else par 8) = 8
    rw [if_neg (Ne.symm hA8)]
    exact h.2.1
  · intro d hd
    by_cases e : d = A
    · subst e
      have e1 : (if d = d then w else up d) = w := if_pos rfl
      have e2 : (if d = d then B else par d) = B := if_pos rfl
      dsimp only
      rw [e1, e2]
      refine ⟨hw, .inl rfl, hj, hB, ?_⟩
      rw [if_neg (fun q => by obtain ⟨j, hq⟩ := q; exact hx j hq), if_pos ⟨0, rfl⟩]
      omega
    · have e1 : (if d = A then w else up d) = up d := if_neg e
      have e2 : (if d = A then B else par d) = par d := if_neg e
      obtain ⟨a1, a2, a3, a4, a5⟩ := h.2.2.1 d hd
      dsimp only
      rw [e1, e2]
      refine ⟨a1, .inr ⟨a2, fun q => e (tc_inj h hd hA q)⟩, a3, a4, ?_⟩
      by_cases q : ∃ j, it par j (par d) = A
      · rw [if_pos q, if_pos (by obtain ⟨j, hq⟩ := q; exact ⟨j + 1, hq⟩)]
        omega
      · rw [if_neg q]
        by_cases q2 : ∃ j, it par j d = A
        · rw [if_pos q2]
          omega
        · rw [if_neg q2]
          exact a5
  · intro v hv hvT
    rcases hvT with rfl | ⟨t1, t2⟩
    · exact ⟨A, hA, if_pos rfl⟩
    · obtain ⟨d, hd, hu⟩ := h.2.2.2 v hv t1
      refine ⟨d, hd, ?_⟩
      have : d ≠ A := fun q => t2 (by rw [← hu, q])
      show (if d = A then w else up d) = v
      rw [if_neg this]
      exact hu
  · intro d hd
    exact ⟨if_neg hd, if_neg hd⟩
  · exact if_pos rfl
  · exact if_pos rfl
theorem tc_cong {n m : Nat} {bg en : Nat → Nat} {T T' : Nat → Prop} {up par rk : Nat → Nat} (h : tc_r n m bg en T up par rk) (hT : ∀ v, T' v ↔ T v) : tc_r n m bg en T' up par rk :=
  ⟨h.1, h.2.1, fun d hd => by
    obtain ⟨a1, a2, a3⟩ := h.2.2.1 d hd
    exact ⟨a1, (hT _).mpr a2, a3⟩, fun w hw ht => h.2.2.2 w hw ((hT w).mp ht)⟩
/-- one way in that joins A and B, the way up of a dock out that is on the way up from A, and not on that from B -/
theorem tc_ex {n m : Nat} {bg en : Nat → Nat} : ∀ (k : Nat) {T : Nat → Prop} {up par rk : Nat → Nat} {w A B : Nat}, tc_r n m bg en T up par rk → w < m → ¬ T w → tj bg en w A B → A < n → (B < n ∨ B = 8) → it par k A < n → (∀ j, it par j B ≠ it par k A) →
    ∃ up' par' rk' : Nat → Nat, tc_r n m bg en (fun v => v = w ∨ (T v ∧ v ≠ up (it par k A))) up' par' rk' ∧ (∀ d, (∀ i, i ≤ k → d ≠ it par i A) → up' d = up d ∧ par' d = par d) ∧ up' A = w ∧ par' A = B ∧ (∀ i, i < k → up' (it par (i + 1) A) = up (it par i A) ∧ par' (it par (i + 1) A) = it par i A)
  | 0, T, up, par, rk, w, A, B, h, hw, hT, hj, hA, hB, hk, hx => by
    obtain ⟨up', par', rk', c, o, u, p⟩ := tc_e0 h hw hT hj hA hB hx
    exact ⟨up', par', rk', c, fun d hd => o d (hd 0 (Nat.le_refl _)), u, p, fun i hi => absurd hi (Nat.not_lt_zero _)⟩
  | k + 1, T, up, par, rk, w, A, B, h, hw, hT, hj, hA, hB, hk, hx => by
    have hB' : ∀ j, it par j B ≠ A := by
      intro j e
      refine hx (j + (k + 1)) ?_
      rw [it_add, e]
    obtain ⟨up1, par1, rk1, c1, o1, u1, p1⟩ := tc_e0 h hw hT hj hA hB hB'
    obtain ⟨a1, a2, a3, a4, a5⟩ := h.2.2.1 A hA
    have hA1 : par A < n := by
      rcases a4 with q | q
      · exact q
      · exfalso
        have : it par (k + 1) A = 8 := by
          show it par k (par A) = 8
          rw [q]
          exact it_8 h.2.1 k
        have := h.1
        omega
    have hoff : ∀ i, it par1 i (par A) = it par i (par A) := fun i => it_off (a := A) (fun y hy => (o1 y hy).2) i (par A) (fun i _ => it_no h hA i)
    have hoffB : ∀ i, it par1 i B = it par i B := fun i => it_off (a := A) (fun y hy => (o1 y hy).2) i B (fun i _ => hB' i)
    have hxA : ∀ i, it par (i + 1) A ≠ A := fun i => it_no h hA i
    have hxk : it par1 k (par A) = it par (k + 1) A := hoff k
    have hne : up A ≠ w := fun q => hT (q ▸ a2)
    obtain ⟨up', par', rk', c, o, u, p, s⟩ := tc_ex k (T := fun v => v = w ∨ (T v ∧ v ≠ up A)) (w := up A) (A := par A) (B := A) c1 a1 (fun q => by
        rcases q with q | q
        · exact hne q
        · exact q.2 rfl) (tj_sw a3) hA1 (.inl hA) (by rw [hxk]; exact hk) (fun j => by
        rw [hxk]
        cases j with
        | zero => exact fun q => hxA k q.symm
        | succ j =>
          show it par1 j (par1 A) ≠ _
          rw [p1, hoffB]
          exact hx j)
    have hux : up1 (it par (k + 1) A) = up (it par (k + 1) A) := (o1 _ (hxA k)).1
    refine ⟨up', par', rk', tc_cong c (fun v => ?_), ?_, ?_, ?_, ?_⟩
    · rw [hxk, hux]
      have n1 : up A ≠ up (it par (k + 1) A) := fun q => hxA k (tc_inj h hA hk q).symm
      have n2 : w ≠ up (it par (k + 1) A) := fun q => hT (by rw [q]; exact (h.2.2.1 _ hk).2.1)
      constructor
      · rintro (rfl | ⟨t1, t2⟩)
        · exact .inr ⟨.inl rfl, n2⟩
        · by_cases q : v = up A
          · exact .inl q
          · exact .inr ⟨.inr ⟨t1, q⟩, t2⟩
      · rintro (rfl | ⟨rfl | ⟨t1, t2⟩, t3⟩)
        · exact .inr ⟨a2, n1⟩
        · exact .inl rfl
        · exact .inr ⟨t1, t3⟩
    · intro d hd
      have hdA : d ≠ A := hd 0 (by omega)
      obtain ⟨q1, q2⟩ := o d (fun i hi => by rw [hoff]; exact hd (i + 1) (by omega))
      obtain ⟨r1, r2⟩ := o1 d hdA
      exact ⟨q1.trans r1, q2.trans r2⟩
    · have := (o A (fun i _ => by rw [hoff]; exact fun q => it_no h hA i q.symm)).1
      rw [this, u1]
    · have := (o A (fun i _ => by rw [hoff]; exact fun q => it_no h hA i q.symm)).2
      rw [this, p1]
    · intro i hi
      cases i with
      | zero => exact ⟨u, p⟩
      | succ i =>
        obtain ⟨q1, q2⟩ := s i (by omega)
        rw [hoff, hoff] at q1 q2
        exact ⟨q1.trans (o1 _ (hxA i)).1, q2⟩
/-! counting, and ranks made small -/
def ct (P : Nat → Bool) : Nat → Nat
  | 0 => 0
  | n + 1 => ct P n + (if P n = true then 1 else 0)
theorem ct_le {P : Nat → Bool} : ∀ n, ct P n ≤ n
  | 0 => Nat.le_refl _
  | n + 1 => by
    have := ct_le (P := P) n
    unfold ct
    split <;> omega
theorem ct_mono {P Q : Nat → Bool} : ∀ n, (∀ i, i < n → P i = true → Q i = true) → ct P n ≤ ct Q n
  | 0, _ => Nat.le_refl _
  | n + 1, h => by
    have := ct_mono n (fun i hi => h i (by omega))
    have h2 := h n (by omega)
    unfold ct
    by_cases hp : P n = true
    · rw [if_pos hp, if_pos (h2 hp)]
      omega
    · rw [if_neg hp]
      split <;> omega
theorem ct_lt {P Q : Nat → Bool} : ∀ n, (∀ i, i < n → P i = true → Q i = true) → (∃ j, j < n ∧ Q j = true ∧ ¬ P j = true) → ct P n < ct Q n
  | 0, _, ⟨j, hj, _⟩ => absurd hj (Nat.not_lt_zero _)
  | n + 1, h, ⟨j, hj, q, p⟩ => by
    have h2 := h n (by omega)
    have h0 := ct_mono n (fun i hi => h i (by omega))
    unfold ct
    by_cases e : j = n
    · subst e
      rw [if_neg p, if_pos q]
      omega
    · have := ct_lt n (fun i hi => h i (by omega)) ⟨j, by omega, q, p⟩
      by_cases hp : P n = true
      · rw [if_pos hp, if_pos (h2 hp)]
        omega
      · rw [if_neg hp]
        split <;> omega
theorem ct_all {n : Nat} : ct (fun _ => true) n = n := by
  induction n with
  | zero => rfl
  | succ n ih =>
    unfold ct
    rw [ih, if_pos rfl]
/-- the certificate with ranks that are small -/
def tc_ok (n m : Nat) (bg en : Nat → Nat) (T : Nat → Prop) (up par rk : Nat → Nat) : Prop :=
  tc_r n m bg en T up par rk ∧ rk 8 = 0 ∧ ∀ d, d < n → rk d ≤ n
theorem tc_norm {n m : Nat} {bg en : Nat → Nat} {T : Nat → Prop} {up par rk : Nat → Nat} (h : tc_r n m bg en T up par rk) : ∃ rk', tc_ok n m bg en T up par rk' := by
  refine ⟨fun p => if p = 8 then 0 else 1 + ct (fun e => decide (rk e < rk p)) n, ⟨h.1, h.2.1, fun d hd => ?_, h.2.2.2⟩, if_pos rfl, fun d hd => ?_⟩
  · obtain ⟨a1, a2, a3, a4, a5⟩ := h.2.2.1 d hd
    refine ⟨a1, a2, a3, a4, ?_⟩
    have hd8 : d ≠ 8 := by have := h.1; omega
    dsimp only
    rw [if_neg hd8]
    by_cases q : par d = 8
    · rw [if_pos q]
      omega
    · rw [if_neg q]
      have := ct_lt (P := fun e => decide (rk e < rk (par d))) (Q := fun e => decide (rk e < rk d)) n (fun i _ hi => by
        have := of_decide_eq_true hi
        exact decide_eq_true (by omega)) ⟨par d, by omega, decide_eq_true a5, fun hi => by
        have := of_decide_eq_true hi
        omega⟩
      omega
  · have hd8 : d ≠ 8 := by have := h.1; omega
    dsimp only
    rw [if_neg hd8]
    have := ct_lt (P := fun e => decide (rk e < rk d)) (Q := fun _ => true) n (fun _ _ _ => rfl) ⟨d, hd, rfl, fun hi => by
      have := of_decide_eq_true hi
      omega⟩
    rw [ct_all] at this
    omega
/-! values along the way up -/
def tr_F {α : Type} (z : α) (g : Nat → α → α) (par : Nat → Nat) : Nat → Nat → α
  | 0, _ => z
  | k + 1, p => if p = 8 then z else g p (tr_F z g par k (par p))
theorem tr_st {α : Type} {z : α} {g : Nat → α → α} {n m : Nat} {bg en : Nat → Nat} {T : Nat → Prop} {up par rk : Nat → Nat} (h : tc_ok n m bg en T up par rk) : ∀ (k p : Nat), (p < n ∨ p = 8) → rk p ≤ k → tr_F z g par k p = tr_F z g par (rk p) p
  | 0, p, _, hk => by
    have : rk p = 0 := by omega
    rw [this]
  | k + 1, p, hp, hk => by
    rcases hp with hp | rfl
    · have h8 : p ≠ 8 := by have := h.1.1; omega
      obtain ⟨a1, a2, a3, a4, a5⟩ := h.1.2.2.1 p hp
      obtain ⟨r, hr⟩ : ∃ r, rk p = r + 1 := ⟨rk p - 1, by omega⟩
      rw [hr]
      show (if p = 8 then z else g p (tr_F z g par k (par p))) = (if p = 8 then z else g p (tr_F z g par r (par p)))
      rw [if_neg h8, if_neg h8, tr_st h k (par p) a4 (by omega), tr_st h r (par p) a4 (by omega)]
    · rw [h.2.1]
      exact if_pos rfl
  termination_by k => k
theorem tc_rec {α : Type} (z : α) (g : Nat → α → α) {n m : Nat} {bg en : Nat → Nat} {T : Nat → Prop} {up par rk : Nat → Nat} (h : tc_ok n m bg en T up par rk) : ∃ q : Nat → α, q 8 = z ∧ ∀ d, d < n → q d = g d (q (par d)) := by
  refine ⟨fun p => tr_F z g par (rk p) p, ?_, fun d hd => ?_⟩
  · dsimp only
    rw [h.2.1]
    rfl
  · have h8 : d ≠ 8 := by have := h.1.1; omega
    obtain ⟨a1, a2, a3, a4, a5⟩ := h.1.2.2.1 d hd
    obtain ⟨r, hr⟩ : ∃ r, rk d = r + 1 := ⟨rk d - 1, by omega⟩
    dsimp only
    rw [hr]
    show (if d = 8 then z else g d (tr_F z g par r (par d))) = _
    rw [if_neg h8, tr_st h r (par d) a4 (by omega)]
/-- depths -/
def td (n : Nat) (par dp : Nat → Nat) : Prop := dp 8 = 0 ∧ ∀ d, d < n → dp d = dp (par d) + 1
theorem td_ex {n m : Nat} {bg en : Nat → Nat} {T : Nat → Prop} {up par rk : Nat → Nat} (h : tc_ok n m bg en T up par rk) : ∃ dp, td n par dp := tc_rec 0 (fun _ x => x + 1) h
theorem td_rk {n m : Nat} {bg en : Nat → Nat} {T : Nat → Prop} {up par rk dp : Nat → Nat} (h : tc_ok n m bg en T up par rk) (hd : td n par dp) : ∀ (k p : Nat), rk p ≤ k → (p < n ∨ p = 8) → dp p ≤ rk p
  | k, p, hk, hp => by
    rcases hp with hp | rfl
    · obtain ⟨a1, a2, a3, a4, a5⟩ := h.1.2.2.1 p hp
      cases k with
      | zero => omega
      | succ k =>
        have := td_rk h hd k (par p) (by omega) a4
        rw [hd.2 p hp]
        omega
    · rw [hd.1]
      omega
  termination_by k => k
theorem td_le {n m : Nat} {bg en : Nat → Nat} {T : Nat → Prop} {up par rk dp : Nat → Nat} (h : tc_ok n m bg en T up par rk) (hd : td n par dp) {p : Nat} (hp : p < n ∨ p = 8) : dp p ≤ n := by
  have h1 := td_rk h hd (rk p) p (Nat.le_refl _) hp
  rcases hp with hp | rfl
  · have := h.2.2 p hp
    omega
  · rw [hd.1]
    omega
theorem td_it {n m : Nat} {bg en : Nat → Nat} {T : Nat → Prop} {up par rk dp : Nat → Nat} (h : tc_r n m bg en T up par rk) (hd : td n par dp) : ∀ (k x : Nat), (x < n ∨ x = 8) → dp (it par k x) ≤ dp x
  | 0, _, _ => Nat.le_refl _
  | k + 1, x, hx => by
    rcases hx with hx | rfl
    · have := td_it h hd k (par x) (h.2.2.1 x hx).2.2.2.1
      have h2 := hd.2 x hx
      show dp (it par k (par x)) ≤ dp x
      omega
    · show dp (it par k (par 8)) ≤ dp 8
      rw [h.2.1]
      exact td_it h hd k 8 (.inr rfl)
theorem td_lt {n m : Nat} {bg en : Nat → Nat} {T : Nat → Prop} {up par rk dp : Nat → Nat} (h : tc_r n m bg en T up par rk) (hd : td n par dp) {x : Nat} (hx : x < n) (k : Nat) : dp (it par (k + 1) x) < dp x := by
  have := td_it h hd k (par x) (h.2.2.1 x hx).2.2.2.1
  have h2 := hd.2 x hx
  show dp (it par k (par x)) < dp x
  omega
theorem td_0 {n : Nat} {par dp : Nat → Nat} (hd : td n par dp) {x : Nat} (hx : x < n ∨ x = 8) (h0 : dp x = 0) : x = 8 := by
  rcases hx with hx | hx
  · have := hd.2 x hx
    omega
  · exact hx
/-- so far: no place below the i-th above A is on the way up from B, none below the j-th above B on that from A -/
def tp0 (par : Nat → Nat) (A B i j : Nat) : Prop := (∀ k, k < i → ∀ l, it par k A ≠ it par l B) ∧ (∀ l, l < j → ∀ k, it par l B ≠ it par k A)
theorem tp0_0 {par : Nat → Nat} {A B : Nat} : tp0 par A B 0 0 := ⟨fun k hk => absurd hk (Nat.not_lt_zero _), fun l hl => absurd hl (Nat.not_lt_zero _)⟩
theorem tp0_sw {par : Nat → Nat} {A B i j : Nat} (h : tp0 par A B i j) : tp0 par B A j i := ⟨h.2, h.1⟩
theorem tp0_l {n m : Nat} {bg en : Nat → Nat} {T : Nat → Prop} {up par rk dp : Nat → Nat} (h : tc_r n m bg en T up par rk) (hd : td n par dp) {A B i j : Nat} (hA : A < n ∨ A = 8) (hB : B < n ∨ B = 8) (ht : tp0 par A B i j) (hne : it par i A ≠ it par j B) (hge : dp (it par j B) ≤ dp (it par i A)) : it par i A < n ∧ tp0 par A B (i + 1) j := by
  have hx := it_pl h i A hA
  have hy := it_pl h j B hB
  have hxn : it par i A < n := by
    rcases hx with q | q
    · exact q
    · exfalso
      rw [q, hd.1] at hge
      have := td_0 hd hy (by omega)
      rw [q, this] at hne
      exact hne rfl
  refine ⟨hxn, fun k hk l => ?_, ht.2⟩
  by_cases e : k = i
  · subst e
    intro q
    by_cases h1 : l < j
    · exact ht.2 l h1 k q.symm
    · obtain ⟨t, rfl⟩ : ∃ t, l = j + t := ⟨l - j, by omega⟩
      rw [it_add] at q
      cases t with
      | zero => exact hne q
      | succ t =>
        rcases hy with hy | hy
        · have := td_lt h hd hy t
          rw [← q] at this
          omega
        · rw [hy, it_8 h.2.1] at q
          exact hne (q.trans hy.symm)
  · exact ht.1 k (by omega) l
theorem tp0_r {n m : Nat} {bg en : Nat → Nat} {T : Nat → Prop} {up par rk dp : Nat → Nat} (h : tc_r n m bg en T up par rk) (hd : td n par dp) {A B i j : Nat} (hA : A < n ∨ A = 8) (hB : B < n ∨ B = 8) (ht : tp0 par A B i j) (hne : it par i A ≠ it par j B) (hge : dp (it par i A) ≤ dp (it par j B)) : it par j B < n ∧ tp0 par A B i (j + 1) := by
  obtain ⟨a, b⟩ := tp0_l h hd hB hA (tp0_sw ht) (Ne.symm hne) hge
  exact ⟨a, tp0_sw b⟩
/-- the apex of A and B: i steps above A, j above B -/
def tap (par : Nat → Nat) (A B i j : Nat) : Prop := it par i A = it par j B ∧ tp0 par A B i j
theorem tap_un {par : Nat → Nat} {A B i j i' j' : Nat} (h : tap par A B i j) (h' : tap par A B i' j') : i = i' ∧ j = j' := by
  have q1 : ¬ i < i' := fun q => h'.2.1 i q j h.1
  have q2 : ¬ i' < i := fun q => h.2.1 i' q j' h'.1
  have q3 : ¬ j < j' := fun q => h'.2.2 j q i h.1.symm
  have q4 : ¬ j' < j := fun q => h.2.2 j' q i' h'.1.symm
  omega
theorem tap_docks {n m : Nat} {bg en : Nat → Nat} {T : Nat → Prop} {up par rk : Nat → Nat} (h : tc_r n m bg en T up par rk) {A B i j : Nat} (hA : A < n ∨ A = 8) (ht : tap par A B i j) {k : Nat} (hk : k < i) : it par k A < n := by
  rcases it_pl h k A hA with q | q
  · exact q
  · exfalso
    obtain ⟨t, rfl⟩ : ∃ t, i = k + t := ⟨i - k, by omega⟩
    have e := ht.1
    rw [it_add, q, it_8 h.2.1] at e
    exact ht.2.1 k hk j (q.trans e)
theorem td_path {n m : Nat} {bg en : Nat → Nat} {T : Nat → Prop} {up par rk dp : Nat → Nat} (h : tc_r n m bg en T up par rk) (hd : td n par dp) {A : Nat} : ∀ (k : Nat), (∀ t, t < k → it par t A < n) → dp (it par k A) + k = dp A
  | 0, _ => rfl
  | k + 1, hk => by
    have := td_path h hd k (fun t ht => hk t (by omega))
    have h2 := hd.2 _ (hk k (by omega))
    rw [it_s]
    omega
/-! hanging docks one by one: what both sides do -/
/-- what has been hung so far hangs as the certificate says -/
def ht_ok (n : Nat) (up par dp : Nat → Nat) (pr : Nat → Int32) (U D P : Nat → Int32) : Prop :=
  D 8 = 0 ∧ P 8 = 0 ∧ ∀ d, d < n → D d = -1 ∨ (D d = nI (dp d) ∧ U d = nI (up d) ∧ P d = pr d ∧ (par d = 8 ∨ D (par d) ≠ -1))
theorem nI_m1 {k : Nat} (h : k < 2 ^ 31) : nI k ≠ -1 := by
  intro e
  have h1 := congrArg Int32.toInt e
  rw [nI_toInt h, show (-1 : Int32).toInt = -1 by decide] at h1
  omega
theorem ht_up {n : Nat} {up par dp : Nat → Nat} {pr : Nat → Int32} {U D P : Nat → Int32} (hn : n ≤ 8) (hdp : ∀ p, dp p ≤ 8 ∨ n ≤ p) (h : ht_ok n up par dp pr U D P) {d : Nat} (hd : d < n) (hp : par d = 8 ∨ D (par d) ≠ -1) (hpd : par d ≠ d) : ht_ok n up par dp pr (upd U d (nI (up d))) (upd D d (nI (dp d))) (upd P d (pr d)) := by
  have h8 : ¬ 8 = d := by omega
  refine ⟨?_, ?_, fun e he => ?_⟩
  · show (if 8 = d then _ else _) = _
    rw [if_neg h8]
    exact h.1
  · show (if 8 = d then _ else _) = _
    rw [if_neg h8]
    exact h.2.1
  · have hnd : nI (dp d) ≠ -1 := nI_m1 (by have := hdp d; omega)
    have hmono : ∀ p, D p ≠ -1 → upd D d (nI (dp d)) p ≠ -1 := fun p hp => by
      show (if p = d then _ else _) ≠ _
      by_cases q : p = d
      · rw [if_pos q]; exact hnd
      · rw [if_neg q]; exact hp
    by_cases q : e = d
    · subst q
      refine .inr ⟨if_pos rfl, if_pos rfl, if_pos rfl, ?_⟩
      rcases hp with hp | hp
      · exact .inl hp
      · exact .inr (hmono _ hp)
    · rcases h.2.2 e he with a | ⟨a1, a2, a3, a4⟩
      · exact .inl (by show (if e = d then _ else _) = _; rw [if_neg q]; exact a)
      · refine .inr ⟨?_, ?_, ?_, ?_⟩
        · show (if e = d then _ else _) = _; rw [if_neg q]; exact a1
        · show (if e = d then _ else _) = _; rw [if_neg q]; exact a2
        · show (if e = d then _ else _) = _; rw [if_neg q]; exact a3
        · rcases a4 with a4 | a4
          · exact .inl a4
          · exact .inr (hmono _ a4)
/-- a place that hangs: its depth and price -/
theorem ht_pl {n : Nat} {up par dp : Nat → Nat} {pr : Nat → Int32} {U D P : Nat → Int32} (h : ht_ok n up par dp pr U D P) (hd8 : dp 8 = 0) (hp8 : pr 8 = 0) {p : Nat} (hp : p < n ∨ p = 8) (hD : D p ≠ -1) : D p = nI (dp p) ∧ P p = pr p := by
  rcases hp with hp | rfl
  · rcases h.2.2 p hp with a | a
    · exact absurd a hD
    · exact ⟨a.1, a.2.2.1⟩
  · rw [hd8, hp8]
    exact ⟨h.1, h.2.1⟩
/-- no way has one end that hangs and one that doesn't: all hang -/
theorem ht_full {n m : Nat} {bg en : Nat → Nat} {T : Nat → Prop} {up par rk dp : Nat → Nat} {pr : Nat → Int32} {U D P : Nat → Int32} (hc : tc_r n m bg en T up par rk) (h : ht_ok n up par dp pr U D P) (hw : ∀ v, v < m → T v → (D (bg v) = -1 ↔ D (en v) = -1)) : ∀ (k d : Nat), rk d ≤ k → d < n → D d ≠ -1
  | k, d, hk, hd => by
    obtain ⟨a1, a2, a3, a4, a5⟩ := hc.2.2.1 d hd
    have hpar : D (par d) ≠ -1 := by
      rcases a4 with q | q
      · cases k with
        | zero => omega
        | succ k => exact ht_full hc h hw k (par d) (by omega) q
      · rw [q, h.1]
        decide
    have := hw _ a1 a2
    intro q
    rcases a3 with ⟨b1, b2⟩ | ⟨b1, b2⟩
    · rw [b1, b2] at this
      exact hpar (this.mp q)
    · rw [b1, b2] at this
      exact hpar (this.mpr q)
  termination_by k => k
/-- how many docks hang -/
def hu (D : Nat → Int32) (n : Nat) : Nat := ct (fun d => decide (D d ≠ -1)) n
theorem hu_up {D : Nat → Int32} {n d : Nat} {v : Int32} (hd : d < n) (h : D d = -1) (hv : v ≠ -1) : hu D n < hu (upd D d v) n := by
  refine ct_lt n (fun i _ hi => ?_) ⟨d, hd, decide_eq_true ?_, fun q => ?_⟩
  · have := of_decide_eq_true hi
    refine decide_eq_true ?_
    show (if i = d then v else D i) ≠ -1
    by_cases e : i = d
    · rw [if_pos e]; exact hv
    · rw [if_neg e]; exact this
  · show (if d = d then v else D d) ≠ -1
    rw [if_pos rfl]
    exact hv
  · exact of_decide_eq_true q h
theorem hu_le {D : Nat → Int32} {n : Nat} : hu D n ≤ n := ct_le n
