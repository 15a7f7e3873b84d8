/-! ===== total correctness of an Option ===== -/
def TP {α : Type} (o : Option α) (P : α → Prop) : Prop := ∃ x, o = some x ∧ P x
theorem tp_some {α : Type} {P : α → Prop} {a : α} (h : P a) : TP (some a) P := ⟨a, rfl, h⟩
theorem tp_if {α : Type} {P : α → Prop} {c : Prop} [Decidable c] {a b : Option α} (h1 : c → TP a P) (h2 : ¬ c → TP b P) : TP (if c then a else b) P := by
  by_cases h : c
  · rw [if_pos h]; exact h1 h
  · rw [if_neg h]; exact h2 h
theorem tp_t {α : Type} {P : α → Prop} {c : Prop} [Decidable c] {a b : Option α} (h : c) (h1 : TP a P) : TP (if c then a else b) P := by
  rw [if_pos h]; exact h1
theorem tp_f {α : Type} {P : α → Prop} {c : Prop} [Decidable c] {a b : Option α} (h : ¬ c) (h1 : TP b P) : TP (if c then a else b) P := by
  rw [if_neg h]; exact h1
theorem tp_bind {α β : Type} {P : α → Prop} {Q : β → Prop} {a : Option α} {f : α → Option β} (h1 : TP a P) (h2 : ∀ x, P x → TP (f x) Q) : TP (a.bind f) Q := by
  obtain ⟨x, rfl, hx⟩ := h1
  exact h2 x hx
theorem tp_beq {α β : Type} {Q : β → Prop} {a : Option α} {f : α → Option β} {x : α} (h1 : a = some x) (h2 : TP (f x) Q) : TP (a.bind f) Q := by
  subst h1
  exact h2
theorem tp_mono {α : Type} {P Q : α → Prop} {a : Option α} (h1 : TP a P) (h2 : ∀ x, P x → Q x) : TP a Q := by
  obtain ⟨x, e, hx⟩ := h1
  exact ⟨x, e, h2 x hx⟩
theorem tp_eq {α : Type} {P : α → Prop} {a : Option α} {x : α} (h1 : a = some x) (h2 : P x) : TP a P := ⟨x, h1, h2⟩
theorem tp_lp {α β : Type} {f : α → Option (β ⊕ α)} {I : α → Prop} {J : β → Prop} (m : α → Nat) (h : ∀ a, I a → TP (f a) (fun x => gj_K J (fun a' => I a' ∧ m a' < m a) x)) : ∀ (n : Nat) (a : α), I a → m a < n → TP (gj_lp f n a) J
  | 0, a, _, hm => absurd hm (Nat.not_lt_zero _)
  | n + 1, a, ha, hm => by
    refine tp_bind (h a ha) (fun x hx => ?_)
    cases x with
    | inl y => exact tp_some hx
    | inr y => exact tp_lp m h n y hx.1 (Nat.lt_of_lt_of_le hx.2 (Nat.le_of_lt_succ hm))
theorem tp_el {α β γ : Type} {P : α → Prop} {Q : β → Prop} {R : γ → Prop} {f : α → Option γ} {g : β → Option γ} {x : α ⊕ β} (hx : gj_K P Q x) (h1 : ∀ a, P a → TP (f a) R) (h2 : ∀ b, Q b → TP (g b) R) : TP (Sum.elim f g x) R := by
  cases x with
  | inl a => exact h1 a hx
  | inr b => exact h2 b hx
theorem gj_lp_s {α β : Type} {f : α → Option (β ⊕ α)} {n : Nat} {a : α} : gj_lp f (n + 1) a = (f a).bind (fun x => Sum.elim some (gj_lp f n) x) := rfl
theorem gj_lp_e {α β : Type} {f : α → Option (β ⊕ α)} {n : Nat} {a : α} {b : β} (h : f a = some (.inl b)) : gj_lp f (n + 1) a = some b := by rw [gj_lp_s, h]; rfl
theorem gj_lp_g {α β : Type} {f : α → Option (β ⊕ α)} {n : Nat} {a a' : α} (h : f a = some (.inr a')) : gj_lp f (n + 1) a = gj_lp f n a' := by rw [gj_lp_s, h]; rfl
/-! the range test of the reference -/
theorem wi_row (a b c : Int64) : f_X9_within a b c = some (if b ≤ a ∧ a ≤ c then 1 else 0) := by
  unfold f_X9_within
  simp only [lg_cmp_lt a b, lg_cmp_gt a c]
  by_cases h1 : a < b
  · have h3 : ¬ b ≤ a := by rw [Int64.lt_iff_toInt_lt] at h1; rw [Int64.le_iff_toInt_le]; omega
    simp [h1, h3]
  · have h3 : b ≤ a := by rw [Int64.lt_iff_toInt_lt] at h1; rw [Int64.le_iff_toInt_le]; omega
    by_cases h2 : c < a
    · have h4 : ¬ a ≤ c := by rw [Int64.lt_iff_toInt_lt] at h2; rw [Int64.le_iff_toInt_le]; omega
      simp [h1, h2, h3, h4]
    · have h4 : a ≤ c := by rw [Int64.lt_iff_toInt_lt] at h2; rw [Int64.le_iff_toInt_le]; omega
      simp [h1, h2, h3, h4]
theorem le64 (a b : Int32) : a.toInt64 ≤ b.toInt64 ↔ a ≤ b := by
  rw [Int64.le_iff_toInt_le, Int32.le_iff_toInt_le, Int32.toInt_toInt64, Int32.toInt_toInt64]
theorem wi_row32 (a b c : Int32) : f_X9_within a.toInt64 b.toInt64 c.toInt64 = some (if b ≤ a ∧ a ≤ c then 1 else 0) := by
  rw [wi_row]
  simp only [le64]
