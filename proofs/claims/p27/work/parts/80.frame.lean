/-! ===== frame: a method of the class leaves the reference's cells, a method of the reference the class's ===== -/
def OP {α : Type} (o : Option α) (P : α → Prop) : Prop := ∀ x, o = some x → P x
theorem op_none {α : Type} {P : α → Prop} : OP (none : Option α) P := fun x h => by cases h
theorem op_some {α : Type} {P : α → Prop} {a : α} (h : P a) : OP (some a) P := fun x e => by cases e; exact h
theorem op_if {α : Type} {P : α → Prop} {c : Prop} [Decidable c] {a b : Option α} (h1 : c → OP a P) (h2 : ¬ c → OP b P) : OP (if c then a else b) P := by
  by_cases h : c
  · rw [if_pos h]; exact h1 h
  · rw [if_neg h]; exact h2 h
theorem op_bind {α β : Type} {P : α → Prop} {Q : β → Prop} {a : Option α} {f : α → Option β} (h1 : OP a P) (h2 : ∀ x, P x → OP (f x) Q) : OP (a.bind f) Q := by
  cases a with
  | none => exact op_none
  | some x => exact h2 x (h1 x rfl)
theorem op_bT {α β : Type} {Q : β → Prop} {a : Option α} {f : α → Option β} (h2 : ∀ x, OP (f x) Q) : OP (a.bind f) Q := op_bind (P := fun _ => True) (fun _ _ => trivial) (fun x _ => h2 x)
theorem op_lp {α β : Type} {f : α → Option (β ⊕ α)} {I : α → Prop} {J : β → Prop} (h : ∀ a, I a → OP (f a) (fun x => gj_K J I x)) : ∀ (n : Nat) (a : α), I a → OP (gj_lp f n a) J
  | 0, _, _ => op_none
  | n + 1, a, ha => by
    refine op_bind (h a ha) (fun x hx => ?_)
    cases x with
    | inl y => exact op_some hx
    | inr y => exact op_lp h n y hx
theorem op_el {α β γ : Type} {P : α → Prop} {Q : β → Prop} {R : γ → Prop} {f : α → Option γ} {g : β → Option γ} {x : α ⊕ β} (hx : gj_K P Q x) (h1 : ∀ a, P a → OP (f a) R) (h2 : ∀ b, Q b → OP (g b) R) : OP (Sum.elim f g x) R := by
  cases x with
  | inl a => exact h1 a hx
  | inr b => exact h2 b hx
theorem op_bel {α β γ : Type} {P : α → Prop} {Q : β → Prop} {R : γ → Prop} {a : Option (α ⊕ β)} {f : α → Option γ} {g : β → Option γ} (h0 : OP a (fun r => gj_K P Q r)) (h1 : ∀ x, P x → OP (f x) R) (h2 : ∀ y, Q y → OP (g y) R) : OP (a.bind (fun y => Sum.elim f g y)) R := op_bind h0 (fun x hx => op_el hx h1 h2)
def fr8 (σ τ : gj_S) : Prop := ∀ k, 188 ≤ k → τ.1 k = σ.1 k ∧ τ.2.1 k = σ.2.1 k
def fr9 (σ τ : gj_S) : Prop := (∀ k, k < 188 → τ.1 k = σ.1 k ∧ τ.2.1 k = σ.2.1 k) ∧ τ.2.2 = σ.2.2
theorem fr8_rf {σ : gj_S} : fr8 σ σ := fun _ _ => ⟨rfl, rfl⟩
theorem fr9_rf {σ : gj_S} : fr9 σ σ := ⟨fun _ _ => ⟨rfl, rfl⟩, rfl⟩
theorem fr8_I {σ τ : gj_S} {k : Nat} {f : Nat → Int32} (hk : k < 188) (h : fr8 σ τ) : fr8 σ (gj_sI τ k f) := fun q hq => by
  have := h q hq
  simpa [gj_sI, show ¬ q = k by omega] using this
theorem fr8_J {σ τ : gj_S} {k : Nat} {f : Nat → Int64} (hk : k < 188) (h : fr8 σ τ) : fr8 σ (gj_sJ τ k f) := fun q hq => by
  have := h q hq
  simpa [gj_sJ, show ¬ q = k by omega] using this
theorem fr8_T {σ τ : gj_S} {t : Nat} (h : fr8 σ τ) : fr8 σ (gj_sT τ t) := h
theorem fr9_I {σ τ : gj_S} {k : Nat} {f : Nat → Int32} (hk : 188 ≤ k) (h : fr9 σ τ) : fr9 σ (gj_sI τ k f) := ⟨fun q hq => by
  have := h.1 q hq
  simpa [gj_sI, show ¬ q = k by omega] using this, h.2⟩
theorem fr9_J {σ τ : gj_S} {k : Nat} {f : Nat → Int64} (hk : 188 ≤ k) (h : fr9 σ τ) : fr9 σ (gj_sJ τ k f) := ⟨fun q hq => by
  have := h.1 q hq
  simpa [gj_sJ, show ¬ q = k by omega] using this, h.2⟩
theorem fp_55 {x : Int32} (h : gj_in x 12) : gj_pa 55 (Int32.toNatClampNeg x) + 8 < 188 := by
  have := h.2
  simp [gj_pa]
  omega
theorem fp_164 {x : Int32} (h : gj_in x 2) : gj_pa 164 (Int32.toNatClampNeg x) + 8 < 188 := by
  have := h.2
  simp [gj_pa]
  omega
set_option maxHeartbeats 2000000 in
theorem w_fb_X8_putBytes_l3 {σ0 : gj_S} {b1 : Int32} {a10003 : (Int32 × gj_S)}  (h0 : fr8 σ0 a10003.2) : OP (fb_X8_putBytes_l3 b1 a10003) (fun r : (gj_S ⊕ (Int32 × gj_S)) => gj_K (fun u1 : gj_S => fr8 σ0 u1) (fun v1 : (Int32 × gj_S) => fr8 σ0 v1.2) r) := by
  unfold fb_X8_putBytes_l3
  repeat' (with_reducible (first | exact op_none | refine op_if (fun _ => ?_) (fun _ => ?_) | refine op_bind (α := gj_S) (P := fun x => fr8 σ0 x) ?_ (fun _ _ => ?_) | refine op_bind (α := Int32 × gj_S) (P := fun x => fr8 σ0 x.2) ?_ (fun _ _ => ?_) | refine op_bind (α := Int32 × Int32 × gj_S) (P := fun x => fr8 σ0 x.2.2) ?_ (fun _ _ => ?_) | refine op_bT (fun _ => ?_) | refine op_el (by assumption) (fun _ _ => ?_) (fun _ _ => ?_) | refine op_some ?_))
  all_goals (try dsimp only [gj_K])
  all_goals (repeat' (first | exact True.intro | with_reducible assumption | with_reducible refine fr8_I ?_ ?_ | with_reducible refine fr8_J ?_ ?_ | with_reducible refine fr8_T ?_ | omega | exact fp_55 (by assumption) | exact fp_164 (by assumption) | refine ⟨?_, ?_⟩))
theorem lp_X8_putBytes_l3 {σ0 : gj_S} {b1 : Int32}  (n : Nat) (a : (Int32 × gj_S)) (h0 : fr8 σ0 a.2) : OP (gj_lp (fb_X8_putBytes_l3 b1) n a) (fun r : gj_S => fr8 σ0 r) := op_lp (I := fun a : (Int32 × gj_S) => fr8 σ0 a.2) (J := fun r : gj_S => fr8 σ0 r) (fun a h => w_fb_X8_putBytes_l3 h) n a h0
set_option maxHeartbeats 2000000 in
theorem w_X8_putBytes {σ0 : gj_S} {b1 : Int32} {σ : gj_S}  (h0 : fr8 σ0 σ) : OP (f_X8_putBytes b1 σ) (fun r : gj_S => fr8 σ0 r) := by
  unfold f_X8_putBytes
  repeat' (with_reducible (first | exact op_none | refine op_if (fun _ => ?_) (fun _ => ?_) | refine lp_X8_putBytes_l3 (σ0 := σ0) _ _ ?_ | refine op_bind (lp_X8_putBytes_l3 (σ0 := σ0) _ _ ?_) (fun _ _ => ?_) | refine op_bind (α := gj_S) (P := fun x => fr8 σ0 x) ?_ (fun _ _ => ?_) | refine op_bind (α := Int32 × gj_S) (P := fun x => fr8 σ0 x.2) ?_ (fun _ _ => ?_) | refine op_bind (α := Int32 × Int32 × gj_S) (P := fun x => fr8 σ0 x.2.2) ?_ (fun _ _ => ?_) | refine op_bT (fun _ => ?_) | refine op_el (by assumption) (fun _ _ => ?_) (fun _ _ => ?_) | refine op_some ?_))
  all_goals (try dsimp only [gj_K])
  all_goals (repeat' (first | exact True.intro | with_reducible assumption | with_reducible refine fr8_I ?_ ?_ | with_reducible refine fr8_J ?_ ?_ | with_reducible refine fr8_T ?_ | omega | exact fp_55 (by assumption) | exact fp_164 (by assumption) | refine ⟨?_, ?_⟩))
set_option maxHeartbeats 2000000 in
theorem w_X8_feed {σ0 : gj_S} {b1 : Int32} {b2 : Int32} {b3 : Int32} {b4 : Int32} {b5 : Int32} {σ : gj_S}  (h0 : fr8 σ0 σ) : OP (f_X8_feed b1 b2 b3 b4 b5 σ) (fun r : (Int32 × gj_S) => fr8 σ0 r.2) := by
  unfold f_X8_feed
  repeat' (with_reducible (first | exact op_none | refine op_if (fun _ => ?_) (fun _ => ?_) | refine w_X8_putBytes (σ0 := σ0) ?_ | refine op_bind (w_X8_putBytes (σ0 := σ0) ?_) (fun _ _ => ?_) | refine op_bind (α := gj_S) (P := fun x => fr8 σ0 x) ?_ (fun _ _ => ?_) | refine op_bind (α := Int32 × gj_S) (P := fun x => fr8 σ0 x.2) ?_ (fun _ _ => ?_) | refine op_bind (α := Int32 × Int32 × gj_S) (P := fun x => fr8 σ0 x.2.2) ?_ (fun _ _ => ?_) | refine op_bT (fun _ => ?_) | refine op_el (by assumption) (fun _ _ => ?_) (fun _ _ => ?_) | refine op_some ?_))
  all_goals (try dsimp only [gj_K])
  all_goals (repeat' (first | exact True.intro | with_reducible assumption | with_reducible refine fr8_I ?_ ?_ | with_reducible refine fr8_J ?_ ?_ | with_reducible refine fr8_T ?_ | omega | exact fp_55 (by assumption) | exact fp_164 (by assumption) | refine ⟨?_, ?_⟩))
set_option maxHeartbeats 2000000 in
theorem w_X1_tellNothing {σ0 : gj_S} {b0 : Nat} {σ : gj_S} (h_b0 : b0 + 0 < 188) (h0 : fr8 σ0 σ) : OP (f_X1_tellNothing b0 σ) (fun r : gj_S => fr8 σ0 r) := by
  unfold f_X1_tellNothing
  repeat' (with_reducible (first | exact op_none | refine op_if (fun _ => ?_) (fun _ => ?_) | refine op_bind (α := gj_S) (P := fun x => fr8 σ0 x) ?_ (fun _ _ => ?_) | refine op_bind (α := Int32 × gj_S) (P := fun x => fr8 σ0 x.2) ?_ (fun _ _ => ?_) | refine op_bind (α := Int32 × Int32 × gj_S) (P := fun x => fr8 σ0 x.2.2) ?_ (fun _ _ => ?_) | refine op_bT (fun _ => ?_) | refine op_el (by assumption) (fun _ _ => ?_) (fun _ _ => ?_) | refine op_some ?_))
  all_goals (try dsimp only [gj_K])
  all_goals (repeat' (first | exact True.intro | with_reducible assumption | with_reducible refine fr8_I ?_ ?_ | with_reducible refine fr8_J ?_ ?_ | with_reducible refine fr8_T ?_ | omega | exact fp_55 (by assumption) | exact fp_164 (by assumption) | refine ⟨?_, ?_⟩))
set_option maxHeartbeats 2000000 in
theorem w_fb_X2_readToken_l0 {σ0 : gj_S} {a10000 : gj_S}  (h0 : fr8 σ0 a10000) : OP (fb_X2_readToken_l0 a10000) (fun r : (gj_S ⊕ gj_S) => gj_K (fun u3 : gj_S => fr8 σ0 u3) (fun v3 : gj_S => fr8 σ0 v3) r) := by
  unfold fb_X2_readToken_l0
  repeat' (with_reducible (first | exact op_none | refine op_if (fun _ => ?_) (fun _ => ?_) | refine op_bind (α := gj_S) (P := fun x => fr8 σ0 x) ?_ (fun _ _ => ?_) | refine op_bind (α := Int32 × gj_S) (P := fun x => fr8 σ0 x.2) ?_ (fun _ _ => ?_) | refine op_bind (α := Int32 × Int32 × gj_S) (P := fun x => fr8 σ0 x.2.2) ?_ (fun _ _ => ?_) | refine op_bT (fun _ => ?_) | refine op_el (by assumption) (fun _ _ => ?_) (fun _ _ => ?_) | refine op_some ?_))
  all_goals (try dsimp only [gj_K])
  all_goals (repeat' (first | exact True.intro | with_reducible assumption | with_reducible refine fr8_I ?_ ?_ | with_reducible refine fr8_J ?_ ?_ | with_reducible refine fr8_T ?_ | omega | exact fp_55 (by assumption) | exact fp_164 (by assumption) | refine ⟨?_, ?_⟩))
theorem lp_X2_readToken_l0 {σ0 : gj_S}   (n : Nat) (a : gj_S) (h0 : fr8 σ0 a) : OP (gj_lp (fb_X2_readToken_l0 ) n a) (fun r : gj_S => fr8 σ0 r) := op_lp (I := fun a : gj_S => fr8 σ0 a) (J := fun r : gj_S => fr8 σ0 r) (fun a h => w_fb_X2_readToken_l0 h) n a h0
set_option maxHeartbeats 2000000 in
theorem w_fb_X2_readToken_l122 {σ0 : gj_S} {a10122 : gj_S}  (h0 : fr8 σ0 a10122) : OP (fb_X2_readToken_l122 a10122) (fun r : (gj_S ⊕ gj_S) => gj_K (fun u4 : gj_S => fr8 σ0 u4) (fun v4 : gj_S => fr8 σ0 v4) r) := by
  unfold fb_X2_readToken_l122
  repeat' (with_reducible (first | exact op_none | refine op_if (fun _ => ?_) (fun _ => ?_) | refine op_bind (α := gj_S) (P := fun x => fr8 σ0 x) ?_ (fun _ _ => ?_) | refine op_bind (α := Int32 × gj_S) (P := fun x => fr8 σ0 x.2) ?_ (fun _ _ => ?_) | refine op_bind (α := Int32 × Int32 × gj_S) (P := fun x => fr8 σ0 x.2.2) ?_ (fun _ _ => ?_) | refine op_bT (fun _ => ?_) | refine op_el (by assumption) (fun _ _ => ?_) (fun _ _ => ?_) | refine op_some ?_))
  all_goals (try dsimp only [gj_K])
  all_goals (repeat' (first | exact True.intro | with_reducible assumption | with_reducible refine fr8_I ?_ ?_ | with_reducible refine fr8_J ?_ ?_ | with_reducible refine fr8_T ?_ | omega | exact fp_55 (by assumption) | exact fp_164 (by assumption) | refine ⟨?_, ?_⟩))
theorem lp_X2_readToken_l122 {σ0 : gj_S}   (n : Nat) (a : gj_S) (h0 : fr8 σ0 a) : OP (gj_lp (fb_X2_readToken_l122 ) n a) (fun r : gj_S => fr8 σ0 r) := op_lp (I := fun a : gj_S => fr8 σ0 a) (J := fun r : gj_S => fr8 σ0 r) (fun a h => w_fb_X2_readToken_l122 h) n a h0
set_option maxHeartbeats 2000000 in
theorem w_X2_readToken {σ0 : gj_S} {σ : gj_S}  (h0 : fr8 σ0 σ) : OP (f_X2_readToken σ) (fun r : gj_S => fr8 σ0 r) := by
  unfold f_X2_readToken
  repeat' (with_reducible (first | exact op_none | refine op_if (fun _ => ?_) (fun _ => ?_) | refine lp_X2_readToken_l0 (σ0 := σ0) _ _ ?_ | refine lp_X2_readToken_l122 (σ0 := σ0) _ _ ?_ | refine op_bind (lp_X2_readToken_l0 (σ0 := σ0) _ _ ?_) (fun _ _ => ?_) | refine op_bind (lp_X2_readToken_l122 (σ0 := σ0) _ _ ?_) (fun _ _ => ?_) | refine op_bind (α := gj_S) (P := fun x => fr8 σ0 x) ?_ (fun _ _ => ?_) | refine op_bind (α := Int32 × gj_S) (P := fun x => fr8 σ0 x.2) ?_ (fun _ _ => ?_) | refine op_bind (α := Int32 × Int32 × gj_S) (P := fun x => fr8 σ0 x.2.2) ?_ (fun _ _ => ?_) | refine op_bT (fun _ => ?_) | refine op_el (by assumption) (fun _ _ => ?_) (fun _ _ => ?_) | refine op_some ?_))
  all_goals (try dsimp only [gj_K])
  all_goals (repeat' (first | exact True.intro | with_reducible assumption | with_reducible refine fr8_I ?_ ?_ | with_reducible refine fr8_J ?_ ?_ | with_reducible refine fr8_T ?_ | omega | exact fp_55 (by assumption) | exact fp_164 (by assumption) | refine ⟨?_, ?_⟩))
set_option maxHeartbeats 2000000 in
theorem w_X2_fails {σ0 : gj_S} {b1 : Int32} {σ : gj_S}  (h0 : fr8 σ0 σ) : OP (f_X2_fails b1 σ) (fun r : (Int32 × gj_S) => fr8 σ0 r.2) := by
  unfold f_X2_fails
  repeat' (with_reducible (first | exact op_none | refine op_if (fun _ => ?_) (fun _ => ?_) | refine op_bind (α := gj_S) (P := fun x => fr8 σ0 x) ?_ (fun _ _ => ?_) | refine op_bind (α := Int32 × gj_S) (P := fun x => fr8 σ0 x.2) ?_ (fun _ _ => ?_) | refine op_bind (α := Int32 × Int32 × gj_S) (P := fun x => fr8 σ0 x.2.2) ?_ (fun _ _ => ?_) | refine op_bT (fun _ => ?_) | refine op_el (by assumption) (fun _ _ => ?_) (fun _ _ => ?_) | refine op_some ?_))
  all_goals (try dsimp only [gj_K])
  all_goals (repeat' (first | exact True.intro | with_reducible assumption | with_reducible refine fr8_I ?_ ?_ | with_reducible refine fr8_J ?_ ?_ | with_reducible refine fr8_T ?_ | omega | exact fp_55 (by assumption) | exact fp_164 (by assumption) | refine ⟨?_, ?_⟩))
set_option maxHeartbeats 2000000 in
theorem w_fb_X2_isNewName_l29 {σ0 : gj_S} {a10029 : (Int32 × gj_S)}  (h0 : fr8 σ0 a10029.2) : OP (fb_X2_isNewName_l29 a10029) (fun r : (((Int32 × gj_S) ⊕ gj_S) ⊕ (Int32 × gj_S)) => gj_K (fun u7 : ((Int32 × gj_S) ⊕ gj_S) => gj_K (fun u8 : (Int32 × gj_S) => fr8 σ0 u8.2) (fun v8 : gj_S => fr8 σ0 v8) u7) (fun v7 : (Int32 × gj_S) => fr8 σ0 v7.2) r) := by
  unfold fb_X2_isNewName_l29
  repeat' (with_reducible (first | exact op_none | refine op_if (fun _ => ?_) (fun _ => ?_) | refine w_X2_fails (σ0 := σ0) ?_ | refine op_bind (w_X2_fails (σ0 := σ0) ?_) (fun _ _ => ?_) | refine op_bind (α := gj_S) (P := fun x => fr8 σ0 x) ?_ (fun _ _ => ?_) | refine op_bind (α := Int32 × gj_S) (P := fun x => fr8 σ0 x.2) ?_ (fun _ _ => ?_) | refine op_bind (α := Int32 × Int32 × gj_S) (P := fun x => fr8 σ0 x.2.2) ?_ (fun _ _ => ?_) | refine op_bT (fun _ => ?_) | refine op_el (by assumption) (fun _ _ => ?_) (fun _ _ => ?_) | refine op_some ?_))
  all_goals (try dsimp only [gj_K])
  all_goals (repeat' (first | exact True.intro | with_reducible assumption | with_reducible refine fr8_I ?_ ?_ | with_reducible refine fr8_J ?_ ?_ | with_reducible refine fr8_T ?_ | omega | exact fp_55 (by assumption) | exact fp_164 (by assumption) | refine ⟨?_, ?_⟩))
theorem lp_X2_isNewName_l29 {σ0 : gj_S}   (n : Nat) (a : (Int32 × gj_S)) (h0 : fr8 σ0 a.2) : OP (gj_lp (fb_X2_isNewName_l29 ) n a) (fun r : ((Int32 × gj_S) ⊕ gj_S) => gj_K (fun u9 : (Int32 × gj_S) => fr8 σ0 u9.2) (fun v9 : gj_S => fr8 σ0 v9) r) := op_lp (I := fun a : (Int32 × gj_S) => fr8 σ0 a.2) (J := fun r : ((Int32 × gj_S) ⊕ gj_S) => gj_K (fun u10 : (Int32 × gj_S) => fr8 σ0 u10.2) (fun v10 : gj_S => fr8 σ0 v10) r) (fun a h => w_fb_X2_isNewName_l29 h) n a h0
set_option maxHeartbeats 2000000 in
theorem w_X2_isNewName {σ0 : gj_S} {σ : gj_S}  (h0 : fr8 σ0 σ) : OP (f_X2_isNewName σ) (fun r : (Int32 × gj_S) => fr8 σ0 r.2) := by
  unfold f_X2_isNewName
  repeat' (with_reducible (first | exact op_none | refine op_if (fun _ => ?_) (fun _ => ?_) | refine w_X2_fails (σ0 := σ0) ?_ | refine lp_X2_isNewName_l29 (σ0 := σ0) _ _ ?_ | refine op_bind (w_X2_fails (σ0 := σ0) ?_) (fun _ _ => ?_) | refine op_bel (lp_X2_isNewName_l29 (σ0 := σ0) _ _ ?_) (fun _ _ => ?_) (fun _ _ => ?_) | refine op_bind (lp_X2_isNewName_l29 (σ0 := σ0) _ _ ?_) (fun _ _ => ?_) | refine op_bind (α := gj_S) (P := fun x => fr8 σ0 x) ?_ (fun _ _ => ?_) | refine op_bind (α := Int32 × gj_S) (P := fun x => fr8 σ0 x.2) ?_ (fun _ _ => ?_) | refine op_bind (α := Int32 × Int32 × gj_S) (P := fun x => fr8 σ0 x.2.2) ?_ (fun _ _ => ?_) | refine op_bT (fun _ => ?_) | refine op_el (by assumption) (fun _ _ => ?_) (fun _ _ => ?_) | refine op_some ?_))
  all_goals (try dsimp only [gj_K])
  all_goals (repeat' (first | exact True.intro | with_reducible assumption | with_reducible refine fr8_I ?_ ?_ | with_reducible refine fr8_J ?_ ?_ | with_reducible refine fr8_T ?_ | omega | exact fp_55 (by assumption) | exact fp_164 (by assumption) | refine ⟨?_, ?_⟩))
set_option maxHeartbeats 2000000 in
theorem w_X2_isNumber {σ0 : gj_S} {b1 : Int32} {b2 : Int32} {σ : gj_S}  (h0 : fr8 σ0 σ) : OP (f_X2_isNumber b1 b2 σ) (fun r : (Int32 × gj_S) => fr8 σ0 r.2) := by
  unfold f_X2_isNumber
  repeat' (with_reducible (first | exact op_none | refine op_if (fun _ => ?_) (fun _ => ?_) | refine w_X2_fails (σ0 := σ0) ?_ | refine op_bind (w_X2_fails (σ0 := σ0) ?_) (fun _ _ => ?_) | refine op_bind (α := gj_S) (P := fun x => fr8 σ0 x) ?_ (fun _ _ => ?_) | refine op_bind (α := Int32 × gj_S) (P := fun x => fr8 σ0 x.2) ?_ (fun _ _ => ?_) | refine op_bind (α := Int32 × Int32 × gj_S) (P := fun x => fr8 σ0 x.2.2) ?_ (fun _ _ => ?_) | refine op_bT (fun _ => ?_) | refine op_el (by assumption) (fun _ _ => ?_) (fun _ _ => ?_) | refine op_some ?_))
  all_goals (try dsimp only [gj_K])
  all_goals (repeat' (first | exact True.intro | with_reducible assumption | with_reducible refine fr8_I ?_ ?_ | with_reducible refine fr8_J ?_ ?_ | with_reducible refine fr8_T ?_ | omega | exact fp_55 (by assumption) | exact fp_164 (by assumption) | refine ⟨?_, ?_⟩))
set_option maxHeartbeats 2000000 in
theorem w_X2_readDock {σ0 : gj_S} {σ : gj_S}  (h0 : fr8 σ0 σ) : OP (f_X2_readDock σ) (fun r : (Int32 × gj_S) => fr8 σ0 r.2) := by
  unfold f_X2_readDock
  repeat' (with_reducible (first | exact op_none | refine op_if (fun _ => ?_) (fun _ => ?_) | refine w_X2_readToken (σ0 := σ0) ?_ | refine w_X2_fails (σ0 := σ0) ?_ | refine w_X2_isNewName (σ0 := σ0) ?_ | refine w_X2_isNumber (σ0 := σ0) ?_ | refine op_bind (w_X2_readToken (σ0 := σ0) ?_) (fun _ _ => ?_) | refine op_bind (w_X2_fails (σ0 := σ0) ?_) (fun _ _ => ?_) | refine op_bind (w_X2_isNewName (σ0 := σ0) ?_) (fun _ _ => ?_) | refine op_bind (w_X2_isNumber (σ0 := σ0) ?_) (fun _ _ => ?_) | refine op_bind (α := gj_S) (P := fun x => fr8 σ0 x) ?_ (fun _ _ => ?_) | refine op_bind (α := Int32 × gj_S) (P := fun x => fr8 σ0 x.2) ?_ (fun _ _ => ?_) | refine op_bind (α := Int32 × Int32 × gj_S) (P := fun x => fr8 σ0 x.2.2) ?_ (fun _ _ => ?_) | refine op_bT (fun _ => ?_) | refine op_el (by assumption) (fun _ _ => ?_) (fun _ _ => ?_) | refine op_some ?_))
  all_goals (try dsimp only [gj_K])
  all_goals (repeat' (first | exact True.intro | with_reducible assumption | with_reducible refine fr8_I ?_ ?_ | with_reducible refine fr8_J ?_ ?_ | with_reducible refine fr8_T ?_ | omega | exact fp_55 (by assumption) | exact fp_164 (by assumption) | refine ⟨?_, ?_⟩))
set_option maxHeartbeats 2000000 in
theorem w_X2_readRouteName {σ0 : gj_S} {b1 : Int32} {σ : gj_S}  (h0 : fr8 σ0 σ) : OP (f_X2_readRouteName b1 σ) (fun r : (Int32 × gj_S) => fr8 σ0 r.2) := by
  unfold f_X2_readRouteName
  repeat' (with_reducible (first | exact op_none | refine op_if (fun _ => ?_) (fun _ => ?_) | refine w_X2_readToken (σ0 := σ0) ?_ | refine w_X2_fails (σ0 := σ0) ?_ | refine w_X2_isNewName (σ0 := σ0) ?_ | refine op_bind (w_X2_readToken (σ0 := σ0) ?_) (fun _ _ => ?_) | refine op_bind (w_X2_fails (σ0 := σ0) ?_) (fun _ _ => ?_) | refine op_bind (w_X2_isNewName (σ0 := σ0) ?_) (fun _ _ => ?_) | refine op_bind (α := gj_S) (P := fun x => fr8 σ0 x) ?_ (fun _ _ => ?_) | refine op_bind (α := Int32 × gj_S) (P := fun x => fr8 σ0 x.2) ?_ (fun _ _ => ?_) | refine op_bind (α := Int32 × Int32 × gj_S) (P := fun x => fr8 σ0 x.2.2) ?_ (fun _ _ => ?_) | refine op_bT (fun _ => ?_) | refine op_el (by assumption) (fun _ _ => ?_) (fun _ _ => ?_) | refine op_some ?_))
  all_goals (try dsimp only [gj_K])
  all_goals (repeat' (first | exact True.intro | with_reducible assumption | with_reducible refine fr8_I ?_ ?_ | with_reducible refine fr8_J ?_ ?_ | with_reducible refine fr8_T ?_ | omega | exact fp_55 (by assumption) | exact fp_164 (by assumption) | refine ⟨?_, ?_⟩))
set_option maxHeartbeats 2000000 in
theorem w_X2_findDock {σ0 : gj_S} {b1 : Int32} {σ : gj_S}  (h0 : fr8 σ0 σ) : OP (f_X2_findDock b1 σ) (fun r : (Int32 × gj_S) => fr8 σ0 r.2) := by
  unfold f_X2_findDock
  repeat' (with_reducible (first | exact op_none | refine op_if (fun _ => ?_) (fun _ => ?_) | refine w_X2_fails (σ0 := σ0) ?_ | refine op_bind (w_X2_fails (σ0 := σ0) ?_) (fun _ _ => ?_) | refine op_bind (α := gj_S) (P := fun x => fr8 σ0 x) ?_ (fun _ _ => ?_) | refine op_bind (α := Int32 × gj_S) (P := fun x => fr8 σ0 x.2) ?_ (fun _ _ => ?_) | refine op_bind (α := Int32 × Int32 × gj_S) (P := fun x => fr8 σ0 x.2.2) ?_ (fun _ _ => ?_) | refine op_bT (fun _ => ?_) | refine op_el (by assumption) (fun _ _ => ?_) (fun _ _ => ?_) | refine op_some ?_))
  all_goals (try dsimp only [gj_K])
  all_goals (repeat' (first | exact True.intro | with_reducible assumption | with_reducible refine fr8_I ?_ ?_ | with_reducible refine fr8_J ?_ ?_ | with_reducible refine fr8_T ?_ | omega | exact fp_55 (by assumption) | exact fp_164 (by assumption) | refine ⟨?_, ?_⟩))
set_option maxHeartbeats 2000000 in
theorem w_X2_readEnds {σ0 : gj_S} {b1 : Int32} {σ : gj_S}  (h0 : fr8 σ0 σ) : OP (f_X2_readEnds b1 σ) (fun r : (Int32 × gj_S) => fr8 σ0 r.2) := by
  unfold f_X2_readEnds
  repeat' (with_reducible (first | exact op_none | refine op_if (fun _ => ?_) (fun _ => ?_) | refine w_X2_readToken (σ0 := σ0) ?_ | refine w_X2_findDock (σ0 := σ0) ?_ | refine op_bind (w_X2_readToken (σ0 := σ0) ?_) (fun _ _ => ?_) | refine op_bind (w_X2_findDock (σ0 := σ0) ?_) (fun _ _ => ?_) | refine op_bind (α := gj_S) (P := fun x => fr8 σ0 x) ?_ (fun _ _ => ?_) | refine op_bind (α := Int32 × gj_S) (P := fun x => fr8 σ0 x.2) ?_ (fun _ _ => ?_) | refine op_bind (α := Int32 × Int32 × gj_S) (P := fun x => fr8 σ0 x.2.2) ?_ (fun _ _ => ?_) | refine op_bT (fun _ => ?_) | refine op_el (by assumption) (fun _ _ => ?_) (fun _ _ => ?_) | refine op_some ?_))
  all_goals (try dsimp only [gj_K])
  all_goals (repeat' (first | exact True.intro | with_reducible assumption | with_reducible refine fr8_I ?_ ?_ | with_reducible refine fr8_J ?_ ?_ | with_reducible refine fr8_T ?_ | omega | exact fp_55 (by assumption) | exact fp_164 (by assumption) | refine ⟨?_, ?_⟩))
set_option maxHeartbeats 2000000 in
theorem w_X2_passWord {σ0 : gj_S} {b1 : Int64} {σ : gj_S}  (h0 : fr8 σ0 σ) : OP (f_X2_passWord b1 σ) (fun r : (Int32 × gj_S) => fr8 σ0 r.2) := by
  unfold f_X2_passWord
  repeat' (with_reducible (first | exact op_none | refine op_if (fun _ => ?_) (fun _ => ?_) | refine w_X2_readToken (σ0 := σ0) ?_ | refine w_X2_fails (σ0 := σ0) ?_ | refine op_bind (w_X2_readToken (σ0 := σ0) ?_) (fun _ _ => ?_) | refine op_bind (w_X2_fails (σ0 := σ0) ?_) (fun _ _ => ?_) | refine op_bind (α := gj_S) (P := fun x => fr8 σ0 x) ?_ (fun _ _ => ?_) | refine op_bind (α := Int32 × gj_S) (P := fun x => fr8 σ0 x.2) ?_ (fun _ _ => ?_) | refine op_bind (α := Int32 × Int32 × gj_S) (P := fun x => fr8 σ0 x.2.2) ?_ (fun _ _ => ?_) | refine op_bT (fun _ => ?_) | refine op_el (by assumption) (fun _ _ => ?_) (fun _ _ => ?_) | refine op_some ?_))
  all_goals (try dsimp only [gj_K])
  all_goals (repeat' (first | exact True.intro | with_reducible assumption | with_reducible refine fr8_I ?_ ?_ | with_reducible refine fr8_J ?_ ?_ | with_reducible refine fr8_T ?_ | omega | exact fp_55 (by assumption) | exact fp_164 (by assumption) | refine ⟨?_, ?_⟩))
set_option maxHeartbeats 2000000 in
theorem w_X2_readNumbers {σ0 : gj_S} {b1 : Int32} {σ : gj_S}  (h0 : fr8 σ0 σ) : OP (f_X2_readNumbers b1 σ) (fun r : (Int32 × gj_S) => fr8 σ0 r.2) := by
  unfold f_X2_readNumbers
  repeat' (with_reducible (first | exact op_none | refine op_if (fun _ => ?_) (fun _ => ?_) | refine w_X2_readToken (σ0 := σ0) ?_ | refine w_X2_isNumber (σ0 := σ0) ?_ | refine w_X2_passWord (σ0 := σ0) ?_ | refine op_bind (w_X2_readToken (σ0 := σ0) ?_) (fun _ _ => ?_) | refine op_bind (w_X2_isNumber (σ0 := σ0) ?_) (fun _ _ => ?_) | refine op_bind (w_X2_passWord (σ0 := σ0) ?_) (fun _ _ => ?_) | refine op_bind (α := gj_S) (P := fun x => fr8 σ0 x) ?_ (fun _ _ => ?_) | refine op_bind (α := Int32 × gj_S) (P := fun x => fr8 σ0 x.2) ?_ (fun _ _ => ?_) | refine op_bind (α := Int32 × Int32 × gj_S) (P := fun x => fr8 σ0 x.2.2) ?_ (fun _ _ => ?_) | refine op_bT (fun _ => ?_) | refine op_el (by assumption) (fun _ _ => ?_) (fun _ _ => ?_) | refine op_some ?_))
  all_goals (try dsimp only [gj_K])
  all_goals (repeat' (first | exact True.intro | with_reducible assumption | with_reducible refine fr8_I ?_ ?_ | with_reducible refine fr8_J ?_ ?_ | with_reducible refine fr8_T ?_ | omega | exact fp_55 (by assumption) | exact fp_164 (by assumption) | refine ⟨?_, ?_⟩))
set_option maxHeartbeats 2000000 in
theorem w_X2_readBlock {σ0 : gj_S} {σ : gj_S}  (h0 : fr8 σ0 σ) : OP (f_X2_readBlock σ) (fun r : (Int32 × gj_S) => fr8 σ0 r.2) := by
  unfold f_X2_readBlock
  repeat' (with_reducible (first | exact op_none | refine op_if (fun _ => ?_) (fun _ => ?_) | refine w_X2_readToken (σ0 := σ0) ?_ | refine w_X2_fails (σ0 := σ0) ?_ | refine w_X2_isNumber (σ0 := σ0) ?_ | refine op_bind (w_X2_readToken (σ0 := σ0) ?_) (fun _ _ => ?_) | refine op_bind (w_X2_fails (σ0 := σ0) ?_) (fun _ _ => ?_) | refine op_bind (w_X2_isNumber (σ0 := σ0) ?_) (fun _ _ => ?_) | refine op_bind (α := gj_S) (P := fun x => fr8 σ0 x) ?_ (fun _ _ => ?_) | refine op_bind (α := Int32 × gj_S) (P := fun x => fr8 σ0 x.2) ?_ (fun _ _ => ?_) | refine op_bind (α := Int32 × Int32 × gj_S) (P := fun x => fr8 σ0 x.2.2) ?_ (fun _ _ => ?_) | refine op_bT (fun _ => ?_) | refine op_el (by assumption) (fun _ _ => ?_) (fun _ _ => ?_) | refine op_some ?_))
  all_goals (try dsimp only [gj_K])
  all_goals (repeat' (first | exact True.intro | with_reducible assumption | with_reducible refine fr8_I ?_ ?_ | with_reducible refine fr8_J ?_ ?_ | with_reducible refine fr8_T ?_ | omega | exact fp_55 (by assumption) | exact fp_164 (by assumption) | refine ⟨?_, ?_⟩))
set_option maxHeartbeats 2000000 in
theorem w_X2_passStop {σ0 : gj_S} {σ : gj_S}  (h0 : fr8 σ0 σ) : OP (f_X2_passStop σ) (fun r : (Int32 × gj_S) => fr8 σ0 r.2) := by
  unfold f_X2_passStop
  repeat' (with_reducible (first | exact op_none | refine op_if (fun _ => ?_) (fun _ => ?_) | refine w_X2_readToken (σ0 := σ0) ?_ | refine w_X2_fails (σ0 := σ0) ?_ | refine op_bind (w_X2_readToken (σ0 := σ0) ?_) (fun _ _ => ?_) | refine op_bind (w_X2_fails (σ0 := σ0) ?_) (fun _ _ => ?_) | refine op_bind (α := gj_S) (P := fun x => fr8 σ0 x) ?_ (fun _ _ => ?_) | refine op_bind (α := Int32 × gj_S) (P := fun x => fr8 σ0 x.2) ?_ (fun _ _ => ?_) | refine op_bind (α := Int32 × Int32 × gj_S) (P := fun x => fr8 σ0 x.2.2) ?_ (fun _ _ => ?_) | refine op_bT (fun _ => ?_) | refine op_el (by assumption) (fun _ _ => ?_) (fun _ _ => ?_) | refine op_some ?_))
  all_goals (try dsimp only [gj_K])
  all_goals (repeat' (first | exact True.intro | with_reducible assumption | with_reducible refine fr8_I ?_ ?_ | with_reducible refine fr8_J ?_ ?_ | with_reducible refine fr8_T ?_ | omega | exact fp_55 (by assumption) | exact fp_164 (by assumption) | refine ⟨?_, ?_⟩))
set_option maxHeartbeats 2000000 in
theorem w_X2_readLine {σ0 : gj_S} {σ : gj_S}  (h0 : fr8 σ0 σ) : OP (f_X2_readLine σ) (fun r : (Int32 × gj_S) => fr8 σ0 r.2) := by
  unfold f_X2_readLine
  repeat' (with_reducible (first | exact op_none | refine op_if (fun _ => ?_) (fun _ => ?_) | refine w_X2_fails (σ0 := σ0) ?_ | refine w_X2_readDock (σ0 := σ0) ?_ | refine w_X2_readRouteName (σ0 := σ0) ?_ | refine w_X2_readEnds (σ0 := σ0) ?_ | refine w_X2_readNumbers (σ0 := σ0) ?_ | refine w_X2_readBlock (σ0 := σ0) ?_ | refine w_X2_passStop (σ0 := σ0) ?_ | refine op_bind (w_X2_fails (σ0 := σ0) ?_) (fun _ _ => ?_) | refine op_bind (w_X2_readDock (σ0 := σ0) ?_) (fun _ _ => ?_) | refine op_bind (w_X2_readRouteName (σ0 := σ0) ?_) (fun _ _ => ?_) | refine op_bind (w_X2_readEnds (σ0 := σ0) ?_) (fun _ _ => ?_) | refine op_bind (w_X2_readNumbers (σ0 := σ0) ?_) (fun _ _ => ?_) | refine op_bind (w_X2_readBlock (σ0 := σ0) ?_) (fun _ _ => ?_) | refine op_bind (w_X2_passStop (σ0 := σ0) ?_) (fun _ _ => ?_) | refine op_bind (α := gj_S) (P := fun x => fr8 σ0 x) ?_ (fun _ _ => ?_) | refine op_bind (α := Int32 × gj_S) (P := fun x => fr8 σ0 x.2) ?_ (fun _ _ => ?_) | refine op_bind (α := Int32 × Int32 × gj_S) (P := fun x => fr8 σ0 x.2.2) ?_ (fun _ _ => ?_) | refine op_bT (fun _ => ?_) | refine op_el (by assumption) (fun _ _ => ?_) (fun _ _ => ?_) | refine op_some ?_))
  all_goals (try dsimp only [gj_K])
  all_goals (repeat' (first | exact True.intro | with_reducible assumption | with_reducible refine fr8_I ?_ ?_ | with_reducible refine fr8_J ?_ ?_ | with_reducible refine fr8_T ?_ | omega | exact fp_55 (by assumption) | exact fp_164 (by assumption) | refine ⟨?_, ?_⟩))
set_option maxHeartbeats 2000000 in
theorem w_fb_X2_readText_l43 {σ0 : gj_S} {a10043 : (Int32 × gj_S)}  (h0 : fr8 σ0 a10043.2) : OP (fb_X2_readText_l43 a10043) (fun r : (((Int32 × gj_S) ⊕ gj_S) ⊕ (Int32 × gj_S)) => gj_K (fun u13 : ((Int32 × gj_S) ⊕ gj_S) => gj_K (fun u14 : (Int32 × gj_S) => fr8 σ0 u14.2) (fun v14 : gj_S => fr8 σ0 v14) u13) (fun v13 : (Int32 × gj_S) => fr8 σ0 v13.2) r) := by
  unfold fb_X2_readText_l43
  repeat' (with_reducible (first | exact op_none | refine op_if (fun _ => ?_) (fun _ => ?_) | refine w_X2_readLine (σ0 := σ0) ?_ | refine op_bind (w_X2_readLine (σ0 := σ0) ?_) (fun _ _ => ?_) | refine op_bind (α := gj_S) (P := fun x => fr8 σ0 x) ?_ (fun _ _ => ?_) | refine op_bind (α := Int32 × gj_S) (P := fun x => fr8 σ0 x.2) ?_ (fun _ _ => ?_) | refine op_bind (α := Int32 × Int32 × gj_S) (P := fun x => fr8 σ0 x.2.2) ?_ (fun _ _ => ?_) | refine op_bT (fun _ => ?_) | refine op_el (by assumption) (fun _ _ => ?_) (fun _ _ => ?_) | refine op_some ?_))
  all_goals (try dsimp only [gj_K])
  all_goals (repeat' (first | exact True.intro | with_reducible assumption | with_reducible refine fr8_I ?_ ?_ | with_reducible refine fr8_J ?_ ?_ | with_reducible refine fr8_T ?_ | omega | exact fp_55 (by assumption) | exact fp_164 (by assumption) | refine ⟨?_, ?_⟩))
theorem lp_X2_readText_l43 {σ0 : gj_S}   (n : Nat) (a : (Int32 × gj_S)) (h0 : fr8 σ0 a.2) : OP (gj_lp (fb_X2_readText_l43 ) n a) (fun r : ((Int32 × gj_S) ⊕ gj_S) => gj_K (fun u15 : (Int32 × gj_S) => fr8 σ0 u15.2) (fun v15 : gj_S => fr8 σ0 v15) r) := op_lp (I := fun a : (Int32 × gj_S) => fr8 σ0 a.2) (J := fun r : ((Int32 × gj_S) ⊕ gj_S) => gj_K (fun u16 : (Int32 × gj_S) => fr8 σ0 u16.2) (fun v16 : gj_S => fr8 σ0 v16) r) (fun a h => w_fb_X2_readText_l43 h) n a h0
set_option maxHeartbeats 2000000 in
theorem w_X2_readText {σ0 : gj_S} {b2 : Int32} {σ : gj_S}  (h0 : fr8 σ0 σ) : OP (f_X2_readText b2 σ) (fun r : (Int32 × gj_S) => fr8 σ0 r.2) := by
  unfold f_X2_readText
  repeat' (with_reducible (first | exact op_none | refine op_if (fun _ => ?_) (fun _ => ?_) | refine w_X1_tellNothing (σ0 := σ0) ?_ ?_ | refine w_X2_readToken (σ0 := σ0) ?_ | refine lp_X2_readText_l43 (σ0 := σ0) _ _ ?_ | refine op_bind (w_X1_tellNothing (σ0 := σ0) ?_ ?_) (fun _ _ => ?_) | refine op_bind (w_X2_readToken (σ0 := σ0) ?_) (fun _ _ => ?_) | refine op_bel (lp_X2_readText_l43 (σ0 := σ0) _ _ ?_) (fun _ _ => ?_) (fun _ _ => ?_) | refine op_bind (lp_X2_readText_l43 (σ0 := σ0) _ _ ?_) (fun _ _ => ?_) | refine op_bind (α := gj_S) (P := fun x => fr8 σ0 x) ?_ (fun _ _ => ?_) | refine op_bind (α := Int32 × gj_S) (P := fun x => fr8 σ0 x.2) ?_ (fun _ _ => ?_) | refine op_bind (α := Int32 × Int32 × gj_S) (P := fun x => fr8 σ0 x.2.2) ?_ (fun _ _ => ?_) | refine op_bT (fun _ => ?_) | refine op_el (by assumption) (fun _ _ => ?_) (fun _ _ => ?_) | refine op_some ?_))
  all_goals (try dsimp only [gj_K])
  all_goals (repeat' (first | exact True.intro | with_reducible assumption | with_reducible refine fr8_I ?_ ?_ | with_reducible refine fr8_J ?_ ?_ | with_reducible refine fr8_T ?_ | omega | exact fp_55 (by assumption) | exact fp_164 (by assumption) | refine ⟨?_, ?_⟩))
set_option maxHeartbeats 2000000 in
theorem w_X1_copyFrom {σ0 : gj_S} {b0 : Nat} {b1 : Nat} {σ : gj_S} (h_b0 : b0 + 8 < 188) (h_b1 : b1 + 8 < 188) (h0 : fr8 σ0 σ) : OP (f_X1_copyFrom b0 b1 σ) (fun r : gj_S => fr8 σ0 r) := by
  unfold f_X1_copyFrom
  repeat' (with_reducible (first | exact op_none | refine op_if (fun _ => ?_) (fun _ => ?_) | refine op_bind (α := gj_S) (P := fun x => fr8 σ0 x) ?_ (fun _ _ => ?_) | refine op_bind (α := Int32 × gj_S) (P := fun x => fr8 σ0 x.2) ?_ (fun _ _ => ?_) | refine op_bind (α := Int32 × Int32 × gj_S) (P := fun x => fr8 σ0 x.2.2) ?_ (fun _ _ => ?_) | refine op_bT (fun _ => ?_) | refine op_el (by assumption) (fun _ _ => ?_) (fun _ _ => ?_) | refine op_some ?_))
  all_goals (try dsimp only [gj_K])
  all_goals (repeat' (first | exact True.intro | with_reducible assumption | with_reducible refine fr8_I ?_ ?_ | with_reducible refine fr8_J ?_ ?_ | with_reducible refine fr8_T ?_ | omega | exact fp_55 (by assumption) | exact fp_164 (by assumption) | refine ⟨?_, ?_⟩))
set_option maxHeartbeats 2000000 in
theorem w_X1_beginTender {σ0 : gj_S} {b0 : Nat} {b1 : Int32} {σ : gj_S} (h_b0 : b0 + 7 < 188) (h0 : fr8 σ0 σ) : OP (f_X1_beginTender b0 b1 σ) (fun r : gj_S => fr8 σ0 r) := by
  unfold f_X1_beginTender
  repeat' (with_reducible (first | exact op_none | refine op_if (fun _ => ?_) (fun _ => ?_) | refine op_bind (α := gj_S) (P := fun x => fr8 σ0 x) ?_ (fun _ _ => ?_) | refine op_bind (α := Int32 × gj_S) (P := fun x => fr8 σ0 x.2) ?_ (fun _ _ => ?_) | refine op_bind (α := Int32 × Int32 × gj_S) (P := fun x => fr8 σ0 x.2.2) ?_ (fun _ _ => ?_) | refine op_bT (fun _ => ?_) | refine op_el (by assumption) (fun _ _ => ?_) (fun _ _ => ?_) | refine op_some ?_))
  all_goals (try dsimp only [gj_K])
  all_goals (repeat' (first | exact True.intro | with_reducible assumption | with_reducible refine fr8_I ?_ ?_ | with_reducible refine fr8_J ?_ ?_ | with_reducible refine fr8_T ?_ | omega | exact fp_55 (by assumption) | exact fp_164 (by assumption) | refine ⟨?_, ?_⟩))
set_option maxHeartbeats 2000000 in
theorem w_fb_X1_begin_l2 {σ0 : gj_S} {b0 : Nat} {a10002 : (Int32 × gj_S)} (h_b0 : b0 + 7 < 188) (h0 : fr8 σ0 a10002.2) : OP (fb_X1_begin_l2 b0 a10002) (fun r : (gj_S ⊕ (Int32 × gj_S)) => gj_K (fun u19 : gj_S => fr8 σ0 u19) (fun v19 : (Int32 × gj_S) => fr8 σ0 v19.2) r) := by
  unfold fb_X1_begin_l2
  repeat' (with_reducible (first | exact op_none | refine op_if (fun _ => ?_) (fun _ => ?_) | refine op_bind (α := gj_S) (P := fun x => fr8 σ0 x) ?_ (fun _ _ => ?_) | refine op_bind (α := Int32 × gj_S) (P := fun x => fr8 σ0 x.2) ?_ (fun _ _ => ?_) | refine op_bind (α := Int32 × Int32 × gj_S) (P := fun x => fr8 σ0 x.2.2) ?_ (fun _ _ => ?_) | refine op_bT (fun _ => ?_) | refine op_el (by assumption) (fun _ _ => ?_) (fun _ _ => ?_) | refine op_some ?_))
  all_goals (try dsimp only [gj_K])
  all_goals (repeat' (first | exact True.intro | with_reducible assumption | with_reducible refine fr8_I ?_ ?_ | with_reducible refine fr8_J ?_ ?_ | with_reducible refine fr8_T ?_ | omega | exact fp_55 (by assumption) | exact fp_164 (by assumption) | refine ⟨?_, ?_⟩))
theorem lp_X1_begin_l2 {σ0 : gj_S} {b0 : Nat} (h_b0 : b0 + 7 < 188) (n : Nat) (a : (Int32 × gj_S)) (h0 : fr8 σ0 a.2) : OP (gj_lp (fb_X1_begin_l2 b0) n a) (fun r : gj_S => fr8 σ0 r) := op_lp (I := fun a : (Int32 × gj_S) => fr8 σ0 a.2) (J := fun r : gj_S => fr8 σ0 r) (fun a h => w_fb_X1_begin_l2 h_b0 h) n a h0
set_option maxHeartbeats 2000000 in
theorem w_fb_X1_begin_l32 {σ0 : gj_S} {b0 : Nat} {a10032 : (Int32 × gj_S)} (h_b0 : b0 + 7 < 188) (h0 : fr8 σ0 a10032.2) : OP (fb_X1_begin_l32 b0 a10032) (fun r : (gj_S ⊕ (Int32 × gj_S)) => gj_K (fun u20 : gj_S => fr8 σ0 u20) (fun v20 : (Int32 × gj_S) => fr8 σ0 v20.2) r) := by
  unfold fb_X1_begin_l32
  repeat' (with_reducible (first | exact op_none | refine op_if (fun _ => ?_) (fun _ => ?_) | refine w_X1_beginTender (σ0 := σ0) ?_ ?_ | refine op_bind (w_X1_beginTender (σ0 := σ0) ?_ ?_) (fun _ _ => ?_) | refine op_bind (α := gj_S) (P := fun x => fr8 σ0 x) ?_ (fun _ _ => ?_) | refine op_bind (α := Int32 × gj_S) (P := fun x => fr8 σ0 x.2) ?_ (fun _ _ => ?_) | refine op_bind (α := Int32 × Int32 × gj_S) (P := fun x => fr8 σ0 x.2.2) ?_ (fun _ _ => ?_) | refine op_bT (fun _ => ?_) | refine op_el (by assumption) (fun _ _ => ?_) (fun _ _ => ?_) | refine op_some ?_))
  all_goals (try dsimp only [gj_K])
  all_goals (repeat' (first | exact True.intro | with_reducible assumption | with_reducible refine fr8_I ?_ ?_ | with_reducible refine fr8_J ?_ ?_ | with_reducible refine fr8_T ?_ | omega | exact fp_55 (by assumption) | exact fp_164 (by assumption) | refine ⟨?_, ?_⟩))
theorem lp_X1_begin_l32 {σ0 : gj_S} {b0 : Nat} (h_b0 : b0 + 7 < 188) (n : Nat) (a : (Int32 × gj_S)) (h0 : fr8 σ0 a.2) : OP (gj_lp (fb_X1_begin_l32 b0) n a) (fun r : gj_S => fr8 σ0 r) := op_lp (I := fun a : (Int32 × gj_S) => fr8 σ0 a.2) (J := fun r : gj_S => fr8 σ0 r) (fun a h => w_fb_X1_begin_l32 h_b0 h) n a h0
set_option maxHeartbeats 2000000 in
theorem w_X1_begin {σ0 : gj_S} {b0 : Nat} {σ : gj_S} (h_b0 : b0 + 7 < 188) (h0 : fr8 σ0 σ) : OP (f_X1_begin b0 σ) (fun r : gj_S => fr8 σ0 r) := by
  unfold f_X1_begin
  repeat' (with_reducible (first | exact op_none | refine op_if (fun _ => ?_) (fun _ => ?_) | refine lp_X1_begin_l2 (σ0 := σ0) ?_ _ _ ?_ | refine lp_X1_begin_l32 (σ0 := σ0) ?_ _ _ ?_ | refine op_bind (lp_X1_begin_l2 (σ0 := σ0) ?_ _ _ ?_) (fun _ _ => ?_) | refine op_bind (lp_X1_begin_l32 (σ0 := σ0) ?_ _ _ ?_) (fun _ _ => ?_) | refine op_bind (α := gj_S) (P := fun x => fr8 σ0 x) ?_ (fun _ _ => ?_) | refine op_bind (α := Int32 × gj_S) (P := fun x => fr8 σ0 x.2) ?_ (fun _ _ => ?_) | refine op_bind (α := Int32 × Int32 × gj_S) (P := fun x => fr8 σ0 x.2.2) ?_ (fun _ _ => ?_) | refine op_bT (fun _ => ?_) | refine op_el (by assumption) (fun _ _ => ?_) (fun _ _ => ?_) | refine op_some ?_))
  all_goals (try dsimp only [gj_K])
  all_goals (repeat' (first | exact True.intro | with_reducible assumption | with_reducible refine fr8_I ?_ ?_ | with_reducible refine fr8_J ?_ ?_ | with_reducible refine fr8_T ?_ | omega | exact fp_55 (by assumption) | exact fp_164 (by assumption) | refine ⟨?_, ?_⟩))
set_option maxHeartbeats 2000000 in
theorem w_X5_hang {σ0 : gj_S} {b0 : Nat} {b1 : Int32} {b2 : Int32} {b3 : Int32} {b4 : Int32} {σ : gj_S} (h_b0 : b0 + 4 < 188) (h0 : fr8 σ0 σ) : OP (f_X5_hang b0 b1 b2 b3 b4 σ) (fun r : gj_S => fr8 σ0 r) := by
  unfold f_X5_hang
  repeat' (with_reducible (first | exact op_none | refine op_if (fun _ => ?_) (fun _ => ?_) | refine op_bind (α := gj_S) (P := fun x => fr8 σ0 x) ?_ (fun _ _ => ?_) | refine op_bind (α := Int32 × gj_S) (P := fun x => fr8 σ0 x.2) ?_ (fun _ _ => ?_) | refine op_bind (α := Int32 × Int32 × gj_S) (P := fun x => fr8 σ0 x.2.2) ?_ (fun _ _ => ?_) | refine op_bT (fun _ => ?_) | refine op_el (by assumption) (fun _ _ => ?_) (fun _ _ => ?_) | refine op_some ?_))
  all_goals (try dsimp only [gj_K])
  all_goals (repeat' (first | exact True.intro | with_reducible assumption | with_reducible refine fr8_I ?_ ?_ | with_reducible refine fr8_J ?_ ?_ | with_reducible refine fr8_T ?_ | omega | exact fp_55 (by assumption) | exact fp_164 (by assumption) | refine ⟨?_, ?_⟩))
set_option maxHeartbeats 2000000 in
theorem w_X5_hangsBy {σ0 : gj_S} {b0 : Nat} {b1 : Nat} {b2 : Int32} {σ : gj_S} (h_b0 : b0 + 4 < 188) (h_b1 : b1 + 4 < 188) (h0 : fr8 σ0 σ) : OP (f_X5_hangsBy b0 b1 b2 σ) (fun r : (Int32 × gj_S) => fr8 σ0 r.2) := by
  unfold f_X5_hangsBy
  repeat' (with_reducible (first | exact op_none | refine op_if (fun _ => ?_) (fun _ => ?_) | refine w_X5_hang (σ0 := σ0) ?_ ?_ | refine op_bind (w_X5_hang (σ0 := σ0) ?_ ?_) (fun _ _ => ?_) | refine op_bind (α := gj_S) (P := fun x => fr8 σ0 x) ?_ (fun _ _ => ?_) | refine op_bind (α := Int32 × gj_S) (P := fun x => fr8 σ0 x.2) ?_ (fun _ _ => ?_) | refine op_bind (α := Int32 × Int32 × gj_S) (P := fun x => fr8 σ0 x.2.2) ?_ (fun _ _ => ?_) | refine op_bT (fun _ => ?_) | refine op_el (by assumption) (fun _ _ => ?_) (fun _ _ => ?_) | refine op_some ?_))
  all_goals (try dsimp only [gj_K])
  all_goals (repeat' (first | exact True.intro | with_reducible assumption | with_reducible refine fr8_I ?_ ?_ | with_reducible refine fr8_J ?_ ?_ | with_reducible refine fr8_T ?_ | omega | exact fp_55 (by assumption) | exact fp_164 (by assumption) | refine ⟨?_, ?_⟩))
set_option maxHeartbeats 2000000 in
theorem w_fb_X5_grow_l2 {σ0 : gj_S} {b0 : Nat} {b1 : Nat} {a10002 : (Int32 × gj_S)} (h_b0 : b0 + 5 < 188) (h_b1 : b1 + 0 < 188) (h0 : fr8 σ0 a10002.2) : OP (fb_X5_grow_l2 b0 b1 a10002) (fun r : (gj_S ⊕ (Int32 × gj_S)) => gj_K (fun u23 : gj_S => fr8 σ0 u23) (fun v23 : (Int32 × gj_S) => fr8 σ0 v23.2) r) := by
  unfold fb_X5_grow_l2
  repeat' (with_reducible (first | exact op_none | refine op_if (fun _ => ?_) (fun _ => ?_) | refine op_bind (α := gj_S) (P := fun x => fr8 σ0 x) ?_ (fun _ _ => ?_) | refine op_bind (α := Int32 × gj_S) (P := fun x => fr8 σ0 x.2) ?_ (fun _ _ => ?_) | refine op_bind (α := Int32 × Int32 × gj_S) (P := fun x => fr8 σ0 x.2.2) ?_ (fun _ _ => ?_) | refine op_bT (fun _ => ?_) | refine op_el (by assumption) (fun _ _ => ?_) (fun _ _ => ?_) | refine op_some ?_))
  all_goals (try dsimp only [gj_K])
  all_goals (repeat' (first | exact True.intro | with_reducible assumption | with_reducible refine fr8_I ?_ ?_ | with_reducible refine fr8_J ?_ ?_ | with_reducible refine fr8_T ?_ | omega | exact fp_55 (by assumption) | exact fp_164 (by assumption) | refine ⟨?_, ?_⟩))
theorem lp_X5_grow_l2 {σ0 : gj_S} {b0 : Nat} {b1 : Nat} (h_b0 : b0 + 5 < 188) (h_b1 : b1 + 0 < 188) (n : Nat) (a : (Int32 × gj_S)) (h0 : fr8 σ0 a.2) : OP (gj_lp (fb_X5_grow_l2 b0 b1) n a) (fun r : gj_S => fr8 σ0 r) := op_lp (I := fun a : (Int32 × gj_S) => fr8 σ0 a.2) (J := fun r : gj_S => fr8 σ0 r) (fun a h => w_fb_X5_grow_l2 h_b0 h_b1 h) n a h0
set_option maxHeartbeats 2000000 in
theorem w_fb_X5_grow_l81 {σ0 : gj_S} {b0 : Nat} {b1 : Nat} {b3 : Int32} {a10081 : (Int32 × Int32 × gj_S)} (h_b0 : b0 + 4 < 188) (h_b1 : b1 + 7 < 188) (h0 : fr8 σ0 a10081.2.2) : OP (fb_X5_grow_l81 b0 b1 b3 a10081) (fun r : ((Int32 × gj_S) ⊕ (Int32 × Int32 × gj_S)) => gj_K (fun u24 : (Int32 × gj_S) => fr8 σ0 u24.2) (fun v24 : (Int32 × Int32 × gj_S) => fr8 σ0 v24.2.2) r) := by
  unfold fb_X5_grow_l81
  repeat' (with_reducible (first | exact op_none | refine op_if (fun _ => ?_) (fun _ => ?_) | refine w_X5_hangsBy (σ0 := σ0) ?_ ?_ ?_ | refine op_bind (w_X5_hangsBy (σ0 := σ0) ?_ ?_ ?_) (fun _ _ => ?_) | refine op_bind (α := gj_S) (P := fun x => fr8 σ0 x) ?_ (fun _ _ => ?_) | refine op_bind (α := Int32 × gj_S) (P := fun x => fr8 σ0 x.2) ?_ (fun _ _ => ?_) | refine op_bind (α := Int32 × Int32 × gj_S) (P := fun x => fr8 σ0 x.2.2) ?_ (fun _ _ => ?_) | refine op_bT (fun _ => ?_) | refine op_el (by assumption) (fun _ _ => ?_) (fun _ _ => ?_) | refine op_some ?_))
  all_goals (try dsimp only [gj_K])
  all_goals (repeat' (first | exact True.intro | with_reducible assumption | with_reducible refine fr8_I ?_ ?_ | with_reducible refine fr8_J ?_ ?_ | with_reducible refine fr8_T ?_ | omega | exact fp_55 (by assumption) | exact fp_164 (by assumption) | refine ⟨?_, ?_⟩))
theorem lp_X5_grow_l81 {σ0 : gj_S} {b0 : Nat} {b1 : Nat} {b3 : Int32} (h_b0 : b0 + 4 < 188) (h_b1 : b1 + 7 < 188) (n : Nat) (a : (Int32 × Int32 × gj_S)) (h0 : fr8 σ0 a.2.2) : OP (gj_lp (fb_X5_grow_l81 b0 b1 b3) n a) (fun r : (Int32 × gj_S) => fr8 σ0 r.2) := op_lp (I := fun a : (Int32 × Int32 × gj_S) => fr8 σ0 a.2.2) (J := fun r : (Int32 × gj_S) => fr8 σ0 r.2) (fun a h => w_fb_X5_grow_l81 h_b0 h_b1 h) n a h0
set_option maxHeartbeats 2000000 in
theorem w_fb_X5_grow_l62 {σ0 : gj_S} {b0 : Nat} {b1 : Nat} {a10062 : (Int32 × Int32 × gj_S)} (h_b0 : b0 + 4 < 188) (h_b1 : b1 + 7 < 188) (h0 : fr8 σ0 a10062.2.2) : OP (fb_X5_grow_l62 b0 b1 a10062) (fun r : (gj_S ⊕ (Int32 × Int32 × gj_S)) => gj_K (fun u25 : gj_S => fr8 σ0 u25) (fun v25 : (Int32 × Int32 × gj_S) => fr8 σ0 v25.2.2) r) := by
  unfold fb_X5_grow_l62
  repeat' (with_reducible (first | exact op_none | refine op_if (fun _ => ?_) (fun _ => ?_) | refine lp_X5_grow_l81 (σ0 := σ0) ?_ ?_ _ _ ?_ | refine op_bind (lp_X5_grow_l81 (σ0 := σ0) ?_ ?_ _ _ ?_) (fun _ _ => ?_) | refine op_bind (α := gj_S) (P := fun x => fr8 σ0 x) ?_ (fun _ _ => ?_) | refine op_bind (α := Int32 × gj_S) (P := fun x => fr8 σ0 x.2) ?_ (fun _ _ => ?_) | refine op_bind (α := Int32 × Int32 × gj_S) (P := fun x => fr8 σ0 x.2.2) ?_ (fun _ _ => ?_) | refine op_bT (fun _ => ?_) | refine op_el (by assumption) (fun _ _ => ?_) (fun _ _ => ?_) | refine op_some ?_))
  all_goals (try dsimp only [gj_K])
  all_goals (repeat' (first | exact True.intro | with_reducible assumption | with_reducible refine fr8_I ?_ ?_ | with_reducible refine fr8_J ?_ ?_ | with_reducible refine fr8_T ?_ | omega | exact fp_55 (by assumption) | exact fp_164 (by assumption) | refine ⟨?_, ?_⟩))
theorem lp_X5_grow_l62 {σ0 : gj_S} {b0 : Nat} {b1 : Nat} (h_b0 : b0 + 4 < 188) (h_b1 : b1 + 7 < 188) (n : Nat) (a : (Int32 × Int32 × gj_S)) (h0 : fr8 σ0 a.2.2) : OP (gj_lp (fb_X5_grow_l62 b0 b1) n a) (fun r : gj_S => fr8 σ0 r) := op_lp (I := fun a : (Int32 × Int32 × gj_S) => fr8 σ0 a.2.2) (J := fun r : gj_S => fr8 σ0 r) (fun a h => w_fb_X5_grow_l62 h_b0 h_b1 h) n a h0
set_option maxHeartbeats 2000000 in
theorem w_X5_grow {σ0 : gj_S} {b0 : Nat} {b1 : Nat} {σ : gj_S} (h_b0 : b0 + 5 < 188) (h_b1 : b1 + 7 < 188) (h0 : fr8 σ0 σ) : OP (f_X5_grow b0 b1 σ) (fun r : gj_S => fr8 σ0 r) := by
  unfold f_X5_grow
  repeat' (with_reducible (first | exact op_none | refine op_if (fun _ => ?_) (fun _ => ?_) | refine lp_X5_grow_l2 (σ0 := σ0) ?_ ?_ _ _ ?_ | refine lp_X5_grow_l62 (σ0 := σ0) ?_ ?_ _ _ ?_ | refine op_bind (lp_X5_grow_l2 (σ0 := σ0) ?_ ?_ _ _ ?_) (fun _ _ => ?_) | refine op_bind (lp_X5_grow_l62 (σ0 := σ0) ?_ ?_ _ _ ?_) (fun _ _ => ?_) | refine op_bind (α := gj_S) (P := fun x => fr8 σ0 x) ?_ (fun _ _ => ?_) | refine op_bind (α := Int32 × gj_S) (P := fun x => fr8 σ0 x.2) ?_ (fun _ _ => ?_) | refine op_bind (α := Int32 × Int32 × gj_S) (P := fun x => fr8 σ0 x.2.2) ?_ (fun _ _ => ?_) | refine op_bT (fun _ => ?_) | refine op_el (by assumption) (fun _ _ => ?_) (fun _ _ => ?_) | refine op_some ?_))
  all_goals (try dsimp only [gj_K])
  all_goals (repeat' (first | exact True.intro | with_reducible assumption | with_reducible refine fr8_I ?_ ?_ | with_reducible refine fr8_J ?_ ?_ | with_reducible refine fr8_T ?_ | omega | exact fp_55 (by assumption) | exact fp_164 (by assumption) | refine ⟨?_, ?_⟩))
set_option maxHeartbeats 2000000 in
theorem w_X7_regrow {σ0 : gj_S} {b0 : Nat} {σ : gj_S} (h_b0 : b0 + 15 < 188) (h0 : fr8 σ0 σ) : OP (f_X7_regrow b0 σ) (fun r : gj_S => fr8 σ0 r) := by
  unfold f_X7_regrow
  repeat' (with_reducible (first | exact op_none | refine op_if (fun _ => ?_) (fun _ => ?_) | refine w_X5_grow (σ0 := σ0) ?_ ?_ ?_ | refine op_bind (w_X5_grow (σ0 := σ0) ?_ ?_ ?_) (fun _ _ => ?_) | refine op_bind (α := gj_S) (P := fun x => fr8 σ0 x) ?_ (fun _ _ => ?_) | refine op_bind (α := Int32 × gj_S) (P := fun x => fr8 σ0 x.2) ?_ (fun _ _ => ?_) | refine op_bind (α := Int32 × Int32 × gj_S) (P := fun x => fr8 σ0 x.2.2) ?_ (fun _ _ => ?_) | refine op_bT (fun _ => ?_) | refine op_el (by assumption) (fun _ _ => ?_) (fun _ _ => ?_) | refine op_some ?_))
  all_goals (try dsimp only [gj_K])
  all_goals (repeat' (first | exact True.intro | with_reducible assumption | with_reducible refine fr8_I ?_ ?_ | with_reducible refine fr8_J ?_ ?_ | with_reducible refine fr8_T ?_ | omega | exact fp_55 (by assumption) | exact fp_164 (by assumption) | refine ⟨?_, ?_⟩))
set_option maxHeartbeats 2000000 in
theorem w_X7_beginAll {σ0 : gj_S} {b0 : Nat} {σ : gj_S} (h_b0 : b0 + 15 < 188) (h0 : fr8 σ0 σ) : OP (f_X7_beginAll b0 σ) (fun r : gj_S => fr8 σ0 r) := by
  unfold f_X7_beginAll
  repeat' (with_reducible (first | exact op_none | refine op_if (fun _ => ?_) (fun _ => ?_) | refine w_X1_begin (σ0 := σ0) ?_ ?_ | refine w_X7_regrow (σ0 := σ0) ?_ ?_ | refine op_bind (w_X1_begin (σ0 := σ0) ?_ ?_) (fun _ _ => ?_) | refine op_bind (w_X7_regrow (σ0 := σ0) ?_ ?_) (fun _ _ => ?_) | refine op_bind (α := gj_S) (P := fun x => fr8 σ0 x) ?_ (fun _ _ => ?_) | refine op_bind (α := Int32 × gj_S) (P := fun x => fr8 σ0 x.2) ?_ (fun _ _ => ?_) | refine op_bind (α := Int32 × Int32 × gj_S) (P := fun x => fr8 σ0 x.2.2) ?_ (fun _ _ => ?_) | refine op_bT (fun _ => ?_) | refine op_el (by assumption) (fun _ _ => ?_) (fun _ _ => ?_) | refine op_some ?_))
  all_goals (try dsimp only [gj_K])
  all_goals (repeat' (first | exact True.intro | with_reducible assumption | with_reducible refine fr8_I ?_ ?_ | with_reducible refine fr8_J ?_ ?_ | with_reducible refine fr8_T ?_ | omega | exact fp_55 (by assumption) | exact fp_164 (by assumption) | refine ⟨?_, ?_⟩))
set_option maxHeartbeats 2000000 in
theorem w_X0_forget {σ0 : gj_S} {σ : gj_S}  (h0 : fr8 σ0 σ) : OP (f_X0_forget σ) (fun r : gj_S => fr8 σ0 r) := by
  unfold f_X0_forget
  repeat' (with_reducible (first | exact op_none | refine op_if (fun _ => ?_) (fun _ => ?_) | refine op_bind (α := gj_S) (P := fun x => fr8 σ0 x) ?_ (fun _ _ => ?_) | refine op_bind (α := Int32 × gj_S) (P := fun x => fr8 σ0 x.2) ?_ (fun _ _ => ?_) | refine op_bind (α := Int32 × Int32 × gj_S) (P := fun x => fr8 σ0 x.2.2) ?_ (fun _ _ => ?_) | refine op_bT (fun _ => ?_) | refine op_el (by assumption) (fun _ _ => ?_) (fun _ _ => ?_) | refine op_some ?_))
  all_goals (try dsimp only [gj_K])
  all_goals (repeat' (first | exact True.intro | with_reducible assumption | with_reducible refine fr8_I ?_ ?_ | with_reducible refine fr8_J ?_ ?_ | with_reducible refine fr8_T ?_ | omega | exact fp_55 (by assumption) | exact fp_164 (by assumption) | refine ⟨?_, ?_⟩))
set_option maxHeartbeats 2000000 in
theorem w_fb_X8_text_l93 {σ0 : gj_S} {a10093 : (Int32 × gj_S)}  (h0 : fr8 σ0 a10093.2) : OP (fb_X8_text_l93 a10093) (fun r : (gj_S ⊕ (Int32 × gj_S)) => gj_K (fun u29 : gj_S => fr8 σ0 u29) (fun v29 : (Int32 × gj_S) => fr8 σ0 v29.2) r) := by
  unfold fb_X8_text_l93
  repeat' (with_reducible (first | exact op_none | refine op_if (fun _ => ?_) (fun _ => ?_) | refine op_bind (α := gj_S) (P := fun x => fr8 σ0 x) ?_ (fun _ _ => ?_) | refine op_bind (α := Int32 × gj_S) (P := fun x => fr8 σ0 x.2) ?_ (fun _ _ => ?_) | refine op_bind (α := Int32 × Int32 × gj_S) (P := fun x => fr8 σ0 x.2.2) ?_ (fun _ _ => ?_) | refine op_bT (fun _ => ?_) | refine op_el (by assumption) (fun _ _ => ?_) (fun _ _ => ?_) | refine op_some ?_))
  all_goals (try dsimp only [gj_K])
  all_goals (repeat' (first | exact True.intro | with_reducible assumption | with_reducible refine fr8_I ?_ ?_ | with_reducible refine fr8_J ?_ ?_ | with_reducible refine fr8_T ?_ | omega | exact fp_55 (by assumption) | exact fp_164 (by assumption) | refine ⟨?_, ?_⟩))
theorem lp_X8_text_l93 {σ0 : gj_S}   (n : Nat) (a : (Int32 × gj_S)) (h0 : fr8 σ0 a.2) : OP (gj_lp (fb_X8_text_l93 ) n a) (fun r : gj_S => fr8 σ0 r) := op_lp (I := fun a : (Int32 × gj_S) => fr8 σ0 a.2) (J := fun r : gj_S => fr8 σ0 r) (fun a h => w_fb_X8_text_l93 h) n a h0
set_option maxHeartbeats 2000000 in
theorem w_X8_text {σ0 : gj_S} {b1 : Int32} {σ : gj_S}  (h0 : fr8 σ0 σ) : OP (f_X8_text b1 σ) (fun r : (Int32 × gj_S) => fr8 σ0 r.2) := by
  unfold f_X8_text
  repeat' (with_reducible (first | exact op_none | refine op_if (fun _ => ?_) (fun _ => ?_) | refine w_X2_readText (σ0 := σ0) ?_ | refine w_X1_copyFrom (σ0 := σ0) ?_ ?_ ?_ | refine w_X7_beginAll (σ0 := σ0) ?_ ?_ | refine w_X0_forget (σ0 := σ0) ?_ | refine lp_X8_text_l93 (σ0 := σ0) _ _ ?_ | refine op_bind (w_X2_readText (σ0 := σ0) ?_) (fun _ _ => ?_) | refine op_bind (w_X1_copyFrom (σ0 := σ0) ?_ ?_ ?_) (fun _ _ => ?_) | refine op_bind (w_X7_beginAll (σ0 := σ0) ?_ ?_) (fun _ _ => ?_) | refine op_bind (w_X0_forget (σ0 := σ0) ?_) (fun _ _ => ?_) | refine op_bind (lp_X8_text_l93 (σ0 := σ0) _ _ ?_) (fun _ _ => ?_) | refine op_bind (α := gj_S) (P := fun x => fr8 σ0 x) ?_ (fun _ _ => ?_) | refine op_bind (α := Int32 × gj_S) (P := fun x => fr8 σ0 x.2) ?_ (fun _ _ => ?_) | refine op_bind (α := Int32 × Int32 × gj_S) (P := fun x => fr8 σ0 x.2.2) ?_ (fun _ _ => ?_) | refine op_bT (fun _ => ?_) | refine op_el (by assumption) (fun _ _ => ?_) (fun _ _ => ?_) | refine op_some ?_))
  all_goals (try dsimp only [gj_K])
  all_goals (repeat' (first | exact True.intro | with_reducible assumption | with_reducible refine fr8_I ?_ ?_ | with_reducible refine fr8_J ?_ ?_ | with_reducible refine fr8_T ?_ | omega | exact fp_55 (by assumption) | exact fp_164 (by assumption) | refine ⟨?_, ?_⟩))
set_option maxHeartbeats 2000000 in
theorem w_X7_findEntering {σ0 : gj_S} {b0 : Nat} {σ : gj_S} (h_b0 : b0 + 10 < 188) (h0 : fr8 σ0 σ) : OP (f_X7_findEntering b0 σ) (fun r : (Int32 × gj_S) => fr8 σ0 r.2) := by
  unfold f_X7_findEntering
  repeat' (with_reducible (first | exact op_none | refine op_if (fun _ => ?_) (fun _ => ?_) | refine op_bind (α := gj_S) (P := fun x => fr8 σ0 x) ?_ (fun _ _ => ?_) | refine op_bind (α := Int32 × gj_S) (P := fun x => fr8 σ0 x.2) ?_ (fun _ _ => ?_) | refine op_bind (α := Int32 × Int32 × gj_S) (P := fun x => fr8 σ0 x.2.2) ?_ (fun _ _ => ?_) | refine op_bT (fun _ => ?_) | refine op_el (by assumption) (fun _ _ => ?_) (fun _ _ => ?_) | refine op_some ?_))
  all_goals (try dsimp only [gj_K])
  all_goals (repeat' (first | exact True.intro | with_reducible assumption | with_reducible refine fr8_I ?_ ?_ | with_reducible refine fr8_J ?_ ?_ | with_reducible refine fr8_T ?_ | omega | exact fp_55 (by assumption) | exact fp_164 (by assumption) | refine ⟨?_, ?_⟩))
set_option maxHeartbeats 2000000 in
theorem w_X8_enters {σ0 : gj_S} {σ : gj_S}  (h0 : fr8 σ0 σ) : OP (f_X8_enters σ) (fun r : (Int32 × gj_S) => fr8 σ0 r.2) := by
  unfold f_X8_enters
  repeat' (with_reducible (first | exact op_none | refine op_if (fun _ => ?_) (fun _ => ?_) | refine w_X7_findEntering (σ0 := σ0) ?_ ?_ | refine op_bind (w_X7_findEntering (σ0 := σ0) ?_ ?_) (fun _ _ => ?_) | refine op_bind (α := gj_S) (P := fun x => fr8 σ0 x) ?_ (fun _ _ => ?_) | refine op_bind (α := Int32 × gj_S) (P := fun x => fr8 σ0 x.2) ?_ (fun _ _ => ?_) | refine op_bind (α := Int32 × Int32 × gj_S) (P := fun x => fr8 σ0 x.2.2) ?_ (fun _ _ => ?_) | refine op_bT (fun _ => ?_) | refine op_el (by assumption) (fun _ _ => ?_) (fun _ _ => ?_) | refine op_some ?_))
  all_goals (try dsimp only [gj_K])
  all_goals (repeat' (first | exact True.intro | with_reducible assumption | with_reducible refine fr8_I ?_ ?_ | with_reducible refine fr8_J ?_ ?_ | with_reducible refine fr8_T ?_ | omega | exact fp_55 (by assumption) | exact fp_164 (by assumption) | refine ⟨?_, ?_⟩))
set_option maxHeartbeats 2000000 in
theorem w_X3_put {σ0 : gj_S} {b0 : Nat} {b1 : Int32} {b2 : Int32} {b3 : Int32} {σ : gj_S} (h_b0 : b0 + 2 < 188) (h0 : fr8 σ0 σ) : OP (f_X3_put b0 b1 b2 b3 σ) (fun r : gj_S => fr8 σ0 r) := by
  unfold f_X3_put
  repeat' (with_reducible (first | exact op_none | refine op_if (fun _ => ?_) (fun _ => ?_) | refine op_bind (α := gj_S) (P := fun x => fr8 σ0 x) ?_ (fun _ _ => ?_) | refine op_bind (α := Int32 × gj_S) (P := fun x => fr8 σ0 x.2) ?_ (fun _ _ => ?_) | refine op_bind (α := Int32 × Int32 × gj_S) (P := fun x => fr8 σ0 x.2.2) ?_ (fun _ _ => ?_) | refine op_bT (fun _ => ?_) | refine op_el (by assumption) (fun _ _ => ?_) (fun _ _ => ?_) | refine op_some ?_))
  all_goals (try dsimp only [gj_K])
  all_goals (repeat' (first | exact True.intro | with_reducible assumption | with_reducible refine fr8_I ?_ ?_ | with_reducible refine fr8_J ?_ ?_ | with_reducible refine fr8_T ?_ | omega | exact fp_55 (by assumption) | exact fp_164 (by assumption) | refine ⟨?_, ?_⟩))
set_option maxHeartbeats 2000000 in
theorem w_fb_X3_findLeaving_l13 {σ0 : gj_S} {b0 : Nat} {b1 : Nat} {b2 : Int32} {a10013 : (Int32 × gj_S)} (h_b0 : b0 + 2 < 188) (h_b1 : b1 + 6 < 188) (h0 : fr8 σ0 a10013.2) : OP (fb_X3_findLeaving_l13 b0 b1 b2 a10013) (fun r : (gj_S ⊕ (Int32 × gj_S)) => gj_K (fun u31 : gj_S => fr8 σ0 u31) (fun v31 : (Int32 × gj_S) => fr8 σ0 v31.2) r) := by
  unfold fb_X3_findLeaving_l13
  repeat' (with_reducible (first | exact op_none | refine op_if (fun _ => ?_) (fun _ => ?_) | refine op_bind (α := gj_S) (P := fun x => fr8 σ0 x) ?_ (fun _ _ => ?_) | refine op_bind (α := Int32 × gj_S) (P := fun x => fr8 σ0 x.2) ?_ (fun _ _ => ?_) | refine op_bind (α := Int32 × Int32 × gj_S) (P := fun x => fr8 σ0 x.2.2) ?_ (fun _ _ => ?_) | refine op_bT (fun _ => ?_) | refine op_el (by assumption) (fun _ _ => ?_) (fun _ _ => ?_) | refine op_some ?_))
  all_goals (try dsimp only [gj_K])
  all_goals (repeat' (first | exact True.intro | with_reducible assumption | with_reducible refine fr8_I ?_ ?_ | with_reducible refine fr8_J ?_ ?_ | with_reducible refine fr8_T ?_ | omega | exact fp_55 (by assumption) | exact fp_164 (by assumption) | refine ⟨?_, ?_⟩))
theorem lp_X3_findLeaving_l13 {σ0 : gj_S} {b0 : Nat} {b1 : Nat} {b2 : Int32} (h_b0 : b0 + 2 < 188) (h_b1 : b1 + 6 < 188) (n : Nat) (a : (Int32 × gj_S)) (h0 : fr8 σ0 a.2) : OP (gj_lp (fb_X3_findLeaving_l13 b0 b1 b2) n a) (fun r : gj_S => fr8 σ0 r) := op_lp (I := fun a : (Int32 × gj_S) => fr8 σ0 a.2) (J := fun r : gj_S => fr8 σ0 r) (fun a h => w_fb_X3_findLeaving_l13 h_b0 h_b1 h) n a h0
set_option maxHeartbeats 2000000 in
theorem w_X3_findLeaving {σ0 : gj_S} {b0 : Nat} {b1 : Nat} {b2 : Int32} {σ : gj_S} (h_b0 : b0 + 2 < 188) (h_b1 : b1 + 6 < 188) (h0 : fr8 σ0 σ) : OP (f_X3_findLeaving b0 b1 b2 σ) (fun r : gj_S => fr8 σ0 r) := by
  unfold f_X3_findLeaving
  repeat' (with_reducible (first | exact op_none | refine op_if (fun _ => ?_) (fun _ => ?_) | refine lp_X3_findLeaving_l13 (σ0 := σ0) ?_ ?_ _ _ ?_ | refine op_bind (lp_X3_findLeaving_l13 (σ0 := σ0) ?_ ?_ _ _ ?_) (fun _ _ => ?_) | refine op_bind (α := gj_S) (P := fun x => fr8 σ0 x) ?_ (fun _ _ => ?_) | refine op_bind (α := Int32 × gj_S) (P := fun x => fr8 σ0 x.2) ?_ (fun _ _ => ?_) | refine op_bind (α := Int32 × Int32 × gj_S) (P := fun x => fr8 σ0 x.2.2) ?_ (fun _ _ => ?_) | refine op_bT (fun _ => ?_) | refine op_el (by assumption) (fun _ _ => ?_) (fun _ _ => ?_) | refine op_some ?_))
  all_goals (try dsimp only [gj_K])
  all_goals (repeat' (first | exact True.intro | with_reducible assumption | with_reducible refine fr8_I ?_ ?_ | with_reducible refine fr8_J ?_ ?_ | with_reducible refine fr8_T ?_ | omega | exact fp_55 (by assumption) | exact fp_164 (by assumption) | refine ⟨?_, ?_⟩))
set_option maxHeartbeats 2000000 in
theorem w_fb_X3_trace_l111 {σ0 : gj_S} {b0 : Nat} {b1 : Nat} {b2 : Nat} {b3 : Int32} {b4 : Int32} {b6 : Int32} {b7 : Int32} {a10111 : (Int32 × Int32 × gj_S)} (h_b0 : b0 + 2 < 188) (h_b1 : b1 + 3 < 188) (h_b2 : b2 + 2 < 188) (h0 : fr8 σ0 a10111.2.2) : OP (fb_X3_trace_l111 b0 b1 b2 b3 b4 b6 b7 a10111) (fun r : (gj_S ⊕ (Int32 × Int32 × gj_S)) => gj_K (fun u33 : gj_S => fr8 σ0 u33) (fun v33 : (Int32 × Int32 × gj_S) => fr8 σ0 v33.2.2) r) := by
  unfold fb_X3_trace_l111
  repeat' (with_reducible (first | exact op_none | refine op_if (fun _ => ?_) (fun _ => ?_) | refine w_X3_put (σ0 := σ0) ?_ ?_ | refine op_bind (w_X3_put (σ0 := σ0) ?_ ?_) (fun _ _ => ?_) | refine op_bind (α := gj_S) (P := fun x => fr8 σ0 x) ?_ (fun _ _ => ?_) | refine op_bind (α := Int32 × gj_S) (P := fun x => fr8 σ0 x.2) ?_ (fun _ _ => ?_) | refine op_bind (α := Int32 × Int32 × gj_S) (P := fun x => fr8 σ0 x.2.2) ?_ (fun _ _ => ?_) | refine op_bT (fun _ => ?_) | refine op_el (by assumption) (fun _ _ => ?_) (fun _ _ => ?_) | refine op_some ?_))
  all_goals (try dsimp only [gj_K])
  all_goals (repeat' (first | exact True.intro | with_reducible assumption | with_reducible refine fr8_I ?_ ?_ | with_reducible refine fr8_J ?_ ?_ | with_reducible refine fr8_T ?_ | omega | exact fp_55 (by assumption) | exact fp_164 (by assumption) | refine ⟨?_, ?_⟩))
theorem lp_X3_trace_l111 {σ0 : gj_S} {b0 : Nat} {b1 : Nat} {b2 : Nat} {b3 : Int32} {b4 : Int32} {b6 : Int32} {b7 : Int32} (h_b0 : b0 + 2 < 188) (h_b1 : b1 + 3 < 188) (h_b2 : b2 + 2 < 188) (n : Nat) (a : (Int32 × Int32 × gj_S)) (h0 : fr8 σ0 a.2.2) : OP (gj_lp (fb_X3_trace_l111 b0 b1 b2 b3 b4 b6 b7) n a) (fun r : gj_S => fr8 σ0 r) := op_lp (I := fun a : (Int32 × Int32 × gj_S) => fr8 σ0 a.2.2) (J := fun r : gj_S => fr8 σ0 r) (fun a h => w_fb_X3_trace_l111 h_b0 h_b1 h_b2 h) n a h0
set_option maxHeartbeats 2000000 in
theorem w_fb_X3_trace_l191 {σ0 : gj_S} {b0 : Nat} {b1 : Nat} {b2 : Nat} {b3 : Int32} {a10191 : (Int32 × Int32 × gj_S)} (h_b0 : b0 + 2 < 188) (h_b1 : b1 + 2 < 188) (h_b2 : b2 + 2 < 188) (h0 : fr8 σ0 a10191.2.2) : OP (fb_X3_trace_l191 b0 b1 b2 b3 a10191) (fun r : (gj_S ⊕ (Int32 × Int32 × gj_S)) => gj_K (fun u34 : gj_S => fr8 σ0 u34) (fun v34 : (Int32 × Int32 × gj_S) => fr8 σ0 v34.2.2) r) := by
  unfold fb_X3_trace_l191
  repeat' (with_reducible (first | exact op_none | refine op_if (fun _ => ?_) (fun _ => ?_) | refine w_X3_put (σ0 := σ0) ?_ ?_ | refine op_bind (w_X3_put (σ0 := σ0) ?_ ?_) (fun _ _ => ?_) | refine op_bind (α := gj_S) (P := fun x => fr8 σ0 x) ?_ (fun _ _ => ?_) | refine op_bind (α := Int32 × gj_S) (P := fun x => fr8 σ0 x.2) ?_ (fun _ _ => ?_) | refine op_bind (α := Int32 × Int32 × gj_S) (P := fun x => fr8 σ0 x.2.2) ?_ (fun _ _ => ?_) | refine op_bT (fun _ => ?_) | refine op_el (by assumption) (fun _ _ => ?_) (fun _ _ => ?_) | refine op_some ?_))
  all_goals (try dsimp only [gj_K])
  all_goals (repeat' (first | exact True.intro | with_reducible assumption | with_reducible refine fr8_I ?_ ?_ | with_reducible refine fr8_J ?_ ?_ | with_reducible refine fr8_T ?_ | omega | exact fp_55 (by assumption) | exact fp_164 (by assumption) | refine ⟨?_, ?_⟩))
theorem lp_X3_trace_l191 {σ0 : gj_S} {b0 : Nat} {b1 : Nat} {b2 : Nat} {b3 : Int32} (h_b0 : b0 + 2 < 188) (h_b1 : b1 + 2 < 188) (h_b2 : b2 + 2 < 188) (n : Nat) (a : (Int32 × Int32 × gj_S)) (h0 : fr8 σ0 a.2.2) : OP (gj_lp (fb_X3_trace_l191 b0 b1 b2 b3) n a) (fun r : gj_S => fr8 σ0 r) := op_lp (I := fun a : (Int32 × Int32 × gj_S) => fr8 σ0 a.2.2) (J := fun r : gj_S => fr8 σ0 r) (fun a h => w_fb_X3_trace_l191 h_b0 h_b1 h_b2 h) n a h0
set_option maxHeartbeats 2000000 in
theorem w_X3_trace {σ0 : gj_S} {b0 : Nat} {b1 : Nat} {b2 : Nat} {b3 : Int32} {σ : gj_S} (h_b0 : b0 + 2 < 188) (h_b1 : b1 + 7 < 188) (h_b2 : b2 + 3 < 188) (h0 : fr8 σ0 σ) : OP (f_X3_trace b0 b1 b2 b3 σ) (fun r : gj_S => fr8 σ0 r) := by
  unfold f_X3_trace
  repeat' (with_reducible (first | exact op_none | refine op_if (fun _ => ?_) (fun _ => ?_) | refine w_X3_put (σ0 := σ0) ?_ ?_ | refine w_X3_findLeaving (σ0 := σ0) ?_ ?_ ?_ | refine lp_X3_trace_l111 (σ0 := σ0) ?_ ?_ ?_ _ _ ?_ | refine lp_X3_trace_l191 (σ0 := σ0) ?_ ?_ ?_ _ _ ?_ | refine op_bind (w_X3_put (σ0 := σ0) ?_ ?_) (fun _ _ => ?_) | refine op_bind (w_X3_findLeaving (σ0 := σ0) ?_ ?_ ?_) (fun _ _ => ?_) | refine op_bind (lp_X3_trace_l111 (σ0 := σ0) ?_ ?_ ?_ _ _ ?_) (fun _ _ => ?_) | refine op_bind (lp_X3_trace_l191 (σ0 := σ0) ?_ ?_ ?_ _ _ ?_) (fun _ _ => ?_) | refine op_bind (α := gj_S) (P := fun x => fr8 σ0 x) ?_ (fun _ _ => ?_) | refine op_bind (α := Int32 × gj_S) (P := fun x => fr8 σ0 x.2) ?_ (fun _ _ => ?_) | refine op_bind (α := Int32 × Int32 × gj_S) (P := fun x => fr8 σ0 x.2.2) ?_ (fun _ _ => ?_) | refine op_bT (fun _ => ?_) | refine op_el (by assumption) (fun _ _ => ?_) (fun _ _ => ?_) | refine op_some ?_))
  all_goals (try dsimp only [gj_K])
  all_goals (repeat' (first | exact True.intro | with_reducible assumption | with_reducible refine fr8_I ?_ ?_ | with_reducible refine fr8_J ?_ ?_ | with_reducible refine fr8_T ?_ | omega | exact fp_55 (by assumption) | exact fp_164 (by assumption) | refine ⟨?_, ?_⟩))
set_option maxHeartbeats 2000000 in
theorem w_X7_traceRing {σ0 : gj_S} {b0 : Nat} {b1 : Int32} {σ : gj_S} (h_b0 : b0 + 18 < 188) (h0 : fr8 σ0 σ) : OP (f_X7_traceRing b0 b1 σ) (fun r : (Nat × gj_S) => fr8 σ0 r.2) := by
  unfold f_X7_traceRing
  repeat' (with_reducible (first | exact op_none | refine op_if (fun _ => ?_) (fun _ => ?_) | refine w_X3_trace (σ0 := σ0) ?_ ?_ ?_ ?_ | refine op_bind (w_X3_trace (σ0 := σ0) ?_ ?_ ?_ ?_) (fun _ _ => ?_) | refine op_bind (α := gj_S) (P := fun x => fr8 σ0 x) ?_ (fun _ _ => ?_) | refine op_bind (α := Int32 × gj_S) (P := fun x => fr8 σ0 x.2) ?_ (fun _ _ => ?_) | refine op_bind (α := Int32 × Int32 × gj_S) (P := fun x => fr8 σ0 x.2.2) ?_ (fun _ _ => ?_) | refine op_bT (fun _ => ?_) | refine op_el (by assumption) (fun _ _ => ?_) (fun _ _ => ?_) | refine op_some ?_))
  all_goals (try dsimp only [gj_K])
  all_goals (repeat' (first | exact True.intro | with_reducible assumption | with_reducible refine fr8_I ?_ ?_ | with_reducible refine fr8_J ?_ ?_ | with_reducible refine fr8_T ?_ | omega | exact fp_55 (by assumption) | exact fp_164 (by assumption) | refine ⟨?_, ?_⟩))
set_option maxHeartbeats 2000000 in
theorem w_X8_ring {σ0 : gj_S} {b1 : Int32} {b2 : Int32} {σ : gj_S}  (h0 : fr8 σ0 σ) : OP (f_X8_ring b1 b2 σ) (fun r : (Int32 × gj_S) => fr8 σ0 r.2) := by
  unfold f_X8_ring
  repeat' (with_reducible (first | exact op_none | refine op_if (fun _ => ?_) (fun _ => ?_) | refine w_X7_traceRing (σ0 := σ0) ?_ ?_ | refine op_bind (w_X7_traceRing (σ0 := σ0) ?_ ?_) (fun _ _ => ?_) | refine op_bind (α := gj_S) (P := fun x => fr8 σ0 x) ?_ (fun _ _ => ?_) | refine op_bind (α := Int32 × gj_S) (P := fun x => fr8 σ0 x.2) ?_ (fun _ _ => ?_) | refine op_bind (α := Int32 × Int32 × gj_S) (P := fun x => fr8 σ0 x.2.2) ?_ (fun _ _ => ?_) | refine op_bT (fun _ => ?_) | refine op_el (by assumption) (fun _ _ => ?_) (fun _ _ => ?_) | refine op_some ?_))
  all_goals (try dsimp only [gj_K])
  all_goals (repeat' (first | exact True.intro | with_reducible assumption | with_reducible refine fr8_I ?_ ?_ | with_reducible refine fr8_J ?_ ?_ | with_reducible refine fr8_T ?_ | omega | exact fp_55 (by assumption) | exact fp_164 (by assumption) | refine ⟨?_, ?_⟩))
set_option maxHeartbeats 2000000 in
theorem w_X8_closes {σ0 : gj_S} {b1 : Int32} {b2 : Int32} {σ : gj_S}  (h0 : fr8 σ0 σ) : OP (f_X8_closes b1 b2 σ) (fun r : (Int32 × gj_S) => fr8 σ0 r.2) := by
  unfold f_X8_closes
  repeat' (with_reducible (first | exact op_none | refine op_if (fun _ => ?_) (fun _ => ?_) | refine w_X7_traceRing (σ0 := σ0) ?_ ?_ | refine op_bind (w_X7_traceRing (σ0 := σ0) ?_ ?_) (fun _ _ => ?_) | refine op_bind (α := gj_S) (P := fun x => fr8 σ0 x) ?_ (fun _ _ => ?_) | refine op_bind (α := Int32 × gj_S) (P := fun x => fr8 σ0 x.2) ?_ (fun _ _ => ?_) | refine op_bind (α := Int32 × Int32 × gj_S) (P := fun x => fr8 σ0 x.2.2) ?_ (fun _ _ => ?_) | refine op_bT (fun _ => ?_) | refine op_el (by assumption) (fun _ _ => ?_) (fun _ _ => ?_) | refine op_some ?_))
  all_goals (try dsimp only [gj_K])
  all_goals (repeat' (first | exact True.intro | with_reducible assumption | with_reducible refine fr8_I ?_ ?_ | with_reducible refine fr8_J ?_ ?_ | with_reducible refine fr8_T ?_ | omega | exact fp_55 (by assumption) | exact fp_164 (by assumption) | refine ⟨?_, ?_⟩))
set_option maxHeartbeats 2000000 in
theorem w_X0_remember {σ0 : gj_S} {σ : gj_S}  (h0 : fr8 σ0 σ) : OP (f_X0_remember σ) (fun r : gj_S => fr8 σ0 r) := by
  unfold f_X0_remember
  repeat' (with_reducible (first | exact op_none | refine op_if (fun _ => ?_) (fun _ => ?_) | refine w_X1_copyFrom (σ0 := σ0) ?_ ?_ ?_ | refine op_bind (w_X1_copyFrom (σ0 := σ0) ?_ ?_ ?_) (fun _ _ => ?_) | refine op_bind (α := gj_S) (P := fun x => fr8 σ0 x) ?_ (fun _ _ => ?_) | refine op_bind (α := Int32 × gj_S) (P := fun x => fr8 σ0 x.2) ?_ (fun _ _ => ?_) | refine op_bind (α := Int32 × Int32 × gj_S) (P := fun x => fr8 σ0 x.2.2) ?_ (fun _ _ => ?_) | refine op_bT (fun _ => ?_) | refine op_el (by assumption) (fun _ _ => ?_) (fun _ _ => ?_) | refine op_some ?_))
  all_goals (try dsimp only [gj_K])
  all_goals (repeat' (first | exact True.intro | with_reducible assumption | with_reducible refine fr8_I ?_ ?_ | with_reducible refine fr8_J ?_ ?_ | with_reducible refine fr8_T ?_ | omega | exact fp_55 (by assumption) | exact fp_164 (by assumption) | refine ⟨?_, ?_⟩))
set_option maxHeartbeats 2000000 in
theorem w_fb_X7_moveFlows_l2 {σ0 : gj_S} {b0 : Nat} {a10002 : (Int32 × gj_S)} (h_b0 : b0 + 16 < 188) (h0 : fr8 σ0 a10002.2) : OP (fb_X7_moveFlows_l2 b0 a10002) (fun r : (gj_S ⊕ (Int32 × gj_S)) => gj_K (fun u37 : gj_S => fr8 σ0 u37) (fun v37 : (Int32 × gj_S) => fr8 σ0 v37.2) r) := by
  unfold fb_X7_moveFlows_l2
  repeat' (with_reducible (first | exact op_none | refine op_if (fun _ => ?_) (fun _ => ?_) | refine op_bind (α := gj_S) (P := fun x => fr8 σ0 x) ?_ (fun _ _ => ?_) | refine op_bind (α := Int32 × gj_S) (P := fun x => fr8 σ0 x.2) ?_ (fun _ _ => ?_) | refine op_bind (α := Int32 × Int32 × gj_S) (P := fun x => fr8 σ0 x.2.2) ?_ (fun _ _ => ?_) | refine op_bT (fun _ => ?_) | refine op_el (by assumption) (fun _ _ => ?_) (fun _ _ => ?_) | refine op_some ?_))
  all_goals (try dsimp only [gj_K])
  all_goals (repeat' (first | exact True.intro | with_reducible assumption | with_reducible refine fr8_I ?_ ?_ | with_reducible refine fr8_J ?_ ?_ | with_reducible refine fr8_T ?_ | omega | exact fp_55 (by assumption) | exact fp_164 (by assumption) | refine ⟨?_, ?_⟩))
theorem lp_X7_moveFlows_l2 {σ0 : gj_S} {b0 : Nat} (h_b0 : b0 + 16 < 188) (n : Nat) (a : (Int32 × gj_S)) (h0 : fr8 σ0 a.2) : OP (gj_lp (fb_X7_moveFlows_l2 b0) n a) (fun r : gj_S => fr8 σ0 r) := op_lp (I := fun a : (Int32 × gj_S) => fr8 σ0 a.2) (J := fun r : gj_S => fr8 σ0 r) (fun a h => w_fb_X7_moveFlows_l2 h_b0 h) n a h0
set_option maxHeartbeats 2000000 in
theorem w_X7_moveFlows {σ0 : gj_S} {b0 : Nat} {σ : gj_S} (h_b0 : b0 + 16 < 188) (h0 : fr8 σ0 σ) : OP (f_X7_moveFlows b0 σ) (fun r : gj_S => fr8 σ0 r) := by
  unfold f_X7_moveFlows
  repeat' (with_reducible (first | exact op_none | refine op_if (fun _ => ?_) (fun _ => ?_) | refine lp_X7_moveFlows_l2 (σ0 := σ0) ?_ _ _ ?_ | refine op_bind (lp_X7_moveFlows_l2 (σ0 := σ0) ?_ _ _ ?_) (fun _ _ => ?_) | refine op_bind (α := gj_S) (P := fun x => fr8 σ0 x) ?_ (fun _ _ => ?_) | refine op_bind (α := Int32 × gj_S) (P := fun x => fr8 σ0 x.2) ?_ (fun _ _ => ?_) | refine op_bind (α := Int32 × Int32 × gj_S) (P := fun x => fr8 σ0 x.2.2) ?_ (fun _ _ => ?_) | refine op_bT (fun _ => ?_) | refine op_el (by assumption) (fun _ _ => ?_) (fun _ _ => ?_) | refine op_some ?_))
  all_goals (try dsimp only [gj_K])
  all_goals (repeat' (first | exact True.intro | with_reducible assumption | with_reducible refine fr8_I ?_ ?_ | with_reducible refine fr8_J ?_ ?_ | with_reducible refine fr8_T ?_ | omega | exact fp_55 (by assumption) | exact fp_164 (by assumption) | refine ⟨?_, ?_⟩))
set_option maxHeartbeats 2000000 in
theorem w_X7_exchange {σ0 : gj_S} {b0 : Nat} {b1 : Int32} {σ : gj_S} (h_b0 : b0 + 18 < 188) (h0 : fr8 σ0 σ) : OP (f_X7_exchange b0 b1 σ) (fun r : gj_S => fr8 σ0 r) := by
  unfold f_X7_exchange
  repeat' (with_reducible (first | exact op_none | refine op_if (fun _ => ?_) (fun _ => ?_) | refine op_bind (α := gj_S) (P := fun x => fr8 σ0 x) ?_ (fun _ _ => ?_) | refine op_bind (α := Int32 × gj_S) (P := fun x => fr8 σ0 x.2) ?_ (fun _ _ => ?_) | refine op_bind (α := Int32 × Int32 × gj_S) (P := fun x => fr8 σ0 x.2.2) ?_ (fun _ _ => ?_) | refine op_bT (fun _ => ?_) | refine op_el (by assumption) (fun _ _ => ?_) (fun _ _ => ?_) | refine op_some ?_))
  all_goals (try dsimp only [gj_K])
  all_goals (repeat' (first | exact True.intro | with_reducible assumption | with_reducible refine fr8_I ?_ ?_ | with_reducible refine fr8_J ?_ ?_ | with_reducible refine fr8_T ?_ | omega | exact fp_55 (by assumption) | exact fp_164 (by assumption) | refine ⟨?_, ?_⟩))
set_option maxHeartbeats 2000000 in
theorem w_X1_writeLog {σ0 : gj_S} {b0 : Nat} {b1 : Int32} {b2 : Nat} {b3 : Int32} {σ : gj_S} (h_b0 : b0 + 8 < 188) (h_b2 : b2 + 1 < 188) (h0 : fr8 σ0 σ) : OP (f_X1_writeLog b0 b1 b2 b3 σ) (fun r : gj_S => fr8 σ0 r) := by
  unfold f_X1_writeLog
  repeat' (with_reducible (first | exact op_none | refine op_if (fun _ => ?_) (fun _ => ?_) | refine op_bind (α := gj_S) (P := fun x => fr8 σ0 x) ?_ (fun _ _ => ?_) | refine op_bind (α := Int32 × gj_S) (P := fun x => fr8 σ0 x.2) ?_ (fun _ _ => ?_) | refine op_bind (α := Int32 × Int32 × gj_S) (P := fun x => fr8 σ0 x.2.2) ?_ (fun _ _ => ?_) | refine op_bT (fun _ => ?_) | refine op_el (by assumption) (fun _ _ => ?_) (fun _ _ => ?_) | refine op_some ?_))
  all_goals (try dsimp only [gj_K])
  all_goals (repeat' (first | exact True.intro | with_reducible assumption | with_reducible refine fr8_I ?_ ?_ | with_reducible refine fr8_J ?_ ?_ | with_reducible refine fr8_T ?_ | omega | exact fp_55 (by assumption) | exact fp_164 (by assumption) | refine ⟨?_, ?_⟩))
set_option maxHeartbeats 2000000 in
theorem w_X7_makePivot {σ0 : gj_S} {b0 : Nat} {σ : gj_S} (h_b0 : b0 + 18 < 188) (h0 : fr8 σ0 σ) : OP (f_X7_makePivot b0 σ) (fun r : (Int32 × gj_S) => fr8 σ0 r.2) := by
  unfold f_X7_makePivot
  repeat' (with_reducible (first | exact op_none | refine op_if (fun _ => ?_) (fun _ => ?_) | refine w_X7_regrow (σ0 := σ0) ?_ ?_ | refine w_X7_findEntering (σ0 := σ0) ?_ ?_ | refine w_X3_trace (σ0 := σ0) ?_ ?_ ?_ ?_ | refine w_X7_moveFlows (σ0 := σ0) ?_ ?_ | refine w_X7_exchange (σ0 := σ0) ?_ ?_ | refine w_X1_writeLog (σ0 := σ0) ?_ ?_ ?_ | refine op_bind (w_X7_regrow (σ0 := σ0) ?_ ?_) (fun _ _ => ?_) | refine op_bind (w_X7_findEntering (σ0 := σ0) ?_ ?_) (fun _ _ => ?_) | refine op_bind (w_X3_trace (σ0 := σ0) ?_ ?_ ?_ ?_) (fun _ _ => ?_) | refine op_bind (w_X7_moveFlows (σ0 := σ0) ?_ ?_) (fun _ _ => ?_) | refine op_bind (w_X7_exchange (σ0 := σ0) ?_ ?_) (fun _ _ => ?_) | refine op_bind (w_X1_writeLog (σ0 := σ0) ?_ ?_ ?_) (fun _ _ => ?_) | refine op_bind (α := gj_S) (P := fun x => fr8 σ0 x) ?_ (fun _ _ => ?_) | refine op_bind (α := Int32 × gj_S) (P := fun x => fr8 σ0 x.2) ?_ (fun _ _ => ?_) | refine op_bind (α := Int32 × Int32 × gj_S) (P := fun x => fr8 σ0 x.2.2) ?_ (fun _ _ => ?_) | refine op_bT (fun _ => ?_) | refine op_el (by assumption) (fun _ _ => ?_) (fun _ _ => ?_) | refine op_some ?_))
  all_goals (try dsimp only [gj_K])
  all_goals (repeat' (first | exact True.intro | with_reducible assumption | with_reducible refine fr8_I ?_ ?_ | with_reducible refine fr8_J ?_ ?_ | with_reducible refine fr8_T ?_ | omega | exact fp_55 (by assumption) | exact fp_164 (by assumption) | refine ⟨?_, ?_⟩))
set_option maxHeartbeats 2000000 in
theorem w_X8_step {σ0 : gj_S} {σ : gj_S}  (h0 : fr8 σ0 σ) : OP (f_X8_step σ) (fun r : (Int32 × gj_S) => fr8 σ0 r.2) := by
  unfold f_X8_step
  repeat' (with_reducible (first | exact op_none | refine op_if (fun _ => ?_) (fun _ => ?_) | refine w_X0_remember (σ0 := σ0) ?_ | refine w_X7_makePivot (σ0 := σ0) ?_ ?_ | refine op_bind (w_X0_remember (σ0 := σ0) ?_) (fun _ _ => ?_) | refine op_bind (w_X7_makePivot (σ0 := σ0) ?_ ?_) (fun _ _ => ?_) | refine op_bind (α := gj_S) (P := fun x => fr8 σ0 x) ?_ (fun _ _ => ?_) | refine op_bind (α := Int32 × gj_S) (P := fun x => fr8 σ0 x.2) ?_ (fun _ _ => ?_) | refine op_bind (α := Int32 × Int32 × gj_S) (P := fun x => fr8 σ0 x.2.2) ?_ (fun _ _ => ?_) | refine op_bT (fun _ => ?_) | refine op_el (by assumption) (fun _ _ => ?_) (fun _ _ => ?_) | refine op_some ?_))
  all_goals (try dsimp only [gj_K])
  all_goals (repeat' (first | exact True.intro | with_reducible assumption | with_reducible refine fr8_I ?_ ?_ | with_reducible refine fr8_J ?_ ?_ | with_reducible refine fr8_T ?_ | omega | exact fp_55 (by assumption) | exact fp_164 (by assumption) | refine ⟨?_, ?_⟩))
set_option maxHeartbeats 2000000 in
theorem w_fb_X7_makePivots_l2 {σ0 : gj_S} {b0 : Nat} {b1 : Int32} {a10002 : (Int32 × gj_S)} (h_b0 : b0 + 18 < 188) (h0 : fr8 σ0 a10002.2) : OP (fb_X7_makePivots_l2 b0 b1 a10002) (fun r : ((Int32 × gj_S) ⊕ (Int32 × gj_S)) => gj_K (fun u39 : (Int32 × gj_S) => fr8 σ0 u39.2) (fun v39 : (Int32 × gj_S) => fr8 σ0 v39.2) r) := by
  unfold fb_X7_makePivots_l2
  repeat' (with_reducible (first | exact op_none | refine op_if (fun _ => ?_) (fun _ => ?_) | refine w_X7_makePivot (σ0 := σ0) ?_ ?_ | refine op_bind (w_X7_makePivot (σ0 := σ0) ?_ ?_) (fun _ _ => ?_) | refine op_bind (α := gj_S) (P := fun x => fr8 σ0 x) ?_ (fun _ _ => ?_) | refine op_bind (α := Int32 × gj_S) (P := fun x => fr8 σ0 x.2) ?_ (fun _ _ => ?_) | refine op_bind (α := Int32 × Int32 × gj_S) (P := fun x => fr8 σ0 x.2.2) ?_ (fun _ _ => ?_) | refine op_bT (fun _ => ?_) | refine op_el (by assumption) (fun _ _ => ?_) (fun _ _ => ?_) | refine op_some ?_))
  all_goals (try dsimp only [gj_K])
  all_goals (repeat' (first | exact True.intro | with_reducible assumption | with_reducible refine fr8_I ?_ ?_ | with_reducible refine fr8_J ?_ ?_ | with_reducible refine fr8_T ?_ | omega | exact fp_55 (by assumption) | exact fp_164 (by assumption) | refine ⟨?_, ?_⟩))
theorem lp_X7_makePivots_l2 {σ0 : gj_S} {b0 : Nat} {b1 : Int32} (h_b0 : b0 + 18 < 188) (n : Nat) (a : (Int32 × gj_S)) (h0 : fr8 σ0 a.2) : OP (gj_lp (fb_X7_makePivots_l2 b0 b1) n a) (fun r : (Int32 × gj_S) => fr8 σ0 r.2) := op_lp (I := fun a : (Int32 × gj_S) => fr8 σ0 a.2) (J := fun r : (Int32 × gj_S) => fr8 σ0 r.2) (fun a h => w_fb_X7_makePivots_l2 h_b0 h) n a h0
set_option maxHeartbeats 2000000 in
theorem w_X7_makePivots {σ0 : gj_S} {b0 : Nat} {b1 : Int32} {σ : gj_S} (h_b0 : b0 + 18 < 188) (h0 : fr8 σ0 σ) : OP (f_X7_makePivots b0 b1 σ) (fun r : (Int32 × gj_S) => fr8 σ0 r.2) := by
  unfold f_X7_makePivots
  repeat' (with_reducible (first | exact op_none | refine op_if (fun _ => ?_) (fun _ => ?_) | refine lp_X7_makePivots_l2 (σ0 := σ0) ?_ _ _ ?_ | refine op_bind (lp_X7_makePivots_l2 (σ0 := σ0) ?_ _ _ ?_) (fun _ _ => ?_) | refine op_bind (α := gj_S) (P := fun x => fr8 σ0 x) ?_ (fun _ _ => ?_) | refine op_bind (α := Int32 × gj_S) (P := fun x => fr8 σ0 x.2) ?_ (fun _ _ => ?_) | refine op_bind (α := Int32 × Int32 × gj_S) (P := fun x => fr8 σ0 x.2.2) ?_ (fun _ _ => ?_) | refine op_bT (fun _ => ?_) | refine op_el (by assumption) (fun _ _ => ?_) (fun _ _ => ?_) | refine op_some ?_))
  all_goals (try dsimp only [gj_K])
  all_goals (repeat' (first | exact True.intro | with_reducible assumption | with_reducible refine fr8_I ?_ ?_ | with_reducible refine fr8_J ?_ ?_ | with_reducible refine fr8_T ?_ | omega | exact fp_55 (by assumption) | exact fp_164 (by assumption) | refine ⟨?_, ?_⟩))
set_option maxHeartbeats 2000000 in
theorem w_X8_run {σ0 : gj_S} {b1 : Int32} {σ : gj_S}  (h0 : fr8 σ0 σ) : OP (f_X8_run b1 σ) (fun r : (Int32 × gj_S) => fr8 σ0 r.2) := by
  unfold f_X8_run
  repeat' (with_reducible (first | exact op_none | refine op_if (fun _ => ?_) (fun _ => ?_) | refine w_X0_remember (σ0 := σ0) ?_ | refine w_X7_makePivots (σ0 := σ0) ?_ ?_ | refine op_bind (w_X0_remember (σ0 := σ0) ?_) (fun _ _ => ?_) | refine op_bind (w_X7_makePivots (σ0 := σ0) ?_ ?_) (fun _ _ => ?_) | refine op_bind (α := gj_S) (P := fun x => fr8 σ0 x) ?_ (fun _ _ => ?_) | refine op_bind (α := Int32 × gj_S) (P := fun x => fr8 σ0 x.2) ?_ (fun _ _ => ?_) | refine op_bind (α := Int32 × Int32 × gj_S) (P := fun x => fr8 σ0 x.2.2) ?_ (fun _ _ => ?_) | refine op_bT (fun _ => ?_) | refine op_el (by assumption) (fun _ _ => ?_) (fun _ _ => ?_) | refine op_some ?_))
  all_goals (try dsimp only [gj_K])
  all_goals (repeat' (first | exact True.intro | with_reducible assumption | with_reducible refine fr8_I ?_ ?_ | with_reducible refine fr8_J ?_ ?_ | with_reducible refine fr8_T ?_ | omega | exact fp_55 (by assumption) | exact fp_164 (by assumption) | refine ⟨?_, ?_⟩))
set_option maxHeartbeats 2000000 in
theorem w_X6_reach {σ0 : gj_S} {b1 : Int32} {b2 : Int32} {b3 : Int32} {σ : gj_S}  (h0 : fr8 σ0 σ) : OP (f_X6_reach b1 b2 b3 σ) (fun r : gj_S => fr8 σ0 r) := by
  unfold f_X6_reach
  repeat' (with_reducible (first | exact op_none | refine op_if (fun _ => ?_) (fun _ => ?_) | refine op_bind (α := gj_S) (P := fun x => fr8 σ0 x) ?_ (fun _ _ => ?_) | refine op_bind (α := Int32 × gj_S) (P := fun x => fr8 σ0 x.2) ?_ (fun _ _ => ?_) | refine op_bind (α := Int32 × Int32 × gj_S) (P := fun x => fr8 σ0 x.2.2) ?_ (fun _ _ => ?_) | refine op_bT (fun _ => ?_) | refine op_el (by assumption) (fun _ _ => ?_) (fun _ _ => ?_) | refine op_some ?_))
  all_goals (try dsimp only [gj_K])
  all_goals (repeat' (first | exact True.intro | with_reducible assumption | with_reducible refine fr8_I ?_ ?_ | with_reducible refine fr8_J ?_ ?_ | with_reducible refine fr8_T ?_ | omega | exact fp_55 (by assumption) | exact fp_164 (by assumption) | refine ⟨?_, ?_⟩))
set_option maxHeartbeats 2000000 in
theorem w_X6_tryRoute {σ0 : gj_S} {b2 : Int32} {σ : gj_S}  (h0 : fr8 σ0 σ) : OP (f_X6_tryRoute b2 σ) (fun r : gj_S => fr8 σ0 r) := by
  unfold f_X6_tryRoute
  repeat' (with_reducible (first | exact op_none | refine op_if (fun _ => ?_) (fun _ => ?_) | refine w_X6_reach (σ0 := σ0) ?_ | refine op_bind (w_X6_reach (σ0 := σ0) ?_) (fun _ _ => ?_) | refine op_bind (α := gj_S) (P := fun x => fr8 σ0 x) ?_ (fun _ _ => ?_) | refine op_bind (α := Int32 × gj_S) (P := fun x => fr8 σ0 x.2) ?_ (fun _ _ => ?_) | refine op_bind (α := Int32 × Int32 × gj_S) (P := fun x => fr8 σ0 x.2.2) ?_ (fun _ _ => ?_) | refine op_bT (fun _ => ?_) | refine op_el (by assumption) (fun _ _ => ?_) (fun _ _ => ?_) | refine op_some ?_))
  all_goals (try dsimp only [gj_K])
  all_goals (repeat' (first | exact True.intro | with_reducible assumption | with_reducible refine fr8_I ?_ ?_ | with_reducible refine fr8_J ?_ ?_ | with_reducible refine fr8_T ?_ | omega | exact fp_55 (by assumption) | exact fp_164 (by assumption) | refine ⟨?_, ?_⟩))
set_option maxHeartbeats 2000000 in
theorem w_fb_X6_findLeast_l3 {σ0 : gj_S} {b2 : Int32} {b3 : Int32} {a10003 : (Int32 × gj_S)}  (h0 : fr8 σ0 a10003.2) : OP (fb_X6_findLeast_l3 b2 b3 a10003) (fun r : (gj_S ⊕ (Int32 × gj_S)) => gj_K (fun u41 : gj_S => fr8 σ0 u41) (fun v41 : (Int32 × gj_S) => fr8 σ0 v41.2) r) := by
  unfold fb_X6_findLeast_l3
  repeat' (with_reducible (first | exact op_none | refine op_if (fun _ => ?_) (fun _ => ?_) | refine op_bind (α := gj_S) (P := fun x => fr8 σ0 x) ?_ (fun _ _ => ?_) | refine op_bind (α := Int32 × gj_S) (P := fun x => fr8 σ0 x.2) ?_ (fun _ _ => ?_) | refine op_bind (α := Int32 × Int32 × gj_S) (P := fun x => fr8 σ0 x.2.2) ?_ (fun _ _ => ?_) | refine op_bT (fun _ => ?_) | refine op_el (by assumption) (fun _ _ => ?_) (fun _ _ => ?_) | refine op_some ?_))
  all_goals (try dsimp only [gj_K])
  all_goals (repeat' (first | exact True.intro | with_reducible assumption | with_reducible refine fr8_I ?_ ?_ | with_reducible refine fr8_J ?_ ?_ | with_reducible refine fr8_T ?_ | omega | exact fp_55 (by assumption) | exact fp_164 (by assumption) | refine ⟨?_, ?_⟩))
theorem lp_X6_findLeast_l3 {σ0 : gj_S} {b2 : Int32} {b3 : Int32}  (n : Nat) (a : (Int32 × gj_S)) (h0 : fr8 σ0 a.2) : OP (gj_lp (fb_X6_findLeast_l3 b2 b3) n a) (fun r : gj_S => fr8 σ0 r) := op_lp (I := fun a : (Int32 × gj_S) => fr8 σ0 a.2) (J := fun r : gj_S => fr8 σ0 r) (fun a h => w_fb_X6_findLeast_l3 h) n a h0
set_option maxHeartbeats 2000000 in
theorem w_fb_X6_findLeast_l50 {σ0 : gj_S} {b3 : Int32} {b4 : Int32} {a10050 : (Int32 × gj_S)}  (h0 : fr8 σ0 a10050.2) : OP (fb_X6_findLeast_l50 b3 b4 a10050) (fun r : (gj_S ⊕ (Int32 × gj_S)) => gj_K (fun u42 : gj_S => fr8 σ0 u42) (fun v42 : (Int32 × gj_S) => fr8 σ0 v42.2) r) := by
  unfold fb_X6_findLeast_l50
  repeat' (with_reducible (first | exact op_none | refine op_if (fun _ => ?_) (fun _ => ?_) | refine w_X6_tryRoute (σ0 := σ0) ?_ | refine op_bind (w_X6_tryRoute (σ0 := σ0) ?_) (fun _ _ => ?_) | refine op_bind (α := gj_S) (P := fun x => fr8 σ0 x) ?_ (fun _ _ => ?_) | refine op_bind (α := Int32 × gj_S) (P := fun x => fr8 σ0 x.2) ?_ (fun _ _ => ?_) | refine op_bind (α := Int32 × Int32 × gj_S) (P := fun x => fr8 σ0 x.2.2) ?_ (fun _ _ => ?_) | refine op_bT (fun _ => ?_) | refine op_el (by assumption) (fun _ _ => ?_) (fun _ _ => ?_) | refine op_some ?_))
  all_goals (try dsimp only [gj_K])
  all_goals (repeat' (first | exact True.intro | with_reducible assumption | with_reducible refine fr8_I ?_ ?_ | with_reducible refine fr8_J ?_ ?_ | with_reducible refine fr8_T ?_ | omega | exact fp_55 (by assumption) | exact fp_164 (by assumption) | refine ⟨?_, ?_⟩))
theorem lp_X6_findLeast_l50 {σ0 : gj_S} {b3 : Int32} {b4 : Int32}  (n : Nat) (a : (Int32 × gj_S)) (h0 : fr8 σ0 a.2) : OP (gj_lp (fb_X6_findLeast_l50 b3 b4) n a) (fun r : gj_S => fr8 σ0 r) := op_lp (I := fun a : (Int32 × gj_S) => fr8 σ0 a.2) (J := fun r : gj_S => fr8 σ0 r) (fun a h => w_fb_X6_findLeast_l50 h) n a h0
set_option maxHeartbeats 2000000 in
theorem w_fb_X6_findLeast_l38 {σ0 : gj_S} {b3 : Int32} {a10038 : (Int32 × gj_S)}  (h0 : fr8 σ0 a10038.2) : OP (fb_X6_findLeast_l38 b3 a10038) (fun r : (gj_S ⊕ (Int32 × gj_S)) => gj_K (fun u43 : gj_S => fr8 σ0 u43) (fun v43 : (Int32 × gj_S) => fr8 σ0 v43.2) r) := by
  unfold fb_X6_findLeast_l38
  repeat' (with_reducible (first | exact op_none | refine op_if (fun _ => ?_) (fun _ => ?_) | refine lp_X6_findLeast_l50 (σ0 := σ0) _ _ ?_ | refine op_bind (lp_X6_findLeast_l50 (σ0 := σ0) _ _ ?_) (fun _ _ => ?_) | refine op_bind (α := gj_S) (P := fun x => fr8 σ0 x) ?_ (fun _ _ => ?_) | refine op_bind (α := Int32 × gj_S) (P := fun x => fr8 σ0 x.2) ?_ (fun _ _ => ?_) | refine op_bind (α := Int32 × Int32 × gj_S) (P := fun x => fr8 σ0 x.2.2) ?_ (fun _ _ => ?_) | refine op_bT (fun _ => ?_) | refine op_el (by assumption) (fun _ _ => ?_) (fun _ _ => ?_) | refine op_some ?_))
  all_goals (try dsimp only [gj_K])
  all_goals (repeat' (first | exact True.intro | with_reducible assumption | with_reducible refine fr8_I ?_ ?_ | with_reducible refine fr8_J ?_ ?_ | with_reducible refine fr8_T ?_ | omega | exact fp_55 (by assumption) | exact fp_164 (by assumption) | refine ⟨?_, ?_⟩))
theorem lp_X6_findLeast_l38 {σ0 : gj_S} {b3 : Int32}  (n : Nat) (a : (Int32 × gj_S)) (h0 : fr8 σ0 a.2) : OP (gj_lp (fb_X6_findLeast_l38 b3) n a) (fun r : gj_S => fr8 σ0 r) := op_lp (I := fun a : (Int32 × gj_S) => fr8 σ0 a.2) (J := fun r : gj_S => fr8 σ0 r) (fun a h => w_fb_X6_findLeast_l38 h) n a h0
set_option maxHeartbeats 2000000 in
theorem w_X6_findLeast {σ0 : gj_S} {b2 : Int32} {b3 : Int32} {σ : gj_S}  (h0 : fr8 σ0 σ) : OP (f_X6_findLeast b2 b3 σ) (fun r : (Int32 × gj_S) => fr8 σ0 r.2) := by
  unfold f_X6_findLeast
  repeat' (with_reducible (first | exact op_none | refine op_if (fun _ => ?_) (fun _ => ?_) | refine lp_X6_findLeast_l3 (σ0 := σ0) _ _ ?_ | refine lp_X6_findLeast_l38 (σ0 := σ0) _ _ ?_ | refine op_bind (lp_X6_findLeast_l3 (σ0 := σ0) _ _ ?_) (fun _ _ => ?_) | refine op_bind (lp_X6_findLeast_l38 (σ0 := σ0) _ _ ?_) (fun _ _ => ?_) | refine op_bind (α := gj_S) (P := fun x => fr8 σ0 x) ?_ (fun _ _ => ?_) | refine op_bind (α := Int32 × gj_S) (P := fun x => fr8 σ0 x.2) ?_ (fun _ _ => ?_) | refine op_bind (α := Int32 × Int32 × gj_S) (P := fun x => fr8 σ0 x.2.2) ?_ (fun _ _ => ?_) | refine op_bT (fun _ => ?_) | refine op_el (by assumption) (fun _ _ => ?_) (fun _ _ => ?_) | refine op_some ?_))
  all_goals (try dsimp only [gj_K])
  all_goals (repeat' (first | exact True.intro | with_reducible assumption | with_reducible refine fr8_I ?_ ?_ | with_reducible refine fr8_J ?_ ?_ | with_reducible refine fr8_T ?_ | omega | exact fp_55 (by assumption) | exact fp_164 (by assumption) | refine ⟨?_, ?_⟩))
set_option maxHeartbeats 2000000 in
theorem w_X8_unit {σ0 : gj_S} {b1 : Int32} {b2 : Int32} {σ : gj_S}  (h0 : fr8 σ0 σ) : OP (f_X8_unit b1 b2 σ) (fun r : (Int32 × gj_S) => fr8 σ0 r.2) := by
  unfold f_X8_unit
  repeat' (with_reducible (first | exact op_none | refine op_if (fun _ => ?_) (fun _ => ?_) | refine w_X6_findLeast (σ0 := σ0) ?_ | refine op_bind (w_X6_findLeast (σ0 := σ0) ?_) (fun _ _ => ?_) | refine op_bind (α := gj_S) (P := fun x => fr8 σ0 x) ?_ (fun _ _ => ?_) | refine op_bind (α := Int32 × gj_S) (P := fun x => fr8 σ0 x.2) ?_ (fun _ _ => ?_) | refine op_bind (α := Int32 × Int32 × gj_S) (P := fun x => fr8 σ0 x.2.2) ?_ (fun _ _ => ?_) | refine op_bT (fun _ => ?_) | refine op_el (by assumption) (fun _ _ => ?_) (fun _ _ => ?_) | refine op_some ?_))
  all_goals (try dsimp only [gj_K])
  all_goals (repeat' (first | exact True.intro | with_reducible assumption | with_reducible refine fr8_I ?_ ?_ | with_reducible refine fr8_J ?_ ?_ | with_reducible refine fr8_T ?_ | omega | exact fp_55 (by assumption) | exact fp_164 (by assumption) | refine ⟨?_, ?_⟩))
set_option maxHeartbeats 2000000 in
theorem w_X8_tried {σ0 : gj_S} {b1 : Int32} {b2 : Int32} {b3 : Int32} {b4 : Int32} {σ : gj_S}  (h0 : fr8 σ0 σ) : OP (f_X8_tried b1 b2 b3 b4 σ) (fun r : (Int32 × gj_S) => fr8 σ0 r.2) := by
  unfold f_X8_tried
  repeat' (with_reducible (first | exact op_none | refine op_if (fun _ => ?_) (fun _ => ?_) | refine w_X1_copyFrom (σ0 := σ0) ?_ ?_ ?_ | refine w_X7_beginAll (σ0 := σ0) ?_ ?_ | refine w_X7_makePivots (σ0 := σ0) ?_ ?_ | refine op_bind (w_X1_copyFrom (σ0 := σ0) ?_ ?_ ?_) (fun _ _ => ?_) | refine op_bind (w_X7_beginAll (σ0 := σ0) ?_ ?_) (fun _ _ => ?_) | refine op_bind (w_X7_makePivots (σ0 := σ0) ?_ ?_) (fun _ _ => ?_) | refine op_bind (α := gj_S) (P := fun x => fr8 σ0 x) ?_ (fun _ _ => ?_) | refine op_bind (α := Int32 × gj_S) (P := fun x => fr8 σ0 x.2) ?_ (fun _ _ => ?_) | refine op_bind (α := Int32 × Int32 × gj_S) (P := fun x => fr8 σ0 x.2.2) ?_ (fun _ _ => ?_) | refine op_bT (fun _ => ?_) | refine op_el (by assumption) (fun _ _ => ?_) (fun _ _ => ?_) | refine op_some ?_))
  all_goals (try dsimp only [gj_K])
  all_goals (repeat' (first | exact True.intro | with_reducible assumption | with_reducible refine fr8_I ?_ ?_ | with_reducible refine fr8_J ?_ ?_ | with_reducible refine fr8_T ?_ | omega | exact fp_55 (by assumption) | exact fp_164 (by assumption) | refine ⟨?_, ?_⟩))
set_option maxHeartbeats 2000000 in
theorem w_fb_X7_shiftGift_l18 {σ0 : gj_S} {b0 : Nat} {b2 : Int32} {a10018 : (Int32 × Int32 × gj_S)} (h_b0 : b0 + 10 < 188) (h0 : fr8 σ0 a10018.2.2) : OP (fb_X7_shiftGift_l18 b0 b2 a10018) (fun r : (gj_S ⊕ (Int32 × Int32 × gj_S)) => gj_K (fun u47 : gj_S => fr8 σ0 u47) (fun v47 : (Int32 × Int32 × gj_S) => fr8 σ0 v47.2.2) r) := by
  unfold fb_X7_shiftGift_l18
  repeat' (with_reducible (first | exact op_none | refine op_if (fun _ => ?_) (fun _ => ?_) | refine op_bind (α := gj_S) (P := fun x => fr8 σ0 x) ?_ (fun _ _ => ?_) | refine op_bind (α := Int32 × gj_S) (P := fun x => fr8 σ0 x.2) ?_ (fun _ _ => ?_) | refine op_bind (α := Int32 × Int32 × gj_S) (P := fun x => fr8 σ0 x.2.2) ?_ (fun _ _ => ?_) | refine op_bT (fun _ => ?_) | refine op_el (by assumption) (fun _ _ => ?_) (fun _ _ => ?_) | refine op_some ?_))
  all_goals (try dsimp only [gj_K])
  all_goals (repeat' (first | exact True.intro | with_reducible assumption | with_reducible refine fr8_I ?_ ?_ | with_reducible refine fr8_J ?_ ?_ | with_reducible refine fr8_T ?_ | omega | exact fp_55 (by assumption) | exact fp_164 (by assumption) | refine ⟨?_, ?_⟩))
theorem lp_X7_shiftGift_l18 {σ0 : gj_S} {b0 : Nat} {b2 : Int32} (h_b0 : b0 + 10 < 188) (n : Nat) (a : (Int32 × Int32 × gj_S)) (h0 : fr8 σ0 a.2.2) : OP (gj_lp (fb_X7_shiftGift_l18 b0 b2) n a) (fun r : gj_S => fr8 σ0 r) := op_lp (I := fun a : (Int32 × Int32 × gj_S) => fr8 σ0 a.2.2) (J := fun r : gj_S => fr8 σ0 r) (fun a h => w_fb_X7_shiftGift_l18 h_b0 h) n a h0
set_option maxHeartbeats 2000000 in
theorem w_X7_shiftGift {σ0 : gj_S} {b0 : Nat} {b1 : Int32} {b2 : Int32} {σ : gj_S} (h_b0 : b0 + 10 < 188) (h0 : fr8 σ0 σ) : OP (f_X7_shiftGift b0 b1 b2 σ) (fun r : gj_S => fr8 σ0 r) := by
  unfold f_X7_shiftGift
  repeat' (with_reducible (first | exact op_none | refine op_if (fun _ => ?_) (fun _ => ?_) | refine lp_X7_shiftGift_l18 (σ0 := σ0) ?_ _ _ ?_ | refine op_bind (lp_X7_shiftGift_l18 (σ0 := σ0) ?_ _ _ ?_) (fun _ _ => ?_) | refine op_bind (α := gj_S) (P := fun x => fr8 σ0 x) ?_ (fun _ _ => ?_) | refine op_bind (α := Int32 × gj_S) (P := fun x => fr8 σ0 x.2) ?_ (fun _ _ => ?_) | refine op_bind (α := Int32 × Int32 × gj_S) (P := fun x => fr8 σ0 x.2.2) ?_ (fun _ _ => ?_) | refine op_bT (fun _ => ?_) | refine op_el (by assumption) (fun _ _ => ?_) (fun _ _ => ?_) | refine op_some ?_))
  all_goals (try dsimp only [gj_K])
  all_goals (repeat' (first | exact True.intro | with_reducible assumption | with_reducible refine fr8_I ?_ ?_ | with_reducible refine fr8_J ?_ ?_ | with_reducible refine fr8_T ?_ | omega | exact fp_55 (by assumption) | exact fp_164 (by assumption) | refine ⟨?_, ?_⟩))
set_option maxHeartbeats 2000000 in
theorem w_X8_load {σ0 : gj_S} {b1 : Int32} {b2 : Int32} {σ : gj_S}  (h0 : fr8 σ0 σ) : OP (f_X8_load b1 b2 σ) (fun r : (Int32 × gj_S) => fr8 σ0 r.2) := by
  unfold f_X8_load
  repeat' (with_reducible (first | exact op_none | refine op_if (fun _ => ?_) (fun _ => ?_) | refine w_X0_remember (σ0 := σ0) ?_ | refine w_X7_shiftGift (σ0 := σ0) ?_ ?_ | refine op_bind (w_X0_remember (σ0 := σ0) ?_) (fun _ _ => ?_) | refine op_bind (w_X7_shiftGift (σ0 := σ0) ?_ ?_) (fun _ _ => ?_) | refine op_bind (α := gj_S) (P := fun x => fr8 σ0 x) ?_ (fun _ _ => ?_) | refine op_bind (α := Int32 × gj_S) (P := fun x => fr8 σ0 x.2) ?_ (fun _ _ => ?_) | refine op_bind (α := Int32 × Int32 × gj_S) (P := fun x => fr8 σ0 x.2.2) ?_ (fun _ _ => ?_) | refine op_bT (fun _ => ?_) | refine op_el (by assumption) (fun _ _ => ?_) (fun _ _ => ?_) | refine op_some ?_))
  all_goals (try dsimp only [gj_K])
  all_goals (repeat' (first | exact True.intro | with_reducible assumption | with_reducible refine fr8_I ?_ ?_ | with_reducible refine fr8_J ?_ ?_ | with_reducible refine fr8_T ?_ | omega | exact fp_55 (by assumption) | exact fp_164 (by assumption) | refine ⟨?_, ?_⟩))
set_option maxHeartbeats 2000000 in
theorem w_X8_toll {σ0 : gj_S} {b1 : Int32} {b2 : Int32} {σ : gj_S}  (h0 : fr8 σ0 σ) : OP (f_X8_toll b1 b2 σ) (fun r : (Int32 × gj_S) => fr8 σ0 r.2) := by
  unfold f_X8_toll
  repeat' (with_reducible (first | exact op_none | refine op_if (fun _ => ?_) (fun _ => ?_) | refine w_X7_regrow (σ0 := σ0) ?_ ?_ | refine w_X0_remember (σ0 := σ0) ?_ | refine op_bind (w_X7_regrow (σ0 := σ0) ?_ ?_) (fun _ _ => ?_) | refine op_bind (w_X0_remember (σ0 := σ0) ?_) (fun _ _ => ?_) | refine op_bind (α := gj_S) (P := fun x => fr8 σ0 x) ?_ (fun _ _ => ?_) | refine op_bind (α := Int32 × gj_S) (P := fun x => fr8 σ0 x.2) ?_ (fun _ _ => ?_) | refine op_bind (α := Int32 × Int32 × gj_S) (P := fun x => fr8 σ0 x.2.2) ?_ (fun _ _ => ?_) | refine op_bT (fun _ => ?_) | refine op_el (by assumption) (fun _ _ => ?_) (fun _ _ => ?_) | refine op_some ?_))
  all_goals (try dsimp only [gj_K])
  all_goals (repeat' (first | exact True.intro | with_reducible assumption | with_reducible refine fr8_I ?_ ?_ | with_reducible refine fr8_J ?_ ?_ | with_reducible refine fr8_T ?_ | omega | exact fp_55 (by assumption) | exact fp_164 (by assumption) | refine ⟨?_, ?_⟩))
set_option maxHeartbeats 2000000 in
theorem w_X8_hold {σ0 : gj_S} {b1 : Int32} {b2 : Int32} {σ : gj_S}  (h0 : fr8 σ0 σ) : OP (f_X8_hold b1 b2 σ) (fun r : (Int32 × gj_S) => fr8 σ0 r.2) := by
  unfold f_X8_hold
  repeat' (with_reducible (first | exact op_none | refine op_if (fun _ => ?_) (fun _ => ?_) | refine w_X0_remember (σ0 := σ0) ?_ | refine op_bind (w_X0_remember (σ0 := σ0) ?_) (fun _ _ => ?_) | refine op_bind (α := gj_S) (P := fun x => fr8 σ0 x) ?_ (fun _ _ => ?_) | refine op_bind (α := Int32 × gj_S) (P := fun x => fr8 σ0 x.2) ?_ (fun _ _ => ?_) | refine op_bind (α := Int32 × Int32 × gj_S) (P := fun x => fr8 σ0 x.2.2) ?_ (fun _ _ => ?_) | refine op_bT (fun _ => ?_) | refine op_el (by assumption) (fun _ _ => ?_) (fun _ _ => ?_) | refine op_some ?_))
  all_goals (try dsimp only [gj_K])
  all_goals (repeat' (first | exact True.intro | with_reducible assumption | with_reducible refine fr8_I ?_ ?_ | with_reducible refine fr8_J ?_ ?_ | with_reducible refine fr8_T ?_ | omega | exact fp_55 (by assumption) | exact fp_164 (by assumption) | refine ⟨?_, ?_⟩))
set_option maxHeartbeats 2000000 in
theorem w_X8_block {σ0 : gj_S} {b1 : Int32} {σ : gj_S}  (h0 : fr8 σ0 σ) : OP (f_X8_block b1 σ) (fun r : (Int32 × gj_S) => fr8 σ0 r.2) := by
  unfold f_X8_block
  repeat' (with_reducible (first | exact op_none | refine op_if (fun _ => ?_) (fun _ => ?_) | refine w_X0_remember (σ0 := σ0) ?_ | refine op_bind (w_X0_remember (σ0 := σ0) ?_) (fun _ _ => ?_) | refine op_bind (α := gj_S) (P := fun x => fr8 σ0 x) ?_ (fun _ _ => ?_) | refine op_bind (α := Int32 × gj_S) (P := fun x => fr8 σ0 x.2) ?_ (fun _ _ => ?_) | refine op_bind (α := Int32 × Int32 × gj_S) (P := fun x => fr8 σ0 x.2.2) ?_ (fun _ _ => ?_) | refine op_bT (fun _ => ?_) | refine op_el (by assumption) (fun _ _ => ?_) (fun _ _ => ?_) | refine op_some ?_))
  all_goals (try dsimp only [gj_K])
  all_goals (repeat' (first | exact True.intro | with_reducible assumption | with_reducible refine fr8_I ?_ ?_ | with_reducible refine fr8_J ?_ ?_ | with_reducible refine fr8_T ?_ | omega | exact fp_55 (by assumption) | exact fp_164 (by assumption) | refine ⟨?_, ?_⟩))
set_option maxHeartbeats 2000000 in
theorem w_X8_anew {σ0 : gj_S} {σ : gj_S}  (h0 : fr8 σ0 σ) : OP (f_X8_anew σ) (fun r : (Int32 × gj_S) => fr8 σ0 r.2) := by
  unfold f_X8_anew
  repeat' (with_reducible (first | exact op_none | refine op_if (fun _ => ?_) (fun _ => ?_) | refine w_X7_beginAll (σ0 := σ0) ?_ ?_ | refine w_X0_remember (σ0 := σ0) ?_ | refine op_bind (w_X7_beginAll (σ0 := σ0) ?_ ?_) (fun _ _ => ?_) | refine op_bind (w_X0_remember (σ0 := σ0) ?_) (fun _ _ => ?_) | refine op_bind (α := gj_S) (P := fun x => fr8 σ0 x) ?_ (fun _ _ => ?_) | refine op_bind (α := Int32 × gj_S) (P := fun x => fr8 σ0 x.2) ?_ (fun _ _ => ?_) | refine op_bind (α := Int32 × Int32 × gj_S) (P := fun x => fr8 σ0 x.2.2) ?_ (fun _ _ => ?_) | refine op_bT (fun _ => ?_) | refine op_el (by assumption) (fun _ _ => ?_) (fun _ _ => ?_) | refine op_some ?_))
  all_goals (try dsimp only [gj_K])
  all_goals (repeat' (first | exact True.intro | with_reducible assumption | with_reducible refine fr8_I ?_ ?_ | with_reducible refine fr8_J ?_ ?_ | with_reducible refine fr8_T ?_ | omega | exact fp_55 (by assumption) | exact fp_164 (by assumption) | refine ⟨?_, ?_⟩))
set_option maxHeartbeats 2000000 in
theorem w_X4_put {σ0 : gj_S} {b1 : Int32} {σ : gj_S}  (h0 : fr8 σ0 σ) : OP (f_X4_put b1 σ) (fun r : gj_S => fr8 σ0 r) := by
  unfold f_X4_put
  repeat' (with_reducible (first | exact op_none | refine op_if (fun _ => ?_) (fun _ => ?_) | refine op_bind (α := gj_S) (P := fun x => fr8 σ0 x) ?_ (fun _ _ => ?_) | refine op_bind (α := Int32 × gj_S) (P := fun x => fr8 σ0 x.2) ?_ (fun _ _ => ?_) | refine op_bind (α := Int32 × Int32 × gj_S) (P := fun x => fr8 σ0 x.2.2) ?_ (fun _ _ => ?_) | refine op_bT (fun _ => ?_) | refine op_el (by assumption) (fun _ _ => ?_) (fun _ _ => ?_) | refine op_some ?_))
  all_goals (try dsimp only [gj_K])
  all_goals (repeat' (first | exact True.intro | with_reducible assumption | with_reducible refine fr8_I ?_ ?_ | with_reducible refine fr8_J ?_ ?_ | with_reducible refine fr8_T ?_ | omega | exact fp_55 (by assumption) | exact fp_164 (by assumption) | refine ⟨?_, ?_⟩))
set_option maxHeartbeats 2000000 in
theorem w_fb_X4_writeName_l3 {σ0 : gj_S} {b1 : Int64} {a10003 : (Int32 × gj_S)}  (h0 : fr8 σ0 a10003.2) : OP (fb_X4_writeName_l3 b1 a10003) (fun r : (gj_S ⊕ (Int32 × gj_S)) => gj_K (fun u49 : gj_S => fr8 σ0 u49) (fun v49 : (Int32 × gj_S) => fr8 σ0 v49.2) r) := by
  unfold fb_X4_writeName_l3
  repeat' (with_reducible (first | exact op_none | refine op_if (fun _ => ?_) (fun _ => ?_) | refine w_X4_put (σ0 := σ0) ?_ | refine op_bind (w_X4_put (σ0 := σ0) ?_) (fun _ _ => ?_) | refine op_bind (α := gj_S) (P := fun x => fr8 σ0 x) ?_ (fun _ _ => ?_) | refine op_bind (α := Int32 × gj_S) (P := fun x => fr8 σ0 x.2) ?_ (fun _ _ => ?_) | refine op_bind (α := Int32 × Int32 × gj_S) (P := fun x => fr8 σ0 x.2.2) ?_ (fun _ _ => ?_) | refine op_bT (fun _ => ?_) | refine op_el (by assumption) (fun _ _ => ?_) (fun _ _ => ?_) | refine op_some ?_))
  all_goals (try dsimp only [gj_K])
  all_goals (repeat' (first | exact True.intro | with_reducible assumption | with_reducible refine fr8_I ?_ ?_ | with_reducible refine fr8_J ?_ ?_ | with_reducible refine fr8_T ?_ | omega | exact fp_55 (by assumption) | exact fp_164 (by assumption) | refine ⟨?_, ?_⟩))
theorem lp_X4_writeName_l3 {σ0 : gj_S} {b1 : Int64}  (n : Nat) (a : (Int32 × gj_S)) (h0 : fr8 σ0 a.2) : OP (gj_lp (fb_X4_writeName_l3 b1) n a) (fun r : gj_S => fr8 σ0 r) := op_lp (I := fun a : (Int32 × gj_S) => fr8 σ0 a.2) (J := fun r : gj_S => fr8 σ0 r) (fun a h => w_fb_X4_writeName_l3 h) n a h0
set_option maxHeartbeats 2000000 in
theorem w_X4_writeName {σ0 : gj_S} {b1 : Int64} {σ : gj_S}  (h0 : fr8 σ0 σ) : OP (f_X4_writeName b1 σ) (fun r : gj_S => fr8 σ0 r) := by
  unfold f_X4_writeName
  repeat' (with_reducible (first | exact op_none | refine op_if (fun _ => ?_) (fun _ => ?_) | refine lp_X4_writeName_l3 (σ0 := σ0) _ _ ?_ | refine op_bind (lp_X4_writeName_l3 (σ0 := σ0) _ _ ?_) (fun _ _ => ?_) | refine op_bind (α := gj_S) (P := fun x => fr8 σ0 x) ?_ (fun _ _ => ?_) | refine op_bind (α := Int32 × gj_S) (P := fun x => fr8 σ0 x.2) ?_ (fun _ _ => ?_) | refine op_bind (α := Int32 × Int32 × gj_S) (P := fun x => fr8 σ0 x.2.2) ?_ (fun _ _ => ?_) | refine op_bT (fun _ => ?_) | refine op_el (by assumption) (fun _ _ => ?_) (fun _ _ => ?_) | refine op_some ?_))
  all_goals (try dsimp only [gj_K])
  all_goals (repeat' (first | exact True.intro | with_reducible assumption | with_reducible refine fr8_I ?_ ?_ | with_reducible refine fr8_J ?_ ?_ | with_reducible refine fr8_T ?_ | omega | exact fp_55 (by assumption) | exact fp_164 (by assumption) | refine ⟨?_, ?_⟩))
set_option maxHeartbeats 2000000 in
theorem w_fb_X4_writeNumber_l6 {σ0 : gj_S} {b1 : Int32} {a10006 : (Int32 × Int32 × gj_S)}  (h0 : fr8 σ0 a10006.2.2) : OP (fb_X4_writeNumber_l6 b1 a10006) (fun r : (gj_S ⊕ (Int32 × Int32 × gj_S)) => gj_K (fun u51 : gj_S => fr8 σ0 u51) (fun v51 : (Int32 × Int32 × gj_S) => fr8 σ0 v51.2.2) r) := by
  unfold fb_X4_writeNumber_l6
  repeat' (with_reducible (first | exact op_none | refine op_if (fun _ => ?_) (fun _ => ?_) | refine w_X4_put (σ0 := σ0) ?_ | refine op_bind (w_X4_put (σ0 := σ0) ?_) (fun _ _ => ?_) | refine op_bind (α := gj_S) (P := fun x => fr8 σ0 x) ?_ (fun _ _ => ?_) | refine op_bind (α := Int32 × gj_S) (P := fun x => fr8 σ0 x.2) ?_ (fun _ _ => ?_) | refine op_bind (α := Int32 × Int32 × gj_S) (P := fun x => fr8 σ0 x.2.2) ?_ (fun _ _ => ?_) | refine op_bT (fun _ => ?_) | refine op_el (by assumption) (fun _ _ => ?_) (fun _ _ => ?_) | refine op_some ?_))
  all_goals (try dsimp only [gj_K])
  all_goals (repeat' (first | exact True.intro | with_reducible assumption | with_reducible refine fr8_I ?_ ?_ | with_reducible refine fr8_J ?_ ?_ | with_reducible refine fr8_T ?_ | omega | exact fp_55 (by assumption) | exact fp_164 (by assumption) | refine ⟨?_, ?_⟩))
theorem lp_X4_writeNumber_l6 {σ0 : gj_S} {b1 : Int32}  (n : Nat) (a : (Int32 × Int32 × gj_S)) (h0 : fr8 σ0 a.2.2) : OP (gj_lp (fb_X4_writeNumber_l6 b1) n a) (fun r : gj_S => fr8 σ0 r) := op_lp (I := fun a : (Int32 × Int32 × gj_S) => fr8 σ0 a.2.2) (J := fun r : gj_S => fr8 σ0 r) (fun a h => w_fb_X4_writeNumber_l6 h) n a h0
set_option maxHeartbeats 2000000 in
theorem w_X4_writeNumber {σ0 : gj_S} {b1 : Int32} {σ : gj_S}  (h0 : fr8 σ0 σ) : OP (f_X4_writeNumber b1 σ) (fun r : gj_S => fr8 σ0 r) := by
  unfold f_X4_writeNumber
  repeat' (with_reducible (first | exact op_none | refine op_if (fun _ => ?_) (fun _ => ?_) | refine lp_X4_writeNumber_l6 (σ0 := σ0) _ _ ?_ | refine op_bind (lp_X4_writeNumber_l6 (σ0 := σ0) _ _ ?_) (fun _ _ => ?_) | refine op_bind (α := gj_S) (P := fun x => fr8 σ0 x) ?_ (fun _ _ => ?_) | refine op_bind (α := Int32 × gj_S) (P := fun x => fr8 σ0 x.2) ?_ (fun _ _ => ?_) | refine op_bind (α := Int32 × Int32 × gj_S) (P := fun x => fr8 σ0 x.2.2) ?_ (fun _ _ => ?_) | refine op_bT (fun _ => ?_) | refine op_el (by assumption) (fun _ _ => ?_) (fun _ _ => ?_) | refine op_some ?_))
  all_goals (try dsimp only [gj_K])
  all_goals (repeat' (first | exact True.intro | with_reducible assumption | with_reducible refine fr8_I ?_ ?_ | with_reducible refine fr8_J ?_ ?_ | with_reducible refine fr8_T ?_ | omega | exact fp_55 (by assumption) | exact fp_164 (by assumption) | refine ⟨?_, ?_⟩))
set_option maxHeartbeats 2000000 in
theorem w_fb_X4_write_l7 {σ0 : gj_S} {a10007 : (Int32 × gj_S)}  (h0 : fr8 σ0 a10007.2) : OP (fb_X4_write_l7 a10007) (fun r : (gj_S ⊕ (Int32 × gj_S)) => gj_K (fun u53 : gj_S => fr8 σ0 u53) (fun v53 : (Int32 × gj_S) => fr8 σ0 v53.2) r) := by
  unfold fb_X4_write_l7
  repeat' (with_reducible (first | exact op_none | refine op_if (fun _ => ?_) (fun _ => ?_) | refine w_X4_put (σ0 := σ0) ?_ | refine w_X4_writeName (σ0 := σ0) ?_ | refine w_X4_writeNumber (σ0 := σ0) ?_ | refine op_bind (w_X4_put (σ0 := σ0) ?_) (fun _ _ => ?_) | refine op_bind (w_X4_writeName (σ0 := σ0) ?_) (fun _ _ => ?_) | refine op_bind (w_X4_writeNumber (σ0 := σ0) ?_) (fun _ _ => ?_) | refine op_bind (α := gj_S) (P := fun x => fr8 σ0 x) ?_ (fun _ _ => ?_) | refine op_bind (α := Int32 × gj_S) (P := fun x => fr8 σ0 x.2) ?_ (fun _ _ => ?_) | refine op_bind (α := Int32 × Int32 × gj_S) (P := fun x => fr8 σ0 x.2.2) ?_ (fun _ _ => ?_) | refine op_bT (fun _ => ?_) | refine op_el (by assumption) (fun _ _ => ?_) (fun _ _ => ?_) | refine op_some ?_))
  all_goals (try dsimp only [gj_K])
  all_goals (repeat' (first | exact True.intro | with_reducible assumption | with_reducible refine fr8_I ?_ ?_ | with_reducible refine fr8_J ?_ ?_ | with_reducible refine fr8_T ?_ | omega | exact fp_55 (by assumption) | exact fp_164 (by assumption) | refine ⟨?_, ?_⟩))
theorem lp_X4_write_l7 {σ0 : gj_S}   (n : Nat) (a : (Int32 × gj_S)) (h0 : fr8 σ0 a.2) : OP (gj_lp (fb_X4_write_l7 ) n a) (fun r : gj_S => fr8 σ0 r) := op_lp (I := fun a : (Int32 × gj_S) => fr8 σ0 a.2) (J := fun r : gj_S => fr8 σ0 r) (fun a h => w_fb_X4_write_l7 h) n a h0
set_option maxHeartbeats 2000000 in
theorem w_X4_write {σ0 : gj_S} {σ : gj_S}  (h0 : fr8 σ0 σ) : OP (f_X4_write σ) (fun r : gj_S => fr8 σ0 r) := by
  unfold f_X4_write
  repeat' (with_reducible (first | exact op_none | refine op_if (fun _ => ?_) (fun _ => ?_) | refine lp_X4_write_l7 (σ0 := σ0) _ _ ?_ | refine op_bind (lp_X4_write_l7 (σ0 := σ0) _ _ ?_) (fun _ _ => ?_) | refine op_bind (α := gj_S) (P := fun x => fr8 σ0 x) ?_ (fun _ _ => ?_) | refine op_bind (α := Int32 × gj_S) (P := fun x => fr8 σ0 x.2) ?_ (fun _ _ => ?_) | refine op_bind (α := Int32 × Int32 × gj_S) (P := fun x => fr8 σ0 x.2.2) ?_ (fun _ _ => ?_) | refine op_bT (fun _ => ?_) | refine op_el (by assumption) (fun _ _ => ?_) (fun _ _ => ?_) | refine op_some ?_))
  all_goals (try dsimp only [gj_K])
  all_goals (repeat' (first | exact True.intro | with_reducible assumption | with_reducible refine fr8_I ?_ ?_ | with_reducible refine fr8_J ?_ ?_ | with_reducible refine fr8_T ?_ | omega | exact fp_55 (by assumption) | exact fp_164 (by assumption) | refine ⟨?_, ?_⟩))
set_option maxHeartbeats 2000000 in
theorem w_X8_sheet {σ0 : gj_S} {b1 : Int32} {σ : gj_S}  (h0 : fr8 σ0 σ) : OP (f_X8_sheet b1 σ) (fun r : (Int32 × gj_S) => fr8 σ0 r.2) := by
  unfold f_X8_sheet
  repeat' (with_reducible (first | exact op_none | refine op_if (fun _ => ?_) (fun _ => ?_) | refine w_X4_write (σ0 := σ0) ?_ | refine op_bind (w_X4_write (σ0 := σ0) ?_) (fun _ _ => ?_) | refine op_bind (α := gj_S) (P := fun x => fr8 σ0 x) ?_ (fun _ _ => ?_) | refine op_bind (α := Int32 × gj_S) (P := fun x => fr8 σ0 x.2) ?_ (fun _ _ => ?_) | refine op_bind (α := Int32 × Int32 × gj_S) (P := fun x => fr8 σ0 x.2.2) ?_ (fun _ _ => ?_) | refine op_bT (fun _ => ?_) | refine op_el (by assumption) (fun _ _ => ?_) (fun _ _ => ?_) | refine op_some ?_))
  all_goals (try dsimp only [gj_K])
  all_goals (repeat' (first | exact True.intro | with_reducible assumption | with_reducible refine fr8_I ?_ ?_ | with_reducible refine fr8_J ?_ ?_ | with_reducible refine fr8_T ?_ | omega | exact fp_55 (by assumption) | exact fp_164 (by assumption) | refine ⟨?_, ?_⟩))
set_option maxHeartbeats 2000000 in
theorem w_X0_giveBack {σ0 : gj_S} {σ : gj_S}  (h0 : fr8 σ0 σ) : OP (f_X0_giveBack σ) (fun r : gj_S => fr8 σ0 r) := by
  unfold f_X0_giveBack
  repeat' (with_reducible (first | exact op_none | refine op_if (fun _ => ?_) (fun _ => ?_) | refine w_X1_copyFrom (σ0 := σ0) ?_ ?_ ?_ | refine op_bind (w_X1_copyFrom (σ0 := σ0) ?_ ?_ ?_) (fun _ _ => ?_) | refine op_bind (α := gj_S) (P := fun x => fr8 σ0 x) ?_ (fun _ _ => ?_) | refine op_bind (α := Int32 × gj_S) (P := fun x => fr8 σ0 x.2) ?_ (fun _ _ => ?_) | refine op_bind (α := Int32 × Int32 × gj_S) (P := fun x => fr8 σ0 x.2.2) ?_ (fun _ _ => ?_) | refine op_bT (fun _ => ?_) | refine op_el (by assumption) (fun _ _ => ?_) (fun _ _ => ?_) | refine op_some ?_))
  all_goals (try dsimp only [gj_K])
  all_goals (repeat' (first | exact True.intro | with_reducible assumption | with_reducible refine fr8_I ?_ ?_ | with_reducible refine fr8_J ?_ ?_ | with_reducible refine fr8_T ?_ | omega | exact fp_55 (by assumption) | exact fp_164 (by assumption) | refine ⟨?_, ?_⟩))
set_option maxHeartbeats 2000000 in
theorem w_X8_undo {σ0 : gj_S} {σ : gj_S}  (h0 : fr8 σ0 σ) : OP (f_X8_undo σ) (fun r : (Int32 × gj_S) => fr8 σ0 r.2) := by
  unfold f_X8_undo
  repeat' (with_reducible (first | exact op_none | refine op_if (fun _ => ?_) (fun _ => ?_) | refine w_X7_regrow (σ0 := σ0) ?_ ?_ | refine w_X0_giveBack (σ0 := σ0) ?_ | refine op_bind (w_X7_regrow (σ0 := σ0) ?_ ?_) (fun _ _ => ?_) | refine op_bind (w_X0_giveBack (σ0 := σ0) ?_) (fun _ _ => ?_) | refine op_bind (α := gj_S) (P := fun x => fr8 σ0 x) ?_ (fun _ _ => ?_) | refine op_bind (α := Int32 × gj_S) (P := fun x => fr8 σ0 x.2) ?_ (fun _ _ => ?_) | refine op_bind (α := Int32 × Int32 × gj_S) (P := fun x => fr8 σ0 x.2.2) ?_ (fun _ _ => ?_) | refine op_bT (fun _ => ?_) | refine op_el (by assumption) (fun _ _ => ?_) (fun _ _ => ?_) | refine op_some ?_))
  all_goals (try dsimp only [gj_K])
  all_goals (repeat' (first | exact True.intro | with_reducible assumption | with_reducible refine fr8_I ?_ ?_ | with_reducible refine fr8_J ?_ ?_ | with_reducible refine fr8_T ?_ | omega | exact fp_55 (by assumption) | exact fp_164 (by assumption) | refine ⟨?_, ?_⟩))
set_option maxHeartbeats 2000000 in
theorem w_X8_keep {σ0 : gj_S} {b1 : Int32} {b2 : Int32} {σ : gj_S}  (h0 : fr8 σ0 σ) : OP (f_X8_keep b1 b2 σ) (fun r : (Int32 × gj_S) => fr8 σ0 r.2) := by
  unfold f_X8_keep
  repeat' (with_reducible (first | exact op_none | refine op_if (fun _ => ?_) (fun _ => ?_) | refine w_X1_copyFrom (σ0 := σ0) ?_ ?_ ?_ | refine w_X7_regrow (σ0 := σ0) ?_ ?_ | refine w_X0_forget (σ0 := σ0) ?_ | refine op_bind (w_X1_copyFrom (σ0 := σ0) ?_ ?_ ?_) (fun _ _ => ?_) | refine op_bind (w_X7_regrow (σ0 := σ0) ?_ ?_) (fun _ _ => ?_) | refine op_bind (w_X0_forget (σ0 := σ0) ?_) (fun _ _ => ?_) | refine op_bind (α := gj_S) (P := fun x => fr8 σ0 x) ?_ (fun _ _ => ?_) | refine op_bind (α := Int32 × gj_S) (P := fun x => fr8 σ0 x.2) ?_ (fun _ _ => ?_) | refine op_bind (α := Int32 × Int32 × gj_S) (P := fun x => fr8 σ0 x.2.2) ?_ (fun _ _ => ?_) | refine op_bT (fun _ => ?_) | refine op_el (by assumption) (fun _ _ => ?_) (fun _ _ => ?_) | refine op_some ?_))
  all_goals (try dsimp only [gj_K])
  all_goals (repeat' (first | exact True.intro | with_reducible assumption | with_reducible refine fr8_I ?_ ?_ | with_reducible refine fr8_J ?_ ?_ | with_reducible refine fr8_T ?_ | omega | exact fp_55 (by assumption) | exact fp_164 (by assumption) | refine ⟨?_, ?_⟩))
set_option maxHeartbeats 2000000 in
theorem w_fb_X9_puts_l3 {σ0 : gj_S} {b1 : Int32} {a10003 : (Int32 × gj_S)}  (h0 : fr9 σ0 a10003.2) : OP (fb_X9_puts_l3 b1 a10003) (fun r : (gj_S ⊕ (Int32 × gj_S)) => gj_K (fun u55 : gj_S => fr9 σ0 u55) (fun v55 : (Int32 × gj_S) => fr9 σ0 v55.2) r) := by
  unfold fb_X9_puts_l3
  repeat' (with_reducible (first | exact op_none | refine op_if (fun _ => ?_) (fun _ => ?_) | refine op_bind (α := gj_S) (P := fun x => fr9 σ0 x) ?_ (fun _ _ => ?_) | refine op_bind (α := Int32 × gj_S) (P := fun x => fr9 σ0 x.2) ?_ (fun _ _ => ?_) | refine op_bind (α := Int32 × Int32 × gj_S) (P := fun x => fr9 σ0 x.2.2) ?_ (fun _ _ => ?_) | refine op_bT (fun _ => ?_) | refine op_el (by assumption) (fun _ _ => ?_) (fun _ _ => ?_) | refine op_some ?_))
  all_goals (try dsimp only [gj_K])
  all_goals (repeat' (first | exact True.intro | with_reducible assumption | with_reducible refine fr9_I ?_ ?_ | with_reducible refine fr9_J ?_ ?_ | omega | exact fp_55 (by assumption) | exact fp_164 (by assumption) | refine ⟨?_, ?_⟩))
theorem lp_X9_puts_l3 {σ0 : gj_S} {b1 : Int32}  (n : Nat) (a : (Int32 × gj_S)) (h0 : fr9 σ0 a.2) : OP (gj_lp (fb_X9_puts_l3 b1) n a) (fun r : gj_S => fr9 σ0 r) := op_lp (I := fun a : (Int32 × gj_S) => fr9 σ0 a.2) (J := fun r : gj_S => fr9 σ0 r) (fun a h => w_fb_X9_puts_l3 h) n a h0
set_option maxHeartbeats 2000000 in
theorem w_X9_puts {σ0 : gj_S} {b1 : Int32} {σ : gj_S}  (h0 : fr9 σ0 σ) : OP (f_X9_puts b1 σ) (fun r : gj_S => fr9 σ0 r) := by
  unfold f_X9_puts
  repeat' (with_reducible (first | exact op_none | refine op_if (fun _ => ?_) (fun _ => ?_) | refine lp_X9_puts_l3 (σ0 := σ0) _ _ ?_ | refine op_bind (lp_X9_puts_l3 (σ0 := σ0) _ _ ?_) (fun _ _ => ?_) | refine op_bind (α := gj_S) (P := fun x => fr9 σ0 x) ?_ (fun _ _ => ?_) | refine op_bind (α := Int32 × gj_S) (P := fun x => fr9 σ0 x.2) ?_ (fun _ _ => ?_) | refine op_bind (α := Int32 × Int32 × gj_S) (P := fun x => fr9 σ0 x.2.2) ?_ (fun _ _ => ?_) | refine op_bT (fun _ => ?_) | refine op_el (by assumption) (fun _ _ => ?_) (fun _ _ => ?_) | refine op_some ?_))
  all_goals (try dsimp only [gj_K])
  all_goals (repeat' (first | exact True.intro | with_reducible assumption | with_reducible refine fr9_I ?_ ?_ | with_reducible refine fr9_J ?_ ?_ | omega | exact fp_55 (by assumption) | exact fp_164 (by assumption) | refine ⟨?_, ?_⟩))
set_option maxHeartbeats 2000000 in
theorem w_X9_feed {σ0 : gj_S} {b1 : Int32} {b2 : Int32} {b3 : Int32} {b4 : Int32} {b5 : Int32} {σ : gj_S}  (h0 : fr9 σ0 σ) : OP (f_X9_feed b1 b2 b3 b4 b5 σ) (fun r : (Int32 × gj_S) => fr9 σ0 r.2) := by
  unfold f_X9_feed
  repeat' (with_reducible (first | exact op_none | refine op_if (fun _ => ?_) (fun _ => ?_) | refine w_X9_puts (σ0 := σ0) ?_ | refine op_bind (w_X9_puts (σ0 := σ0) ?_) (fun _ _ => ?_) | refine op_bind (α := gj_S) (P := fun x => fr9 σ0 x) ?_ (fun _ _ => ?_) | refine op_bind (α := Int32 × gj_S) (P := fun x => fr9 σ0 x.2) ?_ (fun _ _ => ?_) | refine op_bind (α := Int32 × Int32 × gj_S) (P := fun x => fr9 σ0 x.2.2) ?_ (fun _ _ => ?_) | refine op_bT (fun _ => ?_) | refine op_el (by assumption) (fun _ _ => ?_) (fun _ _ => ?_) | refine op_some ?_))
  all_goals (try dsimp only [gj_K])
  all_goals (repeat' (first | exact True.intro | with_reducible assumption | with_reducible refine fr9_I ?_ ?_ | with_reducible refine fr9_J ?_ ?_ | omega | exact fp_55 (by assumption) | exact fp_164 (by assumption) | refine ⟨?_, ?_⟩))
set_option maxHeartbeats 2000000 in
theorem w_fb_X9_goesOn_l8 {σ0 : gj_S} {a10008 : gj_S}  (h0 : fr9 σ0 a10008) : OP (fb_X9_goesOn_l8 a10008) (fun r : (gj_S ⊕ gj_S) => gj_K (fun u57 : gj_S => fr9 σ0 u57) (fun v57 : gj_S => fr9 σ0 v57) r) := by
  unfold fb_X9_goesOn_l8
  repeat' (with_reducible (first | exact op_none | refine op_if (fun _ => ?_) (fun _ => ?_) | refine op_bind (α := gj_S) (P := fun x => fr9 σ0 x) ?_ (fun _ _ => ?_) | refine op_bind (α := Int32 × gj_S) (P := fun x => fr9 σ0 x.2) ?_ (fun _ _ => ?_) | refine op_bind (α := Int32 × Int32 × gj_S) (P := fun x => fr9 σ0 x.2.2) ?_ (fun _ _ => ?_) | refine op_bT (fun _ => ?_) | refine op_el (by assumption) (fun _ _ => ?_) (fun _ _ => ?_) | refine op_some ?_))
  all_goals (try dsimp only [gj_K])
  all_goals (repeat' (first | exact True.intro | with_reducible assumption | with_reducible refine fr9_I ?_ ?_ | with_reducible refine fr9_J ?_ ?_ | omega | exact fp_55 (by assumption) | exact fp_164 (by assumption) | refine ⟨?_, ?_⟩))
theorem lp_X9_goesOn_l8 {σ0 : gj_S}   (n : Nat) (a : gj_S) (h0 : fr9 σ0 a) : OP (gj_lp (fb_X9_goesOn_l8 ) n a) (fun r : gj_S => fr9 σ0 r) := op_lp (I := fun a : gj_S => fr9 σ0 a) (J := fun r : gj_S => fr9 σ0 r) (fun a h => w_fb_X9_goesOn_l8 h) n a h0
set_option maxHeartbeats 2000000 in
theorem w_fb_X9_goesOn_l265 {σ0 : gj_S} {a10265 : gj_S}  (h0 : fr9 σ0 a10265) : OP (fb_X9_goesOn_l265 a10265) (fun r : (gj_S ⊕ gj_S) => gj_K (fun u58 : gj_S => fr9 σ0 u58) (fun v58 : gj_S => fr9 σ0 v58) r) := by
  unfold fb_X9_goesOn_l265
  repeat' (with_reducible (first | exact op_none | refine op_if (fun _ => ?_) (fun _ => ?_) | refine op_bind (α := gj_S) (P := fun x => fr9 σ0 x) ?_ (fun _ _ => ?_) | refine op_bind (α := Int32 × gj_S) (P := fun x => fr9 σ0 x.2) ?_ (fun _ _ => ?_) | refine op_bind (α := Int32 × Int32 × gj_S) (P := fun x => fr9 σ0 x.2.2) ?_ (fun _ _ => ?_) | refine op_bT (fun _ => ?_) | refine op_el (by assumption) (fun _ _ => ?_) (fun _ _ => ?_) | refine op_some ?_))
  all_goals (try dsimp only [gj_K])
  all_goals (repeat' (first | exact True.intro | with_reducible assumption | with_reducible refine fr9_I ?_ ?_ | with_reducible refine fr9_J ?_ ?_ | omega | exact fp_55 (by assumption) | exact fp_164 (by assumption) | refine ⟨?_, ?_⟩))
theorem lp_X9_goesOn_l265 {σ0 : gj_S}   (n : Nat) (a : gj_S) (h0 : fr9 σ0 a) : OP (gj_lp (fb_X9_goesOn_l265 ) n a) (fun r : gj_S => fr9 σ0 r) := op_lp (I := fun a : gj_S => fr9 σ0 a) (J := fun r : gj_S => fr9 σ0 r) (fun a h => w_fb_X9_goesOn_l265 h) n a h0
set_option maxHeartbeats 2000000 in
theorem w_fb_X9_goesOn_l138 {σ0 : gj_S} {a10138 : gj_S}  (h0 : fr9 σ0 a10138) : OP (fb_X9_goesOn_l138 a10138) (fun r : (gj_S ⊕ gj_S) => gj_K (fun u59 : gj_S => fr9 σ0 u59) (fun v59 : gj_S => fr9 σ0 v59) r) := by
  unfold fb_X9_goesOn_l138
  repeat' (with_reducible (first | exact op_none | refine op_if (fun _ => ?_) (fun _ => ?_) | refine op_bind (α := gj_S) (P := fun x => fr9 σ0 x) ?_ (fun _ _ => ?_) | refine op_bind (α := Int32 × gj_S) (P := fun x => fr9 σ0 x.2) ?_ (fun _ _ => ?_) | refine op_bind (α := Int32 × Int32 × gj_S) (P := fun x => fr9 σ0 x.2.2) ?_ (fun _ _ => ?_) | refine op_bT (fun _ => ?_) | refine op_el (by assumption) (fun _ _ => ?_) (fun _ _ => ?_) | refine op_some ?_))
  all_goals (try dsimp only [gj_K])
  all_goals (repeat' (first | exact True.intro | with_reducible assumption | with_reducible refine fr9_I ?_ ?_ | with_reducible refine fr9_J ?_ ?_ | omega | exact fp_55 (by assumption) | exact fp_164 (by assumption) | refine ⟨?_, ?_⟩))
theorem lp_X9_goesOn_l138 {σ0 : gj_S}   (n : Nat) (a : gj_S) (h0 : fr9 σ0 a) : OP (gj_lp (fb_X9_goesOn_l138 ) n a) (fun r : gj_S => fr9 σ0 r) := op_lp (I := fun a : gj_S => fr9 σ0 a) (J := fun r : gj_S => fr9 σ0 r) (fun a h => w_fb_X9_goesOn_l138 h) n a h0
set_option maxHeartbeats 2000000 in
theorem w_X9_goesOn {σ0 : gj_S} {σ : gj_S}  (h0 : fr9 σ0 σ) : OP (f_X9_goesOn σ) (fun r : gj_S => fr9 σ0 r) := by
  unfold f_X9_goesOn
  repeat' (with_reducible (first | exact op_none | refine op_if (fun _ => ?_) (fun _ => ?_) | refine lp_X9_goesOn_l8 (σ0 := σ0) _ _ ?_ | refine lp_X9_goesOn_l265 (σ0 := σ0) _ _ ?_ | refine lp_X9_goesOn_l138 (σ0 := σ0) _ _ ?_ | refine op_bind (lp_X9_goesOn_l8 (σ0 := σ0) _ _ ?_) (fun _ _ => ?_) | refine op_bind (lp_X9_goesOn_l265 (σ0 := σ0) _ _ ?_) (fun _ _ => ?_) | refine op_bind (lp_X9_goesOn_l138 (σ0 := σ0) _ _ ?_) (fun _ _ => ?_) | refine op_bind (α := gj_S) (P := fun x => fr9 σ0 x) ?_ (fun _ _ => ?_) | refine op_bind (α := Int32 × gj_S) (P := fun x => fr9 σ0 x.2) ?_ (fun _ _ => ?_) | refine op_bind (α := Int32 × Int32 × gj_S) (P := fun x => fr9 σ0 x.2.2) ?_ (fun _ _ => ?_) | refine op_bT (fun _ => ?_) | refine op_el (by assumption) (fun _ _ => ?_) (fun _ _ => ?_) | refine op_some ?_))
  all_goals (try dsimp only [gj_K])
  all_goals (repeat' (first | exact True.intro | with_reducible assumption | with_reducible refine fr9_I ?_ ?_ | with_reducible refine fr9_J ?_ ?_ | omega | exact fp_55 (by assumption) | exact fp_164 (by assumption) | refine ⟨?_, ?_⟩))
set_option maxHeartbeats 2000000 in
theorem w_X9_must {σ0 : gj_S} {b1 : Int32} {b2 : Int32} {σ : gj_S}  (h0 : fr9 σ0 σ) : OP (f_X9_must b1 b2 σ) (fun r : (Int32 × gj_S) => fr9 σ0 r.2) := by
  unfold f_X9_must
  repeat' (with_reducible (first | exact op_none | refine op_if (fun _ => ?_) (fun _ => ?_) | refine op_bind (α := gj_S) (P := fun x => fr9 σ0 x) ?_ (fun _ _ => ?_) | refine op_bind (α := Int32 × gj_S) (P := fun x => fr9 σ0 x.2) ?_ (fun _ _ => ?_) | refine op_bind (α := Int32 × Int32 × gj_S) (P := fun x => fr9 σ0 x.2.2) ?_ (fun _ _ => ?_) | refine op_bT (fun _ => ?_) | refine op_el (by assumption) (fun _ _ => ?_) (fun _ _ => ?_) | refine op_some ?_))
  all_goals (try dsimp only [gj_K])
  all_goals (repeat' (first | exact True.intro | with_reducible assumption | with_reducible refine fr9_I ?_ ?_ | with_reducible refine fr9_J ?_ ?_ | omega | exact fp_55 (by assumption) | exact fp_164 (by assumption) | refine ⟨?_, ?_⟩))
set_option maxHeartbeats 2000000 in
theorem w_X9_number {σ0 : gj_S} {b1 : Int32} {b2 : Int32} {σ : gj_S}  (h0 : fr9 σ0 σ) : OP (f_X9_number b1 b2 σ) (fun r : (Int32 × gj_S) => fr9 σ0 r.2) := by
  unfold f_X9_number
  repeat' (with_reducible (first | exact op_none | refine op_if (fun _ => ?_) (fun _ => ?_) | refine w_X9_goesOn (σ0 := σ0) ?_ | refine w_X9_must (σ0 := σ0) ?_ | refine op_bind (w_X9_goesOn (σ0 := σ0) ?_) (fun _ _ => ?_) | refine op_bind (w_X9_must (σ0 := σ0) ?_) (fun _ _ => ?_) | refine op_bind (α := gj_S) (P := fun x => fr9 σ0 x) ?_ (fun _ _ => ?_) | refine op_bind (α := Int32 × gj_S) (P := fun x => fr9 σ0 x.2) ?_ (fun _ _ => ?_) | refine op_bind (α := Int32 × Int32 × gj_S) (P := fun x => fr9 σ0 x.2.2) ?_ (fun _ _ => ?_) | refine op_bT (fun _ => ?_) | refine op_el (by assumption) (fun _ _ => ?_) (fun _ _ => ?_) | refine op_some ?_))
  all_goals (try dsimp only [gj_K])
  all_goals (repeat' (first | exact True.intro | with_reducible assumption | with_reducible refine fr9_I ?_ ?_ | with_reducible refine fr9_J ?_ ?_ | omega | exact fp_55 (by assumption) | exact fp_164 (by assumption) | refine ⟨?_, ?_⟩))
set_option maxHeartbeats 2000000 in
theorem w_X9_blockLine {σ0 : gj_S} {σ : gj_S}  (h0 : fr9 σ0 σ) : OP (f_X9_blockLine σ) (fun r : gj_S => fr9 σ0 r) := by
  unfold f_X9_blockLine
  repeat' (with_reducible (first | exact op_none | refine op_if (fun _ => ?_) (fun _ => ?_) | refine w_X9_goesOn (σ0 := σ0) ?_ | refine w_X9_must (σ0 := σ0) ?_ | refine w_X9_number (σ0 := σ0) ?_ | refine op_bind (w_X9_goesOn (σ0 := σ0) ?_) (fun _ _ => ?_) | refine op_bind (w_X9_must (σ0 := σ0) ?_) (fun _ _ => ?_) | refine op_bind (w_X9_number (σ0 := σ0) ?_) (fun _ _ => ?_) | refine op_bind (α := gj_S) (P := fun x => fr9 σ0 x) ?_ (fun _ _ => ?_) | refine op_bind (α := Int32 × gj_S) (P := fun x => fr9 σ0 x.2) ?_ (fun _ _ => ?_) | refine op_bind (α := Int32 × Int32 × gj_S) (P := fun x => fr9 σ0 x.2.2) ?_ (fun _ _ => ?_) | refine op_bT (fun _ => ?_) | refine op_el (by assumption) (fun _ _ => ?_) (fun _ _ => ?_) | refine op_some ?_))
  all_goals (try dsimp only [gj_K])
  all_goals (repeat' (first | exact True.intro | with_reducible assumption | with_reducible refine fr9_I ?_ ?_ | with_reducible refine fr9_J ?_ ?_ | omega | exact fp_55 (by assumption) | exact fp_164 (by assumption) | refine ⟨?_, ?_⟩))
set_option maxHeartbeats 2000000 in
theorem w_fb_X9_begins_l2 {σ0 : gj_S} {a10002 : (Int32 × gj_S)}  (h0 : fr9 σ0 a10002.2) : OP (fb_X9_begins_l2 a10002) (fun r : (gj_S ⊕ (Int32 × gj_S)) => gj_K (fun u63 : gj_S => fr9 σ0 u63) (fun v63 : (Int32 × gj_S) => fr9 σ0 v63.2) r) := by
  unfold fb_X9_begins_l2
  repeat' (with_reducible (first | exact op_none | refine op_if (fun _ => ?_) (fun _ => ?_) | refine op_bind (α := gj_S) (P := fun x => fr9 σ0 x) ?_ (fun _ _ => ?_) | refine op_bind (α := Int32 × gj_S) (P := fun x => fr9 σ0 x.2) ?_ (fun _ _ => ?_) | refine op_bind (α := Int32 × Int32 × gj_S) (P := fun x => fr9 σ0 x.2.2) ?_ (fun _ _ => ?_) | refine op_bT (fun _ => ?_) | refine op_el (by assumption) (fun _ _ => ?_) (fun _ _ => ?_) | refine op_some ?_))
  all_goals (try dsimp only [gj_K])
  all_goals (repeat' (first | exact True.intro | with_reducible assumption | with_reducible refine fr9_I ?_ ?_ | with_reducible refine fr9_J ?_ ?_ | omega | exact fp_55 (by assumption) | exact fp_164 (by assumption) | refine ⟨?_, ?_⟩))
theorem lp_X9_begins_l2 {σ0 : gj_S}   (n : Nat) (a : (Int32 × gj_S)) (h0 : fr9 σ0 a.2) : OP (gj_lp (fb_X9_begins_l2 ) n a) (fun r : gj_S => fr9 σ0 r) := op_lp (I := fun a : (Int32 × gj_S) => fr9 σ0 a.2) (J := fun r : gj_S => fr9 σ0 r) (fun a h => w_fb_X9_begins_l2 h) n a h0
set_option maxHeartbeats 2000000 in
theorem w_fb_X9_begins_l36 {σ0 : gj_S} {a10036 : (Int32 × gj_S)}  (h0 : fr9 σ0 a10036.2) : OP (fb_X9_begins_l36 a10036) (fun r : (gj_S ⊕ (Int32 × gj_S)) => gj_K (fun u64 : gj_S => fr9 σ0 u64) (fun v64 : (Int32 × gj_S) => fr9 σ0 v64.2) r) := by
  unfold fb_X9_begins_l36
  repeat' (with_reducible (first | exact op_none | refine op_if (fun _ => ?_) (fun _ => ?_) | refine op_bind (α := gj_S) (P := fun x => fr9 σ0 x) ?_ (fun _ _ => ?_) | refine op_bind (α := Int32 × gj_S) (P := fun x => fr9 σ0 x.2) ?_ (fun _ _ => ?_) | refine op_bind (α := Int32 × Int32 × gj_S) (P := fun x => fr9 σ0 x.2.2) ?_ (fun _ _ => ?_) | refine op_bT (fun _ => ?_) | refine op_el (by assumption) (fun _ _ => ?_) (fun _ _ => ?_) | refine op_some ?_))
  all_goals (try dsimp only [gj_K])
  all_goals (repeat' (first | exact True.intro | with_reducible assumption | with_reducible refine fr9_I ?_ ?_ | with_reducible refine fr9_J ?_ ?_ | omega | exact fp_55 (by assumption) | exact fp_164 (by assumption) | refine ⟨?_, ?_⟩))
theorem lp_X9_begins_l36 {σ0 : gj_S}   (n : Nat) (a : (Int32 × gj_S)) (h0 : fr9 σ0 a.2) : OP (gj_lp (fb_X9_begins_l36 ) n a) (fun r : gj_S => fr9 σ0 r) := op_lp (I := fun a : (Int32 × gj_S) => fr9 σ0 a.2) (J := fun r : gj_S => fr9 σ0 r) (fun a h => w_fb_X9_begins_l36 h) n a h0
set_option maxHeartbeats 2000000 in
theorem w_fb_X9_begins_l141 {σ0 : gj_S} {a10141 : (Int32 × gj_S)}  (h0 : fr9 σ0 a10141.2) : OP (fb_X9_begins_l141 a10141) (fun r : (gj_S ⊕ (Int32 × gj_S)) => gj_K (fun u65 : gj_S => fr9 σ0 u65) (fun v65 : (Int32 × gj_S) => fr9 σ0 v65.2) r) := by
  unfold fb_X9_begins_l141
  repeat' (with_reducible (first | exact op_none | refine op_if (fun _ => ?_) (fun _ => ?_) | refine op_bind (α := gj_S) (P := fun x => fr9 σ0 x) ?_ (fun _ _ => ?_) | refine op_bind (α := Int32 × gj_S) (P := fun x => fr9 σ0 x.2) ?_ (fun _ _ => ?_) | refine op_bind (α := Int32 × Int32 × gj_S) (P := fun x => fr9 σ0 x.2.2) ?_ (fun _ _ => ?_) | refine op_bT (fun _ => ?_) | refine op_el (by assumption) (fun _ _ => ?_) (fun _ _ => ?_) | refine op_some ?_))
  all_goals (try dsimp only [gj_K])
  all_goals (repeat' (first | exact True.intro | with_reducible assumption | with_reducible refine fr9_I ?_ ?_ | with_reducible refine fr9_J ?_ ?_ | omega | exact fp_55 (by assumption) | exact fp_164 (by assumption) | refine ⟨?_, ?_⟩))
theorem lp_X9_begins_l141 {σ0 : gj_S}   (n : Nat) (a : (Int32 × gj_S)) (h0 : fr9 σ0 a.2) : OP (gj_lp (fb_X9_begins_l141 ) n a) (fun r : gj_S => fr9 σ0 r) := op_lp (I := fun a : (Int32 × gj_S) => fr9 σ0 a.2) (J := fun r : gj_S => fr9 σ0 r) (fun a h => w_fb_X9_begins_l141 h) n a h0
set_option maxHeartbeats 2000000 in
theorem w_X9_begins {σ0 : gj_S} {σ : gj_S}  (h0 : fr9 σ0 σ) : OP (f_X9_begins σ) (fun r : gj_S => fr9 σ0 r) := by
  unfold f_X9_begins
  repeat' (with_reducible (first | exact op_none | refine op_if (fun _ => ?_) (fun _ => ?_) | refine lp_X9_begins_l2 (σ0 := σ0) _ _ ?_ | refine lp_X9_begins_l36 (σ0 := σ0) _ _ ?_ | refine lp_X9_begins_l141 (σ0 := σ0) _ _ ?_ | refine op_bind (lp_X9_begins_l2 (σ0 := σ0) _ _ ?_) (fun _ _ => ?_) | refine op_bind (lp_X9_begins_l36 (σ0 := σ0) _ _ ?_) (fun _ _ => ?_) | refine op_bind (lp_X9_begins_l141 (σ0 := σ0) _ _ ?_) (fun _ _ => ?_) | refine op_bind (α := gj_S) (P := fun x => fr9 σ0 x) ?_ (fun _ _ => ?_) | refine op_bind (α := Int32 × gj_S) (P := fun x => fr9 σ0 x.2) ?_ (fun _ _ => ?_) | refine op_bind (α := Int32 × Int32 × gj_S) (P := fun x => fr9 σ0 x.2.2) ?_ (fun _ _ => ?_) | refine op_bT (fun _ => ?_) | refine op_el (by assumption) (fun _ _ => ?_) (fun _ _ => ?_) | refine op_some ?_))
  all_goals (try dsimp only [gj_K])
  all_goals (repeat' (first | exact True.intro | with_reducible assumption | with_reducible refine fr9_I ?_ ?_ | with_reducible refine fr9_J ?_ ?_ | omega | exact fp_55 (by assumption) | exact fp_164 (by assumption) | refine ⟨?_, ?_⟩))
set_option maxHeartbeats 2000000 in
theorem w_X9_hangs {σ0 : gj_S} {b1 : Int32} {b2 : Int32} {b3 : Int32} {b4 : Int32} {σ : gj_S}  (h0 : fr9 σ0 σ) : OP (f_X9_hangs b1 b2 b3 b4 σ) (fun r : gj_S => fr9 σ0 r) := by
  unfold f_X9_hangs
  repeat' (with_reducible (first | exact op_none | refine op_if (fun _ => ?_) (fun _ => ?_) | refine op_bind (α := gj_S) (P := fun x => fr9 σ0 x) ?_ (fun _ _ => ?_) | refine op_bind (α := Int32 × gj_S) (P := fun x => fr9 σ0 x.2) ?_ (fun _ _ => ?_) | refine op_bind (α := Int32 × Int32 × gj_S) (P := fun x => fr9 σ0 x.2.2) ?_ (fun _ _ => ?_) | refine op_bT (fun _ => ?_) | refine op_el (by assumption) (fun _ _ => ?_) (fun _ _ => ?_) | refine op_some ?_))
  all_goals (try dsimp only [gj_K])
  all_goals (repeat' (first | exact True.intro | with_reducible assumption | with_reducible refine fr9_I ?_ ?_ | with_reducible refine fr9_J ?_ ?_ | omega | exact fp_55 (by assumption) | exact fp_164 (by assumption) | refine ⟨?_, ?_⟩))
set_option maxHeartbeats 2000000 in
theorem w_fb_X9_laysTree_l2 {σ0 : gj_S} {a10002 : (Int32 × gj_S)}  (h0 : fr9 σ0 a10002.2) : OP (fb_X9_laysTree_l2 a10002) (fun r : (gj_S ⊕ (Int32 × gj_S)) => gj_K (fun u69 : gj_S => fr9 σ0 u69) (fun v69 : (Int32 × gj_S) => fr9 σ0 v69.2) r) := by
  unfold fb_X9_laysTree_l2
  repeat' (with_reducible (first | exact op_none | refine op_if (fun _ => ?_) (fun _ => ?_) | refine op_bind (α := gj_S) (P := fun x => fr9 σ0 x) ?_ (fun _ _ => ?_) | refine op_bind (α := Int32 × gj_S) (P := fun x => fr9 σ0 x.2) ?_ (fun _ _ => ?_) | refine op_bind (α := Int32 × Int32 × gj_S) (P := fun x => fr9 σ0 x.2.2) ?_ (fun _ _ => ?_) | refine op_bT (fun _ => ?_) | refine op_el (by assumption) (fun _ _ => ?_) (fun _ _ => ?_) | refine op_some ?_))
  all_goals (try dsimp only [gj_K])
  all_goals (repeat' (first | exact True.intro | with_reducible assumption | with_reducible refine fr9_I ?_ ?_ | with_reducible refine fr9_J ?_ ?_ | omega | exact fp_55 (by assumption) | exact fp_164 (by assumption) | refine ⟨?_, ?_⟩))
theorem lp_X9_laysTree_l2 {σ0 : gj_S}   (n : Nat) (a : (Int32 × gj_S)) (h0 : fr9 σ0 a.2) : OP (gj_lp (fb_X9_laysTree_l2 ) n a) (fun r : gj_S => fr9 σ0 r) := op_lp (I := fun a : (Int32 × gj_S) => fr9 σ0 a.2) (J := fun r : gj_S => fr9 σ0 r) (fun a h => w_fb_X9_laysTree_l2 h) n a h0
set_option maxHeartbeats 2000000 in
theorem w_fb_X9_laysTree_l55 {σ0 : gj_S} {a10055 : (Int32 × Int32 × gj_S)}  (h0 : fr9 σ0 a10055.2.2) : OP (fb_X9_laysTree_l55 a10055) (fun r : ((Int32 × gj_S) ⊕ (Int32 × Int32 × gj_S)) => gj_K (fun u70 : (Int32 × gj_S) => fr9 σ0 u70.2) (fun v70 : (Int32 × Int32 × gj_S) => fr9 σ0 v70.2.2) r) := by
  unfold fb_X9_laysTree_l55
  repeat' (with_reducible (first | exact op_none | refine op_if (fun _ => ?_) (fun _ => ?_) | refine w_X9_hangs (σ0 := σ0) ?_ | refine op_bind (w_X9_hangs (σ0 := σ0) ?_) (fun _ _ => ?_) | refine op_bind (α := gj_S) (P := fun x => fr9 σ0 x) ?_ (fun _ _ => ?_) | refine op_bind (α := Int32 × gj_S) (P := fun x => fr9 σ0 x.2) ?_ (fun _ _ => ?_) | refine op_bind (α := Int32 × Int32 × gj_S) (P := fun x => fr9 σ0 x.2.2) ?_ (fun _ _ => ?_) | refine op_bT (fun _ => ?_) | refine op_el (by assumption) (fun _ _ => ?_) (fun _ _ => ?_) | refine op_some ?_))
  all_goals (try dsimp only [gj_K])
  all_goals (repeat' (first | exact True.intro | with_reducible assumption | with_reducible refine fr9_I ?_ ?_ | with_reducible refine fr9_J ?_ ?_ | omega | exact fp_55 (by assumption) | exact fp_164 (by assumption) | refine ⟨?_, ?_⟩))
theorem lp_X9_laysTree_l55 {σ0 : gj_S}   (n : Nat) (a : (Int32 × Int32 × gj_S)) (h0 : fr9 σ0 a.2.2) : OP (gj_lp (fb_X9_laysTree_l55 ) n a) (fun r : (Int32 × gj_S) => fr9 σ0 r.2) := op_lp (I := fun a : (Int32 × Int32 × gj_S) => fr9 σ0 a.2.2) (J := fun r : (Int32 × gj_S) => fr9 σ0 r.2) (fun a h => w_fb_X9_laysTree_l55 h) n a h0
set_option maxHeartbeats 2000000 in
theorem w_fb_X9_laysTree_l47 {σ0 : gj_S} {a10047 : (Int32 × gj_S)}  (h0 : fr9 σ0 a10047.2) : OP (fb_X9_laysTree_l47 a10047) (fun r : (gj_S ⊕ (Int32 × gj_S)) => gj_K (fun u71 : gj_S => fr9 σ0 u71) (fun v71 : (Int32 × gj_S) => fr9 σ0 v71.2) r) := by
  unfold fb_X9_laysTree_l47
  repeat' (with_reducible (first | exact op_none | refine op_if (fun _ => ?_) (fun _ => ?_) | refine lp_X9_laysTree_l55 (σ0 := σ0) _ _ ?_ | refine op_bind (lp_X9_laysTree_l55 (σ0 := σ0) _ _ ?_) (fun _ _ => ?_) | refine op_bind (α := gj_S) (P := fun x => fr9 σ0 x) ?_ (fun _ _ => ?_) | refine op_bind (α := Int32 × gj_S) (P := fun x => fr9 σ0 x.2) ?_ (fun _ _ => ?_) | refine op_bind (α := Int32 × Int32 × gj_S) (P := fun x => fr9 σ0 x.2.2) ?_ (fun _ _ => ?_) | refine op_bT (fun _ => ?_) | refine op_el (by assumption) (fun _ _ => ?_) (fun _ _ => ?_) | refine op_some ?_))
  all_goals (try dsimp only [gj_K])
  all_goals (repeat' (first | exact True.intro | with_reducible assumption | with_reducible refine fr9_I ?_ ?_ | with_reducible refine fr9_J ?_ ?_ | omega | exact fp_55 (by assumption) | exact fp_164 (by assumption) | refine ⟨?_, ?_⟩))
theorem lp_X9_laysTree_l47 {σ0 : gj_S}   (n : Nat) (a : (Int32 × gj_S)) (h0 : fr9 σ0 a.2) : OP (gj_lp (fb_X9_laysTree_l47 ) n a) (fun r : gj_S => fr9 σ0 r) := op_lp (I := fun a : (Int32 × gj_S) => fr9 σ0 a.2) (J := fun r : gj_S => fr9 σ0 r) (fun a h => w_fb_X9_laysTree_l47 h) n a h0
set_option maxHeartbeats 2000000 in
theorem w_X9_laysTree {σ0 : gj_S} {σ : gj_S}  (h0 : fr9 σ0 σ) : OP (f_X9_laysTree σ) (fun r : gj_S => fr9 σ0 r) := by
  unfold f_X9_laysTree
  repeat' (with_reducible (first | exact op_none | refine op_if (fun _ => ?_) (fun _ => ?_) | refine lp_X9_laysTree_l2 (σ0 := σ0) _ _ ?_ | refine lp_X9_laysTree_l47 (σ0 := σ0) _ _ ?_ | refine op_bind (lp_X9_laysTree_l2 (σ0 := σ0) _ _ ?_) (fun _ _ => ?_) | refine op_bind (lp_X9_laysTree_l47 (σ0 := σ0) _ _ ?_) (fun _ _ => ?_) | refine op_bind (α := gj_S) (P := fun x => fr9 σ0 x) ?_ (fun _ _ => ?_) | refine op_bind (α := Int32 × gj_S) (P := fun x => fr9 σ0 x.2) ?_ (fun _ _ => ?_) | refine op_bind (α := Int32 × Int32 × gj_S) (P := fun x => fr9 σ0 x.2.2) ?_ (fun _ _ => ?_) | refine op_bT (fun _ => ?_) | refine op_el (by assumption) (fun _ _ => ?_) (fun _ _ => ?_) | refine op_some ?_))
  all_goals (try dsimp only [gj_K])
  all_goals (repeat' (first | exact True.intro | with_reducible assumption | with_reducible refine fr9_I ?_ ?_ | with_reducible refine fr9_J ?_ ?_ | omega | exact fp_55 (by assumption) | exact fp_164 (by assumption) | refine ⟨?_, ?_⟩))
set_option maxHeartbeats 2000000 in
theorem w_X9_isEnd {σ0 : gj_S} {σ : gj_S}  (h0 : fr9 σ0 σ) : OP (f_X9_isEnd σ) (fun r : (Int32 × gj_S) => fr9 σ0 r.2) := by
  unfold f_X9_isEnd
  repeat' (with_reducible (first | exact op_none | refine op_if (fun _ => ?_) (fun _ => ?_) | refine w_X9_laysTree (σ0 := σ0) ?_ | refine op_bind (w_X9_laysTree (σ0 := σ0) ?_) (fun _ _ => ?_) | refine op_bind (α := gj_S) (P := fun x => fr9 σ0 x) ?_ (fun _ _ => ?_) | refine op_bind (α := Int32 × gj_S) (P := fun x => fr9 σ0 x.2) ?_ (fun _ _ => ?_) | refine op_bind (α := Int32 × Int32 × gj_S) (P := fun x => fr9 σ0 x.2.2) ?_ (fun _ _ => ?_) | refine op_bT (fun _ => ?_) | refine op_el (by assumption) (fun _ _ => ?_) (fun _ _ => ?_) | refine op_some ?_))
  all_goals (try dsimp only [gj_K])
  all_goals (repeat' (first | exact True.intro | with_reducible assumption | with_reducible refine fr9_I ?_ ?_ | with_reducible refine fr9_J ?_ ?_ | omega | exact fp_55 (by assumption) | exact fp_164 (by assumption) | refine ⟨?_, ?_⟩))
set_option maxHeartbeats 2000000 in
theorem w_X9_dock {σ0 : gj_S} {b1 : Int32} {b2 : Int32} {σ : gj_S}  (h0 : fr9 σ0 σ) : OP (f_X9_dock b1 b2 σ) (fun r : (Int32 × gj_S) => fr9 σ0 r.2) := by
  unfold f_X9_dock
  repeat' (with_reducible (first | exact op_none | refine op_if (fun _ => ?_) (fun _ => ?_) | refine w_X9_laysTree (σ0 := σ0) ?_ | refine op_bind (w_X9_laysTree (σ0 := σ0) ?_) (fun _ _ => ?_) | refine op_bind (α := gj_S) (P := fun x => fr9 σ0 x) ?_ (fun _ _ => ?_) | refine op_bind (α := Int32 × gj_S) (P := fun x => fr9 σ0 x.2) ?_ (fun _ _ => ?_) | refine op_bind (α := Int32 × Int32 × gj_S) (P := fun x => fr9 σ0 x.2.2) ?_ (fun _ _ => ?_) | refine op_bT (fun _ => ?_) | refine op_el (by assumption) (fun _ _ => ?_) (fun _ _ => ?_) | refine op_some ?_))
  all_goals (try dsimp only [gj_K])
  all_goals (repeat' (first | exact True.intro | with_reducible assumption | with_reducible refine fr9_I ?_ ?_ | with_reducible refine fr9_J ?_ ?_ | omega | exact fp_55 (by assumption) | exact fp_164 (by assumption) | refine ⟨?_, ?_⟩))
set_option maxHeartbeats 2000000 in
theorem w_X9_way {σ0 : gj_S} {b1 : Int32} {b2 : Int32} {σ : gj_S}  (h0 : fr9 σ0 σ) : OP (f_X9_way b1 b2 σ) (fun r : (Int32 × gj_S) => fr9 σ0 r.2) := by
  unfold f_X9_way
  repeat' (with_reducible (first | exact op_none | refine op_if (fun _ => ?_) (fun _ => ?_) | refine w_X9_laysTree (σ0 := σ0) ?_ | refine op_bind (w_X9_laysTree (σ0 := σ0) ?_) (fun _ _ => ?_) | refine op_bind (α := gj_S) (P := fun x => fr9 σ0 x) ?_ (fun _ _ => ?_) | refine op_bind (α := Int32 × gj_S) (P := fun x => fr9 σ0 x.2) ?_ (fun _ _ => ?_) | refine op_bind (α := Int32 × Int32 × gj_S) (P := fun x => fr9 σ0 x.2.2) ?_ (fun _ _ => ?_) | refine op_bT (fun _ => ?_) | refine op_el (by assumption) (fun _ _ => ?_) (fun _ _ => ?_) | refine op_some ?_))
  all_goals (try dsimp only [gj_K])
  all_goals (repeat' (first | exact True.intro | with_reducible assumption | with_reducible refine fr9_I ?_ ?_ | with_reducible refine fr9_J ?_ ?_ | omega | exact fp_55 (by assumption) | exact fp_164 (by assumption) | refine ⟨?_, ?_⟩))
set_option maxHeartbeats 2000000 in
theorem w_fb_X9_ranked_l11 {σ0 : gj_S} {b1 : Int32} {σ : gj_S} {a10011 : Int32}  (h0 : fr9 σ0 σ) : OP (fb_X9_ranked_l11 b1 σ a10011) (fun r : (((Int32 × gj_S) ⊕ Unit) ⊕ Int32) => gj_K (fun u75 : ((Int32 × gj_S) ⊕ Unit) => gj_K (fun u76 : (Int32 × gj_S) => fr9 σ0 u76.2) (fun v76 : Unit => True) u75) (fun v75 : Int32 => True) r) := by
  unfold fb_X9_ranked_l11
  repeat' (with_reducible (first | exact op_none | refine op_if (fun _ => ?_) (fun _ => ?_) | refine op_bind (α := gj_S) (P := fun x => fr9 σ0 x) ?_ (fun _ _ => ?_) | refine op_bind (α := Int32 × gj_S) (P := fun x => fr9 σ0 x.2) ?_ (fun _ _ => ?_) | refine op_bind (α := Int32 × Int32 × gj_S) (P := fun x => fr9 σ0 x.2.2) ?_ (fun _ _ => ?_) | refine op_bT (fun _ => ?_) | refine op_el (by assumption) (fun _ _ => ?_) (fun _ _ => ?_) | refine op_some ?_))
  all_goals (try dsimp only [gj_K])
  all_goals (repeat' (first | exact True.intro | with_reducible assumption | with_reducible refine fr9_I ?_ ?_ | with_reducible refine fr9_J ?_ ?_ | omega | exact fp_55 (by assumption) | exact fp_164 (by assumption) | refine ⟨?_, ?_⟩))
theorem lp_X9_ranked_l11 {σ0 : gj_S} {b1 : Int32} {σ : gj_S}  (n : Nat) (a : Int32) (h0 : fr9 σ0 σ) : OP (gj_lp (fb_X9_ranked_l11 b1 σ) n a) (fun r : ((Int32 × gj_S) ⊕ Unit) => gj_K (fun u77 : (Int32 × gj_S) => fr9 σ0 u77.2) (fun v77 : Unit => True) r) := op_lp (I := fun _ : Int32 => True) (J := fun r : ((Int32 × gj_S) ⊕ Unit) => gj_K (fun u78 : (Int32 × gj_S) => fr9 σ0 u78.2) (fun v78 : Unit => True) r) (fun a _ x e => by have := w_fb_X9_ranked_l11 h0 x e; rcases x with x | x; exact this; exact True.intro) n a True.intro
set_option maxHeartbeats 2000000 in
theorem w_X9_ranked {σ0 : gj_S} {b1 : Int32} {σ : gj_S}  (h0 : fr9 σ0 σ) : OP (f_X9_ranked b1 σ) (fun r : (Int32 × gj_S) => fr9 σ0 r.2) := by
  unfold f_X9_ranked
  repeat' (with_reducible (first | exact op_none | refine op_if (fun _ => ?_) (fun _ => ?_) | refine w_X9_laysTree (σ0 := σ0) ?_ | refine lp_X9_ranked_l11 (σ0 := σ0) _ _ ?_ | refine op_bind (w_X9_laysTree (σ0 := σ0) ?_) (fun _ _ => ?_) | refine op_bel (lp_X9_ranked_l11 (σ0 := σ0) _ _ ?_) (fun _ _ => ?_) (fun _ _ => ?_) | refine op_bind (lp_X9_ranked_l11 (σ0 := σ0) _ _ ?_) (fun _ _ => ?_) | refine op_bind (α := gj_S) (P := fun x => fr9 σ0 x) ?_ (fun _ _ => ?_) | refine op_bind (α := Int32 × gj_S) (P := fun x => fr9 σ0 x.2) ?_ (fun _ _ => ?_) | refine op_bind (α := Int32 × Int32 × gj_S) (P := fun x => fr9 σ0 x.2.2) ?_ (fun _ _ => ?_) | refine op_bT (fun _ => ?_) | refine op_el (by assumption) (fun _ _ => ?_) (fun _ _ => ?_) | refine op_some ?_))
  all_goals (try dsimp only [gj_K])
  all_goals (repeat' (first | exact True.intro | with_reducible assumption | with_reducible refine fr9_I ?_ ?_ | with_reducible refine fr9_J ?_ ?_ | omega | exact fp_55 (by assumption) | exact fp_164 (by assumption) | refine ⟨?_, ?_⟩))
set_option maxHeartbeats 2000000 in
theorem w_X9_entering {σ0 : gj_S} {σ : gj_S}  (h0 : fr9 σ0 σ) : OP (f_X9_entering σ) (fun r : (Int32 × gj_S) => fr9 σ0 r.2) := by
  unfold f_X9_entering
  repeat' (with_reducible (first | exact op_none | refine op_if (fun _ => ?_) (fun _ => ?_) | refine op_bind (α := gj_S) (P := fun x => fr9 σ0 x) ?_ (fun _ _ => ?_) | refine op_bind (α := Int32 × gj_S) (P := fun x => fr9 σ0 x.2) ?_ (fun _ _ => ?_) | refine op_bind (α := Int32 × Int32 × gj_S) (P := fun x => fr9 σ0 x.2.2) ?_ (fun _ _ => ?_) | refine op_bT (fun _ => ?_) | refine op_el (by assumption) (fun _ _ => ?_) (fun _ _ => ?_) | refine op_some ?_))
  all_goals (try dsimp only [gj_K])
  all_goals (repeat' (first | exact True.intro | with_reducible assumption | with_reducible refine fr9_I ?_ ?_ | with_reducible refine fr9_J ?_ ?_ | omega | exact fp_55 (by assumption) | exact fp_164 (by assumption) | refine ⟨?_, ?_⟩))
set_option maxHeartbeats 2000000 in
theorem w_fb_X9_laysRing_l96 {σ0 : gj_S} {b1 : Int32} {b2 : Int32} {b4 : Int32} {a10096 : (Int32 × Int32 × gj_S)}  (h0 : fr9 σ0 a10096.2.2) : OP (fb_X9_laysRing_l96 b1 b2 b4 a10096) (fun r : (gj_S ⊕ (Int32 × Int32 × gj_S)) => gj_K (fun u81 : gj_S => fr9 σ0 u81) (fun v81 : (Int32 × Int32 × gj_S) => fr9 σ0 v81.2.2) r) := by
  unfold fb_X9_laysRing_l96
  repeat' (with_reducible (first | exact op_none | refine op_if (fun _ => ?_) (fun _ => ?_) | refine op_bind (α := gj_S) (P := fun x => fr9 σ0 x) ?_ (fun _ _ => ?_) | refine op_bind (α := Int32 × gj_S) (P := fun x => fr9 σ0 x.2) ?_ (fun _ _ => ?_) | refine op_bind (α := Int32 × Int32 × gj_S) (P := fun x => fr9 σ0 x.2.2) ?_ (fun _ _ => ?_) | refine op_bT (fun _ => ?_) | refine op_el (by assumption) (fun _ _ => ?_) (fun _ _ => ?_) | refine op_some ?_))
  all_goals (try dsimp only [gj_K])
  all_goals (repeat' (first | exact True.intro | with_reducible assumption | with_reducible refine fr9_I ?_ ?_ | with_reducible refine fr9_J ?_ ?_ | omega | exact fp_55 (by assumption) | exact fp_164 (by assumption) | refine ⟨?_, ?_⟩))
theorem lp_X9_laysRing_l96 {σ0 : gj_S} {b1 : Int32} {b2 : Int32} {b4 : Int32}  (n : Nat) (a : (Int32 × Int32 × gj_S)) (h0 : fr9 σ0 a.2.2) : OP (gj_lp (fb_X9_laysRing_l96 b1 b2 b4) n a) (fun r : gj_S => fr9 σ0 r) := op_lp (I := fun a : (Int32 × Int32 × gj_S) => fr9 σ0 a.2.2) (J := fun r : gj_S => fr9 σ0 r) (fun a h => w_fb_X9_laysRing_l96 h) n a h0
set_option maxHeartbeats 2000000 in
theorem w_fb_X9_laysRing_l188 {σ0 : gj_S} {b1 : Int32} {a10188 : (Int32 × gj_S)}  (h0 : fr9 σ0 a10188.2) : OP (fb_X9_laysRing_l188 b1 a10188) (fun r : (gj_S ⊕ (Int32 × gj_S)) => gj_K (fun u82 : gj_S => fr9 σ0 u82) (fun v82 : (Int32 × gj_S) => fr9 σ0 v82.2) r) := by
  unfold fb_X9_laysRing_l188
  repeat' (with_reducible (first | exact op_none | refine op_if (fun _ => ?_) (fun _ => ?_) | refine op_bind (α := gj_S) (P := fun x => fr9 σ0 x) ?_ (fun _ _ => ?_) | refine op_bind (α := Int32 × gj_S) (P := fun x => fr9 σ0 x.2) ?_ (fun _ _ => ?_) | refine op_bind (α := Int32 × Int32 × gj_S) (P := fun x => fr9 σ0 x.2.2) ?_ (fun _ _ => ?_) | refine op_bT (fun _ => ?_) | refine op_el (by assumption) (fun _ _ => ?_) (fun _ _ => ?_) | refine op_some ?_))
  all_goals (try dsimp only [gj_K])
  all_goals (repeat' (first | exact True.intro | with_reducible assumption | with_reducible refine fr9_I ?_ ?_ | with_reducible refine fr9_J ?_ ?_ | omega | exact fp_55 (by assumption) | exact fp_164 (by assumption) | refine ⟨?_, ?_⟩))
theorem lp_X9_laysRing_l188 {σ0 : gj_S} {b1 : Int32}  (n : Nat) (a : (Int32 × gj_S)) (h0 : fr9 σ0 a.2) : OP (gj_lp (fb_X9_laysRing_l188 b1) n a) (fun r : gj_S => fr9 σ0 r) := op_lp (I := fun a : (Int32 × gj_S) => fr9 σ0 a.2) (J := fun r : gj_S => fr9 σ0 r) (fun a h => w_fb_X9_laysRing_l188 h) n a h0
set_option maxHeartbeats 2000000 in
theorem w_fb_X9_laysRing_l263 {σ0 : gj_S} {b1 : Int32} {a10263 : (Int32 × gj_S)}  (h0 : fr9 σ0 a10263.2) : OP (fb_X9_laysRing_l263 b1 a10263) (fun r : (gj_S ⊕ (Int32 × gj_S)) => gj_K (fun u83 : gj_S => fr9 σ0 u83) (fun v83 : (Int32 × gj_S) => fr9 σ0 v83.2) r) := by
  unfold fb_X9_laysRing_l263
  repeat' (with_reducible (first | exact op_none | refine op_if (fun _ => ?_) (fun _ => ?_) | refine op_bind (α := gj_S) (P := fun x => fr9 σ0 x) ?_ (fun _ _ => ?_) | refine op_bind (α := Int32 × gj_S) (P := fun x => fr9 σ0 x.2) ?_ (fun _ _ => ?_) | refine op_bind (α := Int32 × Int32 × gj_S) (P := fun x => fr9 σ0 x.2.2) ?_ (fun _ _ => ?_) | refine op_bT (fun _ => ?_) | refine op_el (by assumption) (fun _ _ => ?_) (fun _ _ => ?_) | refine op_some ?_))
  all_goals (try dsimp only [gj_K])
  all_goals (repeat' (first | exact True.intro | with_reducible assumption | with_reducible refine fr9_I ?_ ?_ | with_reducible refine fr9_J ?_ ?_ | omega | exact fp_55 (by assumption) | exact fp_164 (by assumption) | refine ⟨?_, ?_⟩))
theorem lp_X9_laysRing_l263 {σ0 : gj_S} {b1 : Int32}  (n : Nat) (a : (Int32 × gj_S)) (h0 : fr9 σ0 a.2) : OP (gj_lp (fb_X9_laysRing_l263 b1) n a) (fun r : gj_S => fr9 σ0 r) := op_lp (I := fun a : (Int32 × gj_S) => fr9 σ0 a.2) (J := fun r : gj_S => fr9 σ0 r) (fun a h => w_fb_X9_laysRing_l263 h) n a h0
set_option maxHeartbeats 2000000 in
theorem w_X9_laysRing {σ0 : gj_S} {b1 : Int32} {σ : gj_S}  (h0 : fr9 σ0 σ) : OP (f_X9_laysRing b1 σ) (fun r : gj_S => fr9 σ0 r) := by
  unfold f_X9_laysRing
  repeat' (with_reducible (first | exact op_none | refine op_if (fun _ => ?_) (fun _ => ?_) | refine lp_X9_laysRing_l96 (σ0 := σ0) _ _ ?_ | refine lp_X9_laysRing_l188 (σ0 := σ0) _ _ ?_ | refine lp_X9_laysRing_l263 (σ0 := σ0) _ _ ?_ | refine op_bind (lp_X9_laysRing_l96 (σ0 := σ0) _ _ ?_) (fun _ _ => ?_) | refine op_bind (lp_X9_laysRing_l188 (σ0 := σ0) _ _ ?_) (fun _ _ => ?_) | refine op_bind (lp_X9_laysRing_l263 (σ0 := σ0) _ _ ?_) (fun _ _ => ?_) | refine op_bind (α := gj_S) (P := fun x => fr9 σ0 x) ?_ (fun _ _ => ?_) | refine op_bind (α := Int32 × gj_S) (P := fun x => fr9 σ0 x.2) ?_ (fun _ _ => ?_) | refine op_bind (α := Int32 × Int32 × gj_S) (P := fun x => fr9 σ0 x.2.2) ?_ (fun _ _ => ?_) | refine op_bT (fun _ => ?_) | refine op_el (by assumption) (fun _ _ => ?_) (fun _ _ => ?_) | refine op_some ?_))
  all_goals (try dsimp only [gj_K])
  all_goals (repeat' (first | exact True.intro | with_reducible assumption | with_reducible refine fr9_I ?_ ?_ | with_reducible refine fr9_J ?_ ?_ | omega | exact fp_55 (by assumption) | exact fp_164 (by assumption) | refine ⟨?_, ?_⟩))
set_option maxHeartbeats 2000000 in
theorem w_X9_good {σ0 : gj_S} {σ : gj_S}  (h0 : fr9 σ0 σ) : OP (f_X9_good σ) (fun r : (Int32 × gj_S) => fr9 σ0 r.2) := by
  unfold f_X9_good
  repeat' (with_reducible (first | exact op_none | refine op_if (fun _ => ?_) (fun _ => ?_) | refine w_X9_laysTree (σ0 := σ0) ?_ | refine op_bind (w_X9_laysTree (σ0 := σ0) ?_) (fun _ _ => ?_) | refine op_bind (α := gj_S) (P := fun x => fr9 σ0 x) ?_ (fun _ _ => ?_) | refine op_bind (α := Int32 × gj_S) (P := fun x => fr9 σ0 x.2) ?_ (fun _ _ => ?_) | refine op_bind (α := Int32 × Int32 × gj_S) (P := fun x => fr9 σ0 x.2.2) ?_ (fun _ _ => ?_) | refine op_bT (fun _ => ?_) | refine op_el (by assumption) (fun _ _ => ?_) (fun _ _ => ?_) | refine op_some ?_))
  all_goals (try dsimp only [gj_K])
  all_goals (repeat' (first | exact True.intro | with_reducible assumption | with_reducible refine fr9_I ?_ ?_ | with_reducible refine fr9_J ?_ ?_ | omega | exact fp_55 (by assumption) | exact fp_164 (by assumption) | refine ⟨?_, ?_⟩))
set_option maxHeartbeats 2000000 in
theorem w_X9_enters {σ0 : gj_S} {σ : gj_S}  (h0 : fr9 σ0 σ) : OP (f_X9_enters σ) (fun r : (Int32 × gj_S) => fr9 σ0 r.2) := by
  unfold f_X9_enters
  repeat' (with_reducible (first | exact op_none | refine op_if (fun _ => ?_) (fun _ => ?_) | refine w_X9_laysTree (σ0 := σ0) ?_ | refine w_X9_entering (σ0 := σ0) ?_ | refine op_bind (w_X9_laysTree (σ0 := σ0) ?_) (fun _ _ => ?_) | refine op_bind (w_X9_entering (σ0 := σ0) ?_) (fun _ _ => ?_) | refine op_bind (α := gj_S) (P := fun x => fr9 σ0 x) ?_ (fun _ _ => ?_) | refine op_bind (α := Int32 × gj_S) (P := fun x => fr9 σ0 x.2) ?_ (fun _ _ => ?_) | refine op_bind (α := Int32 × Int32 × gj_S) (P := fun x => fr9 σ0 x.2.2) ?_ (fun _ _ => ?_) | refine op_bT (fun _ => ?_) | refine op_el (by assumption) (fun _ _ => ?_) (fun _ _ => ?_) | refine op_some ?_))
  all_goals (try dsimp only [gj_K])
  all_goals (repeat' (first | exact True.intro | with_reducible assumption | with_reducible refine fr9_I ?_ ?_ | with_reducible refine fr9_J ?_ ?_ | omega | exact fp_55 (by assumption) | exact fp_164 (by assumption) | refine ⟨?_, ?_⟩))
set_option maxHeartbeats 2000000 in
theorem w_X9_ring {σ0 : gj_S} {b1 : Int32} {b2 : Int32} {σ : gj_S}  (h0 : fr9 σ0 σ) : OP (f_X9_ring b1 b2 σ) (fun r : (Int32 × gj_S) => fr9 σ0 r.2) := by
  unfold f_X9_ring
  repeat' (with_reducible (first | exact op_none | refine op_if (fun _ => ?_) (fun _ => ?_) | refine w_X9_laysTree (σ0 := σ0) ?_ | refine w_X9_laysRing (σ0 := σ0) ?_ | refine op_bind (w_X9_laysTree (σ0 := σ0) ?_) (fun _ _ => ?_) | refine op_bind (w_X9_laysRing (σ0 := σ0) ?_) (fun _ _ => ?_) | refine op_bind (α := gj_S) (P := fun x => fr9 σ0 x) ?_ (fun _ _ => ?_) | refine op_bind (α := Int32 × gj_S) (P := fun x => fr9 σ0 x.2) ?_ (fun _ _ => ?_) | refine op_bind (α := Int32 × Int32 × gj_S) (P := fun x => fr9 σ0 x.2.2) ?_ (fun _ _ => ?_) | refine op_bT (fun _ => ?_) | refine op_el (by assumption) (fun _ _ => ?_) (fun _ _ => ?_) | refine op_some ?_))
  all_goals (try dsimp only [gj_K])
  all_goals (repeat' (first | exact True.intro | with_reducible assumption | with_reducible refine fr9_I ?_ ?_ | with_reducible refine fr9_J ?_ ?_ | omega | exact fp_55 (by assumption) | exact fp_164 (by assumption) | refine ⟨?_, ?_⟩))
set_option maxHeartbeats 2000000 in
theorem w_X9_closes {σ0 : gj_S} {b1 : Int32} {b2 : Int32} {σ : gj_S}  (h0 : fr9 σ0 σ) : OP (f_X9_closes b1 b2 σ) (fun r : (Int32 × gj_S) => fr9 σ0 r.2) := by
  unfold f_X9_closes
  repeat' (with_reducible (first | exact op_none | refine op_if (fun _ => ?_) (fun _ => ?_) | refine w_X9_laysTree (σ0 := σ0) ?_ | refine w_X9_laysRing (σ0 := σ0) ?_ | refine op_bind (w_X9_laysTree (σ0 := σ0) ?_) (fun _ _ => ?_) | refine op_bind (w_X9_laysRing (σ0 := σ0) ?_) (fun _ _ => ?_) | refine op_bind (α := gj_S) (P := fun x => fr9 σ0 x) ?_ (fun _ _ => ?_) | refine op_bind (α := Int32 × gj_S) (P := fun x => fr9 σ0 x.2) ?_ (fun _ _ => ?_) | refine op_bind (α := Int32 × Int32 × gj_S) (P := fun x => fr9 σ0 x.2.2) ?_ (fun _ _ => ?_) | refine op_bT (fun _ => ?_) | refine op_el (by assumption) (fun _ _ => ?_) (fun _ _ => ?_) | refine op_some ?_))
  all_goals (try dsimp only [gj_K])
  all_goals (repeat' (first | exact True.intro | with_reducible assumption | with_reducible refine fr9_I ?_ ?_ | with_reducible refine fr9_J ?_ ?_ | omega | exact fp_55 (by assumption) | exact fp_164 (by assumption) | refine ⟨?_, ?_⟩))
set_option maxHeartbeats 2000000 in
theorem w_fb_X9_strong_l11 {σ0 : gj_S} {σ : gj_S} {a10011 : Int32}  (h0 : fr9 σ0 σ) : OP (fb_X9_strong_l11 σ a10011) (fun r : (((Int32 × gj_S) ⊕ Unit) ⊕ Int32) => gj_K (fun u87 : ((Int32 × gj_S) ⊕ Unit) => gj_K (fun u88 : (Int32 × gj_S) => fr9 σ0 u88.2) (fun v88 : Unit => True) u87) (fun v87 : Int32 => True) r) := by
  unfold fb_X9_strong_l11
  repeat' (with_reducible (first | exact op_none | refine op_if (fun _ => ?_) (fun _ => ?_) | refine op_bind (α := gj_S) (P := fun x => fr9 σ0 x) ?_ (fun _ _ => ?_) | refine op_bind (α := Int32 × gj_S) (P := fun x => fr9 σ0 x.2) ?_ (fun _ _ => ?_) | refine op_bind (α := Int32 × Int32 × gj_S) (P := fun x => fr9 σ0 x.2.2) ?_ (fun _ _ => ?_) | refine op_bT (fun _ => ?_) | refine op_el (by assumption) (fun _ _ => ?_) (fun _ _ => ?_) | refine op_some ?_))
  all_goals (try dsimp only [gj_K])
  all_goals (repeat' (first | exact True.intro | with_reducible assumption | with_reducible refine fr9_I ?_ ?_ | with_reducible refine fr9_J ?_ ?_ | omega | exact fp_55 (by assumption) | exact fp_164 (by assumption) | refine ⟨?_, ?_⟩))
theorem lp_X9_strong_l11 {σ0 : gj_S} {σ : gj_S}  (n : Nat) (a : Int32) (h0 : fr9 σ0 σ) : OP (gj_lp (fb_X9_strong_l11 σ) n a) (fun r : ((Int32 × gj_S) ⊕ Unit) => gj_K (fun u89 : (Int32 × gj_S) => fr9 σ0 u89.2) (fun v89 : Unit => True) r) := op_lp (I := fun _ : Int32 => True) (J := fun r : ((Int32 × gj_S) ⊕ Unit) => gj_K (fun u90 : (Int32 × gj_S) => fr9 σ0 u90.2) (fun v90 : Unit => True) r) (fun a _ x e => by have := w_fb_X9_strong_l11 h0 x e; rcases x with x | x; exact this; exact True.intro) n a True.intro
set_option maxHeartbeats 2000000 in
theorem w_X9_strong {σ0 : gj_S} {σ : gj_S}  (h0 : fr9 σ0 σ) : OP (f_X9_strong σ) (fun r : (Int32 × gj_S) => fr9 σ0 r.2) := by
  unfold f_X9_strong
  repeat' (with_reducible (first | exact op_none | refine op_if (fun _ => ?_) (fun _ => ?_) | refine w_X9_laysTree (σ0 := σ0) ?_ | refine lp_X9_strong_l11 (σ0 := σ0) _ _ ?_ | refine op_bind (w_X9_laysTree (σ0 := σ0) ?_) (fun _ _ => ?_) | refine op_bel (lp_X9_strong_l11 (σ0 := σ0) _ _ ?_) (fun _ _ => ?_) (fun _ _ => ?_) | refine op_bind (lp_X9_strong_l11 (σ0 := σ0) _ _ ?_) (fun _ _ => ?_) | refine op_bind (α := gj_S) (P := fun x => fr9 σ0 x) ?_ (fun _ _ => ?_) | refine op_bind (α := Int32 × gj_S) (P := fun x => fr9 σ0 x.2) ?_ (fun _ _ => ?_) | refine op_bind (α := Int32 × Int32 × gj_S) (P := fun x => fr9 σ0 x.2.2) ?_ (fun _ _ => ?_) | refine op_bT (fun _ => ?_) | refine op_el (by assumption) (fun _ _ => ?_) (fun _ _ => ?_) | refine op_some ?_))
  all_goals (try dsimp only [gj_K])
  all_goals (repeat' (first | exact True.intro | with_reducible assumption | with_reducible refine fr9_I ?_ ?_ | with_reducible refine fr9_J ?_ ?_ | omega | exact fp_55 (by assumption) | exact fp_164 (by assumption) | refine ⟨?_, ?_⟩))
set_option maxHeartbeats 2000000 in
theorem w_fb_X9_logs_l5 {σ0 : gj_S} {b1 : Int32} {b2 : Int32} {b3 : Int32} {b4 : Int32} {b5 : Int32} {a10005 : (Int32 × gj_S)}  (h0 : fr9 σ0 a10005.2) : OP (fb_X9_logs_l5 b1 b2 b3 b4 b5 a10005) (fun r : (gj_S ⊕ (Int32 × gj_S)) => gj_K (fun u93 : gj_S => fr9 σ0 u93) (fun v93 : (Int32 × gj_S) => fr9 σ0 v93.2) r) := by
  unfold fb_X9_logs_l5
  repeat' (with_reducible (first | exact op_none | refine op_if (fun _ => ?_) (fun _ => ?_) | refine op_bind (α := gj_S) (P := fun x => fr9 σ0 x) ?_ (fun _ _ => ?_) | refine op_bind (α := Int32 × gj_S) (P := fun x => fr9 σ0 x.2) ?_ (fun _ _ => ?_) | refine op_bind (α := Int32 × Int32 × gj_S) (P := fun x => fr9 σ0 x.2.2) ?_ (fun _ _ => ?_) | refine op_bT (fun _ => ?_) | refine op_el (by assumption) (fun _ _ => ?_) (fun _ _ => ?_) | refine op_some ?_))
  all_goals (try dsimp only [gj_K])
  all_goals (repeat' (first | exact True.intro | with_reducible assumption | with_reducible refine fr9_I ?_ ?_ | with_reducible refine fr9_J ?_ ?_ | omega | exact fp_55 (by assumption) | exact fp_164 (by assumption) | refine ⟨?_, ?_⟩))
theorem lp_X9_logs_l5 {σ0 : gj_S} {b1 : Int32} {b2 : Int32} {b3 : Int32} {b4 : Int32} {b5 : Int32}  (n : Nat) (a : (Int32 × gj_S)) (h0 : fr9 σ0 a.2) : OP (gj_lp (fb_X9_logs_l5 b1 b2 b3 b4 b5) n a) (fun r : gj_S => fr9 σ0 r) := op_lp (I := fun a : (Int32 × gj_S) => fr9 σ0 a.2) (J := fun r : gj_S => fr9 σ0 r) (fun a h => w_fb_X9_logs_l5 h) n a h0
set_option maxHeartbeats 2000000 in
theorem w_X9_logs {σ0 : gj_S} {b1 : Int32} {b2 : Int32} {b3 : Int32} {b4 : Int32} {b5 : Int32} {σ : gj_S}  (h0 : fr9 σ0 σ) : OP (f_X9_logs b1 b2 b3 b4 b5 σ) (fun r : gj_S => fr9 σ0 r) := by
  unfold f_X9_logs
  repeat' (with_reducible (first | exact op_none | refine op_if (fun _ => ?_) (fun _ => ?_) | refine lp_X9_logs_l5 (σ0 := σ0) _ _ ?_ | refine op_bind (lp_X9_logs_l5 (σ0 := σ0) _ _ ?_) (fun _ _ => ?_) | refine op_bind (α := gj_S) (P := fun x => fr9 σ0 x) ?_ (fun _ _ => ?_) | refine op_bind (α := Int32 × gj_S) (P := fun x => fr9 σ0 x.2) ?_ (fun _ _ => ?_) | refine op_bind (α := Int32 × Int32 × gj_S) (P := fun x => fr9 σ0 x.2.2) ?_ (fun _ _ => ?_) | refine op_bT (fun _ => ?_) | refine op_el (by assumption) (fun _ _ => ?_) (fun _ _ => ?_) | refine op_some ?_))
  all_goals (try dsimp only [gj_K])
  all_goals (repeat' (first | exact True.intro | with_reducible assumption | with_reducible refine fr9_I ?_ ?_ | with_reducible refine fr9_J ?_ ?_ | omega | exact fp_55 (by assumption) | exact fp_164 (by assumption) | refine ⟨?_, ?_⟩))
set_option maxHeartbeats 2000000 in
theorem w_fb_X9_pivot_l34 {σ0 : gj_S} {b1 : Int32} {a10034 : (Int32 × gj_S)}  (h0 : fr9 σ0 a10034.2) : OP (fb_X9_pivot_l34 b1 a10034) (fun r : (gj_S ⊕ (Int32 × gj_S)) => gj_K (fun u95 : gj_S => fr9 σ0 u95) (fun v95 : (Int32 × gj_S) => fr9 σ0 v95.2) r) := by
  unfold fb_X9_pivot_l34
  repeat' (with_reducible (first | exact op_none | refine op_if (fun _ => ?_) (fun _ => ?_) | refine op_bind (α := gj_S) (P := fun x => fr9 σ0 x) ?_ (fun _ _ => ?_) | refine op_bind (α := Int32 × gj_S) (P := fun x => fr9 σ0 x.2) ?_ (fun _ _ => ?_) | refine op_bind (α := Int32 × Int32 × gj_S) (P := fun x => fr9 σ0 x.2.2) ?_ (fun _ _ => ?_) | refine op_bT (fun _ => ?_) | refine op_el (by assumption) (fun _ _ => ?_) (fun _ _ => ?_) | refine op_some ?_))
  all_goals (try dsimp only [gj_K])
  all_goals (repeat' (first | exact True.intro | with_reducible assumption | with_reducible refine fr9_I ?_ ?_ | with_reducible refine fr9_J ?_ ?_ | omega | exact fp_55 (by assumption) | exact fp_164 (by assumption) | refine ⟨?_, ?_⟩))
theorem lp_X9_pivot_l34 {σ0 : gj_S} {b1 : Int32}  (n : Nat) (a : (Int32 × gj_S)) (h0 : fr9 σ0 a.2) : OP (gj_lp (fb_X9_pivot_l34 b1) n a) (fun r : gj_S => fr9 σ0 r) := op_lp (I := fun a : (Int32 × gj_S) => fr9 σ0 a.2) (J := fun r : gj_S => fr9 σ0 r) (fun a h => w_fb_X9_pivot_l34 h) n a h0
set_option maxHeartbeats 2000000 in
theorem w_fb_X9_pivot_l98 {σ0 : gj_S} {b1 : Int32} {b2 : Int32} {a10098 : (Int32 × gj_S)}  (h0 : fr9 σ0 a10098.2) : OP (fb_X9_pivot_l98 b1 b2 a10098) (fun r : (gj_S ⊕ (Int32 × gj_S)) => gj_K (fun u96 : gj_S => fr9 σ0 u96) (fun v96 : (Int32 × gj_S) => fr9 σ0 v96.2) r) := by
  unfold fb_X9_pivot_l98
  repeat' (with_reducible (first | exact op_none | refine op_if (fun _ => ?_) (fun _ => ?_) | refine op_bind (α := gj_S) (P := fun x => fr9 σ0 x) ?_ (fun _ _ => ?_) | refine op_bind (α := Int32 × gj_S) (P := fun x => fr9 σ0 x.2) ?_ (fun _ _ => ?_) | refine op_bind (α := Int32 × Int32 × gj_S) (P := fun x => fr9 σ0 x.2.2) ?_ (fun _ _ => ?_) | refine op_bT (fun _ => ?_) | refine op_el (by assumption) (fun _ _ => ?_) (fun _ _ => ?_) | refine op_some ?_))
  all_goals (try dsimp only [gj_K])
  all_goals (repeat' (first | exact True.intro | with_reducible assumption | with_reducible refine fr9_I ?_ ?_ | with_reducible refine fr9_J ?_ ?_ | omega | exact fp_55 (by assumption) | exact fp_164 (by assumption) | refine ⟨?_, ?_⟩))
theorem lp_X9_pivot_l98 {σ0 : gj_S} {b1 : Int32} {b2 : Int32}  (n : Nat) (a : (Int32 × gj_S)) (h0 : fr9 σ0 a.2) : OP (gj_lp (fb_X9_pivot_l98 b1 b2) n a) (fun r : gj_S => fr9 σ0 r) := op_lp (I := fun a : (Int32 × gj_S) => fr9 σ0 a.2) (J := fun r : gj_S => fr9 σ0 r) (fun a h => w_fb_X9_pivot_l98 h) n a h0
set_option maxHeartbeats 2000000 in
theorem w_X9_pivot {σ0 : gj_S} {σ : gj_S}  (h0 : fr9 σ0 σ) : OP (f_X9_pivot σ) (fun r : (Int32 × gj_S) => fr9 σ0 r.2) := by
  unfold f_X9_pivot
  repeat' (with_reducible (first | exact op_none | refine op_if (fun _ => ?_) (fun _ => ?_) | refine w_X9_laysTree (σ0 := σ0) ?_ | refine w_X9_entering (σ0 := σ0) ?_ | refine w_X9_laysRing (σ0 := σ0) ?_ | refine w_X9_logs (σ0 := σ0) ?_ | refine lp_X9_pivot_l34 (σ0 := σ0) _ _ ?_ | refine lp_X9_pivot_l98 (σ0 := σ0) _ _ ?_ | refine op_bind (w_X9_laysTree (σ0 := σ0) ?_) (fun _ _ => ?_) | refine op_bind (w_X9_entering (σ0 := σ0) ?_) (fun _ _ => ?_) | refine op_bind (w_X9_laysRing (σ0 := σ0) ?_) (fun _ _ => ?_) | refine op_bind (w_X9_logs (σ0 := σ0) ?_) (fun _ _ => ?_) | refine op_bind (lp_X9_pivot_l34 (σ0 := σ0) _ _ ?_) (fun _ _ => ?_) | refine op_bind (lp_X9_pivot_l98 (σ0 := σ0) _ _ ?_) (fun _ _ => ?_) | refine op_bind (α := gj_S) (P := fun x => fr9 σ0 x) ?_ (fun _ _ => ?_) | refine op_bind (α := Int32 × gj_S) (P := fun x => fr9 σ0 x.2) ?_ (fun _ _ => ?_) | refine op_bind (α := Int32 × Int32 × gj_S) (P := fun x => fr9 σ0 x.2.2) ?_ (fun _ _ => ?_) | refine op_bT (fun _ => ?_) | refine op_el (by assumption) (fun _ _ => ?_) (fun _ _ => ?_) | refine op_some ?_))
  all_goals (try dsimp only [gj_K])
  all_goals (repeat' (first | exact True.intro | with_reducible assumption | with_reducible refine fr9_I ?_ ?_ | with_reducible refine fr9_J ?_ ?_ | omega | exact fp_55 (by assumption) | exact fp_164 (by assumption) | refine ⟨?_, ?_⟩))
set_option maxHeartbeats 2000000 in
theorem w_fb_X9_keeps_l11 {σ0 : gj_S} {a10011 : (Int32 × gj_S)}  (h0 : fr9 σ0 a10011.2) : OP (fb_X9_keeps_l11 a10011) (fun r : (gj_S ⊕ (Int32 × gj_S)) => gj_K (fun u99 : gj_S => fr9 σ0 u99) (fun v99 : (Int32 × gj_S) => fr9 σ0 v99.2) r) := by
  unfold fb_X9_keeps_l11
  repeat' (with_reducible (first | exact op_none | refine op_if (fun _ => ?_) (fun _ => ?_) | refine op_bind (α := gj_S) (P := fun x => fr9 σ0 x) ?_ (fun _ _ => ?_) | refine op_bind (α := Int32 × gj_S) (P := fun x => fr9 σ0 x.2) ?_ (fun _ _ => ?_) | refine op_bind (α := Int32 × Int32 × gj_S) (P := fun x => fr9 σ0 x.2.2) ?_ (fun _ _ => ?_) | refine op_bT (fun _ => ?_) | refine op_el (by assumption) (fun _ _ => ?_) (fun _ _ => ?_) | refine op_some ?_))
  all_goals (try dsimp only [gj_K])
  all_goals (repeat' (first | exact True.intro | with_reducible assumption | with_reducible refine fr9_I ?_ ?_ | with_reducible refine fr9_J ?_ ?_ | omega | exact fp_55 (by assumption) | exact fp_164 (by assumption) | refine ⟨?_, ?_⟩))
theorem lp_X9_keeps_l11 {σ0 : gj_S}   (n : Nat) (a : (Int32 × gj_S)) (h0 : fr9 σ0 a.2) : OP (gj_lp (fb_X9_keeps_l11 ) n a) (fun r : gj_S => fr9 σ0 r) := op_lp (I := fun a : (Int32 × gj_S) => fr9 σ0 a.2) (J := fun r : gj_S => fr9 σ0 r) (fun a h => w_fb_X9_keeps_l11 h) n a h0
set_option maxHeartbeats 2000000 in
theorem w_fb_X9_keeps_l52 {σ0 : gj_S} {a10052 : (Int32 × gj_S)}  (h0 : fr9 σ0 a10052.2) : OP (fb_X9_keeps_l52 a10052) (fun r : (gj_S ⊕ (Int32 × gj_S)) => gj_K (fun u100 : gj_S => fr9 σ0 u100) (fun v100 : (Int32 × gj_S) => fr9 σ0 v100.2) r) := by
  unfold fb_X9_keeps_l52
  repeat' (with_reducible (first | exact op_none | refine op_if (fun _ => ?_) (fun _ => ?_) | refine op_bind (α := gj_S) (P := fun x => fr9 σ0 x) ?_ (fun _ _ => ?_) | refine op_bind (α := Int32 × gj_S) (P := fun x => fr9 σ0 x.2) ?_ (fun _ _ => ?_) | refine op_bind (α := Int32 × Int32 × gj_S) (P := fun x => fr9 σ0 x.2.2) ?_ (fun _ _ => ?_) | refine op_bT (fun _ => ?_) | refine op_el (by assumption) (fun _ _ => ?_) (fun _ _ => ?_) | refine op_some ?_))
  all_goals (try dsimp only [gj_K])
  all_goals (repeat' (first | exact True.intro | with_reducible assumption | with_reducible refine fr9_I ?_ ?_ | with_reducible refine fr9_J ?_ ?_ | omega | exact fp_55 (by assumption) | exact fp_164 (by assumption) | refine ⟨?_, ?_⟩))
theorem lp_X9_keeps_l52 {σ0 : gj_S}   (n : Nat) (a : (Int32 × gj_S)) (h0 : fr9 σ0 a.2) : OP (gj_lp (fb_X9_keeps_l52 ) n a) (fun r : gj_S => fr9 σ0 r) := op_lp (I := fun a : (Int32 × gj_S) => fr9 σ0 a.2) (J := fun r : gj_S => fr9 σ0 r) (fun a h => w_fb_X9_keeps_l52 h) n a h0
set_option maxHeartbeats 2000000 in
theorem w_X9_keeps {σ0 : gj_S} {σ : gj_S}  (h0 : fr9 σ0 σ) : OP (f_X9_keeps σ) (fun r : gj_S => fr9 σ0 r) := by
  unfold f_X9_keeps
  repeat' (with_reducible (first | exact op_none | refine op_if (fun _ => ?_) (fun _ => ?_) | refine lp_X9_keeps_l11 (σ0 := σ0) _ _ ?_ | refine lp_X9_keeps_l52 (σ0 := σ0) _ _ ?_ | refine op_bind (lp_X9_keeps_l11 (σ0 := σ0) _ _ ?_) (fun _ _ => ?_) | refine op_bind (lp_X9_keeps_l52 (σ0 := σ0) _ _ ?_) (fun _ _ => ?_) | refine op_bind (α := gj_S) (P := fun x => fr9 σ0 x) ?_ (fun _ _ => ?_) | refine op_bind (α := Int32 × gj_S) (P := fun x => fr9 σ0 x.2) ?_ (fun _ _ => ?_) | refine op_bind (α := Int32 × Int32 × gj_S) (P := fun x => fr9 σ0 x.2.2) ?_ (fun _ _ => ?_) | refine op_bT (fun _ => ?_) | refine op_el (by assumption) (fun _ _ => ?_) (fun _ _ => ?_) | refine op_some ?_))
  all_goals (try dsimp only [gj_K])
  all_goals (repeat' (first | exact True.intro | with_reducible assumption | with_reducible refine fr9_I ?_ ?_ | with_reducible refine fr9_J ?_ ?_ | omega | exact fp_55 (by assumption) | exact fp_164 (by assumption) | refine ⟨?_, ?_⟩))
set_option maxHeartbeats 2000000 in
theorem w_X9_step {σ0 : gj_S} {σ : gj_S}  (h0 : fr9 σ0 σ) : OP (f_X9_step σ) (fun r : (Int32 × gj_S) => fr9 σ0 r.2) := by
  unfold f_X9_step
  repeat' (with_reducible (first | exact op_none | refine op_if (fun _ => ?_) (fun _ => ?_) | refine w_X9_isEnd (σ0 := σ0) ?_ | refine w_X9_pivot (σ0 := σ0) ?_ | refine w_X9_keeps (σ0 := σ0) ?_ | refine op_bind (w_X9_isEnd (σ0 := σ0) ?_) (fun _ _ => ?_) | refine op_bind (w_X9_pivot (σ0 := σ0) ?_) (fun _ _ => ?_) | refine op_bind (w_X9_keeps (σ0 := σ0) ?_) (fun _ _ => ?_) | refine op_bind (α := gj_S) (P := fun x => fr9 σ0 x) ?_ (fun _ _ => ?_) | refine op_bind (α := Int32 × gj_S) (P := fun x => fr9 σ0 x.2) ?_ (fun _ _ => ?_) | refine op_bind (α := Int32 × Int32 × gj_S) (P := fun x => fr9 σ0 x.2.2) ?_ (fun _ _ => ?_) | refine op_bT (fun _ => ?_) | refine op_el (by assumption) (fun _ _ => ?_) (fun _ _ => ?_) | refine op_some ?_))
  all_goals (try dsimp only [gj_K])
  all_goals (repeat' (first | exact True.intro | with_reducible assumption | with_reducible refine fr9_I ?_ ?_ | with_reducible refine fr9_J ?_ ?_ | omega | exact fp_55 (by assumption) | exact fp_164 (by assumption) | refine ⟨?_, ?_⟩))
set_option maxHeartbeats 2000000 in
theorem w_fb_X9_run_l34 {σ0 : gj_S} {b1 : Int32} {a10034 : (Int32 × gj_S)}  (h0 : fr9 σ0 a10034.2) : OP (fb_X9_run_l34 b1 a10034) (fun r : ((Int32 × gj_S) ⊕ (Int32 × gj_S)) => gj_K (fun u103 : (Int32 × gj_S) => fr9 σ0 u103.2) (fun v103 : (Int32 × gj_S) => fr9 σ0 v103.2) r) := by
  unfold fb_X9_run_l34
  repeat' (with_reducible (first | exact op_none | refine op_if (fun _ => ?_) (fun _ => ?_) | refine w_X9_pivot (σ0 := σ0) ?_ | refine op_bind (w_X9_pivot (σ0 := σ0) ?_) (fun _ _ => ?_) | refine op_bind (α := gj_S) (P := fun x => fr9 σ0 x) ?_ (fun _ _ => ?_) | refine op_bind (α := Int32 × gj_S) (P := fun x => fr9 σ0 x.2) ?_ (fun _ _ => ?_) | refine op_bind (α := Int32 × Int32 × gj_S) (P := fun x => fr9 σ0 x.2.2) ?_ (fun _ _ => ?_) | refine op_bT (fun _ => ?_) | refine op_el (by assumption) (fun _ _ => ?_) (fun _ _ => ?_) | refine op_some ?_))
  all_goals (try dsimp only [gj_K])
  all_goals (repeat' (first | exact True.intro | with_reducible assumption | with_reducible refine fr9_I ?_ ?_ | with_reducible refine fr9_J ?_ ?_ | omega | exact fp_55 (by assumption) | exact fp_164 (by assumption) | refine ⟨?_, ?_⟩))
theorem lp_X9_run_l34 {σ0 : gj_S} {b1 : Int32}  (n : Nat) (a : (Int32 × gj_S)) (h0 : fr9 σ0 a.2) : OP (gj_lp (fb_X9_run_l34 b1) n a) (fun r : (Int32 × gj_S) => fr9 σ0 r.2) := op_lp (I := fun a : (Int32 × gj_S) => fr9 σ0 a.2) (J := fun r : (Int32 × gj_S) => fr9 σ0 r.2) (fun a h => w_fb_X9_run_l34 h) n a h0
set_option maxHeartbeats 2000000 in
theorem w_X9_run {σ0 : gj_S} {b1 : Int32} {σ : gj_S}  (h0 : fr9 σ0 σ) : OP (f_X9_run b1 σ) (fun r : (Int32 × gj_S) => fr9 σ0 r.2) := by
  unfold f_X9_run
  repeat' (with_reducible (first | exact op_none | refine op_if (fun _ => ?_) (fun _ => ?_) | refine w_X9_isEnd (σ0 := σ0) ?_ | refine w_X9_keeps (σ0 := σ0) ?_ | refine lp_X9_run_l34 (σ0 := σ0) _ _ ?_ | refine op_bind (w_X9_isEnd (σ0 := σ0) ?_) (fun _ _ => ?_) | refine op_bind (w_X9_keeps (σ0 := σ0) ?_) (fun _ _ => ?_) | refine op_bind (lp_X9_run_l34 (σ0 := σ0) _ _ ?_) (fun _ _ => ?_) | refine op_bind (α := gj_S) (P := fun x => fr9 σ0 x) ?_ (fun _ _ => ?_) | refine op_bind (α := Int32 × gj_S) (P := fun x => fr9 σ0 x.2) ?_ (fun _ _ => ?_) | refine op_bind (α := Int32 × Int32 × gj_S) (P := fun x => fr9 σ0 x.2.2) ?_ (fun _ _ => ?_) | refine op_bT (fun _ => ?_) | refine op_el (by assumption) (fun _ _ => ?_) (fun _ _ => ?_) | refine op_some ?_))
  all_goals (try dsimp only [gj_K])
  all_goals (repeat' (first | exact True.intro | with_reducible assumption | with_reducible refine fr9_I ?_ ?_ | with_reducible refine fr9_J ?_ ?_ | omega | exact fp_55 (by assumption) | exact fp_164 (by assumption) | refine ⟨?_, ?_⟩))
set_option maxHeartbeats 2000000 in
theorem w_X9_log {σ0 : gj_S} {b1 : Int32} {b2 : Int32} {σ : gj_S}  (h0 : fr9 σ0 σ) : OP (f_X9_log b1 b2 σ) (fun r : (Int32 × gj_S) => fr9 σ0 r.2) := by
  unfold f_X9_log
  repeat' (with_reducible (first | exact op_none | refine op_if (fun _ => ?_) (fun _ => ?_) | refine op_bind (α := gj_S) (P := fun x => fr9 σ0 x) ?_ (fun _ _ => ?_) | refine op_bind (α := Int32 × gj_S) (P := fun x => fr9 σ0 x.2) ?_ (fun _ _ => ?_) | refine op_bind (α := Int32 × Int32 × gj_S) (P := fun x => fr9 σ0 x.2.2) ?_ (fun _ _ => ?_) | refine op_bT (fun _ => ?_) | refine op_el (by assumption) (fun _ _ => ?_) (fun _ _ => ?_) | refine op_some ?_))
  all_goals (try dsimp only [gj_K])
  all_goals (repeat' (first | exact True.intro | with_reducible assumption | with_reducible refine fr9_I ?_ ?_ | with_reducible refine fr9_J ?_ ?_ | omega | exact fp_55 (by assumption) | exact fp_164 (by assumption) | refine ⟨?_, ?_⟩))
set_option maxHeartbeats 2000000 in
theorem w_X9_cost {σ0 : gj_S} {σ : gj_S}  (h0 : fr9 σ0 σ) : OP (f_X9_cost σ) (fun r : (Int32 × gj_S) => fr9 σ0 r.2) := by
  unfold f_X9_cost
  repeat' (with_reducible (first | exact op_none | refine op_if (fun _ => ?_) (fun _ => ?_) | refine op_bind (α := gj_S) (P := fun x => fr9 σ0 x) ?_ (fun _ _ => ?_) | refine op_bind (α := Int32 × gj_S) (P := fun x => fr9 σ0 x.2) ?_ (fun _ _ => ?_) | refine op_bind (α := Int32 × Int32 × gj_S) (P := fun x => fr9 σ0 x.2.2) ?_ (fun _ _ => ?_) | refine op_bT (fun _ => ?_) | refine op_el (by assumption) (fun _ _ => ?_) (fun _ _ => ?_) | refine op_some ?_))
  all_goals (try dsimp only [gj_K])
  all_goals (repeat' (first | exact True.intro | with_reducible assumption | with_reducible refine fr9_I ?_ ?_ | with_reducible refine fr9_J ?_ ?_ | omega | exact fp_55 (by assumption) | exact fp_164 (by assumption) | refine ⟨?_, ?_⟩))
set_option maxHeartbeats 2000000 in
theorem w_X9_bill {σ0 : gj_S} {b1 : Int32} {b2 : Int32} {σ : gj_S}  (h0 : fr9 σ0 σ) : OP (f_X9_bill b1 b2 σ) (fun r : (Int32 × gj_S) => fr9 σ0 r.2) := by
  unfold f_X9_bill
  repeat' (with_reducible (first | exact op_none | refine op_if (fun _ => ?_) (fun _ => ?_) | refine op_bind (α := gj_S) (P := fun x => fr9 σ0 x) ?_ (fun _ _ => ?_) | refine op_bind (α := Int32 × gj_S) (P := fun x => fr9 σ0 x.2) ?_ (fun _ _ => ?_) | refine op_bind (α := Int32 × Int32 × gj_S) (P := fun x => fr9 σ0 x.2.2) ?_ (fun _ _ => ?_) | refine op_bT (fun _ => ?_) | refine op_el (by assumption) (fun _ _ => ?_) (fun _ _ => ?_) | refine op_some ?_))
  all_goals (try dsimp only [gj_K])
  all_goals (repeat' (first | exact True.intro | with_reducible assumption | with_reducible refine fr9_I ?_ ?_ | with_reducible refine fr9_J ?_ ?_ | omega | exact fp_55 (by assumption) | exact fp_164 (by assumption) | refine ⟨?_, ?_⟩))
set_option maxHeartbeats 2000000 in
theorem w_X9_total {σ0 : gj_S} {σ : gj_S}  (h0 : fr9 σ0 σ) : OP (f_X9_total σ) (fun r : (Int64 × gj_S) => fr9 σ0 r.2) := by
  unfold f_X9_total
  repeat' (with_reducible (first | exact op_none | refine op_if (fun _ => ?_) (fun _ => ?_) | refine op_bind (α := gj_S) (P := fun x => fr9 σ0 x) ?_ (fun _ _ => ?_) | refine op_bind (α := Int32 × gj_S) (P := fun x => fr9 σ0 x.2) ?_ (fun _ _ => ?_) | refine op_bind (α := Int32 × Int32 × gj_S) (P := fun x => fr9 σ0 x.2.2) ?_ (fun _ _ => ?_) | refine op_bT (fun _ => ?_) | refine op_el (by assumption) (fun _ _ => ?_) (fun _ _ => ?_) | refine op_some ?_))
  all_goals (try dsimp only [gj_K])
  all_goals (repeat' (first | exact True.intro | with_reducible assumption | with_reducible refine fr9_I ?_ ?_ | with_reducible refine fr9_J ?_ ?_ | omega | exact fp_55 (by assumption) | exact fp_164 (by assumption) | refine ⟨?_, ?_⟩))
set_option maxHeartbeats 2000000 in
theorem w_X9_proof {σ0 : gj_S} {σ : gj_S}  (h0 : fr9 σ0 σ) : OP (f_X9_proof σ) (fun r : (Int64 × gj_S) => fr9 σ0 r.2) := by
  unfold f_X9_proof
  repeat' (with_reducible (first | exact op_none | refine op_if (fun _ => ?_) (fun _ => ?_) | refine w_X9_laysTree (σ0 := σ0) ?_ | refine op_bind (w_X9_laysTree (σ0 := σ0) ?_) (fun _ _ => ?_) | refine op_bind (α := gj_S) (P := fun x => fr9 σ0 x) ?_ (fun _ _ => ?_) | refine op_bind (α := Int32 × gj_S) (P := fun x => fr9 σ0 x.2) ?_ (fun _ _ => ?_) | refine op_bind (α := Int32 × Int32 × gj_S) (P := fun x => fr9 σ0 x.2.2) ?_ (fun _ _ => ?_) | refine op_bT (fun _ => ?_) | refine op_el (by assumption) (fun _ _ => ?_) (fun _ _ => ?_) | refine op_some ?_))
  all_goals (try dsimp only [gj_K])
  all_goals (repeat' (first | exact True.intro | with_reducible assumption | with_reducible refine fr9_I ?_ ?_ | with_reducible refine fr9_J ?_ ?_ | omega | exact fp_55 (by assumption) | exact fp_164 (by assumption) | refine ⟨?_, ?_⟩))
set_option maxHeartbeats 2000000 in
theorem w_X9_lack {σ0 : gj_S} {b1 : Int32} {σ : gj_S}  (h0 : fr9 σ0 σ) : OP (f_X9_lack b1 σ) (fun r : (Int32 × gj_S) => fr9 σ0 r.2) := by
  unfold f_X9_lack
  repeat' (with_reducible (first | exact op_none | refine op_if (fun _ => ?_) (fun _ => ?_) | refine op_bind (α := gj_S) (P := fun x => fr9 σ0 x) ?_ (fun _ _ => ?_) | refine op_bind (α := Int32 × gj_S) (P := fun x => fr9 σ0 x.2) ?_ (fun _ _ => ?_) | refine op_bind (α := Int32 × Int32 × gj_S) (P := fun x => fr9 σ0 x.2.2) ?_ (fun _ _ => ?_) | refine op_bT (fun _ => ?_) | refine op_el (by assumption) (fun _ _ => ?_) (fun _ _ => ?_) | refine op_some ?_))
  all_goals (try dsimp only [gj_K])
  all_goals (repeat' (first | exact True.intro | with_reducible assumption | with_reducible refine fr9_I ?_ ?_ | with_reducible refine fr9_J ?_ ?_ | omega | exact fp_55 (by assumption) | exact fp_164 (by assumption) | refine ⟨?_, ?_⟩))
set_option maxHeartbeats 2000000 in
theorem w_X9_cheaper {σ0 : gj_S} {b1 : Int32} {b2 : Int32} {b3 : Int32} {σ : gj_S}  (h0 : fr9 σ0 σ) : OP (f_X9_cheaper b1 b2 b3 σ) (fun r : gj_S => fr9 σ0 r) := by
  unfold f_X9_cheaper
  repeat' (with_reducible (first | exact op_none | refine op_if (fun _ => ?_) (fun _ => ?_) | refine op_bind (α := gj_S) (P := fun x => fr9 σ0 x) ?_ (fun _ _ => ?_) | refine op_bind (α := Int32 × gj_S) (P := fun x => fr9 σ0 x.2) ?_ (fun _ _ => ?_) | refine op_bind (α := Int32 × Int32 × gj_S) (P := fun x => fr9 σ0 x.2.2) ?_ (fun _ _ => ?_) | refine op_bT (fun _ => ?_) | refine op_el (by assumption) (fun _ _ => ?_) (fun _ _ => ?_) | refine op_some ?_))
  all_goals (try dsimp only [gj_K])
  all_goals (repeat' (first | exact True.intro | with_reducible assumption | with_reducible refine fr9_I ?_ ?_ | with_reducible refine fr9_J ?_ ?_ | omega | exact fp_55 (by assumption) | exact fp_164 (by assumption) | refine ⟨?_, ?_⟩))
set_option maxHeartbeats 2000000 in
theorem w_fb_X9_unit_l34 {σ0 : gj_S} {b1 : Int32} {b2 : Int32} {a10034 : (Int32 × gj_S)}  (h0 : fr9 σ0 a10034.2) : OP (fb_X9_unit_l34 b1 b2 a10034) (fun r : (gj_S ⊕ (Int32 × gj_S)) => gj_K (fun u105 : gj_S => fr9 σ0 u105) (fun v105 : (Int32 × gj_S) => fr9 σ0 v105.2) r) := by
  unfold fb_X9_unit_l34
  repeat' (with_reducible (first | exact op_none | refine op_if (fun _ => ?_) (fun _ => ?_) | refine op_bind (α := gj_S) (P := fun x => fr9 σ0 x) ?_ (fun _ _ => ?_) | refine op_bind (α := Int32 × gj_S) (P := fun x => fr9 σ0 x.2) ?_ (fun _ _ => ?_) | refine op_bind (α := Int32 × Int32 × gj_S) (P := fun x => fr9 σ0 x.2.2) ?_ (fun _ _ => ?_) | refine op_bT (fun _ => ?_) | refine op_el (by assumption) (fun _ _ => ?_) (fun _ _ => ?_) | refine op_some ?_))
  all_goals (try dsimp only [gj_K])
  all_goals (repeat' (first | exact True.intro | with_reducible assumption | with_reducible refine fr9_I ?_ ?_ | with_reducible refine fr9_J ?_ ?_ | omega | exact fp_55 (by assumption) | exact fp_164 (by assumption) | refine ⟨?_, ?_⟩))
theorem lp_X9_unit_l34 {σ0 : gj_S} {b1 : Int32} {b2 : Int32}  (n : Nat) (a : (Int32 × gj_S)) (h0 : fr9 σ0 a.2) : OP (gj_lp (fb_X9_unit_l34 b1 b2) n a) (fun r : gj_S => fr9 σ0 r) := op_lp (I := fun a : (Int32 × gj_S) => fr9 σ0 a.2) (J := fun r : gj_S => fr9 σ0 r) (fun a h => w_fb_X9_unit_l34 h) n a h0
set_option maxHeartbeats 2000000 in
theorem w_fb_X9_unit_l78 {σ0 : gj_S} {b2 : Int32} {b3 : Int32} {a10078 : (Int32 × gj_S)}  (h0 : fr9 σ0 a10078.2) : OP (fb_X9_unit_l78 b2 b3 a10078) (fun r : (gj_S ⊕ (Int32 × gj_S)) => gj_K (fun u106 : gj_S => fr9 σ0 u106) (fun v106 : (Int32 × gj_S) => fr9 σ0 v106.2) r) := by
  unfold fb_X9_unit_l78
  repeat' (with_reducible (first | exact op_none | refine op_if (fun _ => ?_) (fun _ => ?_) | refine w_X9_cheaper (σ0 := σ0) ?_ | refine op_bind (w_X9_cheaper (σ0 := σ0) ?_) (fun _ _ => ?_) | refine op_bind (α := gj_S) (P := fun x => fr9 σ0 x) ?_ (fun _ _ => ?_) | refine op_bind (α := Int32 × gj_S) (P := fun x => fr9 σ0 x.2) ?_ (fun _ _ => ?_) | refine op_bind (α := Int32 × Int32 × gj_S) (P := fun x => fr9 σ0 x.2.2) ?_ (fun _ _ => ?_) | refine op_bT (fun _ => ?_) | refine op_el (by assumption) (fun _ _ => ?_) (fun _ _ => ?_) | refine op_some ?_))
  all_goals (try dsimp only [gj_K])
  all_goals (repeat' (first | exact True.intro | with_reducible assumption | with_reducible refine fr9_I ?_ ?_ | with_reducible refine fr9_J ?_ ?_ | omega | exact fp_55 (by assumption) | exact fp_164 (by assumption) | refine ⟨?_, ?_⟩))
theorem lp_X9_unit_l78 {σ0 : gj_S} {b2 : Int32} {b3 : Int32}  (n : Nat) (a : (Int32 × gj_S)) (h0 : fr9 σ0 a.2) : OP (gj_lp (fb_X9_unit_l78 b2 b3) n a) (fun r : gj_S => fr9 σ0 r) := op_lp (I := fun a : (Int32 × gj_S) => fr9 σ0 a.2) (J := fun r : gj_S => fr9 σ0 r) (fun a h => w_fb_X9_unit_l78 h) n a h0
set_option maxHeartbeats 2000000 in
theorem w_fb_X9_unit_l65 {σ0 : gj_S} {b2 : Int32} {a10065 : (Int32 × gj_S)}  (h0 : fr9 σ0 a10065.2) : OP (fb_X9_unit_l65 b2 a10065) (fun r : (gj_S ⊕ (Int32 × gj_S)) => gj_K (fun u107 : gj_S => fr9 σ0 u107) (fun v107 : (Int32 × gj_S) => fr9 σ0 v107.2) r) := by
  unfold fb_X9_unit_l65
  repeat' (with_reducible (first | exact op_none | refine op_if (fun _ => ?_) (fun _ => ?_) | refine lp_X9_unit_l78 (σ0 := σ0) _ _ ?_ | refine op_bind (lp_X9_unit_l78 (σ0 := σ0) _ _ ?_) (fun _ _ => ?_) | refine op_bind (α := gj_S) (P := fun x => fr9 σ0 x) ?_ (fun _ _ => ?_) | refine op_bind (α := Int32 × gj_S) (P := fun x => fr9 σ0 x.2) ?_ (fun _ _ => ?_) | refine op_bind (α := Int32 × Int32 × gj_S) (P := fun x => fr9 σ0 x.2.2) ?_ (fun _ _ => ?_) | refine op_bT (fun _ => ?_) | refine op_el (by assumption) (fun _ _ => ?_) (fun _ _ => ?_) | refine op_some ?_))
  all_goals (try dsimp only [gj_K])
  all_goals (repeat' (first | exact True.intro | with_reducible assumption | with_reducible refine fr9_I ?_ ?_ | with_reducible refine fr9_J ?_ ?_ | omega | exact fp_55 (by assumption) | exact fp_164 (by assumption) | refine ⟨?_, ?_⟩))
theorem lp_X9_unit_l65 {σ0 : gj_S} {b2 : Int32}  (n : Nat) (a : (Int32 × gj_S)) (h0 : fr9 σ0 a.2) : OP (gj_lp (fb_X9_unit_l65 b2) n a) (fun r : gj_S => fr9 σ0 r) := op_lp (I := fun a : (Int32 × gj_S) => fr9 σ0 a.2) (J := fun r : gj_S => fr9 σ0 r) (fun a h => w_fb_X9_unit_l65 h) n a h0
set_option maxHeartbeats 2000000 in
theorem w_X9_unit {σ0 : gj_S} {b1 : Int32} {b2 : Int32} {σ : gj_S}  (h0 : fr9 σ0 σ) : OP (f_X9_unit b1 b2 σ) (fun r : (Int32 × gj_S) => fr9 σ0 r.2) := by
  unfold f_X9_unit
  repeat' (with_reducible (first | exact op_none | refine op_if (fun _ => ?_) (fun _ => ?_) | refine w_X9_isEnd (σ0 := σ0) ?_ | refine lp_X9_unit_l34 (σ0 := σ0) _ _ ?_ | refine lp_X9_unit_l65 (σ0 := σ0) _ _ ?_ | refine op_bind (w_X9_isEnd (σ0 := σ0) ?_) (fun _ _ => ?_) | refine op_bind (lp_X9_unit_l34 (σ0 := σ0) _ _ ?_) (fun _ _ => ?_) | refine op_bind (lp_X9_unit_l65 (σ0 := σ0) _ _ ?_) (fun _ _ => ?_) | refine op_bind (α := gj_S) (P := fun x => fr9 σ0 x) ?_ (fun _ _ => ?_) | refine op_bind (α := Int32 × gj_S) (P := fun x => fr9 σ0 x.2) ?_ (fun _ _ => ?_) | refine op_bind (α := Int32 × Int32 × gj_S) (P := fun x => fr9 σ0 x.2.2) ?_ (fun _ _ => ?_) | refine op_bT (fun _ => ?_) | refine op_el (by assumption) (fun _ _ => ?_) (fun _ _ => ?_) | refine op_some ?_))
  all_goals (try dsimp only [gj_K])
  all_goals (repeat' (first | exact True.intro | with_reducible assumption | with_reducible refine fr9_I ?_ ?_ | with_reducible refine fr9_J ?_ ?_ | omega | exact fp_55 (by assumption) | exact fp_164 (by assumption) | refine ⟨?_, ?_⟩))
set_option maxHeartbeats 2000000 in
theorem w_fb_X9_range_l41 {σ0 : gj_S} {b1 : Int32} {b2 : Int32} {b3 : Int32} {a10041 : (Int32 × Int32 × gj_S)}  (h0 : fr9 σ0 a10041.2.2) : OP (fb_X9_range_l41 b1 b2 b3 a10041) (fun r : ((Int32 × gj_S) ⊕ (Int32 × Int32 × gj_S)) => gj_K (fun u111 : (Int32 × gj_S) => fr9 σ0 u111.2) (fun v111 : (Int32 × Int32 × gj_S) => fr9 σ0 v111.2.2) r) := by
  unfold fb_X9_range_l41
  repeat' (with_reducible (first | exact op_none | refine op_if (fun _ => ?_) (fun _ => ?_) | refine w_X9_isEnd (σ0 := σ0) ?_ | refine op_bind (w_X9_isEnd (σ0 := σ0) ?_) (fun _ _ => ?_) | refine op_bind (α := gj_S) (P := fun x => fr9 σ0 x) ?_ (fun _ _ => ?_) | refine op_bind (α := Int32 × gj_S) (P := fun x => fr9 σ0 x.2) ?_ (fun _ _ => ?_) | refine op_bind (α := Int32 × Int32 × gj_S) (P := fun x => fr9 σ0 x.2.2) ?_ (fun _ _ => ?_) | refine op_bT (fun _ => ?_) | refine op_el (by assumption) (fun _ _ => ?_) (fun _ _ => ?_) | refine op_some ?_))
  all_goals (try dsimp only [gj_K])
  all_goals (repeat' (first | exact True.intro | with_reducible assumption | with_reducible refine fr9_I ?_ ?_ | with_reducible refine fr9_J ?_ ?_ | omega | exact fp_55 (by assumption) | exact fp_164 (by assumption) | refine ⟨?_, ?_⟩))
theorem lp_X9_range_l41 {σ0 : gj_S} {b1 : Int32} {b2 : Int32} {b3 : Int32}  (n : Nat) (a : (Int32 × Int32 × gj_S)) (h0 : fr9 σ0 a.2.2) : OP (gj_lp (fb_X9_range_l41 b1 b2 b3) n a) (fun r : (Int32 × gj_S) => fr9 σ0 r.2) := op_lp (I := fun a : (Int32 × Int32 × gj_S) => fr9 σ0 a.2.2) (J := fun r : (Int32 × gj_S) => fr9 σ0 r.2) (fun a h => w_fb_X9_range_l41 h) n a h0
set_option maxHeartbeats 2000000 in
theorem w_X9_range {σ0 : gj_S} {b1 : Int32} {b2 : Int32} {σ : gj_S}  (h0 : fr9 σ0 σ) : OP (f_X9_range b1 b2 σ) (fun r : (Int32 × gj_S) => fr9 σ0 r.2) := by
  unfold f_X9_range
  repeat' (with_reducible (first | exact op_none | refine op_if (fun _ => ?_) (fun _ => ?_) | refine w_X9_isEnd (σ0 := σ0) ?_ | refine lp_X9_range_l41 (σ0 := σ0) _ _ ?_ | refine op_bind (w_X9_isEnd (σ0 := σ0) ?_) (fun _ _ => ?_) | refine op_bind (lp_X9_range_l41 (σ0 := σ0) _ _ ?_) (fun _ _ => ?_) | refine op_bind (α := gj_S) (P := fun x => fr9 σ0 x) ?_ (fun _ _ => ?_) | refine op_bind (α := Int32 × gj_S) (P := fun x => fr9 σ0 x.2) ?_ (fun _ _ => ?_) | refine op_bind (α := Int32 × Int32 × gj_S) (P := fun x => fr9 σ0 x.2.2) ?_ (fun _ _ => ?_) | refine op_bT (fun _ => ?_) | refine op_el (by assumption) (fun _ _ => ?_) (fun _ _ => ?_) | refine op_some ?_))
  all_goals (try dsimp only [gj_K])
  all_goals (repeat' (first | exact True.intro | with_reducible assumption | with_reducible refine fr9_I ?_ ?_ | with_reducible refine fr9_J ?_ ?_ | omega | exact fp_55 (by assumption) | exact fp_164 (by assumption) | refine ⟨?_, ?_⟩))
set_option maxHeartbeats 2000000 in
theorem w_fb_X9_tried_l72 {σ0 : gj_S} {b1 : Int32} {b2 : Int32} {b3 : Int32} {b4 : Int32} {a10072 : (Int32 × gj_S)}  (h0 : fr9 σ0 a10072.2) : OP (fb_X9_tried_l72 b1 b2 b3 b4 a10072) (fun r : (gj_S ⊕ (Int32 × gj_S)) => gj_K (fun u113 : gj_S => fr9 σ0 u113) (fun v113 : (Int32 × gj_S) => fr9 σ0 v113.2) r) := by
  unfold fb_X9_tried_l72
  repeat' (with_reducible (first | exact op_none | refine op_if (fun _ => ?_) (fun _ => ?_) | refine op_bind (α := gj_S) (P := fun x => fr9 σ0 x) ?_ (fun _ _ => ?_) | refine op_bind (α := Int32 × gj_S) (P := fun x => fr9 σ0 x.2) ?_ (fun _ _ => ?_) | refine op_bind (α := Int32 × Int32 × gj_S) (P := fun x => fr9 σ0 x.2.2) ?_ (fun _ _ => ?_) | refine op_bT (fun _ => ?_) | refine op_el (by assumption) (fun _ _ => ?_) (fun _ _ => ?_) | refine op_some ?_))
  all_goals (try dsimp only [gj_K])
  all_goals (repeat' (first | exact True.intro | with_reducible assumption | with_reducible refine fr9_I ?_ ?_ | with_reducible refine fr9_J ?_ ?_ | omega | exact fp_55 (by assumption) | exact fp_164 (by assumption) | refine ⟨?_, ?_⟩))
theorem lp_X9_tried_l72 {σ0 : gj_S} {b1 : Int32} {b2 : Int32} {b3 : Int32} {b4 : Int32}  (n : Nat) (a : (Int32 × gj_S)) (h0 : fr9 σ0 a.2) : OP (gj_lp (fb_X9_tried_l72 b1 b2 b3 b4) n a) (fun r : gj_S => fr9 σ0 r) := op_lp (I := fun a : (Int32 × gj_S) => fr9 σ0 a.2) (J := fun r : gj_S => fr9 σ0 r) (fun a h => w_fb_X9_tried_l72 h) n a h0
set_option maxHeartbeats 2000000 in
theorem w_fb_X9_tried_l135 {σ0 : gj_S} {b4 : Int32} {a10135 : (Int32 × gj_S)}  (h0 : fr9 σ0 a10135.2) : OP (fb_X9_tried_l135 b4 a10135) (fun r : (gj_S ⊕ (Int32 × gj_S)) => gj_K (fun u114 : gj_S => fr9 σ0 u114) (fun v114 : (Int32 × gj_S) => fr9 σ0 v114.2) r) := by
  unfold fb_X9_tried_l135
  repeat' (with_reducible (first | exact op_none | refine op_if (fun _ => ?_) (fun _ => ?_) | refine w_X9_pivot (σ0 := σ0) ?_ | refine op_bind (w_X9_pivot (σ0 := σ0) ?_) (fun _ _ => ?_) | refine op_bind (α := gj_S) (P := fun x => fr9 σ0 x) ?_ (fun _ _ => ?_) | refine op_bind (α := Int32 × gj_S) (P := fun x => fr9 σ0 x.2) ?_ (fun _ _ => ?_) | refine op_bind (α := Int32 × Int32 × gj_S) (P := fun x => fr9 σ0 x.2.2) ?_ (fun _ _ => ?_) | refine op_bT (fun _ => ?_) | refine op_el (by assumption) (fun _ _ => ?_) (fun _ _ => ?_) | refine op_some ?_))
  all_goals (try dsimp only [gj_K])
  all_goals (repeat' (first | exact True.intro | with_reducible assumption | with_reducible refine fr9_I ?_ ?_ | with_reducible refine fr9_J ?_ ?_ | omega | exact fp_55 (by assumption) | exact fp_164 (by assumption) | refine ⟨?_, ?_⟩))
theorem lp_X9_tried_l135 {σ0 : gj_S} {b4 : Int32}  (n : Nat) (a : (Int32 × gj_S)) (h0 : fr9 σ0 a.2) : OP (gj_lp (fb_X9_tried_l135 b4) n a) (fun r : gj_S => fr9 σ0 r) := op_lp (I := fun a : (Int32 × gj_S) => fr9 σ0 a.2) (J := fun r : gj_S => fr9 σ0 r) (fun a h => w_fb_X9_tried_l135 h) n a h0
set_option maxHeartbeats 2000000 in
theorem w_fb_X9_tried_l179 {σ0 : gj_S} {b6 : Int32} {a10179 : (Int32 × gj_S)}  (h0 : fr9 σ0 a10179.2) : OP (fb_X9_tried_l179 b6 a10179) (fun r : (gj_S ⊕ (Int32 × gj_S)) => gj_K (fun u115 : gj_S => fr9 σ0 u115) (fun v115 : (Int32 × gj_S) => fr9 σ0 v115.2) r) := by
  unfold fb_X9_tried_l179
  repeat' (with_reducible (first | exact op_none | refine op_if (fun _ => ?_) (fun _ => ?_) | refine op_bind (α := gj_S) (P := fun x => fr9 σ0 x) ?_ (fun _ _ => ?_) | refine op_bind (α := Int32 × gj_S) (P := fun x => fr9 σ0 x.2) ?_ (fun _ _ => ?_) | refine op_bind (α := Int32 × Int32 × gj_S) (P := fun x => fr9 σ0 x.2.2) ?_ (fun _ _ => ?_) | refine op_bT (fun _ => ?_) | refine op_el (by assumption) (fun _ _ => ?_) (fun _ _ => ?_) | refine op_some ?_))
  all_goals (try dsimp only [gj_K])
  all_goals (repeat' (first | exact True.intro | with_reducible assumption | with_reducible refine fr9_I ?_ ?_ | with_reducible refine fr9_J ?_ ?_ | omega | exact fp_55 (by assumption) | exact fp_164 (by assumption) | refine ⟨?_, ?_⟩))
theorem lp_X9_tried_l179 {σ0 : gj_S} {b6 : Int32}  (n : Nat) (a : (Int32 × gj_S)) (h0 : fr9 σ0 a.2) : OP (gj_lp (fb_X9_tried_l179 b6) n a) (fun r : gj_S => fr9 σ0 r) := op_lp (I := fun a : (Int32 × gj_S) => fr9 σ0 a.2) (J := fun r : gj_S => fr9 σ0 r) (fun a h => w_fb_X9_tried_l179 h) n a h0
set_option maxHeartbeats 2000000 in
theorem w_X9_tried {σ0 : gj_S} {b1 : Int32} {b2 : Int32} {b3 : Int32} {b4 : Int32} {σ : gj_S}  (h0 : fr9 σ0 σ) : OP (f_X9_tried b1 b2 b3 b4 σ) (fun r : (Int32 × gj_S) => fr9 σ0 r.2) := by
  unfold f_X9_tried
  repeat' (with_reducible (first | exact op_none | refine op_if (fun _ => ?_) (fun _ => ?_) | refine w_X9_begins (σ0 := σ0) ?_ | refine lp_X9_tried_l72 (σ0 := σ0) _ _ ?_ | refine lp_X9_tried_l135 (σ0 := σ0) _ _ ?_ | refine lp_X9_tried_l179 (σ0 := σ0) _ _ ?_ | refine op_bind (w_X9_begins (σ0 := σ0) ?_) (fun _ _ => ?_) | refine op_bind (lp_X9_tried_l72 (σ0 := σ0) _ _ ?_) (fun _ _ => ?_) | refine op_bind (lp_X9_tried_l135 (σ0 := σ0) _ _ ?_) (fun _ _ => ?_) | refine op_bind (lp_X9_tried_l179 (σ0 := σ0) _ _ ?_) (fun _ _ => ?_) | refine op_bind (α := gj_S) (P := fun x => fr9 σ0 x) ?_ (fun _ _ => ?_) | refine op_bind (α := Int32 × gj_S) (P := fun x => fr9 σ0 x.2) ?_ (fun _ _ => ?_) | refine op_bind (α := Int32 × Int32 × gj_S) (P := fun x => fr9 σ0 x.2.2) ?_ (fun _ _ => ?_) | refine op_bT (fun _ => ?_) | refine op_el (by assumption) (fun _ _ => ?_) (fun _ _ => ?_) | refine op_some ?_))
  all_goals (try dsimp only [gj_K])
  all_goals (repeat' (first | exact True.intro | with_reducible assumption | with_reducible refine fr9_I ?_ ?_ | with_reducible refine fr9_J ?_ ?_ | omega | exact fp_55 (by assumption) | exact fp_164 (by assumption) | refine ⟨?_, ?_⟩))
set_option maxHeartbeats 2000000 in
theorem w_fb_X9_load_l62 {σ0 : gj_S} {b1 : Int32} {b2 : Int32} {σ : gj_S} {a10062 : Int32}  (h0 : fr9 σ0 σ) : OP (fb_X9_load_l62 b1 b2 σ a10062) (fun r : (((Int32 × gj_S) ⊕ Unit) ⊕ Int32) => gj_K (fun u119 : ((Int32 × gj_S) ⊕ Unit) => gj_K (fun u120 : (Int32 × gj_S) => fr9 σ0 u120.2) (fun v120 : Unit => True) u119) (fun v119 : Int32 => True) r) := by
  unfold fb_X9_load_l62
  repeat' (with_reducible (first | exact op_none | refine op_if (fun _ => ?_) (fun _ => ?_) | refine op_bind (α := gj_S) (P := fun x => fr9 σ0 x) ?_ (fun _ _ => ?_) | refine op_bind (α := Int32 × gj_S) (P := fun x => fr9 σ0 x.2) ?_ (fun _ _ => ?_) | refine op_bind (α := Int32 × Int32 × gj_S) (P := fun x => fr9 σ0 x.2.2) ?_ (fun _ _ => ?_) | refine op_bT (fun _ => ?_) | refine op_el (by assumption) (fun _ _ => ?_) (fun _ _ => ?_) | refine op_some ?_))
  all_goals (try dsimp only [gj_K])
  all_goals (repeat' (first | exact True.intro | with_reducible assumption | with_reducible refine fr9_I ?_ ?_ | with_reducible refine fr9_J ?_ ?_ | omega | exact fp_55 (by assumption) | exact fp_164 (by assumption) | refine ⟨?_, ?_⟩))
theorem lp_X9_load_l62 {σ0 : gj_S} {b1 : Int32} {b2 : Int32} {σ : gj_S}  (n : Nat) (a : Int32) (h0 : fr9 σ0 σ) : OP (gj_lp (fb_X9_load_l62 b1 b2 σ) n a) (fun r : ((Int32 × gj_S) ⊕ Unit) => gj_K (fun u121 : (Int32 × gj_S) => fr9 σ0 u121.2) (fun v121 : Unit => True) r) := op_lp (I := fun _ : Int32 => True) (J := fun r : ((Int32 × gj_S) ⊕ Unit) => gj_K (fun u122 : (Int32 × gj_S) => fr9 σ0 u122.2) (fun v122 : Unit => True) r) (fun a _ x e => by have := w_fb_X9_load_l62 h0 x e; rcases x with x | x; exact this; exact True.intro) n a True.intro
set_option maxHeartbeats 2000000 in
theorem w_fb_X9_load_l126 {σ0 : gj_S} {b1 : Int32} {b2 : Int32} {a10126 : (Int32 × gj_S)}  (h0 : fr9 σ0 a10126.2) : OP (fb_X9_load_l126 b1 b2 a10126) (fun r : (gj_S ⊕ (Int32 × gj_S)) => gj_K (fun u123 : gj_S => fr9 σ0 u123) (fun v123 : (Int32 × gj_S) => fr9 σ0 v123.2) r) := by
  unfold fb_X9_load_l126
  repeat' (with_reducible (first | exact op_none | refine op_if (fun _ => ?_) (fun _ => ?_) | refine op_bind (α := gj_S) (P := fun x => fr9 σ0 x) ?_ (fun _ _ => ?_) | refine op_bind (α := Int32 × gj_S) (P := fun x => fr9 σ0 x.2) ?_ (fun _ _ => ?_) | refine op_bind (α := Int32 × Int32 × gj_S) (P := fun x => fr9 σ0 x.2.2) ?_ (fun _ _ => ?_) | refine op_bT (fun _ => ?_) | refine op_el (by assumption) (fun _ _ => ?_) (fun _ _ => ?_) | refine op_some ?_))
  all_goals (try dsimp only [gj_K])
  all_goals (repeat' (first | exact True.intro | with_reducible assumption | with_reducible refine fr9_I ?_ ?_ | with_reducible refine fr9_J ?_ ?_ | omega | exact fp_55 (by assumption) | exact fp_164 (by assumption) | refine ⟨?_, ?_⟩))
theorem lp_X9_load_l126 {σ0 : gj_S} {b1 : Int32} {b2 : Int32}  (n : Nat) (a : (Int32 × gj_S)) (h0 : fr9 σ0 a.2) : OP (gj_lp (fb_X9_load_l126 b1 b2) n a) (fun r : gj_S => fr9 σ0 r) := op_lp (I := fun a : (Int32 × gj_S) => fr9 σ0 a.2) (J := fun r : gj_S => fr9 σ0 r) (fun a h => w_fb_X9_load_l126 h) n a h0
set_option maxHeartbeats 2000000 in
theorem w_X9_load {σ0 : gj_S} {b1 : Int32} {b2 : Int32} {σ : gj_S}  (h0 : fr9 σ0 σ) : OP (f_X9_load b1 b2 σ) (fun r : (Int32 × gj_S) => fr9 σ0 r.2) := by
  unfold f_X9_load
  repeat' (with_reducible (first | exact op_none | refine op_if (fun _ => ?_) (fun _ => ?_) | refine w_X9_laysTree (σ0 := σ0) ?_ | refine w_X9_keeps (σ0 := σ0) ?_ | refine lp_X9_load_l62 (σ0 := σ0) _ _ ?_ | refine lp_X9_load_l126 (σ0 := σ0) _ _ ?_ | refine op_bind (w_X9_laysTree (σ0 := σ0) ?_) (fun _ _ => ?_) | refine op_bind (w_X9_keeps (σ0 := σ0) ?_) (fun _ _ => ?_) | refine op_bel (lp_X9_load_l62 (σ0 := σ0) _ _ ?_) (fun _ _ => ?_) (fun _ _ => ?_) | refine op_bind (lp_X9_load_l62 (σ0 := σ0) _ _ ?_) (fun _ _ => ?_) | refine op_bind (lp_X9_load_l126 (σ0 := σ0) _ _ ?_) (fun _ _ => ?_) | refine op_bind (α := gj_S) (P := fun x => fr9 σ0 x) ?_ (fun _ _ => ?_) | refine op_bind (α := Int32 × gj_S) (P := fun x => fr9 σ0 x.2) ?_ (fun _ _ => ?_) | refine op_bind (α := Int32 × Int32 × gj_S) (P := fun x => fr9 σ0 x.2.2) ?_ (fun _ _ => ?_) | refine op_bT (fun _ => ?_) | refine op_el (by assumption) (fun _ _ => ?_) (fun _ _ => ?_) | refine op_some ?_))
  all_goals (try dsimp only [gj_K])
  all_goals (repeat' (first | exact True.intro | with_reducible assumption | with_reducible refine fr9_I ?_ ?_ | with_reducible refine fr9_J ?_ ?_ | omega | exact fp_55 (by assumption) | exact fp_164 (by assumption) | refine ⟨?_, ?_⟩))
set_option maxHeartbeats 2000000 in
theorem w_X9_spare {σ0 : gj_S} {b1 : Int32} {b2 : Int32} {σ : gj_S}  (h0 : fr9 σ0 σ) : OP (f_X9_spare b1 b2 σ) (fun r : (Int32 × gj_S) => fr9 σ0 r.2) := by
  unfold f_X9_spare
  repeat' (with_reducible (first | exact op_none | refine op_if (fun _ => ?_) (fun _ => ?_) | refine w_X9_laysTree (σ0 := σ0) ?_ | refine op_bind (w_X9_laysTree (σ0 := σ0) ?_) (fun _ _ => ?_) | refine op_bind (α := gj_S) (P := fun x => fr9 σ0 x) ?_ (fun _ _ => ?_) | refine op_bind (α := Int32 × gj_S) (P := fun x => fr9 σ0 x.2) ?_ (fun _ _ => ?_) | refine op_bind (α := Int32 × Int32 × gj_S) (P := fun x => fr9 σ0 x.2.2) ?_ (fun _ _ => ?_) | refine op_bT (fun _ => ?_) | refine op_el (by assumption) (fun _ _ => ?_) (fun _ _ => ?_) | refine op_some ?_))
  all_goals (try dsimp only [gj_K])
  all_goals (repeat' (first | exact True.intro | with_reducible assumption | with_reducible refine fr9_I ?_ ?_ | with_reducible refine fr9_J ?_ ?_ | omega | exact fp_55 (by assumption) | exact fp_164 (by assumption) | refine ⟨?_, ?_⟩))
set_option maxHeartbeats 2000000 in
theorem w_X9_retold {σ0 : gj_S} {b1 : Int32} {b2 : Int32} {σ : gj_S}  (h0 : fr9 σ0 σ) : OP (f_X9_retold b1 b2 σ) (fun r : (Int32 × gj_S) => fr9 σ0 r.2) := by
  unfold f_X9_retold
  repeat' (with_reducible (first | exact op_none | refine op_if (fun _ => ?_) (fun _ => ?_) | refine w_X9_keeps (σ0 := σ0) ?_ | refine op_bind (w_X9_keeps (σ0 := σ0) ?_) (fun _ _ => ?_) | refine op_bind (α := gj_S) (P := fun x => fr9 σ0 x) ?_ (fun _ _ => ?_) | refine op_bind (α := Int32 × gj_S) (P := fun x => fr9 σ0 x.2) ?_ (fun _ _ => ?_) | refine op_bind (α := Int32 × Int32 × gj_S) (P := fun x => fr9 σ0 x.2.2) ?_ (fun _ _ => ?_) | refine op_bT (fun _ => ?_) | refine op_el (by assumption) (fun _ _ => ?_) (fun _ _ => ?_) | refine op_some ?_))
  all_goals (try dsimp only [gj_K])
  all_goals (repeat' (first | exact True.intro | with_reducible assumption | with_reducible refine fr9_I ?_ ?_ | with_reducible refine fr9_J ?_ ?_ | omega | exact fp_55 (by assumption) | exact fp_164 (by assumption) | refine ⟨?_, ?_⟩))
set_option maxHeartbeats 2000000 in
theorem w_X9_toll {σ0 : gj_S} {b1 : Int32} {b2 : Int32} {σ : gj_S}  (h0 : fr9 σ0 σ) : OP (f_X9_toll b1 b2 σ) (fun r : (Int32 × gj_S) => fr9 σ0 r.2) := by
  unfold f_X9_toll
  repeat' (with_reducible (first | exact op_none | refine op_if (fun _ => ?_) (fun _ => ?_) | refine w_X9_retold (σ0 := σ0) ?_ | refine op_bind (w_X9_retold (σ0 := σ0) ?_) (fun _ _ => ?_) | refine op_bind (α := gj_S) (P := fun x => fr9 σ0 x) ?_ (fun _ _ => ?_) | refine op_bind (α := Int32 × gj_S) (P := fun x => fr9 σ0 x.2) ?_ (fun _ _ => ?_) | refine op_bind (α := Int32 × Int32 × gj_S) (P := fun x => fr9 σ0 x.2.2) ?_ (fun _ _ => ?_) | refine op_bT (fun _ => ?_) | refine op_el (by assumption) (fun _ _ => ?_) (fun _ _ => ?_) | refine op_some ?_))
  all_goals (try dsimp only [gj_K])
  all_goals (repeat' (first | exact True.intro | with_reducible assumption | with_reducible refine fr9_I ?_ ?_ | with_reducible refine fr9_J ?_ ?_ | omega | exact fp_55 (by assumption) | exact fp_164 (by assumption) | refine ⟨?_, ?_⟩))
set_option maxHeartbeats 2000000 in
theorem w_X9_hold {σ0 : gj_S} {b1 : Int32} {b2 : Int32} {σ : gj_S}  (h0 : fr9 σ0 σ) : OP (f_X9_hold b1 b2 σ) (fun r : (Int32 × gj_S) => fr9 σ0 r.2) := by
  unfold f_X9_hold
  repeat' (with_reducible (first | exact op_none | refine op_if (fun _ => ?_) (fun _ => ?_) | refine w_X9_retold (σ0 := σ0) ?_ | refine op_bind (w_X9_retold (σ0 := σ0) ?_) (fun _ _ => ?_) | refine op_bind (α := gj_S) (P := fun x => fr9 σ0 x) ?_ (fun _ _ => ?_) | refine op_bind (α := Int32 × gj_S) (P := fun x => fr9 σ0 x.2) ?_ (fun _ _ => ?_) | refine op_bind (α := Int32 × Int32 × gj_S) (P := fun x => fr9 σ0 x.2.2) ?_ (fun _ _ => ?_) | refine op_bT (fun _ => ?_) | refine op_el (by assumption) (fun _ _ => ?_) (fun _ _ => ?_) | refine op_some ?_))
  all_goals (try dsimp only [gj_K])
  all_goals (repeat' (first | exact True.intro | with_reducible assumption | with_reducible refine fr9_I ?_ ?_ | with_reducible refine fr9_J ?_ ?_ | omega | exact fp_55 (by assumption) | exact fp_164 (by assumption) | refine ⟨?_, ?_⟩))
set_option maxHeartbeats 2000000 in
theorem w_X9_block {σ0 : gj_S} {b1 : Int32} {σ : gj_S}  (h0 : fr9 σ0 σ) : OP (f_X9_block b1 σ) (fun r : (Int32 × gj_S) => fr9 σ0 r.2) := by
  unfold f_X9_block
  repeat' (with_reducible (first | exact op_none | refine op_if (fun _ => ?_) (fun _ => ?_) | refine w_X9_retold (σ0 := σ0) ?_ | refine op_bind (w_X9_retold (σ0 := σ0) ?_) (fun _ _ => ?_) | refine op_bind (α := gj_S) (P := fun x => fr9 σ0 x) ?_ (fun _ _ => ?_) | refine op_bind (α := Int32 × gj_S) (P := fun x => fr9 σ0 x.2) ?_ (fun _ _ => ?_) | refine op_bind (α := Int32 × Int32 × gj_S) (P := fun x => fr9 σ0 x.2.2) ?_ (fun _ _ => ?_) | refine op_bT (fun _ => ?_) | refine op_el (by assumption) (fun _ _ => ?_) (fun _ _ => ?_) | refine op_some ?_))
  all_goals (try dsimp only [gj_K])
  all_goals (repeat' (first | exact True.intro | with_reducible assumption | with_reducible refine fr9_I ?_ ?_ | with_reducible refine fr9_J ?_ ?_ | omega | exact fp_55 (by assumption) | exact fp_164 (by assumption) | refine ⟨?_, ?_⟩))
set_option maxHeartbeats 2000000 in
theorem w_X9_anew {σ0 : gj_S} {σ : gj_S}  (h0 : fr9 σ0 σ) : OP (f_X9_anew σ) (fun r : (Int32 × gj_S) => fr9 σ0 r.2) := by
  unfold f_X9_anew
  repeat' (with_reducible (first | exact op_none | refine op_if (fun _ => ?_) (fun _ => ?_) | refine w_X9_begins (σ0 := σ0) ?_ | refine w_X9_keeps (σ0 := σ0) ?_ | refine op_bind (w_X9_begins (σ0 := σ0) ?_) (fun _ _ => ?_) | refine op_bind (w_X9_keeps (σ0 := σ0) ?_) (fun _ _ => ?_) | refine op_bind (α := gj_S) (P := fun x => fr9 σ0 x) ?_ (fun _ _ => ?_) | refine op_bind (α := Int32 × gj_S) (P := fun x => fr9 σ0 x.2) ?_ (fun _ _ => ?_) | refine op_bind (α := Int32 × Int32 × gj_S) (P := fun x => fr9 σ0 x.2.2) ?_ (fun _ _ => ?_) | refine op_bT (fun _ => ?_) | refine op_el (by assumption) (fun _ _ => ?_) (fun _ _ => ?_) | refine op_some ?_))
  all_goals (try dsimp only [gj_K])
  all_goals (repeat' (first | exact True.intro | with_reducible assumption | with_reducible refine fr9_I ?_ ?_ | with_reducible refine fr9_J ?_ ?_ | omega | exact fp_55 (by assumption) | exact fp_164 (by assumption) | refine ⟨?_, ?_⟩))
set_option maxHeartbeats 2000000 in
theorem w_X9_writes {σ0 : gj_S} {b1 : Int32} {σ : gj_S}  (h0 : fr9 σ0 σ) : OP (f_X9_writes b1 σ) (fun r : gj_S => fr9 σ0 r) := by
  unfold f_X9_writes
  repeat' (with_reducible (first | exact op_none | refine op_if (fun _ => ?_) (fun _ => ?_) | refine op_bind (α := gj_S) (P := fun x => fr9 σ0 x) ?_ (fun _ _ => ?_) | refine op_bind (α := Int32 × gj_S) (P := fun x => fr9 σ0 x.2) ?_ (fun _ _ => ?_) | refine op_bind (α := Int32 × Int32 × gj_S) (P := fun x => fr9 σ0 x.2.2) ?_ (fun _ _ => ?_) | refine op_bT (fun _ => ?_) | refine op_el (by assumption) (fun _ _ => ?_) (fun _ _ => ?_) | refine op_some ?_))
  all_goals (try dsimp only [gj_K])
  all_goals (repeat' (first | exact True.intro | with_reducible assumption | with_reducible refine fr9_I ?_ ?_ | with_reducible refine fr9_J ?_ ?_ | omega | exact fp_55 (by assumption) | exact fp_164 (by assumption) | refine ⟨?_, ?_⟩))
set_option maxHeartbeats 2000000 in
theorem w_fb_X9_writesName_l3 {σ0 : gj_S} {b1 : Int64} {a10003 : (Int32 × gj_S)}  (h0 : fr9 σ0 a10003.2) : OP (fb_X9_writesName_l3 b1 a10003) (fun r : (gj_S ⊕ (Int32 × gj_S)) => gj_K (fun u127 : gj_S => fr9 σ0 u127) (fun v127 : (Int32 × gj_S) => fr9 σ0 v127.2) r) := by
  unfold fb_X9_writesName_l3
  repeat' (with_reducible (first | exact op_none | refine op_if (fun _ => ?_) (fun _ => ?_) | refine w_X9_writes (σ0 := σ0) ?_ | refine op_bind (w_X9_writes (σ0 := σ0) ?_) (fun _ _ => ?_) | refine op_bind (α := gj_S) (P := fun x => fr9 σ0 x) ?_ (fun _ _ => ?_) | refine op_bind (α := Int32 × gj_S) (P := fun x => fr9 σ0 x.2) ?_ (fun _ _ => ?_) | refine op_bind (α := Int32 × Int32 × gj_S) (P := fun x => fr9 σ0 x.2.2) ?_ (fun _ _ => ?_) | refine op_bT (fun _ => ?_) | refine op_el (by assumption) (fun _ _ => ?_) (fun _ _ => ?_) | refine op_some ?_))
  all_goals (try dsimp only [gj_K])
  all_goals (repeat' (first | exact True.intro | with_reducible assumption | with_reducible refine fr9_I ?_ ?_ | with_reducible refine fr9_J ?_ ?_ | omega | exact fp_55 (by assumption) | exact fp_164 (by assumption) | refine ⟨?_, ?_⟩))
theorem lp_X9_writesName_l3 {σ0 : gj_S} {b1 : Int64}  (n : Nat) (a : (Int32 × gj_S)) (h0 : fr9 σ0 a.2) : OP (gj_lp (fb_X9_writesName_l3 b1) n a) (fun r : gj_S => fr9 σ0 r) := op_lp (I := fun a : (Int32 × gj_S) => fr9 σ0 a.2) (J := fun r : gj_S => fr9 σ0 r) (fun a h => w_fb_X9_writesName_l3 h) n a h0
set_option maxHeartbeats 2000000 in
theorem w_X9_writesName {σ0 : gj_S} {b1 : Int64} {σ : gj_S}  (h0 : fr9 σ0 σ) : OP (f_X9_writesName b1 σ) (fun r : gj_S => fr9 σ0 r) := by
  unfold f_X9_writesName
  repeat' (with_reducible (first | exact op_none | refine op_if (fun _ => ?_) (fun _ => ?_) | refine lp_X9_writesName_l3 (σ0 := σ0) _ _ ?_ | refine op_bind (lp_X9_writesName_l3 (σ0 := σ0) _ _ ?_) (fun _ _ => ?_) | refine op_bind (α := gj_S) (P := fun x => fr9 σ0 x) ?_ (fun _ _ => ?_) | refine op_bind (α := Int32 × gj_S) (P := fun x => fr9 σ0 x.2) ?_ (fun _ _ => ?_) | refine op_bind (α := Int32 × Int32 × gj_S) (P := fun x => fr9 σ0 x.2.2) ?_ (fun _ _ => ?_) | refine op_bT (fun _ => ?_) | refine op_el (by assumption) (fun _ _ => ?_) (fun _ _ => ?_) | refine op_some ?_))
  all_goals (try dsimp only [gj_K])
  all_goals (repeat' (first | exact True.intro | with_reducible assumption | with_reducible refine fr9_I ?_ ?_ | with_reducible refine fr9_J ?_ ?_ | omega | exact fp_55 (by assumption) | exact fp_164 (by assumption) | refine ⟨?_, ?_⟩))
set_option maxHeartbeats 2000000 in
theorem w_X9_writesNumber {σ0 : gj_S} {b1 : Int32} {σ : gj_S}  (h0 : fr9 σ0 σ) : OP (f_X9_writesNumber b1 σ) (fun r : gj_S => fr9 σ0 r) := by
  unfold f_X9_writesNumber
  repeat' (with_reducible (first | exact op_none | refine op_if (fun _ => ?_) (fun _ => ?_) | refine w_X9_writes (σ0 := σ0) ?_ | refine op_bind (w_X9_writes (σ0 := σ0) ?_) (fun _ _ => ?_) | refine op_bind (α := gj_S) (P := fun x => fr9 σ0 x) ?_ (fun _ _ => ?_) | refine op_bind (α := Int32 × gj_S) (P := fun x => fr9 σ0 x.2) ?_ (fun _ _ => ?_) | refine op_bind (α := Int32 × Int32 × gj_S) (P := fun x => fr9 σ0 x.2.2) ?_ (fun _ _ => ?_) | refine op_bT (fun _ => ?_) | refine op_el (by assumption) (fun _ _ => ?_) (fun _ _ => ?_) | refine op_some ?_))
  all_goals (try dsimp only [gj_K])
  all_goals (repeat' (first | exact True.intro | with_reducible assumption | with_reducible refine fr9_I ?_ ?_ | with_reducible refine fr9_J ?_ ?_ | omega | exact fp_55 (by assumption) | exact fp_164 (by assumption) | refine ⟨?_, ?_⟩))
set_option maxHeartbeats 2000000 in
theorem w_fb_X9_sheet_l19 {σ0 : gj_S} {b1 : Int32} {a10019 : (Int32 × gj_S)}  (h0 : fr9 σ0 a10019.2) : OP (fb_X9_sheet_l19 b1 a10019) (fun r : (gj_S ⊕ (Int32 × gj_S)) => gj_K (fun u129 : gj_S => fr9 σ0 u129) (fun v129 : (Int32 × gj_S) => fr9 σ0 v129.2) r) := by
  unfold fb_X9_sheet_l19
  repeat' (with_reducible (first | exact op_none | refine op_if (fun _ => ?_) (fun _ => ?_) | refine w_X9_writes (σ0 := σ0) ?_ | refine w_X9_writesName (σ0 := σ0) ?_ | refine w_X9_writesNumber (σ0 := σ0) ?_ | refine op_bind (w_X9_writes (σ0 := σ0) ?_) (fun _ _ => ?_) | refine op_bind (w_X9_writesName (σ0 := σ0) ?_) (fun _ _ => ?_) | refine op_bind (w_X9_writesNumber (σ0 := σ0) ?_) (fun _ _ => ?_) | refine op_bind (α := gj_S) (P := fun x => fr9 σ0 x) ?_ (fun _ _ => ?_) | refine op_bind (α := Int32 × gj_S) (P := fun x => fr9 σ0 x.2) ?_ (fun _ _ => ?_) | refine op_bind (α := Int32 × Int32 × gj_S) (P := fun x => fr9 σ0 x.2.2) ?_ (fun _ _ => ?_) | refine op_bT (fun _ => ?_) | refine op_el (by assumption) (fun _ _ => ?_) (fun _ _ => ?_) | refine op_some ?_))
  all_goals (try dsimp only [gj_K])
  all_goals (repeat' (first | exact True.intro | with_reducible assumption | with_reducible refine fr9_I ?_ ?_ | with_reducible refine fr9_J ?_ ?_ | omega | exact fp_55 (by assumption) | exact fp_164 (by assumption) | refine ⟨?_, ?_⟩))
theorem lp_X9_sheet_l19 {σ0 : gj_S} {b1 : Int32}  (n : Nat) (a : (Int32 × gj_S)) (h0 : fr9 σ0 a.2) : OP (gj_lp (fb_X9_sheet_l19 b1) n a) (fun r : gj_S => fr9 σ0 r) := op_lp (I := fun a : (Int32 × gj_S) => fr9 σ0 a.2) (J := fun r : gj_S => fr9 σ0 r) (fun a h => w_fb_X9_sheet_l19 h) n a h0
set_option maxHeartbeats 2000000 in
theorem w_X9_sheet {σ0 : gj_S} {b1 : Int32} {σ : gj_S}  (h0 : fr9 σ0 σ) : OP (f_X9_sheet b1 σ) (fun r : (Int32 × gj_S) => fr9 σ0 r.2) := by
  unfold f_X9_sheet
  repeat' (with_reducible (first | exact op_none | refine op_if (fun _ => ?_) (fun _ => ?_) | refine lp_X9_sheet_l19 (σ0 := σ0) _ _ ?_ | refine op_bind (lp_X9_sheet_l19 (σ0 := σ0) _ _ ?_) (fun _ _ => ?_) | refine op_bind (α := gj_S) (P := fun x => fr9 σ0 x) ?_ (fun _ _ => ?_) | refine op_bind (α := Int32 × gj_S) (P := fun x => fr9 σ0 x.2) ?_ (fun _ _ => ?_) | refine op_bind (α := Int32 × Int32 × gj_S) (P := fun x => fr9 σ0 x.2.2) ?_ (fun _ _ => ?_) | refine op_bT (fun _ => ?_) | refine op_el (by assumption) (fun _ _ => ?_) (fun _ _ => ?_) | refine op_some ?_))
  all_goals (try dsimp only [gj_K])
  all_goals (repeat' (first | exact True.intro | with_reducible assumption | with_reducible refine fr9_I ?_ ?_ | with_reducible refine fr9_J ?_ ?_ | omega | exact fp_55 (by assumption) | exact fp_164 (by assumption) | refine ⟨?_, ?_⟩))
set_option maxHeartbeats 2000000 in
theorem w_fb_X9_undo_l26 {σ0 : gj_S} {a10026 : (Int32 × gj_S)}  (h0 : fr9 σ0 a10026.2) : OP (fb_X9_undo_l26 a10026) (fun r : (gj_S ⊕ (Int32 × gj_S)) => gj_K (fun u131 : gj_S => fr9 σ0 u131) (fun v131 : (Int32 × gj_S) => fr9 σ0 v131.2) r) := by
  unfold fb_X9_undo_l26
  repeat' (with_reducible (first | exact op_none | refine op_if (fun _ => ?_) (fun _ => ?_) | refine op_bind (α := gj_S) (P := fun x => fr9 σ0 x) ?_ (fun _ _ => ?_) | refine op_bind (α := Int32 × gj_S) (P := fun x => fr9 σ0 x.2) ?_ (fun _ _ => ?_) | refine op_bind (α := Int32 × Int32 × gj_S) (P := fun x => fr9 σ0 x.2.2) ?_ (fun _ _ => ?_) | refine op_bT (fun _ => ?_) | refine op_el (by assumption) (fun _ _ => ?_) (fun _ _ => ?_) | refine op_some ?_))
  all_goals (try dsimp only [gj_K])
  all_goals (repeat' (first | exact True.intro | with_reducible assumption | with_reducible refine fr9_I ?_ ?_ | with_reducible refine fr9_J ?_ ?_ | omega | exact fp_55 (by assumption) | exact fp_164 (by assumption) | refine ⟨?_, ?_⟩))
theorem lp_X9_undo_l26 {σ0 : gj_S}   (n : Nat) (a : (Int32 × gj_S)) (h0 : fr9 σ0 a.2) : OP (gj_lp (fb_X9_undo_l26 ) n a) (fun r : gj_S => fr9 σ0 r) := op_lp (I := fun a : (Int32 × gj_S) => fr9 σ0 a.2) (J := fun r : gj_S => fr9 σ0 r) (fun a h => w_fb_X9_undo_l26 h) n a h0
set_option maxHeartbeats 2000000 in
theorem w_X9_undo {σ0 : gj_S} {σ : gj_S}  (h0 : fr9 σ0 σ) : OP (f_X9_undo σ) (fun r : (Int32 × gj_S) => fr9 σ0 r.2) := by
  unfold f_X9_undo
  repeat' (with_reducible (first | exact op_none | refine op_if (fun _ => ?_) (fun _ => ?_) | refine lp_X9_undo_l26 (σ0 := σ0) _ _ ?_ | refine op_bind (lp_X9_undo_l26 (σ0 := σ0) _ _ ?_) (fun _ _ => ?_) | refine op_bind (α := gj_S) (P := fun x => fr9 σ0 x) ?_ (fun _ _ => ?_) | refine op_bind (α := Int32 × gj_S) (P := fun x => fr9 σ0 x.2) ?_ (fun _ _ => ?_) | refine op_bind (α := Int32 × Int32 × gj_S) (P := fun x => fr9 σ0 x.2.2) ?_ (fun _ _ => ?_) | refine op_bT (fun _ => ?_) | refine op_el (by assumption) (fun _ _ => ?_) (fun _ _ => ?_) | refine op_some ?_))
  all_goals (try dsimp only [gj_K])
  all_goals (repeat' (first | exact True.intro | with_reducible assumption | with_reducible refine fr9_I ?_ ?_ | with_reducible refine fr9_J ?_ ?_ | omega | exact fp_55 (by assumption) | exact fp_164 (by assumption) | refine ⟨?_, ?_⟩))
set_option maxHeartbeats 2000000 in
theorem w_fb_X9_keep_l32 {σ0 : gj_S} {b1 : Int32} {b2 : Int32} {a10032 : (Int32 × gj_S)}  (h0 : fr9 σ0 a10032.2) : OP (fb_X9_keep_l32 b1 b2 a10032) (fun r : (gj_S ⊕ (Int32 × gj_S)) => gj_K (fun u133 : gj_S => fr9 σ0 u133) (fun v133 : (Int32 × gj_S) => fr9 σ0 v133.2) r) := by
  unfold fb_X9_keep_l32
  repeat' (with_reducible (first | exact op_none | refine op_if (fun _ => ?_) (fun _ => ?_) | refine op_bind (α := gj_S) (P := fun x => fr9 σ0 x) ?_ (fun _ _ => ?_) | refine op_bind (α := Int32 × gj_S) (P := fun x => fr9 σ0 x.2) ?_ (fun _ _ => ?_) | refine op_bind (α := Int32 × Int32 × gj_S) (P := fun x => fr9 σ0 x.2.2) ?_ (fun _ _ => ?_) | refine op_bT (fun _ => ?_) | refine op_el (by assumption) (fun _ _ => ?_) (fun _ _ => ?_) | refine op_some ?_))
  all_goals (try dsimp only [gj_K])
  all_goals (repeat' (first | exact True.intro | with_reducible assumption | with_reducible refine fr9_I ?_ ?_ | with_reducible refine fr9_J ?_ ?_ | omega | exact fp_55 (by assumption) | exact fp_164 (by assumption) | refine ⟨?_, ?_⟩))
theorem lp_X9_keep_l32 {σ0 : gj_S} {b1 : Int32} {b2 : Int32}  (n : Nat) (a : (Int32 × gj_S)) (h0 : fr9 σ0 a.2) : OP (gj_lp (fb_X9_keep_l32 b1 b2) n a) (fun r : gj_S => fr9 σ0 r) := op_lp (I := fun a : (Int32 × gj_S) => fr9 σ0 a.2) (J := fun r : gj_S => fr9 σ0 r) (fun a h => w_fb_X9_keep_l32 h) n a h0
set_option maxHeartbeats 2000000 in
theorem w_X9_keep {σ0 : gj_S} {b1 : Int32} {b2 : Int32} {σ : gj_S}  (h0 : fr9 σ0 σ) : OP (f_X9_keep b1 b2 σ) (fun r : (Int32 × gj_S) => fr9 σ0 r.2) := by
  unfold f_X9_keep
  repeat' (with_reducible (first | exact op_none | refine op_if (fun _ => ?_) (fun _ => ?_) | refine lp_X9_keep_l32 (σ0 := σ0) _ _ ?_ | refine op_bind (lp_X9_keep_l32 (σ0 := σ0) _ _ ?_) (fun _ _ => ?_) | refine op_bind (α := gj_S) (P := fun x => fr9 σ0 x) ?_ (fun _ _ => ?_) | refine op_bind (α := Int32 × gj_S) (P := fun x => fr9 σ0 x.2) ?_ (fun _ _ => ?_) | refine op_bind (α := Int32 × Int32 × gj_S) (P := fun x => fr9 σ0 x.2.2) ?_ (fun _ _ => ?_) | refine op_bT (fun _ => ?_) | refine op_el (by assumption) (fun _ _ => ?_) (fun _ _ => ?_) | refine op_some ?_))
  all_goals (try dsimp only [gj_K])
  all_goals (repeat' (first | exact True.intro | with_reducible assumption | with_reducible refine fr9_I ?_ ?_ | with_reducible refine fr9_J ?_ ?_ | omega | exact fp_55 (by assumption) | exact fp_164 (by assumption) | refine ⟨?_, ?_⟩))
set_option maxHeartbeats 2000000 in
theorem w_X9_count {σ0 : gj_S} {b1 : Int32} {σ : gj_S}  (h0 : fr9 σ0 σ) : OP (f_X9_count b1 σ) (fun r : (Int32 × gj_S) => fr9 σ0 r.2) := by
  unfold f_X9_count
  repeat' (with_reducible (first | exact op_none | refine op_if (fun _ => ?_) (fun _ => ?_) | refine w_X9_isEnd (σ0 := σ0) ?_ | refine op_bind (w_X9_isEnd (σ0 := σ0) ?_) (fun _ _ => ?_) | refine op_bind (α := gj_S) (P := fun x => fr9 σ0 x) ?_ (fun _ _ => ?_) | refine op_bind (α := Int32 × gj_S) (P := fun x => fr9 σ0 x.2) ?_ (fun _ _ => ?_) | refine op_bind (α := Int32 × Int32 × gj_S) (P := fun x => fr9 σ0 x.2.2) ?_ (fun _ _ => ?_) | refine op_bT (fun _ => ?_) | refine op_el (by assumption) (fun _ _ => ?_) (fun _ _ => ?_) | refine op_some ?_))
  all_goals (try dsimp only [gj_K])
  all_goals (repeat' (first | exact True.intro | with_reducible assumption | with_reducible refine fr9_I ?_ ?_ | with_reducible refine fr9_J ?_ ?_ | omega | exact fp_55 (by assumption) | exact fp_164 (by assumption) | refine ⟨?_, ?_⟩))
set_option maxHeartbeats 2000000 in
theorem w_X9_behind {σ0 : gj_S} {b1 : Nat} {b2 : Int32} {b3 : Int32} {σ : gj_S}  (h0 : fr9 σ0 σ) : OP (f_X9_behind b1 b2 b3 σ) (fun r : (Int32 × gj_S) => fr9 σ0 r.2) := by
  unfold f_X9_behind
  repeat' (with_reducible (first | exact op_none | refine op_if (fun _ => ?_) (fun _ => ?_) | refine w_X9_goesOn (σ0 := σ0) ?_ | refine w_X9_must (σ0 := σ0) ?_ | refine w_X9_number (σ0 := σ0) ?_ | refine op_bind (w_X9_goesOn (σ0 := σ0) ?_) (fun _ _ => ?_) | refine op_bind (w_X9_must (σ0 := σ0) ?_) (fun _ _ => ?_) | refine op_bind (w_X9_number (σ0 := σ0) ?_) (fun _ _ => ?_) | refine op_bind (α := gj_S) (P := fun x => fr9 σ0 x) ?_ (fun _ _ => ?_) | refine op_bind (α := Int32 × gj_S) (P := fun x => fr9 σ0 x.2) ?_ (fun _ _ => ?_) | refine op_bind (α := Int32 × Int32 × gj_S) (P := fun x => fr9 σ0 x.2.2) ?_ (fun _ _ => ?_) | refine op_bT (fun _ => ?_) | refine op_el (by assumption) (fun _ _ => ?_) (fun _ _ => ?_) | refine op_some ?_))
  all_goals (try dsimp only [gj_K])
  all_goals (repeat' (first | exact True.intro | with_reducible assumption | with_reducible refine fr9_I ?_ ?_ | with_reducible refine fr9_J ?_ ?_ | omega | exact fp_55 (by assumption) | exact fp_164 (by assumption) | refine ⟨?_, ?_⟩))
set_option maxHeartbeats 2000000 in
theorem w_X9_newName {σ0 : gj_S} {b1 : Int32} {σ : gj_S}  (h0 : fr9 σ0 σ) : OP (f_X9_newName b1 σ) (fun r : gj_S => fr9 σ0 r) := by
  unfold f_X9_newName
  repeat' (with_reducible (first | exact op_none | refine op_if (fun _ => ?_) (fun _ => ?_) | refine w_X9_goesOn (σ0 := σ0) ?_ | refine w_X9_must (σ0 := σ0) ?_ | refine op_bind (w_X9_goesOn (σ0 := σ0) ?_) (fun _ _ => ?_) | refine op_bind (w_X9_must (σ0 := σ0) ?_) (fun _ _ => ?_) | refine op_bind (α := gj_S) (P := fun x => fr9 σ0 x) ?_ (fun _ _ => ?_) | refine op_bind (α := Int32 × gj_S) (P := fun x => fr9 σ0 x.2) ?_ (fun _ _ => ?_) | refine op_bind (α := Int32 × Int32 × gj_S) (P := fun x => fr9 σ0 x.2.2) ?_ (fun _ _ => ?_) | refine op_bT (fun _ => ?_) | refine op_el (by assumption) (fun _ _ => ?_) (fun _ _ => ?_) | refine op_some ?_))
  all_goals (try dsimp only [gj_K])
  all_goals (repeat' (first | exact True.intro | with_reducible assumption | with_reducible refine fr9_I ?_ ?_ | with_reducible refine fr9_J ?_ ?_ | omega | exact fp_55 (by assumption) | exact fp_164 (by assumption) | refine ⟨?_, ?_⟩))
set_option maxHeartbeats 2000000 in
theorem w_X9_readDock {σ0 : gj_S} {b1 : Int32} {σ : gj_S}  (h0 : fr9 σ0 σ) : OP (f_X9_readDock b1 σ) (fun r : (Int32 × gj_S) => fr9 σ0 r.2) := by
  unfold f_X9_readDock
  repeat' (with_reducible (first | exact op_none | refine op_if (fun _ => ?_) (fun _ => ?_) | refine w_X9_goesOn (σ0 := σ0) ?_ | refine w_X9_must (σ0 := σ0) ?_ | refine op_bind (w_X9_goesOn (σ0 := σ0) ?_) (fun _ _ => ?_) | refine op_bind (w_X9_must (σ0 := σ0) ?_) (fun _ _ => ?_) | refine op_bind (α := gj_S) (P := fun x => fr9 σ0 x) ?_ (fun _ _ => ?_) | refine op_bind (α := Int32 × gj_S) (P := fun x => fr9 σ0 x.2) ?_ (fun _ _ => ?_) | refine op_bind (α := Int32 × Int32 × gj_S) (P := fun x => fr9 σ0 x.2.2) ?_ (fun _ _ => ?_) | refine op_bT (fun _ => ?_) | refine op_el (by assumption) (fun _ _ => ?_) (fun _ _ => ?_) | refine op_some ?_))
  all_goals (try dsimp only [gj_K])
  all_goals (repeat' (first | exact True.intro | with_reducible assumption | with_reducible refine fr9_I ?_ ?_ | with_reducible refine fr9_J ?_ ?_ | omega | exact fp_55 (by assumption) | exact fp_164 (by assumption) | refine ⟨?_, ?_⟩))
set_option maxHeartbeats 2000000 in
theorem w_X9_dockLine {σ0 : gj_S} {σ : gj_S}  (h0 : fr9 σ0 σ) : OP (f_X9_dockLine σ) (fun r : gj_S => fr9 σ0 r) := by
  unfold f_X9_dockLine
  repeat' (with_reducible (first | exact op_none | refine op_if (fun _ => ?_) (fun _ => ?_) | refine w_X9_goesOn (σ0 := σ0) ?_ | refine w_X9_must (σ0 := σ0) ?_ | refine w_X9_behind (σ0 := σ0) ?_ | refine w_X9_newName (σ0 := σ0) ?_ | refine op_bind (w_X9_goesOn (σ0 := σ0) ?_) (fun _ _ => ?_) | refine op_bind (w_X9_must (σ0 := σ0) ?_) (fun _ _ => ?_) | refine op_bind (w_X9_behind (σ0 := σ0) ?_) (fun _ _ => ?_) | refine op_bind (w_X9_newName (σ0 := σ0) ?_) (fun _ _ => ?_) | refine op_bind (α := gj_S) (P := fun x => fr9 σ0 x) ?_ (fun _ _ => ?_) | refine op_bind (α := Int32 × gj_S) (P := fun x => fr9 σ0 x.2) ?_ (fun _ _ => ?_) | refine op_bind (α := Int32 × Int32 × gj_S) (P := fun x => fr9 σ0 x.2.2) ?_ (fun _ _ => ?_) | refine op_bT (fun _ => ?_) | refine op_el (by assumption) (fun _ _ => ?_) (fun _ _ => ?_) | refine op_some ?_))
  all_goals (try dsimp only [gj_K])
  all_goals (repeat' (first | exact True.intro | with_reducible assumption | with_reducible refine fr9_I ?_ ?_ | with_reducible refine fr9_J ?_ ?_ | omega | exact fp_55 (by assumption) | exact fp_164 (by assumption) | refine ⟨?_, ?_⟩))
set_option maxHeartbeats 2000000 in
theorem w_X9_routeLine {σ0 : gj_S} {σ : gj_S}  (h0 : fr9 σ0 σ) : OP (f_X9_routeLine σ) (fun r : gj_S => fr9 σ0 r) := by
  unfold f_X9_routeLine
  repeat' (with_reducible (first | exact op_none | refine op_if (fun _ => ?_) (fun _ => ?_) | refine w_X9_goesOn (σ0 := σ0) ?_ | refine w_X9_must (σ0 := σ0) ?_ | refine w_X9_behind (σ0 := σ0) ?_ | refine w_X9_newName (σ0 := σ0) ?_ | refine w_X9_readDock (σ0 := σ0) ?_ | refine op_bind (w_X9_goesOn (σ0 := σ0) ?_) (fun _ _ => ?_) | refine op_bind (w_X9_must (σ0 := σ0) ?_) (fun _ _ => ?_) | refine op_bind (w_X9_behind (σ0 := σ0) ?_) (fun _ _ => ?_) | refine op_bind (w_X9_newName (σ0 := σ0) ?_) (fun _ _ => ?_) | refine op_bind (w_X9_readDock (σ0 := σ0) ?_) (fun _ _ => ?_) | refine op_bind (α := gj_S) (P := fun x => fr9 σ0 x) ?_ (fun _ _ => ?_) | refine op_bind (α := Int32 × gj_S) (P := fun x => fr9 σ0 x.2) ?_ (fun _ _ => ?_) | refine op_bind (α := Int32 × Int32 × gj_S) (P := fun x => fr9 σ0 x.2.2) ?_ (fun _ _ => ?_) | refine op_bT (fun _ => ?_) | refine op_el (by assumption) (fun _ _ => ?_) (fun _ _ => ?_) | refine op_some ?_))
  all_goals (try dsimp only [gj_K])
  all_goals (repeat' (first | exact True.intro | with_reducible assumption | with_reducible refine fr9_I ?_ ?_ | with_reducible refine fr9_J ?_ ?_ | omega | exact fp_55 (by assumption) | exact fp_164 (by assumption) | refine ⟨?_, ?_⟩))
set_option maxHeartbeats 2000000 in
theorem w_X9_lineHere {σ0 : gj_S} {σ : gj_S}  (h0 : fr9 σ0 σ) : OP (f_X9_lineHere σ) (fun r : gj_S => fr9 σ0 r) := by
  unfold f_X9_lineHere
  repeat' (with_reducible (first | exact op_none | refine op_if (fun _ => ?_) (fun _ => ?_) | refine w_X9_goesOn (σ0 := σ0) ?_ | refine w_X9_must (σ0 := σ0) ?_ | refine w_X9_blockLine (σ0 := σ0) ?_ | refine w_X9_dockLine (σ0 := σ0) ?_ | refine w_X9_routeLine (σ0 := σ0) ?_ | refine op_bind (w_X9_goesOn (σ0 := σ0) ?_) (fun _ _ => ?_) | refine op_bind (w_X9_must (σ0 := σ0) ?_) (fun _ _ => ?_) | refine op_bind (w_X9_blockLine (σ0 := σ0) ?_) (fun _ _ => ?_) | refine op_bind (w_X9_dockLine (σ0 := σ0) ?_) (fun _ _ => ?_) | refine op_bind (w_X9_routeLine (σ0 := σ0) ?_) (fun _ _ => ?_) | refine op_bind (α := gj_S) (P := fun x => fr9 σ0 x) ?_ (fun _ _ => ?_) | refine op_bind (α := Int32 × gj_S) (P := fun x => fr9 σ0 x.2) ?_ (fun _ _ => ?_) | refine op_bind (α := Int32 × Int32 × gj_S) (P := fun x => fr9 σ0 x.2.2) ?_ (fun _ _ => ?_) | refine op_bT (fun _ => ?_) | refine op_el (by assumption) (fun _ _ => ?_) (fun _ _ => ?_) | refine op_some ?_))
  all_goals (try dsimp only [gj_K])
  all_goals (repeat' (first | exact True.intro | with_reducible assumption | with_reducible refine fr9_I ?_ ?_ | with_reducible refine fr9_J ?_ ?_ | omega | exact fp_55 (by assumption) | exact fp_164 (by assumption) | refine ⟨?_, ?_⟩))
set_option maxHeartbeats 2000000 in
theorem w_fb_X9_text_l69 {σ0 : gj_S} {a10069 : gj_S}  (h0 : fr9 σ0 a10069) : OP (fb_X9_text_l69 a10069) (fun r : (gj_S ⊕ gj_S) => gj_K (fun u135 : gj_S => fr9 σ0 u135) (fun v135 : gj_S => fr9 σ0 v135) r) := by
  unfold fb_X9_text_l69
  repeat' (with_reducible (first | exact op_none | refine op_if (fun _ => ?_) (fun _ => ?_) | refine w_X9_lineHere (σ0 := σ0) ?_ | refine op_bind (w_X9_lineHere (σ0 := σ0) ?_) (fun _ _ => ?_) | refine op_bind (α := gj_S) (P := fun x => fr9 σ0 x) ?_ (fun _ _ => ?_) | refine op_bind (α := Int32 × gj_S) (P := fun x => fr9 σ0 x.2) ?_ (fun _ _ => ?_) | refine op_bind (α := Int32 × Int32 × gj_S) (P := fun x => fr9 σ0 x.2.2) ?_ (fun _ _ => ?_) | refine op_bT (fun _ => ?_) | refine op_el (by assumption) (fun _ _ => ?_) (fun _ _ => ?_) | refine op_some ?_))
  all_goals (try dsimp only [gj_K])
  all_goals (repeat' (first | exact True.intro | with_reducible assumption | with_reducible refine fr9_I ?_ ?_ | with_reducible refine fr9_J ?_ ?_ | omega | exact fp_55 (by assumption) | exact fp_164 (by assumption) | refine ⟨?_, ?_⟩))
theorem lp_X9_text_l69 {σ0 : gj_S}   (n : Nat) (a : gj_S) (h0 : fr9 σ0 a) : OP (gj_lp (fb_X9_text_l69 ) n a) (fun r : gj_S => fr9 σ0 r) := op_lp (I := fun a : gj_S => fr9 σ0 a) (J := fun r : gj_S => fr9 σ0 r) (fun a h => w_fb_X9_text_l69 h) n a h0
set_option maxHeartbeats 2000000 in
theorem w_fb_X9_text_l139 {σ0 : gj_S} {a10139 : (Int32 × gj_S)}  (h0 : fr9 σ0 a10139.2) : OP (fb_X9_text_l139 a10139) (fun r : (gj_S ⊕ (Int32 × gj_S)) => gj_K (fun u136 : gj_S => fr9 σ0 u136) (fun v136 : (Int32 × gj_S) => fr9 σ0 v136.2) r) := by
  unfold fb_X9_text_l139
  repeat' (with_reducible (first | exact op_none | refine op_if (fun _ => ?_) (fun _ => ?_) | refine op_bind (α := gj_S) (P := fun x => fr9 σ0 x) ?_ (fun _ _ => ?_) | refine op_bind (α := Int32 × gj_S) (P := fun x => fr9 σ0 x.2) ?_ (fun _ _ => ?_) | refine op_bind (α := Int32 × Int32 × gj_S) (P := fun x => fr9 σ0 x.2.2) ?_ (fun _ _ => ?_) | refine op_bT (fun _ => ?_) | refine op_el (by assumption) (fun _ _ => ?_) (fun _ _ => ?_) | refine op_some ?_))
  all_goals (try dsimp only [gj_K])
  all_goals (repeat' (first | exact True.intro | with_reducible assumption | with_reducible refine fr9_I ?_ ?_ | with_reducible refine fr9_J ?_ ?_ | omega | exact fp_55 (by assumption) | exact fp_164 (by assumption) | refine ⟨?_, ?_⟩))
theorem lp_X9_text_l139 {σ0 : gj_S}   (n : Nat) (a : (Int32 × gj_S)) (h0 : fr9 σ0 a.2) : OP (gj_lp (fb_X9_text_l139 ) n a) (fun r : gj_S => fr9 σ0 r) := op_lp (I := fun a : (Int32 × gj_S) => fr9 σ0 a.2) (J := fun r : gj_S => fr9 σ0 r) (fun a h => w_fb_X9_text_l139 h) n a h0
set_option maxHeartbeats 2000000 in
theorem w_fb_X9_text_l168 {σ0 : gj_S} {a10168 : (Int32 × gj_S)}  (h0 : fr9 σ0 a10168.2) : OP (fb_X9_text_l168 a10168) (fun r : (gj_S ⊕ (Int32 × gj_S)) => gj_K (fun u137 : gj_S => fr9 σ0 u137) (fun v137 : (Int32 × gj_S) => fr9 σ0 v137.2) r) := by
  unfold fb_X9_text_l168
  repeat' (with_reducible (first | exact op_none | refine op_if (fun _ => ?_) (fun _ => ?_) | refine op_bind (α := gj_S) (P := fun x => fr9 σ0 x) ?_ (fun _ _ => ?_) | refine op_bind (α := Int32 × gj_S) (P := fun x => fr9 σ0 x.2) ?_ (fun _ _ => ?_) | refine op_bind (α := Int32 × Int32 × gj_S) (P := fun x => fr9 σ0 x.2.2) ?_ (fun _ _ => ?_) | refine op_bT (fun _ => ?_) | refine op_el (by assumption) (fun _ _ => ?_) (fun _ _ => ?_) | refine op_some ?_))
  all_goals (try dsimp only [gj_K])
  all_goals (repeat' (first | exact True.intro | with_reducible assumption | with_reducible refine fr9_I ?_ ?_ | with_reducible refine fr9_J ?_ ?_ | omega | exact fp_55 (by assumption) | exact fp_164 (by assumption) | refine ⟨?_, ?_⟩))
theorem lp_X9_text_l168 {σ0 : gj_S}   (n : Nat) (a : (Int32 × gj_S)) (h0 : fr9 σ0 a.2) : OP (gj_lp (fb_X9_text_l168 ) n a) (fun r : gj_S => fr9 σ0 r) := op_lp (I := fun a : (Int32 × gj_S) => fr9 σ0 a.2) (J := fun r : gj_S => fr9 σ0 r) (fun a h => w_fb_X9_text_l168 h) n a h0
set_option maxHeartbeats 2000000 in
theorem w_fb_X9_text_l213 {σ0 : gj_S} {a10213 : (Int32 × gj_S)}  (h0 : fr9 σ0 a10213.2) : OP (fb_X9_text_l213 a10213) (fun r : (gj_S ⊕ (Int32 × gj_S)) => gj_K (fun u138 : gj_S => fr9 σ0 u138) (fun v138 : (Int32 × gj_S) => fr9 σ0 v138.2) r) := by
  unfold fb_X9_text_l213
  repeat' (with_reducible (first | exact op_none | refine op_if (fun _ => ?_) (fun _ => ?_) | refine op_bind (α := gj_S) (P := fun x => fr9 σ0 x) ?_ (fun _ _ => ?_) | refine op_bind (α := Int32 × gj_S) (P := fun x => fr9 σ0 x.2) ?_ (fun _ _ => ?_) | refine op_bind (α := Int32 × Int32 × gj_S) (P := fun x => fr9 σ0 x.2.2) ?_ (fun _ _ => ?_) | refine op_bT (fun _ => ?_) | refine op_el (by assumption) (fun _ _ => ?_) (fun _ _ => ?_) | refine op_some ?_))
  all_goals (try dsimp only [gj_K])
  all_goals (repeat' (first | exact True.intro | with_reducible assumption | with_reducible refine fr9_I ?_ ?_ | with_reducible refine fr9_J ?_ ?_ | omega | exact fp_55 (by assumption) | exact fp_164 (by assumption) | refine ⟨?_, ?_⟩))
theorem lp_X9_text_l213 {σ0 : gj_S}   (n : Nat) (a : (Int32 × gj_S)) (h0 : fr9 σ0 a.2) : OP (gj_lp (fb_X9_text_l213 ) n a) (fun r : gj_S => fr9 σ0 r) := op_lp (I := fun a : (Int32 × gj_S) => fr9 σ0 a.2) (J := fun r : gj_S => fr9 σ0 r) (fun a h => w_fb_X9_text_l213 h) n a h0
set_option maxHeartbeats 2000000 in
theorem w_X9_text {σ0 : gj_S} {b1 : Int32} {σ : gj_S}  (h0 : fr9 σ0 σ) : OP (f_X9_text b1 σ) (fun r : (Int32 × gj_S) => fr9 σ0 r.2) := by
  unfold f_X9_text
  repeat' (with_reducible (first | exact op_none | refine op_if (fun _ => ?_) (fun _ => ?_) | refine w_X9_goesOn (σ0 := σ0) ?_ | refine w_X9_begins (σ0 := σ0) ?_ | refine lp_X9_text_l69 (σ0 := σ0) _ _ ?_ | refine lp_X9_text_l139 (σ0 := σ0) _ _ ?_ | refine lp_X9_text_l168 (σ0 := σ0) _ _ ?_ | refine lp_X9_text_l213 (σ0 := σ0) _ _ ?_ | refine op_bind (w_X9_goesOn (σ0 := σ0) ?_) (fun _ _ => ?_) | refine op_bind (w_X9_begins (σ0 := σ0) ?_) (fun _ _ => ?_) | refine op_bind (lp_X9_text_l69 (σ0 := σ0) _ _ ?_) (fun _ _ => ?_) | refine op_bind (lp_X9_text_l139 (σ0 := σ0) _ _ ?_) (fun _ _ => ?_) | refine op_bind (lp_X9_text_l168 (σ0 := σ0) _ _ ?_) (fun _ _ => ?_) | refine op_bind (lp_X9_text_l213 (σ0 := σ0) _ _ ?_) (fun _ _ => ?_) | refine op_bind (α := gj_S) (P := fun x => fr9 σ0 x) ?_ (fun _ _ => ?_) | refine op_bind (α := Int32 × gj_S) (P := fun x => fr9 σ0 x.2) ?_ (fun _ _ => ?_) | refine op_bind (α := Int32 × Int32 × gj_S) (P := fun x => fr9 σ0 x.2.2) ?_ (fun _ _ => ?_) | refine op_bT (fun _ => ?_) | refine op_el (by assumption) (fun _ _ => ?_) (fun _ _ => ?_) | refine op_some ?_))
  all_goals (try dsimp only [gj_K])
  all_goals (repeat' (first | exact True.intro | with_reducible assumption | with_reducible refine fr9_I ?_ ?_ | with_reducible refine fr9_J ?_ ?_ | omega | exact fp_55 (by assumption) | exact fp_164 (by assumption) | refine ⟨?_, ?_⟩))
