/-! ===== p rows: the calls with their answers popped ===== -/
theorem po {α β : Type} {a : Option α} {f : α → Option (β × gj_S)} {c : α → β × gj_S → Prop} [∀ x y, Decidable (c x y)] {τ : gj_S} (h : (a.bind fun x1 => (f x1).bind fun x2 => if c x1 x2 then some x2.2 else none) = some τ) : (a.bind fun x1 => (f x1).bind fun x2 => some x2.2) = some τ := by
  obtain ⟨x1, h1, h⟩ := gj_b h
  obtain ⟨x2, h2, h⟩ := gj_b h
  rw [h1]
  dsimp only [Option.bind_some]
  rw [h2]
  exact (gj_c h).2
theorem po_x {P : gj_S → Prop} {o o' : Option gj_S} (h : ∃ τ, o = some τ ∧ P τ) (hp : ∀ τ, o = some τ → o' = some τ) : ∃ τ, o' = some τ ∧ P τ := by
  obtain ⟨τ, e, p⟩ := h
  exact ⟨τ, hp τ e, p⟩
def hl_0 (c1 c2 c3 c4 c5 : Int32) (σ : gj_S) : Option gj_S := ((f_X8_feed c1 c2 c3 c4 c5 σ).bind fun x1 => ((f_X9_feed c1 c2 c3 c4 c5 x1.2).bind fun x2 => some x2.2))
theorem h_0 {K : Nat} {σ : gj_S} (hR : REL K σ) (c1 c2 c3 c4 c5 : Int32) : ∃ τ, hl_0 c1 c2 c3 c4 c5 σ = some τ ∧ REL (K + 100) τ := po_x (k_0 hR c1 c2 c3 c4 c5) (fun _ h => po h)
def hl_1 (c1 c2 c3 c4 c5 : Int32) (σ : gj_S) : Option gj_S := ((f_X8_text c1 σ).bind fun x1 => ((f_X9_text c1 x1.2).bind fun x2 => some x2.2))
theorem h_1 {K : Nat} {σ : gj_S} (hR : REL K σ) (c1 c2 c3 c4 c5 : Int32) : ∃ τ, hl_1 c1 c2 c3 c4 c5 σ = some τ ∧ REL (K + 100) τ := po_x (k_1 hR c1 c2 c3 c4 c5) (fun _ h => po h)
def hl_2 (c1 c2 c3 c4 c5 : Int32) (σ : gj_S) : Option gj_S := (if g_X8_dock c1 c2 σ = some () then ((f_X9_dock c1 c2 σ).bind fun x2 => some x2.2) else (f_X8_dock c1 c2 σ).bind fun x1 => ((f_X9_dock c1 c2 (gj_sJ σ 211 (vp_updL (σ.2.1 211) (Int32.toNatClampNeg 0) (Int32.toInt64 x1)))).bind fun x5 => some x5.2))
theorem h_2 {K : Nat} {σ : gj_S} (hR : REL K σ) (c1 c2 c3 c4 c5 : Int32) : ∃ τ, hl_2 c1 c2 c3 c4 c5 σ = some τ ∧ REL (K + 100) τ := po_x (k_2 hR c1 c2 c3 c4 c5) (fun τ h => by
  unfold gl_2 at h
  unfold hl_2
  by_cases q : g_X8_dock c1 c2 σ = some ()
  · rw [if_pos q] at h ⊢
    obtain ⟨x2, h2, h⟩ := gj_b h
    obtain ⟨x3, h3, h⟩ := gj_b h
    rw [h2]
    have h := (gj_c h).2
    rw [if_neg (by decide)] at h
    exact h
  · rw [if_neg q] at h ⊢
    obtain ⟨x1, h1, h⟩ := gj_b h
    obtain ⟨x5, h5, h⟩ := gj_b h
    obtain ⟨x6, h6, h⟩ := gj_b h
    rw [h1]
    dsimp only [Option.bind_some]
    rw [h5]
    have h := (gj_c h).2
    rw [if_pos rfl] at h
    exact (gj_c (gj_c h).2).2)
def hl_3 (c1 c2 c3 c4 c5 : Int32) (σ : gj_S) : Option gj_S := (if g_X8_way c1 c2 σ = some () then ((f_X9_way c1 c2 σ).bind fun x2 => some x2.2) else (f_X8_way c1 c2 σ).bind fun x1 => ((f_X9_way c1 c2 (gj_sJ σ 211 (vp_updL (σ.2.1 211) (Int32.toNatClampNeg 0) (Int32.toInt64 x1)))).bind fun x5 => some x5.2))
theorem h_3 {K : Nat} {σ : gj_S} (hR : REL K σ) (c1 c2 c3 c4 c5 : Int32) : ∃ τ, hl_3 c1 c2 c3 c4 c5 σ = some τ ∧ REL (K + 100) τ := po_x (k_3 hR c1 c2 c3 c4 c5) (fun τ h => by
  unfold gl_3 at h
  unfold hl_3
  by_cases q : g_X8_way c1 c2 σ = some ()
  · rw [if_pos q] at h ⊢
    obtain ⟨x2, h2, h⟩ := gj_b h
    obtain ⟨x3, h3, h⟩ := gj_b h
    rw [h2]
    have h := (gj_c h).2
    rw [if_neg (by decide)] at h
    exact h
  · rw [if_neg q] at h ⊢
    obtain ⟨x1, h1, h⟩ := gj_b h
    obtain ⟨x5, h5, h⟩ := gj_b h
    obtain ⟨x6, h6, h⟩ := gj_b h
    rw [h1]
    dsimp only [Option.bind_some]
    rw [h5]
    have h := (gj_c h).2
    rw [if_pos rfl] at h
    exact (gj_c (gj_c h).2).2)
def hl_4 (c1 c2 c3 c4 c5 : Int32) (σ : gj_S) : Option gj_S := ((f_X8_ranked c1 σ).bind fun x1 => ((f_X9_ranked c1 σ).bind fun x2 => some x2.2))
theorem h_4 {K : Nat} {σ : gj_S} (hR : REL K σ) (c1 c2 c3 c4 c5 : Int32) : ∃ τ, hl_4 c1 c2 c3 c4 c5 σ = some τ ∧ REL (K + 100) τ := po_x (k_4 hR c1 c2 c3 c4 c5) (fun _ h => po h)
def hl_5 (c1 c2 c3 c4 c5 : Int32) (σ : gj_S) : Option gj_S := ((f_X8_good σ).bind fun x1 => ((f_X9_good σ).bind fun x2 => some x2.2))
theorem h_5 {K : Nat} {σ : gj_S} (hR : REL K σ) (c1 c2 c3 c4 c5 : Int32) : ∃ τ, hl_5 c1 c2 c3 c4 c5 σ = some τ ∧ REL (K + 100) τ := po_x (k_5 hR c1 c2 c3 c4 c5) (fun _ h => po h)
def hl_6 (c1 c2 c3 c4 c5 : Int32) (σ : gj_S) : Option gj_S := ((f_X8_enters σ).bind fun x1 => ((f_X9_enters x1.2).bind fun x2 => some x2.2))
theorem h_6 {K : Nat} {σ : gj_S} (hR : REL K σ) (c1 c2 c3 c4 c5 : Int32) : ∃ τ, hl_6 c1 c2 c3 c4 c5 σ = some τ ∧ REL (K + 100) τ := po_x (k_6 hR c1 c2 c3 c4 c5) (fun _ h => po h)
def hl_7 (c1 c2 c3 c4 c5 : Int32) (σ : gj_S) : Option gj_S := ((f_X8_ring c1 c2 σ).bind fun x1 => ((f_X9_ring c1 c2 x1.2).bind fun x2 => some x2.2))
theorem h_7 {K : Nat} {σ : gj_S} (hR : REL K σ) (hK : K ≤ 51200) (c1 c2 c3 c4 c5 : Int32) : ∃ τ, hl_7 c1 c2 c3 c4 c5 σ = some τ ∧ REL (K + 100) τ := po_x (k_7 hR hK c1 c2 c3 c4 c5) (fun _ h => po h)
def hl_8 (c1 c2 c3 c4 c5 : Int32) (σ : gj_S) : Option gj_S := ((f_X8_closes c1 c2 σ).bind fun x1 => ((f_X9_closes c1 c2 x1.2).bind fun x2 => some x2.2))
theorem h_8 {K : Nat} {σ : gj_S} (hR : REL K σ) (hK : K ≤ 51200) (c1 c2 c3 c4 c5 : Int32) : ∃ τ, hl_8 c1 c2 c3 c4 c5 σ = some τ ∧ REL (K + 100) τ := po_x (k_8 hR hK c1 c2 c3 c4 c5) (fun _ h => po h)
def hl_9 (c1 c2 c3 c4 c5 : Int32) (σ : gj_S) : Option gj_S := ((f_X8_strong σ).bind fun x1 => ((f_X9_strong σ).bind fun x2 => some x2.2))
theorem h_9 {K : Nat} {σ : gj_S} (hR : REL K σ) (hK : K ≤ 51200) (c1 c2 c3 c4 c5 : Int32) : ∃ τ, hl_9 c1 c2 c3 c4 c5 σ = some τ ∧ REL (K + 100) τ := po_x (k_9 hR hK c1 c2 c3 c4 c5) (fun _ h => po h)
def hl_10 (c1 c2 c3 c4 c5 : Int32) (σ : gj_S) : Option gj_S := ((f_X8_step σ).bind fun x1 => ((f_X9_step x1.2).bind fun x2 => some x2.2))
theorem h_10 {K : Nat} {σ : gj_S} (hR : REL K σ) (hK : K ≤ 51200) (c1 c2 c3 c4 c5 : Int32) : ∃ τ, hl_10 c1 c2 c3 c4 c5 σ = some τ ∧ REL (K + 100) τ := po_x (k_10 hR hK c1 c2 c3 c4 c5) (fun _ h => po h)
def hl_11 (c1 c2 c3 c4 c5 : Int32) (σ : gj_S) : Option gj_S := ((f_X8_run c1 σ).bind fun x1 => ((f_X9_run c1 x1.2).bind fun x2 => some x2.2))
theorem h_11 {K : Nat} {σ : gj_S} (hR : REL K σ) (hK : K ≤ 51200) (c1 c2 c3 c4 c5 : Int32) : ∃ τ, hl_11 c1 c2 c3 c4 c5 σ = some τ ∧ REL (K + 100) τ := po_x (k_11 hR hK c1 c2 c3 c4 c5) (fun _ h => po h)
def hl_12 (c1 c2 c3 c4 c5 : Int32) (σ : gj_S) : Option gj_S := (if g_X8_log c1 c2 σ = some () then ((f_X9_log c1 c2 σ).bind fun x2 => some x2.2) else (f_X8_log c1 c2 σ).bind fun x1 => ((f_X9_log c1 c2 (gj_sJ σ 211 (vp_updL (σ.2.1 211) (Int32.toNatClampNeg 0) (Int32.toInt64 x1)))).bind fun x5 => some x5.2))
theorem h_12 {K : Nat} {σ : gj_S} (hR : REL K σ) (hK : K ≤ 51200) (c1 c2 c3 c4 c5 : Int32) : ∃ τ, hl_12 c1 c2 c3 c4 c5 σ = some τ ∧ REL (K + 100) τ := po_x (k_12 hR hK c1 c2 c3 c4 c5) (fun τ h => by
  unfold gl_12 at h
  unfold hl_12
  by_cases q : g_X8_log c1 c2 σ = some ()
  · rw [if_pos q] at h ⊢
    obtain ⟨x2, h2, h⟩ := gj_b h
    obtain ⟨x3, h3, h⟩ := gj_b h
    rw [h2]
    have h := (gj_c h).2
    rw [if_neg (by decide)] at h
    exact h
  · rw [if_neg q] at h ⊢
    obtain ⟨x1, h1, h⟩ := gj_b h
    obtain ⟨x5, h5, h⟩ := gj_b h
    obtain ⟨x6, h6, h⟩ := gj_b h
    rw [h1]
    dsimp only [Option.bind_some]
    rw [h5]
    have h := (gj_c h).2
    rw [if_pos rfl] at h
    exact (gj_c (gj_c h).2).2)
def hl_13 (c1 c2 c3 c4 c5 : Int32) (σ : gj_S) : Option gj_S := ((f_X8_cost σ).bind fun x1 => ((f_X9_cost σ).bind fun x2 => some x2.2))
theorem h_13 {K : Nat} {σ : gj_S} (hR : REL K σ) (c1 c2 c3 c4 c5 : Int32) : ∃ τ, hl_13 c1 c2 c3 c4 c5 σ = some τ ∧ REL (K + 100) τ := po_x (k_13 hR c1 c2 c3 c4 c5) (fun _ h => po h)
def hl_14 (c1 c2 c3 c4 c5 : Int32) (σ : gj_S) : Option gj_S := ((f_X8_bill c1 c2 σ).bind fun x1 => ((f_X9_bill c1 c2 σ).bind fun x2 => some x2.2))
theorem h_14 {K : Nat} {σ : gj_S} (hR : REL K σ) (c1 c2 c3 c4 c5 : Int32) : ∃ τ, hl_14 c1 c2 c3 c4 c5 σ = some τ ∧ REL (K + 100) τ := po_x (k_14 hR c1 c2 c3 c4 c5) (fun _ h => po h)
def hl_15 (c1 c2 c3 c4 c5 : Int32) (σ : gj_S) : Option gj_S := ((f_X8_total σ).bind fun x1 => ((f_X9_total σ).bind fun x2 => some x2.2))
theorem h_15 {K : Nat} {σ : gj_S} (hR : REL K σ) (hK : K ≤ 51200) (c1 c2 c3 c4 c5 : Int32) : ∃ τ, hl_15 c1 c2 c3 c4 c5 σ = some τ ∧ REL (K + 100) τ := po_x (k_15 hR hK c1 c2 c3 c4 c5) (fun _ h => po h)
def hl_16 (c1 c2 c3 c4 c5 : Int32) (σ : gj_S) : Option gj_S := ((f_X8_proof σ).bind fun x1 => ((f_X9_proof σ).bind fun x2 => some x2.2))
theorem h_16 {K : Nat} {σ : gj_S} (hR : REL K σ) (c1 c2 c3 c4 c5 : Int32) : ∃ τ, hl_16 c1 c2 c3 c4 c5 σ = some τ ∧ REL (K + 100) τ := po_x (k_16 hR c1 c2 c3 c4 c5) (fun _ h => po h)
def hl_17 (c1 c2 c3 c4 c5 : Int32) (σ : gj_S) : Option gj_S := ((f_X8_lack c1 σ).bind fun x1 => ((f_X9_lack c1 σ).bind fun x2 => some x2.2))
theorem h_17 {K : Nat} {σ : gj_S} (hR : REL K σ) (c1 c2 c3 c4 c5 : Int32) : ∃ τ, hl_17 c1 c2 c3 c4 c5 σ = some τ ∧ REL (K + 100) τ := po_x (k_17 hR c1 c2 c3 c4 c5) (fun _ h => po h)
def hl_18 (c1 c2 c3 c4 c5 : Int32) (σ : gj_S) : Option gj_S := ((f_X8_unit c1 c2 σ).bind fun x1 => ((f_X9_unit c1 c2 x1.2).bind fun x2 => some x2.2))
theorem h_18 {K : Nat} {σ : gj_S} (hR : REL K σ) (c1 c2 c3 c4 c5 : Int32) : ∃ τ, hl_18 c1 c2 c3 c4 c5 σ = some τ ∧ REL (K + 100) τ := po_x (k_18 hR c1 c2 c3 c4 c5) (fun _ h => po h)
def hl_19 (c1 c2 c3 c4 c5 : Int32) (σ : gj_S) : Option gj_S := ((if c2 = 0 then some (0 : Int32) else some (1 : Int32) : Option Int32).bind fun z1 => ((f_X8_range c1 z1 σ).bind fun x2 => (if c2 = 0 then ((f_X9_range c1 (0 : Int32) σ).bind fun x3 => some x3.2) else ((f_X9_range c1 (1 : Int32) σ).bind fun x4 => some x4.2))))
theorem h_19 {K : Nat} {σ : gj_S} (hR : REL K σ) (c1 c2 c3 c4 c5 : Int32) : ∃ τ, hl_19 c1 c2 c3 c4 c5 σ = some τ ∧ REL (K + 100) τ := po_x (k_19 hR c1 c2 c3 c4 c5) (fun τ h => by
  unfold gl_19 at h
  unfold hl_19
  obtain ⟨z1, h1, h⟩ := gj_b h
  obtain ⟨x2, h2, h⟩ := gj_b h
  rw [h1]
  dsimp only [Option.bind_some]
  rw [h2]
  dsimp only [Option.bind_some]
  by_cases q : c2 = 0
  · rw [if_pos q] at h ⊢
    obtain ⟨x3, h3, h⟩ := gj_b h
    rw [h3]
    exact (gj_c h).2
  · rw [if_neg q] at h ⊢
    obtain ⟨x3, h3, h⟩ := gj_b h
    rw [h3]
    exact (gj_c h).2)
def hl_20 (c1 c2 c3 c4 c5 : Int32) (σ : gj_S) : Option gj_S := ((if c4 = 0 then some (0 : Int32) else some (1 : Int32) : Option Int32).bind fun z1 => ((f_X8_tried c1 c2 c3 z1 σ).bind fun x2 => (if c4 = 0 then ((f_X9_tried c1 c2 c3 (0 : Int32) x2.2).bind fun x3 => some x3.2) else ((f_X9_tried c1 c2 c3 (1 : Int32) x2.2).bind fun x4 => some x4.2))))
theorem h_20 {K : Nat} {σ : gj_S} (hR : REL K σ) (c1 c2 c3 c4 c5 : Int32) : ∃ τ, hl_20 c1 c2 c3 c4 c5 σ = some τ ∧ REL (K + 100) τ := by
  unfold hl_20
  by_cases q : c4 = 0
  · obtain ⟨v8, x8, e8, ⟨v9, x9⟩, e9, h9⟩ := t20 hR c1 c2 c3 0
    refine ⟨x9, ?_, REL_mono h9.1 (by omega)⟩
    rw [if_pos q]
    dsimp only [Option.bind_some]
    rw [e8]
    dsimp only [Option.bind_some]
    rw [if_pos q, e9]
    rfl
  · obtain ⟨v8, x8, e8, ⟨v9, x9⟩, e9, h9⟩ := t20 hR c1 c2 c3 1
    refine ⟨x9, ?_, REL_mono h9.1 (by omega)⟩
    rw [if_neg q]
    dsimp only [Option.bind_some]
    rw [e8]
    dsimp only [Option.bind_some]
    rw [if_neg q, e9]
    rfl
def hl_21 (c1 c2 c3 c4 c5 : Int32) (σ : gj_S) : Option gj_S := ((f_X8_load c1 c2 σ).bind fun x1 => ((f_X9_load c1 c2 x1.2).bind fun x2 => some x2.2))
theorem h_21 {K : Nat} {σ : gj_S} (hR : REL K σ) (hK : K ≤ 51200) (c1 c2 c3 c4 c5 : Int32) : ∃ τ, hl_21 c1 c2 c3 c4 c5 σ = some τ ∧ REL (K + 100) τ := po_x (k_21 hR hK c1 c2 c3 c4 c5) (fun _ h => po h)
def hl_22 (c1 c2 c3 c4 c5 : Int32) (σ : gj_S) : Option gj_S := ((if c2 = 0 then some (0 : Int32) else some (1 : Int32) : Option Int32).bind fun z1 => ((f_X8_spare c1 z1 σ).bind fun x2 => (if c2 = 0 then ((f_X9_spare c1 (0 : Int32) σ).bind fun x3 => some x3.2) else ((f_X9_spare c1 (1 : Int32) σ).bind fun x4 => some x4.2))))
theorem h_22 {K : Nat} {σ : gj_S} (hR : REL K σ) (c1 c2 c3 c4 c5 : Int32) : ∃ τ, hl_22 c1 c2 c3 c4 c5 σ = some τ ∧ REL (K + 100) τ := po_x (k_22 hR c1 c2 c3 c4 c5) (fun τ h => by
  unfold gl_22 at h
  unfold hl_22
  obtain ⟨z1, h1, h⟩ := gj_b h
  obtain ⟨x2, h2, h⟩ := gj_b h
  rw [h1]
  dsimp only [Option.bind_some]
  rw [h2]
  dsimp only [Option.bind_some]
  by_cases q : c2 = 0
  · rw [if_pos q] at h ⊢
    obtain ⟨x3, h3, h⟩ := gj_b h
    rw [h3]
    exact (gj_c h).2
  · rw [if_neg q] at h ⊢
    obtain ⟨x3, h3, h⟩ := gj_b h
    rw [h3]
    exact (gj_c h).2)
def hl_23 (c1 c2 c3 c4 c5 : Int32) (σ : gj_S) : Option gj_S := ((f_X8_toll c1 c2 σ).bind fun x1 => ((f_X9_toll c1 c2 x1.2).bind fun x2 => some x2.2))
theorem h_23 {K : Nat} {σ : gj_S} (hR : REL K σ) (c1 c2 c3 c4 c5 : Int32) : ∃ τ, hl_23 c1 c2 c3 c4 c5 σ = some τ ∧ REL (K + 100) τ := po_x (k_23 hR c1 c2 c3 c4 c5) (fun _ h => po h)
def hl_24 (c1 c2 c3 c4 c5 : Int32) (σ : gj_S) : Option gj_S := ((f_X8_hold c1 c2 σ).bind fun x1 => ((f_X9_hold c1 c2 x1.2).bind fun x2 => some x2.2))
theorem h_24 {K : Nat} {σ : gj_S} (hR : REL K σ) (c1 c2 c3 c4 c5 : Int32) : ∃ τ, hl_24 c1 c2 c3 c4 c5 σ = some τ ∧ REL (K + 100) τ := po_x (k_24 hR c1 c2 c3 c4 c5) (fun _ h => po h)
def hl_25 (c1 c2 c3 c4 c5 : Int32) (σ : gj_S) : Option gj_S := ((f_X8_block c1 σ).bind fun x1 => ((f_X9_block c1 x1.2).bind fun x2 => some x2.2))
theorem h_25 {K : Nat} {σ : gj_S} (hR : REL K σ) (c1 c2 c3 c4 c5 : Int32) : ∃ τ, hl_25 c1 c2 c3 c4 c5 σ = some τ ∧ REL (K + 100) τ := po_x (k_25 hR c1 c2 c3 c4 c5) (fun _ h => po h)
def hl_26 (c1 c2 c3 c4 c5 : Int32) (σ : gj_S) : Option gj_S := ((f_X8_anew σ).bind fun x1 => ((f_X9_anew x1.2).bind fun x2 => some x2.2))
theorem h_26 {K : Nat} {σ : gj_S} (hR : REL K σ) (c1 c2 c3 c4 c5 : Int32) : ∃ τ, hl_26 c1 c2 c3 c4 c5 σ = some τ ∧ REL (K + 100) τ := po_x (k_26 hR c1 c2 c3 c4 c5) (fun _ h => po h)
def hl_27 (c1 c2 c3 c4 c5 : Int32) (σ : gj_S) : Option gj_S := ((f_X8_sheet c1 σ).bind fun x1 => ((f_X9_sheet c1 x1.2).bind fun x2 => some x2.2))
theorem h_27 {K : Nat} {σ : gj_S} (hR : REL K σ) (c1 c2 c3 c4 c5 : Int32) : ∃ τ, hl_27 c1 c2 c3 c4 c5 σ = some τ ∧ REL (K + 100) τ := po_x (k_27 hR c1 c2 c3 c4 c5) (fun _ h => po h)
def hl_28 (c1 c2 c3 c4 c5 : Int32) (σ : gj_S) : Option gj_S := ((f_X8_undo σ).bind fun x1 => ((f_X9_undo x1.2).bind fun x2 => some x2.2))
theorem h_28 {K : Nat} {σ : gj_S} (hR : REL K σ) (c1 c2 c3 c4 c5 : Int32) : ∃ τ, hl_28 c1 c2 c3 c4 c5 σ = some τ ∧ REL (K + 100) τ := po_x (k_28 hR c1 c2 c3 c4 c5) (fun _ h => po h)
def hl_29 (c1 c2 c3 c4 c5 : Int32) (σ : gj_S) : Option gj_S := ((if c2 = 0 then some (0 : Int32) else some (1 : Int32) : Option Int32).bind fun z1 => ((f_X8_keep c1 z1 σ).bind fun x2 => (if c2 = 0 then ((f_X9_keep c1 (0 : Int32) x2.2).bind fun x3 => some x3.2) else ((f_X9_keep c1 (1 : Int32) x2.2).bind fun x4 => some x4.2))))
theorem h_29 {K : Nat} {σ : gj_S} (hR : REL K σ) (c1 c2 c3 c4 c5 : Int32) : ∃ τ, hl_29 c1 c2 c3 c4 c5 σ = some τ ∧ REL (K + 100) τ := po_x (k_29 hR c1 c2 c3 c4 c5) (fun τ h => by
  unfold gl_29 at h
  unfold hl_29
  obtain ⟨z1, h1, h⟩ := gj_b h
  obtain ⟨x2, h2, h⟩ := gj_b h
  rw [h1]
  dsimp only [Option.bind_some]
  rw [h2]
  dsimp only [Option.bind_some]
  by_cases q : c2 = 0
  · rw [if_pos q] at h ⊢
    obtain ⟨x3, h3, h⟩ := gj_b h
    rw [h3]
    exact (gj_c h).2
  · rw [if_neg q] at h ⊢
    obtain ⟨x3, h3, h⟩ := gj_b h
    rw [h3]
    exact (gj_c h).2)
def hl_30 (c1 c2 c3 c4 c5 : Int32) (σ : gj_S) : Option gj_S := ((f_X8_count c1 σ).bind fun x1 => ((f_X9_count c1 σ).bind fun x2 => some x2.2))
theorem h_30 {K : Nat} {σ : gj_S} (hR : REL K σ) (hK : K ≤ 51200) (c1 c2 c3 c4 c5 : Int32) : ∃ τ, hl_30 c1 c2 c3 c4 c5 σ = some τ ∧ REL (K + 100) τ := po_x (k_30 hR hK c1 c2 c3 c4 c5) (fun _ h => po h)
