/-! ===== unit ===== -/
/-- one cheaper way to b, over a -/
def rlx (a b : Nat) (c : Int32) (D : Nat → Option Int32) : Nat → Option Int32 := fun d => if d = b then (match D a with | none => D b | some x => (match D b with | none => some (x + c) | some y => if y ≤ x + c then some y else some (x + c))) else D d
def eD (M : Int32) (D : Nat → Option Int32) (d : Nat) : Int32 := (D d).getD M
def Iv (lo : Nat → Int) (a0 t : Nat) (D : Nat → Option Int32) : Prop := (∀ d v, D d = some v → lo d ≤ v.toInt ∧ v.toInt ≤ 999 * (t : Int)) ∧ ∃ v, D a0 = some v ∧ v.toInt ≤ 0
theorem Iv_mono {lo : Nat → Int} {a0 t t' : Nat} {D : Nat → Option Int32} (h : Iv lo a0 t D) (ht : t ≤ t') : Iv lo a0 t' D := ⟨fun d v e => ⟨(h.1 d v e).1, by have := (h.1 d v e).2; omega⟩, h.2⟩
theorem Iv_x {lo : Nat → Int} {a0 t a : Nat} {D : Nat → Option Int32} {c x : Int32} (h : Iv lo a0 t D) (ht : t ≤ 300) (hlo : ∀ d, -200000 ≤ lo d) (hc : -999 ≤ c.toInt ∧ c.toInt ≤ 999) (e : D a = some x) : (x + c).toInt = x.toInt + c.toInt := by
  have h1 := h.1 a x e
  have h2 := hlo a
  exact i32_add (by omega) (by omega)
theorem Iv_r {lo : Nat → Int} {a0 t a b : Nat} {D : Nat → Option Int32} {c : Int32} (h : Iv lo a0 t D) (ht : t ≤ 300) (hlo : ∀ d, -200000 ≤ lo d) (hc : -999 ≤ c.toInt ∧ c.toInt ≤ 999) (hab : lo b ≤ lo a + c.toInt) : Iv lo a0 (t + 1) (rlx a b c D) := by
  have old : ∀ d v, D d = some v → lo d ≤ v.toInt ∧ v.toInt ≤ 999 * ((t + 1 : Nat) : Int) := fun d v e => ⟨(h.1 d v e).1, by have := (h.1 d v e).2; omega⟩
  refine ⟨fun d v e => ?_, ?_⟩
  · unfold rlx at e
    by_cases q : d = b
    · subst q
      rw [if_pos rfl] at e
      cases ha : D a with
      | none =>
        rw [ha] at e
        exact old d v e
      | some x =>
        rw [ha] at e
        have h1 := h.1 a x ha
        have hx := Iv_x h ht hlo hc ha
        have new : v = x + c → lo d ≤ v.toInt ∧ v.toInt ≤ 999 * ((t + 1 : Nat) : Int) := fun e => by
          rw [e, hx]
          omega
        cases hb : D d with
        | none =>
          rw [hb] at e
          exact new (Option.some.inj e).symm
        | some y =>
          rw [hb] at e
          dsimp only at e
          by_cases q2 : y ≤ x + c
          · rw [if_pos q2] at e
            exact old d v (hb.trans e)
          · rw [if_neg q2] at e
            exact new (Option.some.inj e).symm
    · rw [if_neg q] at e
      exact old d v e
  · obtain ⟨z, hz, hz0⟩ := h.2
    unfold rlx
    by_cases q : a0 = b
    · subst q
      rw [if_pos rfl]
      cases ha : D a with
      | none => exact ⟨z, hz, hz0⟩
      | some x =>
        rw [hz]
        dsimp only
        by_cases q2 : z ≤ x + c
        · rw [if_pos q2]
          exact ⟨z, rfl, hz0⟩
        · rw [if_neg q2]
          refine ⟨x + c, rfl, ?_⟩
          rw [i32_le_iff] at q2
          omega
    · rw [if_neg q]
      exact ⟨z, hz, hz0⟩
/-- the numbers of one side -/
theorem eD_r {M : Int32} {a b : Nat} {c : Int32} {D : Nat → Option Int32} {f : Nat → Int32} (hf : ∀ d, d < 8 → f d = eD M D d) (hb : b < 8) {x : Int32} (hx : D a = some x) (hM : ¬ M ≤ x + c) : (if eD M D b ≤ x + c then (∀ d, d < 8 → f d = eD M (rlx a b c D) d) else (∀ d, d < 8 → upd f b (x + c) d = eD M (rlx a b c D) d)) := by
  cases hy : D b with
  | none =>
    have e1 : eD M D b = M := by unfold eD; rw [hy]; rfl
    rw [e1, if_neg hM]
    intro d hd
    unfold eD rlx
    show (if d = b then x + c else f d) = _
    by_cases q : d = b
    · rw [if_pos q, if_pos q, hx, hy]
      rfl
    · rw [if_neg q, if_neg q]
      exact hf d hd
  | some y =>
    have e1 : eD M D b = y := by unfold eD; rw [hy]; rfl
    rw [e1]
    by_cases q2 : y ≤ x + c
    · rw [if_pos q2]
      intro d hd
      rw [hf d hd]
      unfold eD rlx
      by_cases q : d = b
      · rw [if_pos q, hx, hy, q, hy]
        dsimp only
        rw [if_pos q2]
      · rw [if_neg q]
    · rw [if_neg q2]
      intro d hd
      unfold eD rlx
      show (if d = b then x + c else f d) = _
      by_cases q : d = b
      · rw [if_pos q, if_pos q, hx, hy]
        dsimp only
        rw [if_neg q2]
        rfl
      · rw [if_neg q, if_neg q]
        exact hf d hd
theorem eD_n {M : Int32} {a b : Nat} {c : Int32} {D : Nat → Option Int32} (hx : D a = none) : rlx a b c D = D := funext fun d => by
  unfold rlx
  by_cases q : d = b
  · rw [if_pos q, hx, q]
  · rw [if_neg q]
theorem c8_reach {lo : Nat → Int} {a0 t a b : Nat} {D : Nat → Option Int32} {c : Int32} {σ : gj_S} (h : Iv lo a0 t D) (ht : t ≤ 300) (hlo : ∀ d, -200000 ≤ lo d) (hc : -999 ≤ c.toInt ∧ c.toInt ≤ 999) (ha : a < 8) (hb : b < 8) (hf : ∀ d, d < 8 → σ.1 167 d = eD 2147483647 D d) : TP (f_X6_reach (nI a) (nI b) c σ) (fun z => smC 167 167 σ z ∧ ∀ d, d < 8 → z.1 167 d = eD 2147483647 (rlx a b c D) d) := by
  have ga : gj_in (nI a) 8 := gi ha (by omega)
  have gb : gj_in (nI b) 8 := gi hb (by omega)
  have eM : (2147483647 : Int32).toInt = 2147483647 := by decide
  unfold f_X6_reach
  simp only [nI_clamp (show a < 2 ^ 31 by omega), nI_clamp (show b < 2 ^ 31 by omega)]
  refine tp_t ga ?_
  cases hx : D a with
  | none =>
    refine tp_t (by rw [hf a ha]; unfold eD; rw [hx]; rfl) (tp_some ⟨smC_rf, ?_⟩)
    rw [eD_n hx (M := 0)]
    exact hf
  | some x =>
    have ex : σ.1 167 a = x := by rw [hf a ha]; unfold eD; rw [hx]; rfl
    have h1 := h.1 a x hx
    have hxc := Iv_x h ht hlo hc hx
    have hM : ¬ (2147483647 : Int32) ≤ x + c := by
      rw [i32_le_iff, eM, hxc]
      omega
    have hne : ¬ x = 2147483647 := fun e => by
      rw [e, eM] at h1
      omega
    rw [ex]
    refine tp_f hne (tp_t ga (tp_t gb ?_))
    have key := eD_r (c := c) hf hb hx hM
    rw [hf b hb]
    by_cases q : eD 2147483647 D b ≤ x + c
    · rw [if_pos q] at key
      exact tp_t q (tp_some ⟨smC_rf, key⟩)
    · rw [if_neg q] at key
      refine tp_f q (tp_t ga (tp_t gb (tp_some ⟨smC_I (by omega) (by omega) smC_rf, ?_⟩)))
      rw [sI_eq]
      exact key
theorem r9_cheaper {lo : Nat → Int} {a0 t a b : Nat} {D : Nat → Option Int32} {c : Int32} {σ : gj_S} (h : Iv lo a0 t D) (ht : t ≤ 300) (hlo : ∀ d, -200000 ≤ lo d) (hc : -999 ≤ c.toInt ∧ c.toInt ≤ 999) (ha : a < 8) (hb : b < 8) (hf : ∀ d, d < 8 → σ.1 209 d = eD 1000000000 D d) : TP (f_X9_cheaper (nI a) (nI b) c σ) (fun z => smC 209 209 σ z ∧ ∀ d, d < 8 → z.1 209 d = eD 1000000000 (rlx a b c D) d) := by
  have ga : gj_in (nI a) 8 := gi ha (by omega)
  have gb : gj_in (nI b) 8 := gi hb (by omega)
  have eM : (1000000000 : Int32).toInt = 1000000000 := by decide
  unfold f_X9_cheaper
  simp only [nI_clamp (show a < 2 ^ 31 by omega), nI_clamp (show b < 2 ^ 31 by omega)]
  refine tp_t ga ?_
  cases hx : D a with
  | none =>
    refine tp_t (by rw [hf a ha]; unfold eD; rw [hx]; decide) (tp_some ⟨smC_rf, ?_⟩)
    rw [eD_n hx (M := 0)]
    exact hf
  | some x =>
    have ex : σ.1 209 a = x := by rw [hf a ha]; unfold eD; rw [hx]; rfl
    have h1 := h.1 a x hx
    have hxc := Iv_x h ht hlo hc hx
    have hM : ¬ (1000000000 : Int32) ≤ x + c := by
      rw [i32_le_iff, eM, hxc]
      omega
    have hne : ¬ (1000000000 : Int32) ≤ x := by
      rw [i32_le_iff, eM]
      omega
    rw [ex]
    refine tp_f hne (tp_t ga (tp_t gb ?_))
    have key := eD_r (c := c) hf hb hx hM
    rw [hf b hb]
    by_cases q : eD 1000000000 D b ≤ x + c
    · rw [if_pos q] at key
      exact tp_t q (tp_some ⟨smC_rf, key⟩)
    · rw [if_neg q] at key
      refine tp_f q (tp_t ga (tp_t gb (tp_some ⟨smC_I (by omega) (by omega) smC_rf, ?_⟩)))
      rw [sI_eq]
      exact key
/-- one route tried: along, then against -/
def stp (b0 e0 : Nat → Nat) (s : Nat → Int32) (w : Nat) (D : Nat → Option Int32) : Nat → Option Int32 := (fun D1 => if s (50 + w) ≤ 0 then D1 else rlx (e0 w) (b0 w) (0 - s (8 + w)) D1) (if s (24 + w) ≤ s (50 + w) then D else rlx (b0 w) (e0 w) (s (8 + w)) D)
/-- what the end gives: no ring costs less than nothing -/
def uP (r : Nat) (b0 e0 : Nat → Nat) (s : Nat → Int32) (lo : Nat → Int) : Prop := (∀ d, -200000 ≤ lo d) ∧ ∀ w, w < r → (∃ c, c ≤ 999 ∧ s (8 + w) = nI c) ∧ (¬ s (24 + w) ≤ s (50 + w) → lo (e0 w) ≤ lo (b0 w) + (s (8 + w)).toInt) ∧ (¬ s (50 + w) ≤ 0 → lo (b0 w) ≤ lo (e0 w) + (0 - s (8 + w)).toInt)
theorem uP_c {r : Nat} {b0 e0 : Nat → Nat} {s : Nat → Int32} {lo : Nat → Int} (h : uP r b0 e0 s lo) {w : Nat} (hw : w < r) : (-999 ≤ (s (8 + w)).toInt ∧ (s (8 + w)).toInt ≤ 999) ∧ -999 ≤ (0 - s (8 + w)).toInt ∧ (0 - s (8 + w)).toInt ≤ 999 := by
  obtain ⟨c, c1, c2⟩ := (h.2 w hw).1
  have ez : (0 : Int32).toInt = 0 := by decide
  have e1 : (nI c).toInt = c := nI_toInt (by omega)
  rw [c2, i32_sub (by rw [e1, ez]; omega) (by rw [e1, ez]; omega), e1, ez]
  omega
theorem Iv_s {lo : Nat → Int} {a0 t r w : Nat} {b0 e0 : Nat → Nat} {s : Nat → Int32} {D : Nat → Option Int32} (hu : uP r b0 e0 s lo) (h : Iv lo a0 t D) (ht : t ≤ 290) (hw : w < r) : Iv lo a0 (t + 1) (if s (24 + w) ≤ s (50 + w) then D else rlx (b0 w) (e0 w) (s (8 + w)) D) ∧ Iv lo a0 (t + 2) (stp b0 e0 s w D) := by
  obtain ⟨c1, c2⟩ := uP_c hu hw
  have h1 : Iv lo a0 (t + 1) (if s (24 + w) ≤ s (50 + w) then D else rlx (b0 w) (e0 w) (s (8 + w)) D) := by
    by_cases q : s (24 + w) ≤ s (50 + w)
    · rw [if_pos q]
      exact Iv_mono h (by omega)
    · rw [if_neg q]
      exact Iv_r h (by omega) hu.1 c1 ((hu.2 w hw).2.1 q)
  refine ⟨h1, ?_⟩
  unfold stp
  dsimp only
  generalize (if s (24 + w) ≤ s (50 + w) then D else rlx (b0 w) (e0 w) (s (8 + w)) D) = D1 at h1 ⊢
  by_cases q : s (50 + w) ≤ 0
  · rw [if_pos q]
    exact Iv_mono h1 (by omega)
  · rw [if_neg q]
    exact Iv_r h1 (by omega) hu.1 c2 ((hu.2 w hw).2.2 q)
