/-! ===== the first call on a fresh object ===== -/
def fs_s (τ : gj_S) : gj_S := gj_sJ τ 211 (fun _ => 0)
def fs_ev (g : gj_S → Option gj_S) : Option gj_S := fs_9.bind (fun τ => g (fs_s τ))
theorem fs_run {τ9 : gj_S} (h : fs_9 = some τ9) {g : gj_S → Option gj_S} (hg : (fs_ev g).isSome = true) : ∃ τ, g (fs_s τ9) = some τ := by
  unfold fs_ev at hg
  rw [h] at hg
  exact Option.isSome_iff_exists.mp hg
theorem fs_rd {τ9 : gj_S} (h : fs_9 = some τ9) {k j : Nat} {v : Int32} (hv : fs_9.map (fun τ => τ.1 k j) = some v) : (fs_s τ9).1 k j = v := by
  rw [h] at hv
  exact Option.some.inj hv
theorem f1_t0 : (fs_ev (gl_1 0 0 0 0 0)).isSome = true := by decide +kernel
theorem f1_5 : (fs_ev (gl_5 0 0 0 0 0)).isSome = true := by decide +kernel
theorem f1_6 : (fs_ev (gl_6 0 0 0 0 0)).isSome = true := by decide +kernel
theorem f1_9 : (fs_ev (gl_9 0 0 0 0 0)).isSome = true := by decide +kernel
theorem f1_10 : (fs_ev (gl_10 0 0 0 0 0)).isSome = true := by decide +kernel
theorem f1_13 : (fs_ev (gl_13 0 0 0 0 0)).isSome = true := by decide +kernel
theorem f1_15 : (fs_ev (gl_15 0 0 0 0 0)).isSome = true := by decide +kernel
theorem f1_16 : (fs_ev (gl_16 0 0 0 0 0)).isSome = true := by decide +kernel
theorem f1_26 : (fs_ev (gl_26 0 0 0 0 0)).isSome = true := by decide +kernel
theorem f1_28 : (fs_ev (gl_28 0 0 0 0 0)).isSome = true := by decide +kernel
theorem i32_no (b : Int32) : ¬ (0 ≤ b ∧ b ≤ (0 : Int32) - 1) := by
  intro h
  obtain ⟨h1, h2⟩ := h
  rw [Int32.le_iff_toInt_le] at h1 h2
  have e : ((0 : Int32) - 1).toInt = -1 := by decide
  have e0 : (0 : Int32).toInt = 0 := by decide
  omega
theorem i32_nn {b : Int32} (h : ¬ b < 0) : (0 : Int32) ≤ b := by
  rw [Int32.lt_iff_toInt_lt] at h
  rw [Int32.le_iff_toInt_le]
  omega
theorem rd0 : Int32.toNatClampNeg (0 : Int32) = 0 := by decide
theorem gj0 {n : Nat} (h : 0 < n) : gj_in (0 : Int32) n := ⟨by decide, by rw [rd0]; exact h⟩
theorem fs_isDock {b : Int32} {σ : gj_S} (h : σ.1 190 0 = 0) : f_X9_isDock b σ = some 0 := by
  unfold f_X9_isDock
  rw [if_pos (gj0 (by decide)), rd0, h]
  have := wi_row32 b 0 (0 - 1)
  rw [if_neg (i32_no b)] at this
  rw [show (0 : Int64) = Int32.toInt64 0 by decide, this]
  rfl
theorem fs_isRoute {b : Int32} {σ : gj_S} (h : σ.1 191 0 = 0) : f_X9_isRoute b σ = some 0 := by
  unfold f_X9_isRoute
  rw [if_pos (gj0 (by decide)), rd0, h]
  have := wi_row32 b 0 (0 - 1)
  rw [if_neg (i32_no b)] at this
  rw [show (0 : Int64) = Int32.toInt64 0 by decide, this]
  rfl
theorem fs_isWay {b : Int32} {σ : gj_S} (h : σ.1 190 0 = 0) (h2 : σ.1 191 0 = 0) : f_X9_isWay b σ = some 0 := by
  unfold f_X9_isWay f_X9_ways
  rw [if_pos (gj0 (by decide)), if_pos (gj0 (by decide)), rd0, h, h2]
  have := wi_row32 b 0 (0 - 1)
  rw [if_neg (i32_no b)] at this
  show ((f_X9_within b.toInt64 0 (Int32.toInt64 ((0 : Int32) + 0 - 1))).bind _) = _
  rw [show (0 : Int64) = Int32.toInt64 0 by decide, show (0 : Int32) + 0 - 1 = 0 - 1 by decide, this]
  rfl
theorem fs_hasDock {b : Int32} {σ : gj_S} (h : σ.1 17 0 = 0) : f_X1_hasDock 17 b σ = some 0 := by
  unfold f_X1_hasDock
  rw [h]
  by_cases hb : b < 0
  · rw [if_pos hb]
  · rw [if_neg hb, if_pos (i32_nn hb)]
theorem fs_hasRoute {b : Int32} {σ : gj_S} (h : σ.1 17 1 = 0) : f_X1_hasRoute 17 b σ = some 0 := by
  unfold f_X1_hasRoute
  rw [h]
  by_cases hb : b < 0
  · rw [if_pos hb]
  · rw [if_neg hb, if_pos (i32_nn hb)]
theorem fs_hasWay {b : Int32} {σ : gj_S} (h : σ.1 17 0 = 0) (h2 : σ.1 17 1 = 0) : f_X1_hasWay 17 b σ = some 0 := by
  unfold f_X1_hasWay f_X1_countWays
  rw [h, h2]
  by_cases hb : b < 0
  · rw [if_pos hb]
  · rw [if_neg hb]
    show (if (0 : Int32) + 0 ≤ b then _ else _) = _
    rw [if_pos (show (0 : Int32) + 0 ≤ b from i32_nn hb)]
/-- what the first call needs to know of the fresh state -/
def fs_F (σ : gj_S) : Prop := σ.1 17 0 = 0 ∧ σ.1 17 1 = 0 ∧ σ.1 190 0 = 0 ∧ σ.1 191 0 = 0
theorem fs_Fs {τ9 : gj_S} (h : fs_9 = some τ9) : fs_F (fs_s τ9) := ⟨fs_rd h (by decide +kernel), fs_rd h (by decide +kernel), fs_rd h (by decide +kernel), fs_rd h (by decide +kernel)⟩
theorem fs_F0 {σ : gj_S} {v : Int32} (h : fs_F σ) : fs_F (gj_sI σ 188 (upd (σ.1 188) 0 v)) := h
theorem f1_2 {σ : gj_S} {c1 c2 c3 c4 c5 : Int32} (h : fs_F σ) : ∃ τ, gl_2 c1 c2 c3 c4 c5 σ = some τ := by
  unfold gl_2
  have hg : g_X8_dock c1 c2 σ = some () := by
    unfold g_X8_dock
    rw [fs_hasDock h.1]
    rfl
  rw [if_pos hg]
  unfold f_X9_dock
  rw [fs_isDock h.2.2.1]
  exact ⟨_, rfl⟩
theorem f1_3 {σ : gj_S} {c1 c2 c3 c4 c5 : Int32} (h : fs_F σ) : ∃ τ, gl_3 c1 c2 c3 c4 c5 σ = some τ := by
  unfold gl_3
  have hg : g_X8_way c1 c2 σ = some () := by
    unfold g_X8_way
    rw [fs_hasWay h.1 h.2.1]
    rfl
  rw [if_pos hg]
  unfold f_X9_way
  rw [fs_isWay h.2.2.1 h.2.2.2]
  exact ⟨_, rfl⟩
theorem cm_S {a : Option (Int32 × gj_S)} {f : gj_S → Option (Int32 × gj_S)} {v : Int32} {s t : gj_S} (h1 : a = some (v, s)) (h2 : f s = some (v, t)) : ∃ τ, (a.bind fun x1 => (f x1.2).bind fun x2 => (if x1.1 = x2.1 then some x2.2 else none)) = some τ := by
  subst h1
  refine ⟨t, ?_⟩
  show ((f s).bind fun x2 => (if v = x2.1 then some x2.2 else none)) = some t
  rw [h2]
  show (if v = v then some t else none) = some t
  rw [if_pos rfl]
theorem cm_I {a : Option Int32} {f : Option (Int32 × gj_S)} {v : Int32} {t : gj_S} (h1 : a = some v) (h2 : f = some (v, t)) : ∃ τ, (a.bind fun x1 => f.bind fun x2 => (if x1 = x2.1 then some x2.2 else none)) = some τ := by
  subst h1
  subst h2
  refine ⟨t, ?_⟩
  show (if v = v then some t else none) = some t
  rw [if_pos rfl]
theorem cm_b {c : Int32} {P : Int32 → Option gj_S} (h0 : c = 0 → ∃ τ, P 0 = some τ) (h1 : ¬ c = 0 → ∃ τ, P 1 = some τ) : ∃ τ, ((if c = 0 then some (0 : Int32) else some (1 : Int32) : Option Int32).bind P) = some τ := by
  by_cases h : c = 0
  · rw [if_pos h]; exact h0 h
  · rw [if_neg h]; exact h1 h
theorem cm_bS {c : Int32} {F : Int32 → Option (Int32 × gj_S)} {G0 G1 : gj_S → Option (Int32 × gj_S)} (h0 : ∃ v s t, F 0 = some (v, s) ∧ G0 s = some (v, t)) (h1 : ∃ v s t, F 1 = some (v, s) ∧ G1 s = some (v, t)) : ∃ τ, ((if c = 0 then some (0 : Int32) else some (1 : Int32) : Option Int32).bind fun z1 => ((F z1).bind fun x2 => (if c = 0 then ((G0 x2.2).bind fun x3 => (if x2.1 = x3.1 then some x3.2 else none)) else ((G1 x2.2).bind fun x4 => (if x2.1 = x4.1 then some x4.2 else none))))) = some τ := by
  refine cm_b (fun h => ?_) (fun h => ?_)
  · simp only [if_pos h]
    obtain ⟨v, s, t, a, b⟩ := h0
    exact cm_S a b
  · simp only [if_neg h]
    obtain ⟨v, s, t, a, b⟩ := h1
    exact cm_S a b
theorem cm_bI {c : Int32} {F : Int32 → Option Int32} {G0 G1 : Option (Int32 × gj_S)} (h0 : ∃ v t, F 0 = some v ∧ G0 = some (v, t)) (h1 : ∃ v t, F 1 = some v ∧ G1 = some (v, t)) : ∃ τ, ((if c = 0 then some (0 : Int32) else some (1 : Int32) : Option Int32).bind fun z1 => ((F z1).bind fun x2 => (if c = 0 then (G0.bind fun x3 => (if x2 = x3.1 then some x3.2 else none)) else (G1.bind fun x4 => (if x2 = x4.1 then some x4.2 else none))))) = some τ := by
  refine cm_b (fun h => ?_) (fun h => ?_)
  · simp only [if_pos h]
    obtain ⟨v, t, a, b⟩ := h0
    exact cm_I a b
  · simp only [if_neg h]
    obtain ⟨v, t, a, b⟩ := h1
    exact cm_I a b
theorem f1_8ring {σ : gj_S} {c1 c2 : Int32} (h : fs_F σ) : f_X8_ring c1 c2 σ = some (-1, σ) := by
  unfold f_X8_ring
  rw [fs_hasWay h.1 h.2.1]
  rfl
theorem f1_9ring {σ : gj_S} {c1 c2 : Int32} (h : fs_F σ) : f_X9_ring c1 c2 σ = some (-1, gj_sI σ 188 (upd (σ.1 188) 0 0)) := by
  have h9 := fs_F0 (v := 0) h
  unfold f_X9_ring
  rw [fs_isWay h9.2.2.1 h9.2.2.2]
  rfl
theorem f1_7 {σ : gj_S} {c1 c2 c3 c4 c5 : Int32} (h : fs_F σ) : ∃ τ, gl_7 c1 c2 c3 c4 c5 σ = some τ := cm_S (f1_8ring h) (f1_9ring h)
theorem f1_8closes {σ : gj_S} {c1 c2 : Int32} (h : fs_F σ) : f_X8_closes c1 c2 σ = some (-1, σ) := by
  unfold f_X8_closes
  rw [fs_hasWay h.1 h.2.1]
  rfl
theorem f1_9closes {σ : gj_S} {c1 c2 : Int32} (h : fs_F σ) : f_X9_closes c1 c2 σ = some (-1, gj_sI σ 188 (upd (σ.1 188) 0 0)) := by
  have h9 := fs_F0 (v := 0) h
  unfold f_X9_closes
  rw [fs_isWay h9.2.2.1 h9.2.2.2]
  rfl
theorem f1_8 {σ : gj_S} {c1 c2 c3 c4 c5 : Int32} (h : fs_F σ) : ∃ τ, gl_8 c1 c2 c3 c4 c5 σ = some τ := cm_S (f1_8closes h) (f1_9closes h)
theorem f1_8unit {σ : gj_S} {c1 c2 : Int32} (h : fs_F σ) : f_X8_unit c1 c2 σ = some (-2147483648, σ) := by
  unfold f_X8_unit
  rw [fs_hasDock h.1]
  rfl
theorem f1_9unit {σ : gj_S} {c1 c2 : Int32} (h : fs_F σ) : f_X9_unit c1 c2 σ = some (-2147483648, gj_sI σ 188 (upd (σ.1 188) 0 0)) := by
  have h9 := fs_F0 (v := 0) h
  unfold f_X9_unit
  rw [fs_isDock h9.2.2.1]
  rfl
theorem f1_18 {σ : gj_S} {c1 c2 c3 c4 c5 : Int32} (h : fs_F σ) : ∃ τ, gl_18 c1 c2 c3 c4 c5 σ = some τ := cm_S (f1_8unit h) (f1_9unit h)
theorem f1_8load {σ : gj_S} {c1 c2 : Int32} (h : fs_F σ) : f_X8_load c1 c2 σ = some (-1, σ) := by
  unfold f_X8_load
  rw [fs_hasDock h.1]
  rfl
theorem f1_9load {σ : gj_S} {c1 c2 : Int32} (h : fs_F σ) : f_X9_load c1 c2 σ = some (-1, gj_sI σ 188 (upd (σ.1 188) 0 0)) := by
  have h9 := fs_F0 (v := 0) h
  unfold f_X9_load
  rw [fs_isDock h9.2.2.1]
  rfl
theorem f1_21 {σ : gj_S} {c1 c2 c3 c4 c5 : Int32} (h : fs_F σ) : ∃ τ, gl_21 c1 c2 c3 c4 c5 σ = some τ := cm_S (f1_8load h) (f1_9load h)
theorem f1_8toll {σ : gj_S} {c1 c2 : Int32} (h : fs_F σ) : f_X8_toll c1 c2 σ = some (-1, σ) := by
  unfold f_X8_toll
  rw [fs_hasRoute h.2.1]
  rfl
theorem f1_9toll {σ : gj_S} {c1 c2 : Int32} (h : fs_F σ) : f_X9_toll c1 c2 σ = some (-1, gj_sI σ 188 (upd (σ.1 188) 0 0)) := by
  have h9 := fs_F0 (v := 0) h
  unfold f_X9_toll
  rw [fs_isRoute h9.2.2.2]
  rfl
theorem f1_23 {σ : gj_S} {c1 c2 c3 c4 c5 : Int32} (h : fs_F σ) : ∃ τ, gl_23 c1 c2 c3 c4 c5 σ = some τ := cm_S (f1_8toll h) (f1_9toll h)
theorem f1_8hold {σ : gj_S} {c1 c2 : Int32} (h : fs_F σ) : f_X8_hold c1 c2 σ = some (-1, σ) := by
  unfold f_X8_hold
  rw [fs_hasRoute h.2.1]
  rfl
theorem f1_9hold {σ : gj_S} {c1 c2 : Int32} (h : fs_F σ) : f_X9_hold c1 c2 σ = some (-1, gj_sI σ 188 (upd (σ.1 188) 0 0)) := by
  have h9 := fs_F0 (v := 0) h
  unfold f_X9_hold
  rw [fs_isRoute h9.2.2.2]
  rfl
theorem f1_24 {σ : gj_S} {c1 c2 c3 c4 c5 : Int32} (h : fs_F σ) : ∃ τ, gl_24 c1 c2 c3 c4 c5 σ = some τ := cm_S (f1_8hold h) (f1_9hold h)
theorem f1_8range {σ : gj_S} {c1 c2 : Int32} (h : fs_F σ) : f_X8_range c1 c2 σ = some (-1) := by
  unfold f_X8_range
  rw [fs_hasRoute h.2.1]
  rfl
theorem f1_9range {σ : gj_S} {c1 c2 : Int32} (h : fs_F σ) : f_X9_range c1 c2 σ = some (-1, gj_sI σ 188 (upd (σ.1 188) 0 0)) := by
  have h9 := fs_F0 (v := 0) h
  unfold f_X9_range
  rw [fs_isRoute h9.2.2.2]
  rfl
theorem f1_19 {σ : gj_S} {c1 c2 c3 c4 c5 : Int32} (h : fs_F σ) : ∃ τ, gl_19 c1 c2 c3 c4 c5 σ = some τ := cm_bI (F := fun z => f_X8_range c1 z σ) ⟨_, _, f1_8range h, f1_9range h⟩ ⟨_, _, f1_8range h, f1_9range h⟩
theorem f1_8spare {σ : gj_S} {c1 c2 : Int32} (h : fs_F σ) : f_X8_spare c1 c2 σ = some (-1) := by
  unfold f_X8_spare
  rw [fs_hasDock h.1]
  rfl
theorem f1_9spare {σ : gj_S} {c1 c2 : Int32} (h : fs_F σ) : f_X9_spare c1 c2 σ = some (-1, gj_sI σ 188 (upd (σ.1 188) 0 0)) := by
  have h9 := fs_F0 (v := 0) h
  unfold f_X9_spare
  rw [fs_isDock h9.2.2.1]
  rfl
theorem f1_22 {σ : gj_S} {c1 c2 c3 c4 c5 : Int32} (h : fs_F σ) : ∃ τ, gl_22 c1 c2 c3 c4 c5 σ = some τ := cm_bI (F := fun z => f_X8_spare c1 z σ) ⟨_, _, f1_8spare h, f1_9spare h⟩ ⟨_, _, f1_8spare h, f1_9spare h⟩
theorem i32_mem {x : Int32} {n : Nat} (h1 : 0 ≤ x) (h2 : x.toInt < n) : ∃ k, k < n ∧ x = Int32.ofNat k := by
  rw [Int32.le_iff_toInt_le] at h1
  have e0 : (0 : Int32).toInt = 0 := by decide
  have h3 := Int32.toInt_lt x
  refine ⟨x.toInt.toNat, by omega, Int32.toInt_inj.mp ?_⟩
  rw [Int32.toInt_ofNat_of_lt (by omega)]
  omega
theorem f1_un {τ9 : gj_S} (h : fs_9 = some τ9) {g : Int32 → gj_S → Option gj_S} {n : Nat} (hn : ∀ k, k < n → (fs_ev (g (Int32.ofNat k))).isSome = true) {x : Int32} (h1 : 0 ≤ x) (h2 : x.toInt < n) : ∃ τ, g x (fs_s τ9) = some τ := by
  obtain ⟨k, hk, rfl⟩ := i32_mem h1 h2
  exact fs_run h (hn k hk)
theorem i32_le_iff {a b : Int32} : a ≤ b ↔ a.toInt ≤ b.toInt := Int32.le_iff_toInt_le
theorem i32_lt_iff {a b : Int32} : a < b ↔ a.toInt < b.toInt := Int32.lt_iff_toInt_lt
-- text
theorem f1_1 {τ9 : gj_S} (h : fs_9 = some τ9) {c1 c2 c3 c4 c5 : Int32} : ∃ τ, gl_1 c1 c2 c3 c4 c5 (fs_s τ9) = some τ := by
  by_cases e : c1 = 0
  · subst e
    exact fs_run h (g := gl_1 0 0 0 0 0) f1_t0
  · have ht : (fs_s τ9).1 0 1 = 0 := fs_rd h (by decide +kernel)
    have ht9 : (fs_s τ9).1 188 2 = 0 := fs_rd h (by decide +kernel)
    have e0 : (0 : Int32).toInt = 0 := by decide
    have e1 : c1.toInt ≠ 0 := fun h => e (Int32.toInt_inj.mp (by rw [h, e0]))
    have a8 : f_X8_text c1 (fs_s τ9) = some (-1, fs_s τ9) := by
      unfold f_X8_text
      rw [ht]
      by_cases hc : c1 < 0
      · rw [if_pos hc]
      · rw [if_neg hc, if_neg]
        rw [i32_lt_iff] at hc
        rw [i32_le_iff]
        omega
    have a9 : f_X9_text c1 (fs_s τ9) = some (-1, gj_sI (fs_s τ9) 188 (upd ((fs_s τ9).1 188) 0 0)) := by
      unfold f_X9_text
      rw [show (gj_sI (fs_s τ9) 188 (upd ((fs_s τ9).1 188) 0 0)).1 188 2 = 0 from ht9]
      rw [show (0 : Int64) = Int32.toInt64 0 by decide, wi_row32, if_neg (by rw [i32_le_iff, i32_le_iff]; omega)]
      rfl
    exact cm_S a8 a9
theorem f1_4 {τ9 : gj_S} (h : fs_9 = some τ9) {c1 c2 c3 c4 c5 : Int32} : ∃ τ, gl_4 c1 c2 c3 c4 c5 (fs_s τ9) = some τ := by
  have hd : (fs_s τ9).1 17 0 = 0 := fs_rd h (by decide +kernel)
  have a8 : f_X8_ranked c1 (fs_s τ9) = some (-1) := by
    unfold f_X8_ranked
    rw [gj_lp_e (n := 4999) (b := .inr ()) (by unfold fb_X8_ranked_l2; rw [hd, if_pos (by decide)])]
    rfl
  obtain ⟨x, hx, hx0⟩ : ∃ x, f_X9_laysTree (gj_sI (fs_s τ9) 188 (upd ((fs_s τ9).1 188) 0 0)) = some x ∧ x.1 190 0 = 0 := by
    have hh : (fs_9.bind (fun τ => (f_X9_laysTree (gj_sI (fs_s τ) 188 (upd ((fs_s τ).1 188) 0 0))).map (fun x => x.1 190 0))) = some 0 := by decide +kernel
    rw [h] at hh
    exact Option.map_eq_some_iff.mp hh
  have a9 : f_X9_ranked c1 (fs_s τ9) = some (-1, x) := by
    unfold f_X9_ranked
    rw [hx]
    show ((gj_lp (fb_X9_ranked_l11 c1 x) 5000 (0 : Int32)).bind _) = _
    rw [gj_lp_e (n := 4999) (b := .inr ()) (by unfold fb_X9_ranked_l11; rw [if_pos (gj0 (by decide)), rd0, hx0, if_pos (by decide)])]
    rfl
  exact cm_I a8 a9
theorem f1_11 {τ9 : gj_S} (h : fs_9 = some τ9) {c1 c2 c3 c4 c5 : Int32} : ∃ τ, gl_11 c1 c2 c3 c4 c5 (fs_s τ9) = some τ := by
  have e0 : (0 : Int32).toInt = 0 := by decide
  have e1 : (1 : Int32).toInt = 1 := by decide
  have e99 : (99 : Int32).toInt = 99 := by decide
  by_cases hr : 1 ≤ c1 ∧ c1 ≤ 99
  · rw [i32_le_iff, i32_le_iff] at hr
    exact f1_un h (g := fun c => gl_11 c 0 0 0 0) (n := 100) (by decide +kernel) (by rw [i32_le_iff]; omega) (by omega)
  · have a8 : f_X8_run c1 (fs_s τ9) = some (-1, fs_s τ9) := by
      unfold f_X8_run
      by_cases hc : c1 < 1
      · rw [if_pos hc]
      · rw [if_neg hc, if_neg]
        rw [i32_lt_iff] at hc
        rw [i32_le_iff, i32_le_iff] at hr
        rw [i32_le_iff]
        omega
    have a9 : f_X9_run c1 (fs_s τ9) = some (-1, gj_sI (fs_s τ9) 188 (upd ((fs_s τ9).1 188) 0 0)) := by
      unfold f_X9_run
      rw [show (1 : Int64) = Int32.toInt64 1 by decide, show (99 : Int64) = Int32.toInt64 99 by decide, wi_row32, if_neg hr]
      rfl
    exact cm_S a8 a9
theorem f1_17 {τ9 : gj_S} (h : fs_9 = some τ9) {c1 c2 c3 c4 c5 : Int32} : ∃ τ, gl_17 c1 c2 c3 c4 c5 (fs_s τ9) = some τ := by
  have e0 : (0 : Int32).toInt = 0 := by decide
  have e3 : (3 : Int32).toInt = 3 := by decide
  by_cases hr : 0 ≤ c1 ∧ c1 ≤ 3
  · rw [i32_le_iff, i32_le_iff] at hr
    exact f1_un h (g := fun c => gl_17 c 0 0 0 0) (n := 4) (by decide +kernel) (by rw [i32_le_iff]; omega) (by omega)
  · have a8 : f_X8_lack c1 (fs_s τ9) = some (-1) := by
      unfold f_X8_lack
      rw [if_neg (fun e => hr (by subst e; decide)), if_neg (fun e => hr (by subst e; decide)), if_neg (fun e => hr (by subst e; decide)), if_neg (fun e => hr (by subst e; decide))]
    have a9 : f_X9_lack c1 (fs_s τ9) = some (-1, gj_sI (fs_s τ9) 188 (upd ((fs_s τ9).1 188) 0 0)) := by
      unfold f_X9_lack
      rw [show (0 : Int64) = Int32.toInt64 0 by decide, show (3 : Int64) = Int32.toInt64 3 by decide, wi_row32, if_neg hr]
      rfl
    exact cm_I a8 a9
theorem f1_25 {τ9 : gj_S} (h : fs_9 = some τ9) {c1 c2 c3 c4 c5 : Int32} : ∃ τ, gl_25 c1 c2 c3 c4 c5 (fs_s τ9) = some τ := by
  have e0 : (0 : Int32).toInt = 0 := by decide
  have e1 : (1 : Int32).toInt = 1 := by decide
  have e24 : (24 : Int32).toInt = 24 := by decide
  by_cases hr : 1 ≤ c1 ∧ c1 ≤ 24
  · rw [i32_le_iff, i32_le_iff] at hr
    exact f1_un h (g := fun c => gl_25 c 0 0 0 0) (n := 25) (by decide +kernel) (by rw [i32_le_iff]; omega) (by omega)
  · have a8 : f_X8_block c1 (fs_s τ9) = some (-1, fs_s τ9) := by
      unfold f_X8_block
      by_cases hc : c1 < 1
      · rw [if_pos hc]
      · rw [if_neg hc, if_pos]
        rw [i32_lt_iff] at hc
        rw [i32_le_iff, i32_le_iff] at hr
        rw [i32_lt_iff]
        omega
    have a9 : f_X9_block c1 (fs_s τ9) = some (-1, gj_sI (fs_s τ9) 188 (upd ((fs_s τ9).1 188) 0 0)) := by
      unfold f_X9_block
      rw [show (1 : Int64) = Int32.toInt64 1 by decide, show (24 : Int64) = Int32.toInt64 24 by decide, wi_row32, if_neg hr]
      rfl
    exact cm_S a8 a9
theorem f1_29 {τ9 : gj_S} (h : fs_9 = some τ9) {c1 c2 c3 c4 c5 : Int32} : ∃ τ, gl_29 c1 c2 c3 c4 c5 (fs_s τ9) = some τ := by
  have e0 : (0 : Int32).toInt = 0 := by decide
  have e1 : (1 : Int32).toInt = 1 := by decide
  by_cases hr : 0 ≤ c1 ∧ c1 ≤ 1
  · have hr2 := hr
    rw [i32_le_iff, i32_le_iff] at hr
    by_cases hc : c2 = 0
    · subst hc
      exact f1_un h (g := fun c => gl_29 c 0 0 0 0) (n := 2) (by decide +kernel) (by rw [i32_le_iff]; omega) (by omega)
    · obtain ⟨τ, ht⟩ := f1_un h (g := fun c => gl_29 c 1 0 0 0) (n := 2) (by decide +kernel) (x := c1) (by rw [i32_le_iff]; omega) (by omega)
      refine ⟨τ, ?_⟩
      rw [← ht]
      unfold gl_29
      rw [if_neg hc, if_neg (show ¬ (1 : Int32) = 0 by decide)]
      simp only [if_neg hc, if_neg (show ¬ (1 : Int32) = 0 by decide)]
  · have a8 : ∀ z, f_X8_keep c1 z (fs_s τ9) = some (0, fs_s τ9) := by
      intro z
      unfold f_X8_keep
      by_cases hc : c1 < 0
      · rw [if_pos hc]
      · rw [if_neg hc, if_pos]
        have e2 : (2 : Int32).toInt = 2 := by decide
        rw [i32_lt_iff] at hc
        rw [i32_le_iff, i32_le_iff] at hr
        rw [i32_le_iff]
        omega
    have a9 : ∀ z, f_X9_keep c1 z (fs_s τ9) = some (0, gj_sI (fs_s τ9) 188 (upd ((fs_s τ9).1 188) 0 0)) := by
      intro z
      unfold f_X9_keep
      rw [show (0 : Int64) = Int32.toInt64 0 by decide, show (1 : Int64) = Int32.toInt64 1 by decide, wi_row32, if_neg hr]
      rfl
    exact cm_bS (F := fun z => f_X8_keep c1 z (fs_s τ9)) ⟨_, _, _, a8 0, a9 0⟩ ⟨_, _, _, a8 1, a9 1⟩
theorem f1_30 {τ9 : gj_S} (h : fs_9 = some τ9) {c1 c2 c3 c4 c5 : Int32} : ∃ τ, gl_30 c1 c2 c3 c4 c5 (fs_s τ9) = some τ := by
  have e0 : (0 : Int32).toInt = 0 := by decide
  have e3 : (10 : Int32).toInt = 10 := by decide
  by_cases hr : 0 ≤ c1 ∧ c1 ≤ 10
  · rw [i32_le_iff, i32_le_iff] at hr
    exact f1_un h (g := fun c => gl_30 c 0 0 0 0) (n := 11) (by decide +kernel) (by rw [i32_le_iff]; omega) (by omega)
  · have hn : ∀ v : Int32, (0 ≤ v ∧ v ≤ 10) → ¬ c1 = v := fun v hv e => hr (by subst e; exact hv)
    have a8 : f_X8_count c1 (fs_s τ9) = some (-1) := by
      unfold f_X8_count
      rw [if_neg (hn 0 (by decide)), if_neg (hn 1 (by decide)), if_neg (hn 2 (by decide)), if_neg (hn 3 (by decide)), if_neg (hn 4 (by decide)), if_neg (hn 5 (by decide)), if_neg (hn 6 (by decide)), if_neg (hn 7 (by decide)), if_neg (hn 8 (by decide)), if_neg (hn 9 (by decide)), if_neg (hn 10 (by decide))]
    have a9 : f_X9_count c1 (fs_s τ9) = some (-1, gj_sI (fs_s τ9) 188 (upd ((fs_s τ9).1 188) 0 0)) := by
      unfold f_X9_count
      rw [if_neg (hn 0 (by decide)), if_neg (hn 1 (by decide)), if_neg (hn 2 (by decide)), if_neg (hn 3 (by decide)), if_neg (hn 4 (by decide)), if_neg (hn 5 (by decide)), if_neg (hn 6 (by decide)), if_neg (hn 7 (by decide)), if_neg (hn 8 (by decide)), if_neg (hn 9 (by decide)), if_neg (hn 10 (by decide))]
    exact cm_I a8 a9
theorem f1_12 {τ9 : gj_S} (h : fs_9 = some τ9) {c1 c2 c3 c4 c5 : Int32} : ∃ τ, gl_12 c1 c2 c3 c4 c5 (fs_s τ9) = some τ := by
  have hp : (fs_s τ9).1 17 4 = 0 := fs_rd h (by decide +kernel)
  have hp9 : (fs_s τ9).1 198 99 = 0 := fs_rd h (by decide +kernel)
  have hg : g_X8_log c1 c2 (fs_s τ9) = some () := by
    unfold g_X8_log f_X1_countLogged
    rw [hp]
    by_cases hc : c1 < 0
    · rw [if_pos hc]
    · rw [if_neg hc]
      show (if c1 < 0 then _ else _) = _
      rw [if_neg hc]
  unfold gl_12
  rw [if_pos hg]
  unfold f_X9_log
  rw [if_pos (show gj_in (99 : Int32) 180 by decide), show Int32.toNatClampNeg (99 : Int32) = 99 by decide, hp9]
  rw [show (0 : Int64) = Int32.toInt64 0 by decide, wi_row32, if_neg (i32_no c1)]
  exact ⟨_, rfl⟩
theorem f1_14 {τ9 : gj_S} (h : fs_9 = some τ9) {c1 c2 c3 c4 c5 : Int32} : ∃ τ, gl_14 c1 c2 c3 c4 c5 (fs_s τ9) = some τ := by
  obtain ⟨x, hx, hx0⟩ : ∃ x, f_X1_sumCost 17 (fs_s τ9) = some x ∧ x = 0 := by
    have hh : (fs_9.bind (fun τ => (f_X1_sumCost 17 (fs_s τ)).map id)) = some 0 := by decide +kernel
    rw [h] at hh
    exact Option.map_eq_some_iff.mp hh
  obtain ⟨y, hy, hy0⟩ : ∃ x, f_X9_costNow (gj_sI (fs_s τ9) 188 (upd ((fs_s τ9).1 188) 0 0)) = some x ∧ x = 0 := by
    have hh : (fs_9.bind (fun τ => (f_X9_costNow (gj_sI (fs_s τ) 188 (upd ((fs_s τ).1 188) 0 0))).map id)) = some 0 := by decide +kernel
    rw [h] at hh
    exact Option.map_eq_some_iff.mp hh
  subst hx0
  subst hy0
  unfold gl_14 f_X8_bill f_X9_bill
  rw [hx, hy]
  dsimp only [Option.bind_some]
  generalize (Int32.toInt64 0 * c1.toInt64 + c2.toInt64) = v
  rw [wi_row]
  simp only [lg_cmp_lt, lg_cmp_le]
  by_cases h1 : v < -2147483648
  · have h2 : ¬ (-2147483648 ≤ v ∧ v ≤ 2147483647) := by
      rw [Int64.lt_iff_toInt_lt] at h1
      rw [Int64.le_iff_toInt_le]
      omega
    rw [if_pos h1, if_neg h2]
    exact ⟨_, rfl⟩
  · by_cases h3 : v ≤ 2147483647
    · have h2 : (-2147483648 ≤ v ∧ v ≤ 2147483647) := by
        refine ⟨?_, h3⟩
        rw [Int64.lt_iff_toInt_lt] at h1
        rw [Int64.le_iff_toInt_le]
        omega
      rw [if_neg h1, if_pos h3, if_pos h2]
      dsimp only [Option.bind_some]
      rw [if_neg (show ¬ (1 : Int32) = 0 by decide)]
      dsimp only [Option.bind_some]
      rw [if_pos rfl]
      exact ⟨_, rfl⟩
    · have h2 : ¬ (-2147483648 ≤ v ∧ v ≤ 2147483647) := fun q => h3 q.2
      rw [if_neg h1, if_neg h3, if_neg h2]
      exact ⟨_, rfl⟩
theorem f1_20 {σ : gj_S} {c1 c2 c3 c4 c5 : Int32} (h : fs_F σ) : ∃ τ, gl_20 c1 c2 c3 c4 c5 σ = some τ := by
  have h9 := fs_F0 (v := 0) h
  have a8 : ∀ z, f_X8_tried c1 c2 c3 z σ = some (-1, σ) := by
    intro z
    have hc : f_X8_canBeTried c1 c2 c3 σ = some 0 := by
      unfold f_X8_canBeTried
      rw [fs_hasRoute h.2.1, fs_hasDock h.1]
      dsimp only [Option.bind_some]
      rw [if_pos rfl]
      simp
    unfold f_X8_tried
    rw [hc]
    rfl
  have a9 : ∀ z, f_X9_tried c1 c2 c3 z σ = some (-1, gj_sI σ 188 (upd (σ.1 188) 0 0)) := by
    intro z
    unfold f_X9_tried
    rw [wi_row, fs_isDock h9.2.2.1, fs_isRoute h9.2.2.2]
    dsimp only [Option.bind_some]
    rw [if_pos (show (0 : Int32) = 0 from rfl), if_pos (show (0 : Int32) = 0 from rfl)]
    simp
  exact cm_bS (F := fun z => f_X8_tried c1 c2 c3 z σ) ⟨_, _, _, a8 0, a9 0⟩ ⟨_, _, _, a8 1, a9 1⟩
theorem f1_27 {τ9 : gj_S} (h : fs_9 = some τ9) {c1 c2 c3 c4 c5 : Int32} : ∃ τ, gl_27 c1 c2 c3 c4 c5 (fs_s τ9) = some τ := by
  obtain ⟨x, hx, hx0⟩ : ∃ x, f_X4_write (fs_s τ9) = some x ∧ x.1 168 1 = 0 := by
    have hh : (fs_9.bind (fun τ => (f_X4_write (fs_s τ)).map (fun x => x.1 168 1))) = some 0 := by decide +kernel
    rw [h] at hh
    exact Option.map_eq_some_iff.mp hh
  obtain ⟨y, hy, hy0⟩ : ∃ y, gj_lp (fb_X9_sheet_l19 c1) 5000 ((0 : Int32), (gj_sI (gj_sI x 188 (upd (x.1 188) 0 (0 : Int32))) 188 (upd ((gj_sI x 188 (upd (x.1 188) 0 (0 : Int32))).1 188) 40 (0 : Int32)))) = some y ∧ y.1 188 40 = 0 := by
    have hR : x.1 191 0 = 0 := by
      have hh : (fs_9.bind (fun τ => (f_X4_write (fs_s τ)).map (fun x => x.1 191 0))) = some 0 := by decide +kernel
      rw [h] at hh
      change (f_X4_write (fs_s τ9)).map (fun x => x.1 191 0) = some 0 at hh
      rw [hx] at hh
      exact Option.some.inj hh
    refine ⟨_, gj_lp_e (n := 4999) (b := (gj_sI (gj_sI x 188 (upd (x.1 188) 0 (0 : Int32))) 188 (upd ((gj_sI x 188 (upd (x.1 188) 0 (0 : Int32))).1 188) 40 (0 : Int32)))) ?_, rfl⟩
    unfold fb_X9_sheet_l19
    rw [if_pos (gj0 (by decide)), rd0]
    rw [if_pos]
    show x.1 191 0 ≤ 0
    rw [hR]
    decide
  have a8 : f_X8_sheet c1 (fs_s τ9) = if -1 ≤ c1 then if c1 = -1 then some (0, x) else if 0 ≤ c1 then some (-2, x) else if gj_in c1 192 then some ((x.1 169 (Int32.toNatClampNeg c1)), x) else none else some (-1, fs_s τ9) := by
    unfold f_X8_sheet
    rw [hx]
    dsimp only [Option.bind_some]
    rw [hx0]
  by_cases h1 : -1 ≤ c1
  · have a9 : f_X9_sheet c1 x = if c1 = -1 then some (0, y) else if 0 ≤ c1 then some (-2, y) else if gj_in c1 240 then some ((y.1 210 (Int32.toNatClampNeg c1)), y) else none := by
      unfold f_X9_sheet
      rw [hy, if_pos h1]
      dsimp only [Option.bind_some]
      rw [hy0]
    rw [if_pos h1] at a8
    by_cases h2 : c1 = -1
    · rw [if_pos h2] at a8 a9
      exact cm_S a8 a9
    · have h3 : 0 ≤ c1 := by
        have e1 : (-1 : Int32).toInt = -1 := by decide
        have e0 : (0 : Int32).toInt = 0 := by decide
        have : c1.toInt ≠ -1 := fun q => h2 (Int32.toInt_inj.mp (by rw [q, e1]))
        rw [i32_le_iff] at h1 ⊢
        omega
      rw [if_neg h2, if_pos h3] at a8 a9
      exact cm_S a8 a9
  · have a9 : f_X9_sheet c1 (fs_s τ9) = some (-1, gj_sI (fs_s τ9) 188 (upd ((fs_s τ9).1 188) 0 0)) := by
      unfold f_X9_sheet
      rw [if_neg h1]
    rw [if_neg h1] at a8
    exact cm_S a8 a9
/-! feed, at any state -/
theorem i32_add {a b : Int32} (h1 : -2147483648 ≤ a.toInt + b.toInt) (h2 : a.toInt + b.toInt < 2147483648) : (a + b).toInt = a.toInt + b.toInt := by
  rw [Int32.toInt_add]
  exact Int.bmod_eq_of_le (by omega) (by omega)
theorem i32_sub {a b : Int32} (h1 : -2147483648 ≤ a.toInt - b.toInt) (h2 : a.toInt - b.toInt < 2147483648) : (a - b).toInt = a.toInt - b.toInt := by
  rw [Int32.toInt_sub]
  exact Int.bmod_eq_of_le (by omega) (by omega)
theorem gj_in_iff {x : Int32} {n : Nat} : gj_in x n ↔ 0 ≤ x.toInt ∧ x.toInt < n := by
  unfold gj_in
  rw [i32_lt_iff, show (0 : Int32).toInt = 0 by decide, Int32.toNatClampNeg]
  omega
theorem pb_step {b s : Int32} {σ : gj_S} (hs : ¬ s < 0) (h1 : 0 ≤ (σ.1 0 1).toInt) (h2 : (σ.1 0 1).toInt < 600) : ∃ τ, fb_X8_putBytes_l3 b (s, σ) = some (.inr (s + (-8), τ)) ∧ (τ.1 0 1) = σ.1 0 1 + 1 ∧ fr8 σ τ := by
  have e600 : (600 : Int32).toInt = 600 := by decide
  unfold fb_X8_putBytes_l3
  rw [if_neg hs, if_neg (by rw [i32_le_iff]; dsimp only; omega), if_pos (gj_in_iff.mpr ⟨h1, by omega⟩)]
  refine ⟨_, rfl, rfl, fr8_I (by decide) (fr8_I (by decide) fr8_rf)⟩
theorem pb_stop {b s : Int32} {σ : gj_S} (hs : s < 0) : fb_X8_putBytes_l3 b (s, σ) = some (.inl σ) := by
  unfold fb_X8_putBytes_l3
  rw [if_pos hs]
theorem fr8_tr {a b c : gj_S} (h1 : fr8 a b) (h2 : fr8 b c) : fr8 a c := fun k hk => ⟨(h2 k hk).1.trans (h1 k hk).1, (h2 k hk).2.trans (h1 k hk).2⟩
theorem fr9_tr {a b c : gj_S} (h1 : fr9 a b) (h2 : fr9 b c) : fr9 a c := ⟨fun k hk => ⟨(h2.1 k hk).1.trans (h1.1 k hk).1, (h2.1 k hk).2.trans (h1.1 k hk).2⟩, h2.2.trans h1.2⟩
theorem pb_row {b : Int32} {σ : gj_S} (h1 : 0 ≤ (σ.1 0 1).toInt) (h2 : (σ.1 0 1).toInt ≤ 596) : TP (f_X8_putBytes b σ) (fun τ => (τ.1 0 1).toInt = (σ.1 0 1).toInt + 4 ∧ fr8 σ τ) := by
  have e1 : (1 : Int32).toInt = 1 := by decide
  have hq : ∀ (x : Int32), x.toInt < 600 → -1 ≤ x.toInt → (x + 1).toInt = x.toInt + 1 := fun x a c => by rw [i32_add (by omega) (by omega), e1]
  obtain ⟨τ1, p1, q1, r1⟩ := pb_step (b := b) (s := 24) (σ := σ) (by decide) h1 (by omega)
  have q1' := congrArg Int32.toInt q1
  rw [hq _ (by omega) (by omega)] at q1'
  obtain ⟨τ2, p2, q2, r2⟩ := pb_step (b := b) (s := 24 + (-8)) (σ := τ1) (by decide) (by omega) (by omega)
  have q2' := congrArg Int32.toInt q2
  rw [hq _ (by omega) (by omega)] at q2'
  obtain ⟨τ3, p3, q3, r3⟩ := pb_step (b := b) (s := 24 + (-8) + (-8)) (σ := τ2) (by decide) (by omega) (by omega)
  have q3' := congrArg Int32.toInt q3
  rw [hq _ (by omega) (by omega)] at q3'
  obtain ⟨τ4, p4, q4, r4⟩ := pb_step (b := b) (s := 24 + (-8) + (-8) + (-8)) (σ := τ3) (by decide) (by omega) (by omega)
  have q4' := congrArg Int32.toInt q4
  rw [hq _ (by omega) (by omega)] at q4'
  refine ⟨τ4, ?_, by omega, fr8_tr r1 (fr8_tr r2 (fr8_tr r3 r4))⟩
  unfold f_X8_putBytes
  rw [gj_lp_g (n := 4999) p1, gj_lp_g (n := 4998) p2, gj_lp_g (n := 4997) p3, gj_lp_g (n := 4996) p4, gj_lp_e (n := 4995) (pb_stop (by decide))]
  rfl
theorem ps_step {b s : Int32} {σ : gj_S} (hs : ¬ s < 0) (h1 : 0 ≤ (σ.1 188 2).toInt) (h2 : (σ.1 188 2).toInt < 600) : ∃ τ, fb_X9_puts_l3 b (s, σ) = some (.inr (s + (-8), τ)) ∧ (τ.1 188 2) = σ.1 188 2 + 1 ∧ fr9 σ τ := by
  unfold fb_X9_puts_l3
  rw [if_neg hs, if_pos (gj_in_iff.mpr ⟨h1, by omega⟩)]
  refine ⟨_, rfl, rfl, fr9_I (by decide) (fr9_I (by decide) fr9_rf)⟩
theorem ps_stop {b s : Int32} {σ : gj_S} (hs : s < 0) : fb_X9_puts_l3 b (s, σ) = some (.inl σ) := by
  unfold fb_X9_puts_l3
  rw [if_pos hs]
theorem ps_row {b : Int32} {σ : gj_S} (h1 : 0 ≤ (σ.1 188 2).toInt) (h2 : (σ.1 188 2).toInt ≤ 596) : TP (f_X9_puts b σ) (fun τ => (τ.1 188 2).toInt = (σ.1 188 2).toInt + 4 ∧ fr9 σ τ) := by
  have e1 : (1 : Int32).toInt = 1 := by decide
  have hq : ∀ (x : Int32), x.toInt < 600 → -1 ≤ x.toInt → (x + 1).toInt = x.toInt + 1 := fun x a c => by rw [i32_add (by omega) (by omega), e1]
  obtain ⟨τ1, p1, q1, r1⟩ := ps_step (b := b) (s := 24) (σ := σ) (by decide) h1 (by omega)
  have q1' := congrArg Int32.toInt q1
  rw [hq _ (by omega) (by omega)] at q1'
  obtain ⟨τ2, p2, q2, r2⟩ := ps_step (b := b) (s := 24 + (-8)) (σ := τ1) (by decide) (by omega) (by omega)
  have q2' := congrArg Int32.toInt q2
  rw [hq _ (by omega) (by omega)] at q2'
  obtain ⟨τ3, p3, q3, r3⟩ := ps_step (b := b) (s := 24 + (-8) + (-8)) (σ := τ2) (by decide) (by omega) (by omega)
  have q3' := congrArg Int32.toInt q3
  rw [hq _ (by omega) (by omega)] at q3'
  obtain ⟨τ4, p4, q4, r4⟩ := ps_step (b := b) (s := 24 + (-8) + (-8) + (-8)) (σ := τ3) (by decide) (by omega) (by omega)
  have q4' := congrArg Int32.toInt q4
  rw [hq _ (by omega) (by omega)] at q4'
  refine ⟨τ4, ?_, by omega, fr9_tr r1 (fr9_tr r2 (fr9_tr r3 r4))⟩
  unfold f_X9_puts
  rw [gj_lp_g (n := 4999) p1, gj_lp_g (n := 4998) p2, gj_lp_g (n := 4997) p3, gj_lp_g (n := 4996) p4, gj_lp_e (n := 4995) (ps_stop (by decide))]
  rfl
/-- feed of the class: how many bytes it says, what it leaves -/
theorem fd_8 {a b c d e : Int32} {σ : gj_S} (h1 : 0 ≤ (σ.1 0 1).toInt) (h2 : (σ.1 0 1).toInt ≤ 600) : TP (f_X8_feed a b c d e σ) (fun x => x.1.toInt = (if (σ.1 0 1).toInt + 20 ≤ 600 then (σ.1 0 1).toInt + 20 else -1) ∧ (x.2.1 0 1).toInt = (if (σ.1 0 1).toInt + 20 ≤ 600 then (σ.1 0 1).toInt + 20 else (σ.1 0 1).toInt) ∧ fr8 σ x.2) := by
  have e20 : (20 : Int32).toInt = 20 := by decide
  have e600 : (600 : Int32).toInt = 600 := by decide
  have ea : (σ.1 0 1 + 20).toInt = (σ.1 0 1).toInt + 20 := by rw [i32_add (by omega) (by omega), e20]
  unfold f_X8_feed
  refine tp_if (fun hc => ?_) (fun hc => ?_)
  · rw [i32_le_iff, ea, e600] at hc
    refine tp_bind (pb_row h1 (by omega)) (fun τ1 p1 => ?_)
    refine tp_bind (pb_row (by omega) (by omega)) (fun τ2 p2 => ?_)
    refine tp_bind (pb_row (by omega) (by omega)) (fun τ3 p3 => ?_)
    refine tp_bind (pb_row (by omega) (by omega)) (fun τ4 p4 => ?_)
    refine tp_bind (pb_row (by omega) (by omega)) (fun τ5 p5 => ?_)
    rw [if_pos hc, if_pos hc]
    exact tp_some ⟨by dsimp only; omega, by dsimp only; omega, fr8_tr p1.2 (fr8_tr p2.2 (fr8_tr p3.2 (fr8_tr p4.2 p5.2)))⟩
  · rw [i32_le_iff, ea, e600] at hc
    rw [if_neg hc, if_neg hc]
    exact tp_some ⟨show (-1 : Int32).toInt = -1 by decide, rfl, fr8_rf⟩
theorem fd_9 {a b c d e : Int32} {σ : gj_S} (h1 : 0 ≤ (σ.1 188 2).toInt) (h2 : (σ.1 188 2).toInt ≤ 600) : TP (f_X9_feed a b c d e σ) (fun x => x.1.toInt = (if (σ.1 188 2).toInt + 20 ≤ 600 then (σ.1 188 2).toInt + 20 else -1) ∧ (x.2.1 188 2).toInt = (if (σ.1 188 2).toInt + 20 ≤ 600 then (σ.1 188 2).toInt + 20 else (σ.1 188 2).toInt) ∧ fr9 σ x.2) := by
  have e20 : (20 : Int32).toInt = 20 := by decide
  have e600 : (600 : Int32).toInt = 600 := by decide
  have ea : (σ.1 188 2 + 20).toInt = (σ.1 188 2).toInt + 20 := by rw [i32_add (by omega) (by omega), e20]
  have hz : (gj_sI σ 188 (upd (σ.1 188) 0 0)).1 188 2 = σ.1 188 2 := rfl
  have hf : fr9 σ (gj_sI σ 188 (upd (σ.1 188) 0 0)) := fr9_I (by decide) fr9_rf
  unfold f_X9_feed
  refine tp_if (fun hc => ?_) (fun hc => ?_)
  · rw [hz, i32_le_iff, ea, e600] at hc
    refine tp_bind (ps_row (by rw [hz]; exact h1) (by rw [hz]; omega)) (fun τ1 p1 => ?_)
    rw [hz] at p1
    refine tp_bind (ps_row (by omega) (by omega)) (fun τ2 p2 => ?_)
    refine tp_bind (ps_row (by omega) (by omega)) (fun τ3 p3 => ?_)
    refine tp_bind (ps_row (by omega) (by omega)) (fun τ4 p4 => ?_)
    refine tp_bind (ps_row (by omega) (by omega)) (fun τ5 p5 => ?_)
    rw [if_pos hc, if_pos hc]
    exact tp_some ⟨by dsimp only; omega, by dsimp only; omega, fr9_tr hf (fr9_tr p1.2 (fr9_tr p2.2 (fr9_tr p3.2 (fr9_tr p4.2 p5.2))))⟩
  · rw [hz, i32_le_iff, ea, e600] at hc
    rw [if_neg hc, if_neg hc]
    exact tp_some ⟨show (-1 : Int32).toInt = -1 by decide, rfl, hf⟩
theorem f1_0 {τ9 : gj_S} (h : fs_9 = some τ9) {c1 c2 c3 c4 c5 : Int32} : ∃ τ, gl_0 c1 c2 c3 c4 c5 (fs_s τ9) = some τ := by
  have ht : (fs_s τ9).1 0 1 = 0 := fs_rd h (by decide +kernel)
  have ht9 : (fs_s τ9).1 188 2 = 0 := fs_rd h (by decide +kernel)
  have e0 : (0 : Int32).toInt = 0 := by decide
  obtain ⟨⟨v, s⟩, a8, p8⟩ := fd_8 (a := c1) (b := c2) (c := c3) (d := c4) (e := c5) (σ := fs_s τ9) (by rw [ht]; decide) (by rw [ht]; decide)
  have hs : s.1 188 2 = 0 := by rw [(p8.2.2 188 (by decide)).1]; exact ht9
  obtain ⟨⟨w, t⟩, a9, p9⟩ := fd_9 (a := c1) (b := c2) (c := c3) (d := c4) (e := c5) (σ := s) (by rw [hs]; decide) (by rw [hs]; decide)
  have hv : w = v := by
    have q8 := p8.1
    have q9 := p9.1
    rw [ht, e0] at q8
    rw [hs, e0] at q9
    exact Int32.toInt_inj.mp (q9.trans q8.symm)
  subst hv
  exact cm_S a8 a9
