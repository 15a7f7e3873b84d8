/-! ===== the fresh state ===== -/
def fs_8 : Option gj_S := f_X7_beginAll 16 bj_s0
def fs_g (τ : gj_S) : Option gj_S := f_X9_begins (gj_sI τ 198 (upd (τ.1 198) (Int32.toNatClampNeg 40) 4))
def fs_9 : Option gj_S := fs_8.bind fs_g
theorem fs_8t : fs_8.map (fun τ => τ.2.2) = some 14 := by decide +kernel
theorem fs_9t : fs_9.map (fun τ => τ.2.2) = some 14 := by decide +kernel
theorem fs_mp {o : Option gj_S} (h : o.map (fun τ => τ.2.2) = some 14) : ∃ τ, o = some τ ∧ τ.2.2 < 1000 := by
  cases o with
  | none => cases h
  | some τ =>
    refine ⟨τ, rfl, ?_⟩
    have e : τ.2.2 = 14 := Option.some.inj h
    omega
theorem fs_bd {o : Option gj_S} {g : gj_S → Option gj_S} {τ r : gj_S} (h : o = some τ) (h2 : o.bind g = some r) : g τ = some r := by
  subst h
  exact h2
/-- both constructors come to their end; what is left of wh_ok is the rounds -/
theorem fs_ok {L : Nat} {xs : Nat → Int32} (h : ∀ τ9, fs_9 = some τ9 → ∃ τ, fl_n xs (L / 6) 0 (gj_sJ τ9 211 (fun _ => 0)) = some τ) : wh_ok L xs := by
  obtain ⟨τ8, h8, e8⟩ := fs_mp fs_8t
  obtain ⟨τ9, h9, e9⟩ := fs_mp fs_9t
  obtain ⟨τ, ht⟩ := h τ9 h9
  have hb : fs_g τ8 = some τ9 := fs_bd h8 h9
  have hw : fr8 bj_s0 τ8 := w_X7_beginAll (σ0 := bj_s0) (by decide) fr8_rf τ8 h8
  exact ⟨τ8, τ9, τ, h8, hw, e8, hb, e9, ht⟩
