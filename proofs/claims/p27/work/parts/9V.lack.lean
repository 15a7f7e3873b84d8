/-! ===== lack, ranked ===== -/
def sR (v : Nat → Int32) : Nat → Nat → Int32
  | 0, _ => 0
  | f + 1, k => sR v f (k + 1) + v k
theorem sR_su {v : Nat → Int32} {n : Nat} : ∀ (f k : Nat), k + f = n → su v k + sR v f k = su v n
  | 0, k, h => by
    obtain rfl : k = n := by omega
    show su v k + 0 = _
    rw [Int32.add_zero]
  | f + 1, k, h => by
    have ih := sR_su (v := v) (n := n) f (k + 1) (by omega)
    rw [← ih]
    show su v k + (sR v f (k + 1) + v k) = (su v k + v k) + sR v f (k + 1)
    rw [Int32.add_comm (sR v f (k + 1)), Int32.add_assoc]
def vF (o : Option Nat) : Int32 := match o with | some k => nI k | none => -2
theorem r9_lackloop {n r : Nat} {b0 e0 : Nat → Nat} {σ : gj_S} (h : rS n r b0 e0 σ) {b1 : Int32} {v : Nat → Int32} (hv : ∀ d, d < n → (if (2 : Int32) ≤ b1 then ((f_X9_stuckOf (nI d) σ).bind fun x => some x) else ((f_X9_lackOf (nI d) σ).bind fun x => some x)) = some (v d)) : ∀ (k : Nat), k ≤ n → ∀ fu, k < fu → gj_lp (fb_X9_lack_l34 b1 σ) fu (sR v (n - k) k, vF (fi (fun d => decide (¬ v d ≤ 0)) (n - k) k), nI k - 1) = some (su v n, vF (fi (fun d => decide (¬ v d ≤ 0)) n 0))
  | 0, hk, fu, hfu => by
    obtain ⟨fu', rfl⟩ : ∃ y, fu = y + 1 := ⟨fu - 1, by omega⟩
    have e := sR_su (v := v) (n := n) (n - 0) 0 (by omega)
    rw [gj_lp_e (b := (sR v (n - 0) 0, vF (fi (fun d => decide (¬ v d ≤ 0)) (n - 0) 0))) (by unfold fb_X9_lack_l34; dsimp only; rw [if_pos (by decide)])]
    rw [← e]
    show _ = some ((0 : Int32) + _, _)
    rw [Int32.zero_add, Nat.sub_zero]
  | k + 1, hk, fu, hfu => by
    have hn := h.1
    obtain ⟨fu', rfl⟩ : ∃ y, fu = y + 1 := ⟨fu - 1, by omega⟩
    have e1 : n - k = (n - (k + 1)) + 1 := by omega
    have ih := r9_lackloop h hv k (by omega) fu' (by omega)
    rw [e1] at ih
    rw [← ih, nI_pred]
    refine gj_lp_g ?_
    unfold fb_X9_lack_l34
    dsimp only
    rw [if_neg (nI_pos (by omega)), hv k (by omega)]
    dsimp only [Option.bind_some]
    have e2 : nI k + -1 = nI k - 1 := by
      apply Int32.toBitVec_inj.mp
      simp [BitVec.sub_eq_add_neg]
    rw [e2]
    have ef : fi (fun d => decide (¬ v d ≤ 0)) (n - (k + 1) + 1) k = if decide (¬ v k ≤ 0) = true then some k else fi (fun d => decide (¬ v d ≤ 0)) (n - (k + 1)) (k + 1) := rfl
    rw [ef]
    by_cases q : v k ≤ 0
    · rw [if_pos q, if_neg (by simp [q])]
      rfl
    · rw [if_neg q, if_pos (by simp [q])]
      rfl
theorem c8_find {n r b : Nat} {b0 e0 : Nat → Nat} {s : Nat → Int32} {σ : gj_S} {f : Int32 → Option ((Int32 ⊕ Unit) ⊕ Int32)} {v : Nat → Int32} (hn : n ≤ 8) (h1 : f (nI n) = some (.inl (.inr ()))) (h2 : ∀ d, d < n → f (nI d) = if v d ≤ 0 then some (.inr (nI d + 1)) else some (.inl (.inl (nI d)))) : ((gj_lp f 5000 0).bind fun y1 => Sum.elim (fun q => some q) (fun _ => some (-2 : Int32)) y1) = some (vF (fi (fun d => decide (¬ v d ≤ 0)) n 0)) := by
  rw [lp_find (N := n) (p := fun d => decide (¬ v d ≤ 0)) (res := fun d => nI d) (by omega) h1 (fun k hk => ?_)]
  · dsimp only [Option.bind_some]
    cases fi (fun d => decide (¬ v d ≤ 0)) n 0 with
    | none => rfl
    | some k => rfl
  · rw [h2 k hk]
    by_cases q : v k ≤ 0
    · rw [if_pos q, if_neg (by simp [q]), nI_1]
    · rw [if_neg q, if_pos (by simp [q])]
theorem k_17 {K : Nat} {σ : gj_S} (hR : REL K σ) (c1 c2 c3 c4 c5 : Int32) : ∃ τ, gl_17 c1 c2 c3 c4 c5 σ = some τ ∧ REL (K + 100) τ := by
  obtain ⟨n, r, b0, e0, hS, ⟨⟨P, hPK, hP, hf, hp⟩, -⟩, -⟩ := id hR
  have hn := hS.1
  have hg := rS_g hS
  have h0 : smX σ (gj_sI σ 188 (upd (σ.1 188) 0 0)) := smX_t
  have hS0 := smX_S h0 hS
  have e9 : (gj_sI σ 188 (upd (σ.1 188) 0 0)).1 198 = σ.1 198 := rfl
  have ez : (0 : Int32).toInt = 0 := by decide
  have r2 : f_X9_within c1.toInt64 0 3 = some (bI (decide (0 ≤ c1.toInt ∧ c1.toInt ≤ 3))) := by
    have := wiL c1 0 3
    rw [ez, show (3 : Int32).toInt = 3 by decide] at this
    exact this
  have fr0 := frK_X h0
  -- sums and firsts of the class
  have sL : f_X1_sumLack 17 σ = some (su (vl r (σ.1 198)) n) := by
    unfold f_X1_sumLack
    rw [lp_sum (N := n) (v := vl r (σ.1 198)) (by omega) (fun c => ?_) (fun k hk c => ?_)]
    · rfl
    · unfold fb_X1_sumLack_l4
      dsimp only
      rw [hp.1.1, if_pos (nI_le (by omega) (by omega))]
    · unfold fb_X1_sumLack_l4
      dsimp only
      rw [hp.1.1, if_neg (nI_ge hk (by omega)), c8_lack hg hp.1 hf hk, nI_1]
      rfl
  have sK : f_X1_sumStuck 17 σ = some (su (vk r (σ.1 198)) n) := by
    unfold f_X1_sumStuck
    rw [lp_sum (N := n) (v := vk r (σ.1 198)) (by omega) (fun c => ?_) (fun k hk c => ?_)]
    · rfl
    · unfold fb_X1_sumStuck_l4
      dsimp only
      rw [hp.1.1, if_pos (nI_le (by omega) (by omega))]
    · unfold fb_X1_sumStuck_l4
      dsimp only
      rw [hp.1.1, if_neg (nI_ge hk (by omega)), c8_stuck hg hp.1 hf hk, nI_1]
      rfl
  have fL : f_X1_firstLacking 17 σ = some (vF (fi (fun d => decide (¬ vl r (σ.1 198) d ≤ 0)) n 0)) := by
    unfold f_X1_firstLacking
    refine c8_find (n := n) (r := r) (b := 17) (b0 := b0) (e0 := e0) (s := σ.1 198) (σ := σ) hn ?_ (fun d hd => ?_)
    · unfold fb_X1_firstLacking_l2
      rw [hp.1.1, if_pos (nI_le (by omega) (by omega))]
    · unfold fb_X1_firstLacking_l2
      rw [hp.1.1, if_neg (nI_ge hd (by omega)), c8_lack hg hp.1 hf hd]
      rfl
  have fK : f_X1_firstStuck 17 σ = some (vF (fi (fun d => decide (¬ vk r (σ.1 198) d ≤ 0)) n 0)) := by
    unfold f_X1_firstStuck
    refine c8_find (n := n) (r := r) (b := 17) (b0 := b0) (e0 := e0) (s := σ.1 198) (σ := σ) hn ?_ (fun d hd => ?_)
    · unfold fb_X1_firstStuck_l2
      rw [hp.1.1, if_pos (nI_le (by omega) (by omega))]
    · unfold fb_X1_firstStuck_l2
      rw [hp.1.1, if_neg (nI_ge hd (by omega)), c8_stuck hg hp.1 hf hd]
      rfl
  -- the reference
  have start : ∀ v : Nat → Int32, ((0 : Int32), (-2 : Int32), nI n - 1) = (sR v (n - n) n, vF (fi (fun d => decide (¬ v d ≤ 0)) (n - n) n), nI n - 1) := fun v => by rw [Nat.sub_self]; rfl
  have loop : ∀ (b : Int32) (v : Nat → Int32), (∀ d, d < n → (if (2 : Int32) ≤ b then ((f_X9_stuckOf (nI d) (gj_sI σ 188 (upd (σ.1 188) 0 0))).bind fun x => some x) else ((f_X9_lackOf (nI d) (gj_sI σ 188 (upd (σ.1 188) 0 0))).bind fun x => some x)) = some (v d)) → gj_lp (fb_X9_lack_l34 b (gj_sI σ 188 (upd (σ.1 188) 0 0))) 5000 (0, -2, (gj_sI σ 188 (upd (σ.1 188) 0 0)).1 190 (Int32.toNatClampNeg 0) - 1) = some (su v n, vF (fi (fun d => decide (¬ v d ≤ 0)) n 0)) := fun b v hv => by
    rw [rd0, show (gj_sI σ 188 (upd (σ.1 188) 0 0)).1 190 0 = nI n from hS.2.2.1, start v]
    exact r9_lackloop hS0 hv n (Nat.le_refl _) 5000 (by omega)
  have lowL : ∀ b : Int32, ¬ (2 : Int32) ≤ b → ∀ d, d < n → (if (2 : Int32) ≤ b then ((f_X9_stuckOf (nI d) (gj_sI σ 188 (upd (σ.1 188) 0 0))).bind fun x => some x) else ((f_X9_lackOf (nI d) (gj_sI σ 188 (upd (σ.1 188) 0 0))).bind fun x => some x)) = some (vl r (σ.1 198) d) := fun b hb d hd => by
    rw [if_neg hb, r9_lack hS0 hd, e9]
    rfl
  have lowK : ∀ b : Int32, (2 : Int32) ≤ b → ∀ d, d < n → (if (2 : Int32) ≤ b then ((f_X9_stuckOf (nI d) (gj_sI σ 188 (upd (σ.1 188) 0 0))).bind fun x => some x) else ((f_X9_lackOf (nI d) (gj_sI σ 188 (upd (σ.1 188) 0 0))).bind fun x => some x)) = some (vk r (σ.1 198) d) := fun b hb d hd => by
    rw [if_pos hb, r9_stuck hS0 hd, e9]
    rfl
  by_cases hin : 0 ≤ c1.toInt ∧ c1.toInt ≤ 3
  · rw [decide_eq_true hin] at r2
    obtain ⟨p, hp4, rfl⟩ : ∃ p, p < 4 ∧ c1 = nI p := inR_of (decide_eq_true (by omega))
    rcases (show p = 0 ∨ p = 1 ∨ p = 2 ∨ p = 3 by omega) with rfl | rfl | rfl | rfl
    · refine rc_I (v := su (vl r (σ.1 198)) n) (by unfold f_X8_lack; rw [if_pos (show nI 0 = 0 from rfl), sL]; rfl) ?_ hR
      unfold f_X9_lack
      exact tp_beq r2 (tp_f (by decide) (tp_t (gj0 (by decide)) (tp_beq (loop (nI 0) _ (lowL _ (by decide))) (tp_t (by decide) (tp_some ⟨rfl, fr0⟩)))))
    · refine rc_I (v := vF (fi (fun d => decide (¬ vl r (σ.1 198) d ≤ 0)) n 0)) (by unfold f_X8_lack; rw [if_neg (by decide), if_pos (show nI 1 = 1 from rfl), fL]; rfl) ?_ hR
      unfold f_X9_lack
      exact tp_beq r2 (tp_f (by decide) (tp_t (gj0 (by decide)) (tp_beq (loop (nI 1) _ (lowL _ (by decide))) (tp_f (by decide) (tp_some ⟨rfl, fr0⟩)))))
    · refine rc_I (v := su (vk r (σ.1 198)) n) (by unfold f_X8_lack; rw [if_neg (by decide), if_neg (by decide), if_pos (show nI 2 = 2 from rfl), sK]; rfl) ?_ hR
      unfold f_X9_lack
      exact tp_beq r2 (tp_f (by decide) (tp_t (gj0 (by decide)) (tp_beq (loop (nI 2) _ (lowK _ (by decide))) (tp_t (by decide) (tp_some ⟨rfl, fr0⟩)))))
    · refine rc_I (v := vF (fi (fun d => decide (¬ vk r (σ.1 198) d ≤ 0)) n 0)) (by unfold f_X8_lack; rw [if_neg (by decide), if_neg (by decide), if_neg (by decide), if_pos (show nI 3 = 3 from rfl), fK]; rfl) ?_ hR
      unfold f_X9_lack
      exact tp_beq r2 (tp_f (by decide) (tp_t (gj0 (by decide)) (tp_beq (loop (nI 3) _ (lowK _ (by decide))) (tp_f (by decide) (tp_some ⟨rfl, fr0⟩)))))
  · rw [decide_eq_false hin] at r2
    have hne : ∀ v : Int32, (0 ≤ v.toInt ∧ v.toInt ≤ 3) → ¬ c1 = v := fun v hv e => hin (by rw [e]; exact hv)
    refine rc_I (v := -1) (by unfold f_X8_lack; rw [if_neg (hne 0 (by decide)), if_neg (hne 1 (by decide)), if_neg (hne 2 (by decide)), if_neg (hne 3 (by decide))]) ?_ hR
    unfold f_X9_lack
    exact tp_beq r2 (tp_t rfl (tp_some ⟨rfl, fr0⟩))
