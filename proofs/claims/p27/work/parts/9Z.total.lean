/-! ===== proof, total: the calls ===== -/
theorem rc_L {K : Nat} {σ : gj_S} {a : Option Int64} {f : Option (Int64 × gj_S)} {v : Int64} (h1 : a = some v) (h2 : TP f (fun x => x.1 = v ∧ frK σ x.2)) (hR : REL K σ) : ∃ τ, (a.bind fun x1 => f.bind fun x2 => (if (lg_cmp x1 x2.1) = 0 then some x2.2 else none)) = some τ ∧ REL (K + 100) τ := by
  subst h1
  obtain ⟨⟨w, t⟩, rfl, rfl, h4⟩ := h2
  refine ⟨t, ?_, REL_mono (REL_fr hR h4) (by omega)⟩
  exact if_pos ((lg_cmp_eq _ _).mpr rfl)
theorem k_16 {K : Nat} {σ : gj_S} (hR : REL K σ) (c1 c2 c3 c4 c5 : Int32) : ∃ τ, gl_16 c1 c2 c3 c4 c5 σ = some τ ∧ REL (K + 100) τ := by
  obtain ⟨n, r, b0, e0, hS, ⟨hB1, up, par, rk, dp, pr, hT, ht⟩, hC, hD, hE, hF⟩ := id hR
  have h0 : smX σ (gj_sI σ 188 (upd (σ.1 188) 0 0)) := smX_t
  refine rc_L (v := 0 + sL (vpr r b0 e0 (σ.1 198) pr) r - sL (vpd (σ.1 198) pr) n) ?_ ?_ hR
  · unfold f_X8_proof
    rw [c8_proof (rel_cL hS hB1 hT ht)]
    rfl
  · unfold f_X9_proof
    refine tp_bind (r9_lay (smX_S h0 hS) (by rw [smX_s h0]; exact hT)) (fun z hz => ?_)
    have ez : z.1 198 = σ.1 198 := by rw [sm9_s hz.1, smX_s h0]
    rw [r9_proof hz.2, ez]
    refine tp_some ⟨?_, frK_X (smX_tr h0 (smX_9 hz.1))⟩
    dsimp only
    apply Int64.toBitVec_inj.mp
    simp only [Int64.toBitVec_sub, Int64.toBitVec_add]
    rw [BitVec.sub_eq_add_neg, BitVec.sub_eq_add_neg, BitVec.add_assoc, BitVec.add_assoc, BitVec.add_comm (-_)]
theorem i64_add {a b : Int32} (h1 : -2147483648 ≤ a.toInt + b.toInt) (h2 : a.toInt + b.toInt < 2147483648) : (a + b).toInt64 = a.toInt64 + b.toInt64 := by
  apply Int64.toInt_inj.mp
  rw [Int32.toInt_toInt64, i32_add h1 h2, Int64.toInt_add, Int32.toInt_toInt64, Int32.toInt_toInt64]
  exact (Int.bmod_eq_of_le (by omega) (by omega)).symm
/-- flows of the first m tenders -/
theorem tot_m {n r F : Nat} {s : Nat → Int32} (hf : fP n r F s) (hn : n ≤ 8) (hF : F ≤ 200000000) : ∀ m, m ≤ n → (0 ≤ (su (vl r s) m + su (vk r s) m).toInt ∧ (su (vl r s) m + su (vk r s) m).toInt ≤ m * F) ∧ (10000 : Int64) * (su (vl r s) m + su (vk r s) m).toInt64 = sL (fun d => (10000 : Int64) * (s (50 + (r + d))).toInt64) m
  | 0, _ => by
    have e : (su (vl r s) 0 + su (vk r s) 0).toInt = 0 := by
      show ((0 : Int32) + 0).toInt = 0
      decide
    refine ⟨⟨by omega, by rw [e]; simp⟩, ?_⟩
    show (10000 : Int64) * ((0 : Int32) + 0).toInt64 = 0
    decide
  | m + 1, hm => by
    obtain ⟨⟨i1, i2⟩, i3⟩ := tot_m hf hn hF m (by omega)
    obtain ⟨f, f1, f2, -, -, f5⟩ := hf.2 m (by omega)
    have e1 : su (vl r s) (m + 1) + su (vk r s) (m + 1) = (su (vl r s) m + su (vk r s) m) + s (50 + (r + m)) := by
      show (su (vl r s) m + vl r s m) + (su (vk r s) m + vk r s m) = _
      have e2 : vl r s m + vk r s m = s (50 + (r + m)) := by
        unfold vl vk
        rcases f5 with q | q
        · rw [if_pos q, if_neg (by rw [q]; decide), Int32.add_zero]
        · rw [if_neg (by rw [q]; decide), if_pos q, Int32.zero_add]
      rw [← e2]
      apply Int32.toBitVec_inj.mp
      simp only [Int32.toBitVec_add]
      rw [BitVec.add_assoc, BitVec.add_assoc, ← BitVec.add_assoc (vl r s m).toBitVec, BitVec.add_comm (vl r s m).toBitVec, BitVec.add_assoc]
    have e3 : (s (50 + (r + m))).toInt = (f : Int) := by rw [f1, nI_toInt (by omega)]
    have hmF : (m : Int) * F ≤ 8 * 200000000 := by
      have h1 : (m : Int) * (F : Int) ≤ 8 * (F : Int) := Int.mul_le_mul_of_nonneg_right (by omega) (by omega)
      omega
    have hsum : (su (vl r s) m + su (vk r s) m + s (50 + (r + m))).toInt = (su (vl r s) m + su (vk r s) m).toInt + f := by
      rw [i32_add (by rw [e3]; omega) (by rw [e3]; omega), e3]
    rw [e1, hsum]
    refine ⟨⟨by omega, ?_⟩, ?_⟩
    · have : ((m + 1 : Nat) : Int) * (F : Int) = m * F + F := by
        rw [Int.natCast_add, Int.add_mul]
        omega
      omega
    · show _ = sL (fun d => (10000 : Int64) * (s (50 + (r + d))).toInt64) m + 10000 * (s (50 + (r + m))).toInt64
      rw [i64_add (by rw [e3]; omega) (by rw [e3]; omega), Int64.mul_add, i3]
theorem c8_sumLack {n r b F : Nat} {b0 e0 : Nat → Nat} {s : Nat → Int32} {σ : gj_S} (hg : gS n r b0 e0) (h : pm n r b0 e0 s b σ) (hf : fP n r F s) : f_X1_sumLack b σ = some (su (vl r s) n) := by
  have hn := hg.1
  unfold f_X1_sumLack
  rw [lp_sum (N := n) (v := vl r s) (by omega) (fun c => ?_) (fun k hk c => ?_)]
  · rfl
  · unfold fb_X1_sumLack_l4
    dsimp only
    rw [h.1, if_pos (nI_le (by omega) (by omega))]
  · unfold fb_X1_sumLack_l4
    dsimp only
    rw [h.1, if_neg (nI_ge hk (by omega)), c8_lack hg h hf hk, nI_1]
    rfl
theorem c8_sumStuck {n r b F : Nat} {b0 e0 : Nat → Nat} {s : Nat → Int32} {σ : gj_S} (hg : gS n r b0 e0) (h : pm n r b0 e0 s b σ) (hf : fP n r F s) : f_X1_sumStuck b σ = some (su (vk r s) n) := by
  have hn := hg.1
  unfold f_X1_sumStuck
  rw [lp_sum (N := n) (v := vk r s) (by omega) (fun c => ?_) (fun k hk c => ?_)]
  · rfl
  · unfold fb_X1_sumStuck_l4
    dsimp only
    rw [h.1, if_pos (nI_le (by omega) (by omega))]
  · unfold fb_X1_sumStuck_l4
    dsimp only
    rw [h.1, if_neg (nI_ge hk (by omega)), c8_stuck hg h hf hk, nI_1]
    rfl
theorem k_15 {K : Nat} {σ : gj_S} (hR : REL K σ) (hK : K ≤ 51200) (c1 c2 c3 c4 c5 : Int32) : ∃ τ, gl_15 c1 c2 c3 c4 c5 σ = some τ ∧ REL (K + 100) τ := by
  obtain ⟨n, r, b0, e0, hS, ⟨⟨P, hPK, hP, hf, hp⟩, -⟩, -⟩ := id hR
  have hn := hS.1
  have hr := hS.2.1
  have hg := rS_g hS
  have h0 : smX σ (gj_sI σ 188 (upd (σ.1 188) 0 0)) := smX_t
  have hS0 := smX_S h0 hS
  refine rc_L (v := (vZ r (σ.1 198)).toInt64 + sL (fun d => (10000 : Int64) * (σ.1 198 (50 + (r + d))).toInt64) n) ?_ ?_ hR
  · unfold f_X8_total
    rw [c8_cost hg hp.1, c8_sumLack hg hp.1 hf, c8_sumStuck hg hp.1 hf]
    dsimp only [Option.bind_some]
    rw [(tot_m hf hn (by omega) n (Nat.le_refl _)).2]
  · unfold f_X9_total
    refine tp_beq (r9_cost hS0) ?_
    rw [lp_it (N := n) (g := fun k x => x + (10000 : Int64) * (σ.1 198 (50 + (r + k))).toInt64) (by omega) (fun c => ?_) (fun k hk c => ?_), it_addL]
    · exact tp_some ⟨rfl, frK_X h0⟩
    · unfold fb_X9_total_l13
      dsimp only
      rw [if_pos (gj0 (by decide)), if_pos (show (gj_sI σ 188 (upd (σ.1 188) 0 0)).1 190 (Int32.toNatClampNeg 0) ≤ nI n by rw [rd0, hS0.2.2.1]; exact nI_le (by omega) (by omega))]
    · unfold fb_X9_total_l13
      dsimp only
      have e1 : (gj_sI σ 188 (upd (σ.1 188) 0 0)).1 191 (Int32.toNatClampNeg 0) = nI r := by rw [rd0]; exact hS0.2.2.2.1
      rw [if_pos (gj0 (by decide)), if_neg (show ¬ (gj_sI σ 188 (upd (σ.1 188) 0 0)).1 190 (Int32.toNatClampNeg 0) ≤ nI k by rw [rd0, hS0.2.2.1]; exact nI_ge hk (by omega)), if_pos (gj0 (by decide)), e1]
      have e2 : (50 : Int32) + nI r + nI k = nI (50 + (r + k)) := by
        rw [show (50 : Int32) = nI 50 from rfl, nI_add, nI_add, Nat.add_assoc]
      rw [e2, if_pos (gi (show 50 + (r + k) < 180 by omega) (by omega)), nI_1, nI_clamp (by omega)]
      rfl
