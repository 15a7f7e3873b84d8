/-! ===== load: the call ===== -/
def shI (n r y : Nat) (b0 : Nat → Nat) (s : Nat → Int32) (up par : Nat → Nat) (z : gj_S) : Prop := (∀ d, d < n → z.1 (y + 10 + 1) d = nI (up d) ∧ z.1 (y + 10 + 2) d = nI (par d)) ∧ ∀ w, w < r + n → z.1 (y + 1 + 2) w = nI (vb r b0 s w) ∧ z.1 (y + 1 + 6) w = s (50 + w)
theorem c8_sh {n r y : Nat} {b0 e0 : Nat → Nat} {up par dp : Nat → Nat} {v : Int32} (hg : gS n r b0 e0) (hu : ∀ d, d < n → up d < r + n) (hp : ∀ d, d < n → par d < n ∨ par d = 8) (ht : td n par dp) : ∀ (k x i : Nat) (s : Nat → Int32) (z : gj_S), dp x = k → (x < n ∨ x = 8) → i + k ≤ 8 → shI n r y b0 s up par z → ∀ fu, k < fu → TP (gj_lp (fb_X7_shiftGift_l18 y v) fu (nI x, nI i, z)) (fun z' => (∀ c, c ≠ y + 1 + 6 → z'.1 c = z.1 c) ∧ z'.2 = z.2 ∧ ∀ w, w < r + n → z'.1 (y + 1 + 6) w = sh r b0 up par v k x s (50 + w))
  | k, x, i, s, z, hk, hx, hi, hI, fu, hfu => by
    have hn := hg.1
    have hr := hg.2.1
    obtain ⟨fu', rfl⟩ : ∃ y, fu = y + 1 := ⟨fu - 1, by omega⟩
    have n9 : ¬ (9 : Int32) ≤ nI i := by rw [show (9 : Int32) = nI 9 from rfl]; exact nI_ge (by omega) (by omega)
    by_cases q2 : x = 8
    · subst q2
      have h8 := ht.1
      obtain rfl : k = 0 := by omega
      rw [gj_lp_e (b := z) (by unfold fb_X7_shiftGift_l18; dsimp only; rw [if_neg n9, if_pos (show nI 8 = 8 from rfl)])]
      exact tp_some ⟨fun _ _ => rfl, rfl, fun w hw => (hI.2 w hw).2⟩
    · have hxn : x < n := by omega
      have hdp := ht.2 x hxn
      have hw := hu x hxn
      cases k with
      | zero => omega
      | succ k =>
        have gx : gj_in (nI x) 9 := gi (by omega) (by omega)
        have gw : gj_in (nI (up x)) 24 := gi (by omega) (by omega)
        have eu := (hI.1 x hxn).1
        have hpb := gb_pl (s := s) hg hw
        have ec : (nI (vb r b0 s (up x)) = nI x) ↔ (vb r b0 s (up x) = x) := nI_eq (by omega) (by omega)
        have eS : fb_X7_shiftGift_l18 y v (nI x, nI i, z) = some (.inr (nI (par x), nI (i + 1), gj_sI z (y + 1 + 6) (upd (z.1 (y + 1 + 6)) (up x) (s (50 + up x) + (if vb r b0 s (up x) = x then v else 0 - v))))) := by
          unfold fb_X7_shiftGift_l18
          dsimp only
          rw [if_neg n9, if_neg (show ¬ nI x = 8 from fun e => q2 ((nI_eq (b := 8) (by omega) (by omega)).mp e)), if_pos gx]
          simp only [nI_clamp (show x < 2 ^ 31 by omega), eu, nI_clamp (show up x < 2 ^ 31 by omega), (hI.2 (up x) hw).1, (hI.2 (up x) hw).2, ec]
          rw [if_pos gw, if_pos gw, show (if vb r b0 s (up x) = x then some v else some (0 - v)) = some (if vb r b0 s (up x) = x then v else 0 - v) by split <;> rfl]
          dsimp only [Option.bind_some]
          rw [if_pos gw, if_pos gx, sI_ne (show y + 10 + 2 ≠ y + 1 + 6 by omega), (hI.1 x hxn).2, nI_1]
        rw [gj_lp_g eS]
        have hI2 : shI n r y b0 (upd s (50 + up x) (s (50 + up x) + (if vb r b0 s (up x) = x then v else 0 - v))) up par (gj_sI z (y + 1 + 6) (upd (z.1 (y + 1 + 6)) (up x) (s (50 + up x) + (if vb r b0 s (up x) = x then v else 0 - v)))) := by
          refine ⟨fun d hd => ?_, fun w hw2 => ?_⟩
          · rw [sI_ne (show y + 10 + 1 ≠ y + 1 + 6 by omega), sI_ne (show y + 10 + 2 ≠ y + 1 + 6 by omega)]
            exact hI.1 d hd
          · rw [sI_ne (show y + 1 + 2 ≠ y + 1 + 6 by omega), sI_eq, vb_upd (by omega)]
            refine ⟨(hI.2 w hw2).1, ?_⟩
            have hgo : ∀ g : Int32, (if w = up x then g else z.1 (y + 1 + 6) w) = (if 50 + w = 50 + up x then g else s (50 + w)) := fun g => by
              by_cases q : w = up x
              · rw [if_pos q, if_pos (by omega)]
              · rw [if_neg q, if_neg (by omega)]
                exact (hI.2 w hw2).2
            exact hgo _
        refine tp_mono (c8_sh hg hu hp ht k (par x) (i + 1) _ _ (by omega) (hp x hxn) (by omega) hI2 fu' (by omega)) (fun z' hz' => ⟨fun c hc => ?_, hz'.2.1, fun w hw2 => ?_⟩)
        · rw [hz'.1 c hc, sI_ne hc]
        · rw [hz'.2.2 w hw2]
          show _ = (if x = 8 then s else sh r b0 up par v k (par x) (upd s (50 + up x) (s (50 + up x) + (if vb r b0 s (up x) = x then v else 0 - v)))) (50 + w)
          rw [if_neg q2]
  termination_by k => k
theorem r9_sh {n r : Nat} {b0 e0 : Nat → Nat} {up par rk dp : Nat → Nat} {pr : Nat → Int32} {v : Int32} (b1 : Int32) : ∀ (k x : Nat) (τ : gj_S), rL n r b0 e0 up par rk dp pr τ → dp x = k → (x < n ∨ x = 8) → ∀ fu, k < fu → TP (gj_lp (fb_X9_load_l126 b1 v) fu (nI x, τ)) (fun z' => (∀ c, c ≠ 198 → z'.1 c = τ.1 c) ∧ z'.2 = τ.2 ∧ z'.1 198 = sh r b0 up par v k x (τ.1 198))
  | k, x, τ, h, hk, hx, fu, hfu => by
    have hn := h.1.1
    have hr := h.1.2.1
    obtain ⟨fu', rfl⟩ : ∃ y, fu = y + 1 := ⟨fu - 1, by omega⟩
    by_cases q2 : x = 8
    · subst q2
      have h8 := h.2.1.2.1.1
      obtain rfl : k = 0 := by omega
      rw [gj_lp_e (b := τ) (by unfold fb_X9_load_l126; dsimp only; rw [if_pos (show nI 8 = 8 from rfl)])]
      exact tp_some ⟨fun _ _ => rfl, rfl, rfl⟩
    · have hxn : x < n := by omega
      have hdp := h.2.1.2.1.2 x hxn
      obtain ⟨hw, u2, u3, u4, u5⟩ := h.2.1.1.1.2.2.1 x hxn
      cases k with
      | zero => omega
      | succ k =>
        have gx : gj_in (nI x) 9 := gi (by omega) (by omega)
        have g5 : gj_in (nI (50 + up x)) 180 := gi (by omega) (by omega)
        have eu : τ.1 203 x = nI (up x) := (h.2.2.2.2.2 x hxn).1
        have g50 : (50 : Int32) + nI (up x) = nI (50 + up x) := by rw [show (50 : Int32) = nI 50 from rfl, nI_add]
        have hL2 : ∀ g, rL n r b0 e0 up par rk dp pr (gj_sI τ 198 (upd (τ.1 198) (50 + up x) g)) := fun g => by
          refine ⟨?_, ?_, ?_⟩
          · have := h.1
            unfold rS at this ⊢
            rw [sI_ne (show 190 ≠ 198 by decide), sI_ne (show 191 ≠ 198 by decide), sI_ne (show 194 ≠ 198 by decide), sI_ne (show 195 ≠ 198 by decide)]
            exact this
          · rw [sI_eq]
            exact rT_cg h.1 ⟨fun q a1 a2 => if_neg (by omega), fun q a1 a2 => if_neg (by omega)⟩ (fun w hw => by
              unfold vT
              rw [show upd (τ.1 198) (50 + up x) g (74 + w) = τ.1 198 (74 + w) from if_neg (by omega)]) h.2.1
          · have := h.2.2
            unfold tr9 at this ⊢
            rw [sI_ne (show 203 ≠ 198 by decide), sI_ne (show 204 ≠ 198 by decide), sI_ne (show 205 ≠ 198 by decide)]
            exact this
        have eS : fb_X9_load_l126 b1 v (nI x, τ) = some (.inr (nI (par x), gj_sI τ 198 (upd (τ.1 198) (50 + up x) (τ.1 198 (50 + up x) + (if vb r b0 (τ.1 198) (up x) = x then v else 0 - v))))) := by
          unfold fb_X9_load_l126
          dsimp only
          rw [if_neg (show ¬ nI x = 8 from fun e => q2 ((nI_eq (b := 8) (by omega) (by omega)).mp e)), if_pos gx, r9_upw h hxn]
          simp only [nI_clamp (show x < 2 ^ 31 by omega), eu, g50, nI_clamp (show 50 + up x < 2 ^ 31 by omega), Option.bind_some]
          rw [if_pos g5, show (if (if vb r b0 (τ.1 198) (up x) = x then (1 : Int32) else 0) = 0 then some (0 - v) else some v) = some (if vb r b0 (τ.1 198) (up x) = x then v else 0 - v) by
            by_cases q : vb r b0 (τ.1 198) (up x) = x
            · simp [q]
            · simp [q]]
          dsimp only [Option.bind_some]
          rw [if_pos g5, r9_above (hL2 _) hxn]
          rfl
        rw [gj_lp_g eS]
        refine tp_mono (r9_sh b1 k (par x) _ (hL2 _) (by omega) u4 fu' (by omega)) (fun z' hz' => ⟨fun c hc => ?_, hz'.2.1, ?_⟩)
        · rw [hz'.1 c hc, sI_ne hc]
        · rw [hz'.2.2, sI_eq]
          show _ = (if x = 8 then _ else sh r b0 up par v k (par x) _)
          rw [if_neg q2]
  termination_by k => k
theorem i64_sum (a b : Int32) : (a.toInt64 + b.toInt64).toInt = a.toInt + b.toInt := by
  have h1 := Int32.toInt_lt a
  have h2 := Int32.toInt_lt b
  have h3 := Int32.le_toInt a
  have h4 := Int32.le_toInt b
  rw [Int64.toInt_add, Int32.toInt_toInt64, Int32.toInt_toInt64]
  exact Int.bmod_eq_of_le (by omega) (by omega)
theorem c8_isGift (a b : Int32) : f_X8_isGift (a.toInt64 + b.toInt64) = some (bI (decide (-999 ≤ a.toInt + b.toInt ∧ a.toInt + b.toInt ≤ 999))) := by
  unfold f_X8_isGift
  have e := i64_sum a b
  generalize a.toInt64 + b.toInt64 = c at *
  simp only [lg_cmp_lt, lg_cmp_gt]
  have e1 : (-999 : Int64).toInt = -999 := by decide
  have e2 : (999 : Int64).toInt = 999 := by decide
  have i1 : (c < -999) ↔ ¬ (-999 ≤ a.toInt + b.toInt) := by rw [Int64.lt_iff_toInt_lt, e, e1]; omega
  have i2 : ((999 : Int64) < c) ↔ ¬ (a.toInt + b.toInt ≤ 999) := by rw [Int64.lt_iff_toInt_lt, e, e2]; omega
  by_cases q1 : -999 ≤ a.toInt + b.toInt
  · rw [if_neg (fun x => i1.mp x q1)]
    by_cases q2 : a.toInt + b.toInt ≤ 999
    · rw [if_neg (fun x => i2.mp x q2), decide_eq_true ⟨q1, q2⟩]
      rfl
    · rw [if_pos (i2.mpr q2), decide_eq_false (fun x => q2 x.2)]
      rfl
  · rw [if_pos (i1.mpr q1), decide_eq_false (fun x => q1 x.1)]
    rfl
