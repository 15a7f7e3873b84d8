/-! ===== the wall: disturbed flows ===== -/
/-- the price that tells a dock alone -/
theorem zx_nP {n m : Nat} {bg en : Nat → Nat} {T : Nat → Prop} {up par rk : Nat → Nat} {v : Nat} (hC : tc_r n m bg en T up par rk) (hv : v < n) : prI n bg (fun w => zw_nb bg en v w) up par (fun d => if d = v then -1 else 0) := by
  have hn := hC.1
  refine ⟨if_neg (by omega), fun d hd => ?_⟩
  obtain ⟨h1, -, h3, h4, h5⟩ := hC.2.2.1 d hd
  have hne : d ≠ par d := fun e => by
    rw [← e] at h5
    omega
  unfold eC zw_nb
  try dsimp only
  unfold tj at h3
  rcases h3 with ⟨x, y⟩ | ⟨x, y⟩
  · rw [if_pos x, x, y]
    split <;> split <;> omega
  · rw [if_neg (show ¬ bg (up d) = d by omega), x, y]
    split <;> split <;> omega
theorem zx_nsum {n : Nat} {bg en : Nat → Nat} {P : Nat → Int} {w : Nat} (hn : n ≤ 8) (h8 : P 8 = 0) (h1 : bg w < n ∨ bg w = 8) (h2 : en w < n ∨ en w = 8) : zw_s (fun v => P v * zw_nb bg en v w) n = P (bg w) - P (en w) := by
  have e : zw_s (fun v => P v * zw_nb bg en v w) n = zw_s (fun v => (if v = bg w then P (bg w) else 0) - (if v = en w then P (en w) else 0)) n := zw_s_cg n (fun v _ => by
    unfold zw_nb
    rw [Int.mul_sub]
    congr 1
    · by_cases q : bg w = v
      · rw [if_pos q, if_pos q.symm, q, Int.mul_one]
      · rw [if_neg q, if_neg (fun x : v = bg w => q x.symm), Int.mul_zero]
    · by_cases q : en w = v
      · rw [if_pos q, if_pos q.symm, q, Int.mul_one]
      · rw [if_neg q, if_neg (fun x : v = en w => q x.symm), Int.mul_zero])
  rw [e, zw_s_sub, zw_s_one, zw_s_one]
  congr 1
  · rcases h1 with h | h
    · rw [if_pos h]
    · rw [if_neg (by omega), h, h8]
  · rcases h2 with h | h
    · rw [if_pos h]
    · rw [if_neg (by omega), h, h8]
/-- how many docks hang from d, it too -/
noncomputable def zx_sb (n : Nat) (par : Nat → Nat) (d : Nat) : Int := zw_s (fun x => zx_m par d x) n
theorem zx_sb_bd {n : Nat} {par : Nat → Nat} {d : Nat} (hn : n ≤ 8) (hd : d < n) : 1 ≤ zx_sb n par d ∧ zx_sb n par d ≤ 8 := by
  unfold zx_sb
  have h1 := zw_s_le (f := fun x => if x = d then 1 else 0) (g := fun x => zx_m par d x) n (fun x _ => by
    try dsimp only
    by_cases q : x = d
    · rw [if_pos q, q, zx_mx]
      exact Int.le_refl _
    · rw [if_neg q]
      rcases zx_m01 (par := par) (d := d) (x := x) with e | e <;> omega)
  rw [zw_s_one, if_pos hd] at h1
  have h2 := zw_s_le (f := fun x => zx_m par d x) (g := fun _ => 1) n (fun x _ => by
    rcases zx_m01 (par := par) (d := d) (x := x) with e | e <;> omega)
  rw [zw_s_c] at h2
  omega
noncomputable def zx_Y (n : Nat) (bg up par : Nat → Nat) (w : Nat) : Int := zw_s (fun d => if up d = w then (if bg w = d then zx_sb n par d else - zx_sb n par d) else 0) n
theorem zx_Yc {n m : Nat} {bg en : Nat → Nat} {T : Nat → Prop} {up par rk : Nat → Nat} {c P : Nat → Int} (hC : tc_r n m bg en T up par rk) (hP : prI n bg c up par P) : zw_s (fun w => c w * zx_Y n bg up par w) m = - zw_s P n := by
  have e1 : zw_s (fun w => c w * zx_Y n bg up par w) m = zw_s (fun w => zw_s (fun d => if w = up d then c (up d) * (if bg (up d) = d then zx_sb n par d else - zx_sb n par d) else 0) n) m := zw_s_cg m (fun w _ => by
    unfold zx_Y
    rw [← zw_s_mul]
    refine zw_s_cg n (fun d _ => ?_)
    by_cases q : up d = w
    · rw [if_pos q, if_pos q.symm, q]
    · rw [if_neg q, if_neg (fun x : w = up d => q x.symm), Int.mul_zero])
  rw [e1, zw_s_sw]
  have e2 : zw_s (fun d => zw_s (fun w => if w = up d then c (up d) * (if bg (up d) = d then zx_sb n par d else - zx_sb n par d) else 0) m) n = zw_s (fun d => -1 * zw_s (fun x => zx_m par d x * eC bg c (up d) d) n) n := zw_s_cg n (fun d hd => by
    rw [zw_s_one, if_pos (hC.2.2.1 d hd).1]
    have e3 : zw_s (fun x => zx_m par d x * eC bg c (up d) d) n = eC bg c (up d) d * zx_sb n par d := by
      unfold zx_sb
      rw [← zw_s_mul]
      exact zw_s_cg n (fun x _ => Int.mul_comm _ _)
    rw [e3]
    unfold eC
    by_cases q : bg (up d) = d
    · rw [if_pos q, if_pos q, Int.neg_mul, Int.neg_mul, Int.one_mul, Int.neg_neg]
    · rw [if_neg q, if_neg q, Int.mul_neg, Int.neg_mul, Int.one_mul])
  rw [e2, zw_s_mul, zw_s_sw, Int.neg_mul, Int.one_mul]
  congr 1
  exact zw_s_cg n (fun x hx => (zx_path hC hP _ x (Nat.le_refl _) (.inl hx)).symm)
theorem zx_Y1 {n m : Nat} {bg en : Nat → Nat} {T : Nat → Prop} {up par rk : Nat → Nat} {d : Nat} (hC : tc_r n m bg en T up par rk) (hd : d < n) : zx_Y n bg up par (up d) = if bg (up d) = d then zx_sb n par d else - zx_sb n par d := by
  unfold zx_Y
  have e : zw_s (fun x => if up x = up d then (if bg (up d) = x then zx_sb n par x else - zx_sb n par x) else 0) n = zw_s (fun x => if x = d then (if bg (up d) = d then zx_sb n par d else - zx_sb n par d) else 0) n := zw_s_cg n (fun x hx => by
    by_cases q : x = d
    · rw [if_pos q, q, if_pos rfl]
    · rw [if_neg q, if_neg (fun y => q (tc_inj hC hx hd y))])
  rw [e, zw_s_one, if_pos hd]
theorem zx_Y0 {n m : Nat} {bg en : Nat → Nat} {T : Nat → Prop} {up par rk : Nat → Nat} {w : Nat} (hC : tc_r n m bg en T up par rk) (hw : ¬ T w) : zx_Y n bg up par w = 0 := by
  unfold zx_Y
  rw [zw_s_cg (g := fun _ => 0) n (fun d hd => if_neg (fun (e : up d = w) => hw (e ▸ (hC.2.2.1 d hd).2.1))), zw_s_0]
noncomputable def zx_X (n r : Nat) (b0 : Nat → Nat) (s : Nat → Int32) (up par : Nat → Nat) (w : Nat) : Int := 9 * (fl s w : Int) + zx_Y n (vb r b0 s) up par w
section
variable {n r : Nat} {b0 e0 : Nat → Nat} {s : Nat → Int32} {up par rk dp : Nat → Nat} {pr : Nat → Int32}
theorem zx_Xc {c P : Nat → Int} (hC : tc_r n (r + n) (vb r b0 s) (ve r e0 s) (vT s) up par rk) (hP : prI n (vb r b0 s) c up par P) : zw_s (fun w => c w * zx_X n r b0 s up par w) (r + n) = 9 * zC (r + n) c s - zw_s P n := by
  have e : zw_s (fun w => c w * zx_X n r b0 s up par w) (r + n) = zw_s (fun w => 9 * (c w * (fl s w : Int)) + c w * zx_Y n (vb r b0 s) up par w) (r + n) := zw_s_cg _ (fun w _ => by
    unfold zx_X
    rw [Int.mul_add, ← Int.mul_assoc, Int.mul_comm (c w) 9, Int.mul_assoc])
  have e2 : zw_s (fun v => c v * (fl s v : Int)) (r + n) = zC (r + n) c s := zw_sZ _
  rw [e, zw_s_add, zw_s_mul, zx_Yc hC hP, e2]
  omega
/-- what comes out of a dock -/
theorem zx_Xn {v : Nat} (hC : tc_r n (r + n) (vb r b0 s) (ve r e0 s) (vT s) up par rk) (hv : v < n) : zw_s (fun w => zw_nb (vb r b0 s) (ve r e0 s) v w * zx_X n r b0 s up par w) (r + n) = 9 * zC (r + n) (fun w => zw_nb (vb r b0 s) (ve r e0 s) v w) s + 1 := by
  rw [zx_Xc hC (zx_nP hC hv), zw_s_one, if_pos hv]
  omega
/-- bounds -/
theorem zx_Xt (hg : gS n r b0 e0) (hC : tc_r n (r + n) (vb r b0 s) (ve r e0 s) (vT s) up par rk) (hf : fP n r 7992 s) (hsf : sfP n r (vb r b0 s) up s) {d : Nat} (hd : d < n) : 0 < zx_X n r b0 s up par (up d) ∧ (up d < r → zx_X n r b0 s up par (up d) < 9 * (hl s (up d) : Int)) := by
  have hn := hg.1
  obtain ⟨s1, s2⟩ := hsf d hd
  obtain ⟨b1, b2⟩ := zx_sb_bd (par := par) hn hd
  unfold zx_X
  rw [zx_Y1 hC hd]
  have hle : up d < r → fl s (up d) ≤ hl s (up d) := fun h => ((fP_f hf (by omega) (show up d < r + n by omega)).2.2.1 h).2.1
  by_cases q : vb r b0 s (up d) = d
  · rw [if_pos q]
    refine ⟨by omega, fun h => ?_⟩
    have := s1 q h
    omega
  · rw [if_neg q]
    have := s2 q
    refine ⟨by omega, fun h => ?_⟩
    have := hle h
    omega
theorem zx_X0 {w : Nat} (hC : tc_r n (r + n) (vb r b0 s) (ve r e0 s) (vT s) up par rk) (hw : ¬ vT s w) : zx_X n r b0 s up par w = 9 * (fl s w : Int) := by
  unfold zx_X
  rw [zx_Y0 hC hw]
  omega
/-- any prices, any costs -/
theorem zx_Xg {c P : Nat → Int} (hg : gS n r b0 e0) (h8 : P 8 = 0) : zw_s (fun w => (c w + P (vb r b0 s w) - P (ve r e0 s w)) * zx_X n r b0 s up par w) (r + n) = zw_s (fun w => c w * zx_X n r b0 s up par w) (r + n) + zw_s (fun v => P v * zw_s (fun w => zw_nb (vb r b0 s) (ve r e0 s) v w * zx_X n r b0 s up par w) (r + n)) n := by
  obtain ⟨σr, hS⟩ := gS_r hg
  have e : zw_s (fun v => P v * zw_s (fun w => zw_nb (vb r b0 s) (ve r e0 s) v w * zx_X n r b0 s up par w) (r + n)) n = zw_s (fun v => zw_s (fun w => P v * zw_nb (vb r b0 s) (ve r e0 s) v w * zx_X n r b0 s up par w) (r + n)) n := zw_s_cg n (fun v _ => by
    rw [← zw_s_mul]
    exact zw_s_cg _ (fun w _ => (Int.mul_assoc _ _ _).symm))
  rw [e, zw_s_sw, ← zw_s_add]
  refine zw_s_cg _ (fun w hw => ?_)
  have e2 : zw_s (fun v => P v * zw_nb (vb r b0 s) (ve r e0 s) v w * zx_X n r b0 s up par w) n = (P (vb r b0 s w) - P (ve r e0 s w)) * zx_X n r b0 s up par w := by
    rw [← zx_nsum hg.1 h8 (vb_pl (s := s) hS hw) (ve_pl (s := s) hS hw), Int.mul_comm, ← zw_s_mul]
    exact zw_s_cg n (fun v _ => Int.mul_comm _ _)
  rw [e2, ← Int.add_mul]
  congr 1
  omega
end
/-! the ways that are told, numbered anew -/
theorem zx_en (inc : Nat → Bool) : ∀ r, ∃ (m : Nat) (en ix : Nat → Nat), m + zw_n (fun w => if inc w = true then 0 else 1) r = r ∧ (∀ k, k < m → en k < r ∧ inc (en k) = true ∧ ix (en k) = k) ∧ (∀ w, w < r → inc w = true → ix w < m ∧ en (ix w) = w) ∧ ∀ g : Nat → Int, zw_s (fun k => g (en k)) m = zw_s (fun w => if inc w = true then g w else 0) r
  | 0 => ⟨0, fun _ => 0, fun _ => 0, rfl, fun k hk => absurd hk (Nat.not_lt_zero _), fun w hw => absurd hw (Nat.not_lt_zero _), fun _ => rfl⟩
  | r + 1 => by
    obtain ⟨m, en, ix, h1, h2, h3, h4⟩ := zx_en inc r
    by_cases q : inc r = true
    · refine ⟨m + 1, fun k => if k = m then r else en k, fun w => if w = r then m else ix w, ?_, fun k hk => ?_, fun w hw hi => ?_, fun g => ?_⟩
      · show m + 1 + (zw_n (fun w => if inc w = true then 0 else 1) r + (if inc r = true then 0 else 1)) = r + 1
        rw [if_pos q]
        omega
      · dsimp only
        by_cases e : k = m
        · rw [if_pos e, if_pos rfl]
          exact ⟨by omega, q, e.symm⟩
        · obtain ⟨a, b, c⟩ := h2 k (by omega)
          rw [if_neg e, if_neg (by omega)]
          exact ⟨by omega, b, c⟩
      · dsimp only
        by_cases e : w = r
        · rw [if_pos e, if_pos rfl]
          exact ⟨by omega, e.symm⟩
        · obtain ⟨a, b⟩ := h3 w (by omega) hi
          rw [if_neg e, if_neg (by omega)]
          exact ⟨by omega, b⟩
      · show zw_s (fun k => g (if k = m then r else en k)) m + g (if m = m then r else en m) = zw_s (fun w => if inc w = true then g w else 0) r + (if inc r = true then g r else 0)
        rw [if_pos rfl, if_pos q, ← h4 g]
        congr 1
        exact zw_s_cg m (fun k hk => by rw [if_neg (by omega)])
    · refine ⟨m, en, ix, ?_, fun k hk => ?_, fun w hw hi => ?_, fun g => ?_⟩
      · show m + (zw_n (fun w => if inc w = true then 0 else 1) r + (if inc r = true then 0 else 1)) = r + 1
        rw [if_neg q]
        omega
      · obtain ⟨a, b, c⟩ := h2 k hk
        exact ⟨by omega, b, c⟩
      · have hne : w ≠ r := fun e => q (e ▸ hi)
        exact h3 w (by omega) hi
      · show _ = zw_s (fun w => if inc w = true then g w else 0) r + (if inc r = true then g r else 0)
        rw [if_neg q, h4 g]
        omega
