/-! ===== load: the walk that refuses, the walk that shifts ===== -/
/-- the first place on the way up that has less room than m -/
def rfw (par : Nat → Nat) (q : Nat → Int32) (m : Int32) : Nat → Nat → Option Nat
  | 0, _ => none
  | k + 1, x => if x = 8 then none else if m ≤ q x then rfw par q m k (par x) else some x
theorem rfw_n {par : Nat → Nat} {q : Nat → Int32} {m : Int32} {n : Nat} (hp : ∀ d, d < n → par d < n ∨ par d = 8) : ∀ (k x : Nat), (x < n ∨ x = 8) → ∀ y, rfw par q m k x = some y → y < n
  | 0, _, _, _, h => by cases h
  | k + 1, x, hx, y, h => by
    unfold rfw at h
    by_cases q1 : x = 8
    · rw [if_pos q1] at h
      cases h
    · rw [if_neg q1] at h
      by_cases q2 : m ≤ q x
      · rw [if_pos q2] at h
        exact rfw_n hp k (par x) (hp x (by omega)) y h
      · rw [if_neg q2] at h
        cases h
        omega
theorem rfw_cg {par : Nat → Nat} {q q' : Nat → Int32} {m : Int32} : ∀ (k x : Nat), (∀ i, it par i x ≠ 8 → q' (it par i x) = q (it par i x)) → rfw par q' m k x = rfw par q m k x
  | 0, _, _ => rfl
  | k + 1, x, h => by
    unfold rfw
    by_cases q1 : x = 8
    · rw [if_pos q1, if_pos q1]
    · rw [if_neg q1, if_neg q1, show q' x = q x from h 0 q1, rfw_cg k (par x) (fun i hi => h (i + 1) hi)]
def oU (up : Nat → Nat) (o : Option Nat) : (Int32 ⊕ Unit) := match o with | some x => .inl (nI (up x)) | none => .inr ()
theorem c8_rfw {n r y : Nat} {b0 e0 : Nat → Nat} {s : Nat → Int32} {up par rk dp : Nat → Nat} {pr : Nat → Int32} {σ : gj_S} (h : cL n r b0 e0 s up par rk dp pr y σ) (hh : ∀ w, w < r → ∃ c, c ≤ 999 ∧ s (24 + w) = nI c) (v : Int32) : ∀ (k x i : Nat), dp x = k → (x < n ∨ x = 8) → i + k ≤ 8 → ∀ fu, k < fu → gj_lp (fb_X7_findRefusing_l5 y v σ) fu (nI x, nI i) = some (oU up (rfw par (vq r b0 s up (decide (¬ v ≤ 0))) (zI v) k x))
  | k, x, i, hk, hx, hi, fu, hfu => by
    have hn := h.1.1
    obtain ⟨fu', rfl⟩ : ∃ y, fu = y + 1 := ⟨fu - 1, by omega⟩
    have n9 : ¬ (9 : Int32) ≤ nI i := by rw [show (9 : Int32) = nI 9 from rfl]; exact nI_ge (by omega) (by omega)
    have eb : (if v ≤ 0 then some (0 : Int32) else some (1 : Int32)) = some (bI (decide (¬ v ≤ 0))) := by
      by_cases q : v ≤ 0
      · rw [if_pos q, decide_eq_false (fun e => e q)]
        rfl
      · rw [if_neg q, decide_eq_true q]
        rfl
    by_cases q2 : x = 8
    · subst q2
      have h8 := h.2.2.1.2.1.1
      obtain rfl : k = 0 := by omega
      rw [gj_lp_e (b := Sum.inr ()) (by unfold fb_X7_findRefusing_l5; dsimp only; rw [if_neg n9, if_pos (show nI 8 = 8 from rfl)])]
      rfl
    · have hxn : x < n := by omega
      have hdp := h.2.2.1.2.1.2 x hxn
      have gx : gj_in (nI x) 9 := gi (by omega) (by omega)
      cases k with
      | zero => omega
      | succ k =>
        have eS : fb_X7_findRefusing_l5 y v σ (nI x, nI i) = if zI v ≤ vq r b0 s up (decide (¬ v ≤ 0)) x then some (.inr (nI (par x), nI (i + 1))) else some (.inl (.inl (nI (up x)))) := by
          unfold fb_X7_findRefusing_l5
          dsimp only
          rw [if_neg n9, if_neg (show ¬ nI x = 8 from fun e => q2 ((nI_eq (b := 8) (by omega) (by omega)).mp e)), eb]
          dsimp only [Option.bind_some]
          rw [c8_roomUp h hh hxn]
          dsimp only [Option.bind_some]
          rw [if_pos gx, if_pos gx, nI_clamp (by omega), (c8_par h hxn).1, (c8_par h hxn).2, nI_1]
          rfl
        show _ = some (oU up (if x = 8 then none else if zI v ≤ vq r b0 s up (decide (¬ v ≤ 0)) x then rfw par (vq r b0 s up (decide (¬ v ≤ 0))) (zI v) k (par x) else some x))
        rw [if_neg q2]
        by_cases q3 : zI v ≤ vq r b0 s up (decide (¬ v ≤ 0)) x
        · rw [if_pos q3] at eS ⊢
          rw [gj_lp_g eS]
          exact c8_rfw h hh v k (par x) (i + 1) (by omega) (h.2.2.1.1.1.2.2.1 x hxn).2.2.2.1 (by omega) fu' (by omega)
        · rw [if_neg q3] at eS ⊢
          rw [gj_lp_e eS]
          rfl
  termination_by k => k
def oV (up : Nat → Nat) (τ : gj_S) (o : Option Nat) : ((Int32 × gj_S) ⊕ Unit) := match o with | some x => .inl (-2 - nI (up x), τ) | none => .inr ()
theorem r9_rfw {n r : Nat} {b0 e0 : Nat → Nat} {up par rk dp : Nat → Nat} {pr : Nat → Int32} {τ : gj_S} (h : rL n r b0 e0 up par rk dp pr τ) {v : Int32} (hv : v ≠ 0) (b1 : Int32) : ∀ (k x : Nat), dp x = k → (x < n ∨ x = 8) → ∀ fu, k < fu → gj_lp (fb_X9_load_l62 b1 v τ) fu (nI x) = some (oV up τ (rfw par (vq r b0 (τ.1 198) up (decide (¬ v ≤ 0))) (zI v) k x))
  | k, x, hk, hx, fu, hfu => by
    have hn := h.1.1
    obtain ⟨fu', rfl⟩ : ∃ y, fu = y + 1 := ⟨fu - 1, by omega⟩
    have ez : (0 : Int32).toInt = 0 := by decide
    have hv0 : v.toInt ≠ 0 := fun e => hv (Int32.toInt_inj.mp (by rw [e, ez]))
    have eb : (if 0 ≤ v then some (0 : Int32) else some (1 : Int32)) = some (bI (!decide (¬ v ≤ 0))) := by
      by_cases q : 0 ≤ v
      · have : ¬ v ≤ 0 := by rw [i32_le_iff] at q ⊢; omega
        rw [if_pos q, decide_eq_true this]
        rfl
      · have : v ≤ 0 := by rw [i32_le_iff] at q ⊢; omega
        rw [if_neg q, decide_eq_false (fun e => e this)]
        rfl
    by_cases q2 : x = 8
    · subst q2
      have h8 := h.2.1.2.1.1
      obtain rfl : k = 0 := by omega
      rw [gj_lp_e (b := Sum.inr ()) (by unfold fb_X9_load_l62; rw [if_pos (show nI 8 = 8 from rfl)])]
      rfl
    · have hxn : x < n := by omega
      have hdp := h.2.1.2.1.2 x hxn
      have gx : gj_in (nI x) 9 := gi (by omega) (by omega)
      cases k with
      | zero => omega
      | succ k =>
        have eS : fb_X9_load_l62 b1 v τ (nI x) = if zI v ≤ vq r b0 (τ.1 198) up (decide (¬ v ≤ 0)) x then some (.inr (nI (par x))) else some (.inl (.inl (-2 - nI (up x), τ))) := by
          unfold fb_X9_load_l62
          rw [if_neg (show ¬ nI x = 8 from fun e => q2 ((nI_eq (b := 8) (by omega) (by omega)).mp e)), eb]
          dsimp only [Option.bind_some]
          rw [r9_spareOf h hxn, r9_size, Bool.not_not]
          dsimp only [Option.bind_some]
          rw [r9_above h hxn, if_pos gx, nI_clamp (by omega), (h.2.2.2.2.2 x hxn).1]
          rfl
        show _ = some (oV up τ (if x = 8 then none else if zI v ≤ vq r b0 (τ.1 198) up (decide (¬ v ≤ 0)) x then rfw par (vq r b0 (τ.1 198) up (decide (¬ v ≤ 0))) (zI v) k (par x) else some x))
        rw [if_neg q2]
        by_cases q3 : zI v ≤ vq r b0 (τ.1 198) up (decide (¬ v ≤ 0)) x
        · rw [if_pos q3] at eS ⊢
          rw [gj_lp_g eS]
          exact r9_rfw h hv b1 k (par x) (by omega) (h.2.1.1.1.2.2.1 x hxn).2.2.2.1 fu' (by omega)
        · rw [if_neg q3] at eS ⊢
          rw [gj_lp_e eS]
          rfl
  termination_by k => k
/-- the row shifted by v from x up -/
def sh (r : Nat) (b0 : Nat → Nat) (up par : Nat → Nat) (v : Int32) : Nat → Nat → (Nat → Int32) → Nat → Int32
  | 0, _, s => s
  | k + 1, x, s => if x = 8 then s else sh r b0 up par v k (par x) (upd s (50 + up x) (s (50 + up x) + (if vb r b0 s (up x) = x then v else 0 - v)))
theorem vb_upd {r : Nat} {b0 : Nat → Nat} {s : Nat → Int32} {q w : Nat} {v : Int32} (hw : w < r + 8) : vb r b0 (upd s (50 + q) v) w = vb r b0 s w := by
  unfold vb
  have : upd s (50 + q) v (42 + (w - r)) = s (42 + (w - r)) := if_neg (by omega)
  by_cases h : w < r
  · rw [if_pos h, if_pos h]
  · rw [if_neg h, if_neg h, this]
theorem sh_off {r n : Nat} {b0 up par : Nat → Nat} {v : Int32} (hu : ∀ d, d < n → up d < 24) (hp : ∀ d, d < n → par d < n ∨ par d = 8) {q : Nat} (hq : q < 50 ∨ 74 ≤ q) : ∀ (k x : Nat) (s : Nat → Int32), (x < n ∨ x = 8) → sh r b0 up par v k x s q = s q
  | 0, _, _, _ => rfl
  | k + 1, x, s, hx => by
    unfold sh
    by_cases q1 : x = 8
    · rw [if_pos q1]
    · have hxn : x < n := by omega
      have := hu x hxn
      rw [if_neg q1, sh_off hu hp hq k (par x) _ (hp x hxn)]
      exact if_neg (by omega)
theorem nI_dn (m : Nat) (a : Int32) : a + (0 - (0 - nI m)) = a + nI m := by
  apply Int32.toBitVec_inj.mp
  simp [BitVec.sub_eq_add_neg]
/-- one flow of the tree, moved by no more than its room -/
theorem fP_mv {n r F m : Nat} {b0 : Nat → Nat} {s : Nat → Int32} {up : Nat → Nat} {x : Nat} {v : Int32} (hn : n ≤ 8) (hr : r ≤ 16) (hf : fP n r F s) (hF : F < 2 ^ 29) (hw : up x < r + n) (hT : s (74 + up x) = 0) (hm : m ≤ 1998) (hv : (v = nI m ∧ 0 < m) ∨ (v = 0 - nI m ∧ 0 < m)) (hq : nI m ≤ vq r b0 s up (decide (¬ v ≤ 0)) x) : fP n r (F + 1998) (upd s (50 + up x) (s (50 + up x) + (if vb r b0 s (up x) = x then v else 0 - v))) := by
  obtain ⟨f1, f2, f3, f4⟩ := fP_f hf (by omega) hw
  have ez : (0 : Int32).toInt = 0 := by decide
  have em : (nI m).toInt = m := nI_toInt (by omega)
  have key : (s (50 + up x) + (if vb r b0 s (up x) = x then v else 0 - v) = nI (fl s (up x) + m) ∧ (up x < r → fl s (up x) + m ≤ hl s (up x))) ∨ (s (50 + up x) + (if vb r b0 s (up x) = x then v else 0 - v) = nI (fl s (up x) - m) ∧ m ≤ fl s (up x)) := by
    unfold vq at hq
    rw [f1] at hq ⊢
    have room : ∀ (_ : nI m ≤ (if up x < r then s (24 + up x) - nI (fl s (up x)) else 1000000)), up x < r → fl s (up x) + m ≤ hl s (up x) := fun a b => by
      obtain ⟨g1, g2, g3⟩ := f3 b
      rw [if_pos b, g1, nI_sub g2, nI_leI (by omega) (by omega)] at a
      omega
    rcases hv with ⟨rfl, hm0⟩ | ⟨rfl, hm0⟩
    · have : ¬ nI m ≤ 0 := by rw [i32_le_iff, em, ez]; omega
      rw [decide_eq_true this] at hq
      by_cases q : vb r b0 s (up x) = x
      · rw [if_pos q, nI_add]
        rw [decide_eq_true q, if_pos rfl] at hq
        exact .inl ⟨rfl, room hq⟩
      · rw [if_neg q]
        rw [decide_eq_false q, if_neg (by decide), nI_leI (by omega) (by omega)] at hq
        rw [nI_addneg hq]
        exact .inr ⟨rfl, hq⟩
    · have : (0 - nI m) ≤ 0 := by
        rw [i32_le_iff, i32_sub (by rw [em, ez]; omega) (by rw [em, ez]; omega), em, ez]
        omega
      have e1 : decide (¬ 0 - nI m ≤ 0) = false := decide_eq_false (fun e => e this)
      rw [e1] at hq
      by_cases q : vb r b0 s (up x) = x
      · rw [if_pos q]
        rw [decide_eq_true q, if_neg (by decide), nI_leI (by omega) (by omega)] at hq
        rw [nI_addneg hq]
        exact .inr ⟨rfl, hq⟩
      · rw [if_neg q, nI_dn, nI_add]
        rw [decide_eq_false q, if_pos rfl] at hq
        exact .inl ⟨rfl, room hq⟩
  generalize s (50 + up x) + (if vb r b0 s (up x) = x then v else 0 - v) = g at *
  have hup : ∀ q, q ≠ 50 + up x → upd s (50 + up x) g q = s q := fun q hq => if_neg hq
  have hus : upd s (50 + up x) g (50 + up x) = g := if_pos rfl
  refine ⟨fun w hw1 => ?_, fun d hd => ?_⟩
  · by_cases q : w = up x
    · subst q
      obtain ⟨g1, g2, g3⟩ := f3 hw1
      rw [hus, hup (24 + up x) (by omega), hup (74 + up x) (by omega), hT]
      rcases key with ⟨k1, k2⟩ | ⟨k1, k2⟩
      · exact ⟨_, _, k1, g1, k2 hw1, g3, fun e => absurd e (by decide), fun e => absurd e (by decide)⟩
      · exact ⟨_, _, k1, g1, by omega, g3, fun e => absurd e (by decide), fun e => absurd e (by decide)⟩
    · rw [hup (50 + w) (by omega), hup (24 + w) (by omega), hup (74 + w) (by omega)]
      exact hf.1 w hw1
  · obtain ⟨f, h1, h2, h3, h4, h5⟩ := hf.2 d hd
    by_cases q : r + d = up x
    · rw [q] at h1 h3 h4 ⊢
      rw [hus, hup (74 + up x) (by omega), hup (42 + d) (by omega), hT]
      have := f4 (by omega)
      rcases key with ⟨k1, k2⟩ | ⟨k1, k2⟩
      · exact ⟨_, k1, by omega, fun e => absurd e (by decide), by decide, h5⟩
      · exact ⟨_, k1, by omega, fun e => absurd e (by decide), by decide, h5⟩
    · rw [hup (50 + (r + d)) (by omega), hup (74 + (r + d)) (by omega), hup (42 + d) (by omega)]
      exact ⟨f, h1, by omega, h3, h4, h5⟩
/-- the whole shift keeps flows as they must be -/
theorem fP_sh {n r m : Nat} {b0 e0 : Nat → Nat} {up par rk dp : Nat → Nat} {pr : Nat → Int32} {σr : gj_S} {v : Int32} (hS : rS n r b0 e0 σr) (hm : m ≤ 1998) (hv : (v = nI m ∧ 0 < m) ∨ (v = 0 - nI m ∧ 0 < m)) : ∀ (k x F : Nat) (s : Nat → Int32), (x < n ∨ x = 8) → rT n r b0 e0 s up par rk dp pr → fP n r F s → F + 1998 * k < 2 ^ 29 → rfw par (vq r b0 s up (decide (¬ v ≤ 0))) (nI m) k x = none → fP n r (F + 1998 * k) (sh r b0 up par v k x s) ∧ rT n r b0 e0 (sh r b0 up par v k x s) up par rk dp pr
  | 0, x, F, s, hx, hT, hf, hF, hq => ⟨hf, hT⟩
  | k + 1, x, F, s, hx, hT, hf, hF, hq => by
    have hn := hS.1
    have hr := hS.2.1
    unfold sh
    by_cases q1 : x = 8
    · rw [if_pos q1]
      exact ⟨fP_mono hf (by omega), hT⟩
    · have hxn : x < n := by omega
      have hC := hT.1.1
      obtain ⟨u1, u2, u3, u4, u5⟩ := hC.2.2.1 x hxn
      rw [if_neg q1]
      unfold rfw at hq
      rw [if_neg q1] at hq
      by_cases q2 : nI m ≤ vq r b0 s up (decide (¬ v ≤ 0)) x
      · rw [if_pos q2] at hq
        have hf1 := fP_mv hn hr hf (by omega) u1 u2 hm hv q2
        have hE1 : ∀ g, rwE s (upd s (50 + up x) g) := fun g => ⟨fun q a1 a2 => if_neg (by omega), fun q a1 a2 => if_neg (by omega)⟩
        have hT1 : ∀ g, rT n r b0 e0 (upd s (50 + up x) g) up par rk dp pr := fun g => rT_cg hS (hE1 g) (fun w hw => by
          unfold vT
          rw [show upd s (50 + up x) g (74 + w) = s (74 + w) from if_neg (by omega)]) hT
        generalize s (50 + up x) + (if vb r b0 s (up x) = x then v else 0 - v) = g at *
        have hq' : rfw par (vq r b0 (upd s (50 + up x) g) up (decide (¬ v ≤ 0))) (nI m) k (par x) = none := by
          rw [rfw_cg k (par x) (fun i hi => ?_)]
          · exact hq
          · have hi2 : it par i (par x) < n := by
              rcases it_pl hC i (par x) u4 with a | a
              · exact a
              · exact absurd a hi
            have hne : up (it par i (par x)) ≠ up x := fun e => it_no hC hxn i (tc_inj hC hi2 hxn e)
            have hlt := (hC.2.2.1 _ hi2).1
            unfold vq
            rw [vb_upd (by omega), show upd s (50 + up x) g (24 + up (it par i (par x))) = s (24 + up (it par i (par x))) from if_neg (by omega), show upd s (50 + up x) g (50 + up (it par i (par x))) = s (50 + up (it par i (par x))) from if_neg (by omega)]
        have ih := fP_sh hS hm hv k (par x) (F + 1998) _ u4 (hT1 g) hf1 (by omega) hq'
        rw [show F + 1998 * (k + 1) = F + 1998 + 1998 * k by omega]
        exact ih
      · rw [if_neg q2] at hq
        cases hq
