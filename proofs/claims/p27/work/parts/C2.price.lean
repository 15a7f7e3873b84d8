/-! ===== prices and the ring's cost, as numbers ===== -/
def eC (bg : Nat → Nat) (c : Nat → Int) (v d : Nat) : Int := if bg v = d then - c v else c v
def prI (n : Nat) (bg : Nat → Nat) (c : Nat → Int) (up par : Nat → Nat) (P : Nat → Int) : Prop := P 8 = 0 ∧ ∀ d, d < n → P d = P (par d) + eC bg c (up d) d
theorem pI_rec {n r : Nat} {b0 e0 : Nat → Nat} {s : Nat → Int32} {up par rk dp : Nat → Nat} {pr : Nat → Int32} (hn : n ≤ 8) (hT : rT n r b0 e0 s up par rk dp pr) (hc : ∀ w, w < r → ∃ c, c ≤ 999 ∧ s (8 + w) = nI c) : prI n (vb r b0 s) (fun v => (vc r s v).toInt) up par (fun p => (pr p).toInt) := by
  refine ⟨?_, fun d hd => ?_⟩
  · show (pr 8).toInt = 0
    rw [hT.2.2.1]
    decide
  · show (pr d).toInt = (pr (par d)).toInt + _
    have hpar := (hT.1.1.2.2.1 d hd).2.2.2.1
    have db := Nat.le_trans (td_le hT.1 hT.2.1 hpar) hn
    have h2 := pr_bd (b0 := b0) (e0 := e0) hn hT hc 8 _ db (Nat.le_refl _) hpar
    obtain ⟨j1, j2⟩ := vc_bd (n := n) (b0 := b0) (e0 := e0) hc (up d)
    unfold eC
    rw [hT.2.2.2 d hd]
    by_cases q : vb r b0 s (up d) = d
    · rw [if_pos q, if_pos q]
      have e1 : (0 - vc r s (up d)).toInt = - (vc r s (up d)).toInt := by
        rw [i32_sub (by show -2147483648 ≤ 0 - _; omega) (by show 0 - _ < 2147483648; omega)]
        show 0 - _ = _
        omega
      rw [i32_add (by rw [e1]; omega) (by rw [e1]; omega), e1]
    · rw [if_neg q, if_neg q, i32_add (by omega) (by omega)]
theorem pr_un {n m : Nat} {bg en : Nat → Nat} {c : Nat → Int} {T : Nat → Prop} {up par rk : Nat → Nat} {P Q : Nat → Int} (hC : tc_r n m bg en T up par rk) (hP : prI n bg c up par P) (hQ : prI n bg c up par Q) : ∀ (k d : Nat), rk d ≤ k → (d < n ∨ d = 8) → Q d = P d
  | k, d, hk, hd => by
    rcases hd with hd | rfl
    · obtain ⟨-, -, -, h4, h5⟩ := hC.2.2.1 d hd
      cases k with
      | zero => omega
      | succ k =>
        have := pr_un hC hP hQ k (par d) (by omega) h4
        rw [hP.2 d hd, hQ.2 d hd, this]
    · rw [hP.1, hQ.1]
/-- X is on the way up from d -/
def mv (par : Nat → Nat) (X d : Nat) : Prop := ∃ t, it par t d = X
theorem pr_shift {n m : Nat} {bg en : Nat → Nat} {c : Nat → Int} {T T2 : Nat → Prop} {up par rk up2 par2 rk2 : Nat → Nat} {P P2 : Nat → Int} {w A B K : Nat} {γ : Int} (hC : tc_r n m bg en T up par rk) (hC2 : tc_r n m bg en T2 up2 par2 rk2) (hP : prI n bg c up par P) (hP2 : prI n bg c up2 par2 P2) (hU : pvU up par up2 par2 w A B K) (hx : ∀ t, t ≤ K → it par t A < n) (hB : ∀ l, it par l B ≠ it par K A) (hγ : P B + eC bg c w A = P A + γ) : ∀ (k d : Nat), rk2 d ≤ k → (d < n ∨ d = 8) → (mv par (it par K A) d → P2 d = P d + γ) ∧ (¬ mv par (it par K A) d → P2 d = P d)
  | k, d, hk, hd => by
    have hX := hx K (Nat.le_refl _)
    rcases hd with hd | rfl
    · obtain ⟨-, -, -, h4, h5⟩ := hC2.2.2.1 d hd
      cases k with
      | zero => omega
      | succ k =>
        have ih := pr_shift hC hC2 hP hP2 hU hx hB hγ k (par2 d) (by omega) h4
        obtain ⟨o1, o2, o3, o4⟩ := hU
        by_cases qd : ∃ t, t ≤ K ∧ d = it par t A
        · obtain ⟨t, t1, rfl⟩ := qd
          have hm : mv par (it par K A) (it par t A) := ⟨K - t, by rw [← it_add, show t + (K - t) = K by omega]⟩
          refine ⟨fun _ => ?_, fun x => absurd hm x⟩
          cases t with
          | zero =>
            rw [show it par 0 A = A from rfl] at *
            rw [o3] at ih
            have e := ih.2 (fun ⟨l, hl⟩ => hB l hl)
            rw [hP2.2 A hd, o3, o2, e]
            exact hγ
          | succ t =>
            obtain ⟨p1, p2⟩ := o4 t (by omega)
            have hxt := hx t (by omega)
            have hj := (hC.2.2.1 _ hxt).2.2.1
            have hne : it par (t + 1) A ≠ it par t A := by
              rw [it_s]
              intro e
              have := (hC.2.2.1 _ hxt).2.2.2.2
              rw [e] at this
              omega
            rw [p2] at ih
            have e := ih.1 ⟨K - t, by rw [← it_add, show t + (K - t) = K by omega]⟩
            have e2 := hP.2 _ hxt
            rw [hP2.2 _ hd, p2, p1, e]
            rw [it_s] at hne ⊢
            unfold eC at e2 ⊢
            generalize it par t A = x at *
            rcases hj with ⟨b1, b2⟩ | ⟨b1, b2⟩
            · rw [if_pos b1] at e2
              rw [if_neg (fun y => hne (y.symm.trans b1))]
              omega
            · rw [if_neg (fun y => hne (b2.symm.trans y))] at e2
              rw [if_pos b2]
              omega
        · obtain ⟨p1, p2⟩ := o1 d (fun t t1 e => qd ⟨t, t1, e⟩)
          rw [p2] at ih
          have hdX : d ≠ it par K A := fun e => qd ⟨K, Nat.le_refl _, e⟩
          have hpar := (hC.2.2.1 d hd).2.2.2.1
          rw [hP2.2 d hd, p1, p2, hP.2 d hd]
          refine ⟨fun ⟨t, ht⟩ => ?_, fun hnm => ?_⟩
          · cases t with
            | zero => exact absurd ht hdX
            | succ t =>
              rw [ih.1 ⟨t, ht⟩]
              omega
          · rw [ih.2 (fun ⟨t, ht⟩ => hnm ⟨t + 1, ht⟩)]
    · rw [hP.1, hP2.1]
      refine ⟨fun ⟨t, ht⟩ => ?_, fun _ => rfl⟩
      rw [it_8 hC.2.1] at ht
      have := hC.1
      omega
/-- what one unit more round the ring costs -/
theorem rg_cost {n m : Nat} {bg en : Nat → Nat} {c : Nat → Int} {T : Nat → Prop} {up par rk : Nat → Nat} {P : Nat → Int} {em : Bool} {w A B i j : Nat} (hC : tc_r n m bg en T up par rk) (hP : prI n bg c up par P) (hA : A < n ∨ A = 8) (hB : B < n ∨ B = 8) (ht : tap par A B i j) : sZ (fun k => if rgL bg up par em A B i k = true then c (rgW up par w A B i k) else - c (rgW up par w A B i k)) (i + 1 + j) = (if em = true then c w else - c w) + P A - P B := by
  have ht' : tap par B A j i := ⟨ht.1.symm, tp0_sw ht.2⟩
  have dA : ∀ t, t < i → it par t A < n := fun t q => tap_docks hC hA ht q
  have dB : ∀ t, t < j → it par t B < n := fun t q => tap_docks hC hB ht' q
  have hWA : ∀ k, k < i → rgW up par w A B i k = up (it par (i - 1 - k) A) ∧ rgL bg up par em A B i k = !decide (bg (up (it par (i - 1 - k) A)) = it par (i - 1 - k) A) := fun k h => by
    unfold rgW rgL
    rw [if_pos h, if_pos h]
    exact ⟨rfl, rfl⟩
  have hWB : ∀ t, t < j → rgW up par w A B i (i + 1 + t) = up (it par t B) ∧ rgL bg up par em A B i (i + 1 + t) = decide (bg (up (it par t B)) = it par t B) := fun t h => by
    unfold rgW rgL
    rw [if_neg (by omega), if_neg (by omega), if_neg (by omega), if_neg (by omega), show i + 1 + t - i - 1 = t by omega]
    exact ⟨rfl, rfl⟩
  have hWi : rgW up par w A B i i = w ∧ rgL bg up par em A B i i = em := by
    unfold rgW rgL
    rw [if_neg (by omega), if_pos rfl, if_neg (by omega), if_pos rfl]
    exact ⟨rfl, rfl⟩
  have s1 : ∀ k, k ≤ i → sZ (fun k => if rgL bg up par em A B i k = true then c (rgW up par w A B i k) else - c (rgW up par w A B i k)) k = P (it par (i - k) A) - P (it par i A) := by
    intro k
    induction k with
    | zero =>
      intro _
      show (0 : Int) = _
      rw [Nat.sub_zero]
      omega
    | succ k ih =>
      intro hk
      have ih := ih (by omega)
      show sZ _ k + _ = _
      rw [ih]
      dsimp only
      have hx := hP.2 _ (dA (i - 1 - k) (by omega))
      rw [(hWA k (by omega)).1, (hWA k (by omega)).2, show i - (k + 1) = i - 1 - k by omega]
      have e := it_s (f := par) (i - 1 - k) A
      rw [show i - 1 - k + 1 = i - k by omega] at e
      rw [← e] at hx
      unfold eC at hx
      generalize it par (i - 1 - k) A = x at *
      by_cases q : bg (up x) = x
      · rw [if_pos q] at hx
        rw [decide_eq_true q, if_neg (by decide)]
        omega
      · rw [if_neg q] at hx
        rw [decide_eq_false q, if_pos (by decide)]
        omega
  have s2 : ∀ t, t ≤ j → sZ (fun k => if rgL bg up par em A B i k = true then c (rgW up par w A B i k) else - c (rgW up par w A B i k)) (i + 1 + t) = (if em = true then c w else - c w) + P A - P (it par i A) + P (it par t B) - P B := by
    intro t
    induction t with
    | zero =>
      intro _
      show sZ _ i + _ = _
      have := s1 i (Nat.le_refl _)
      rw [Nat.sub_self] at this
      rw [this]
      dsimp only
      rw [hWi.1, hWi.2]
      show P A - _ + _ = _ + P B - P B
      omega
    | succ t ih =>
      intro hk
      have ih := ih (by omega)
      show sZ _ (i + 1 + t) + (if rgL bg up par em A B i (i + 1 + t) = true then c (rgW up par w A B i (i + 1 + t)) else - c (rgW up par w A B i (i + 1 + t))) = _
      rw [ih]
      have hx := hP.2 _ (dB t (by omega))
      rw [(hWB t (by omega)).1, (hWB t (by omega)).2]
      rw [it_s]
      unfold eC at hx
      generalize it par t B = x at *
      by_cases q : bg (up x) = x
      · rw [if_pos q] at hx
        rw [decide_eq_true q, if_pos rfl]
        omega
      · rw [if_neg q] at hx
        rw [decide_eq_false q, if_neg (show ¬ false = true by decide)]
        omega
  rw [s2 j (Nat.le_refl _), ht.1]
  omega
theorem sZ_mul {f : Nat → Int} {x : Int} : ∀ n, sZ (fun i => x * f i) n = x * sZ f n
  | 0 => by
    show (0 : Int) = x * 0
    rw [Int.mul_zero]
  | n + 1 => by
    unfold sZ
    rw [sZ_mul n, Int.mul_add]
/-- what all flows cost -/
def zC (m : Nat) (c : Nat → Int) (s : Nat → Int32) : Int := sZ (fun v => c v * (fl s v : Int)) m
theorem pv_Z {n r : Nat} {bg en : Nat → Nat} {c : Nat → Int} {T : Nat → Prop} {up par rk : Nat → Nat} {P : Nat → Int} {s s' : Nat → Int32} {em : Bool} {w A B i j lv ld : Nat} (hC : tc_r n (r + n) bg en T up par rk) (hP : prI n bg c up par P) (hw : w < r + n) (hwT : ¬ T w) (hA : A < n ∨ A = 8) (hB : B < n ∨ B = 8) (ht : tap par A B i j) (hN : pvN n r s s' bg up par em w A B i j lv ld) : zC (r + n) c s' = zC (r + n) c s + (ld : Int) * ((if em = true then c w else - c w) + P A - P B) := by
  obtain ⟨-, -, -, -, n5, n6, n7, -⟩ := hN
  rw [← rg_cost (em := em) (w := w) hC hP hA hB ht, ← sZ_mul]
  refine sZ_ring (W := rgW up par w A B i) (fun k hk => rgW_lt hC hw hA hB ht hk) (fun a b h1 h2 => rgW_inj hC hwT hA hB ht h1 h2) (fun k hk => ?_) (fun v hv q => ?_)
  · cases hL : rgL bg up par em A B i k with
    | true =>
      rw [if_pos rfl, n5 k hk hL, Int.natCast_add, Int.mul_add, Int.mul_comm (ld : Int)]
    | false =>
      obtain ⟨h1, h2⟩ := n6 k hk hL
      rw [if_neg (by decide), h2, Int.ofNat_sub h1, Int.mul_sub, Int.mul_neg, Int.mul_comm (ld : Int)]
      omega
  · rw [n7 v hv q]
