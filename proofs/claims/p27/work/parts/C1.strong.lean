/-! ===== strongly feasible trees stay so ===== -/
/-- a pivot, dock by dock -/
def pvD (n r : Nat) (bg up par : Nat → Nat) (em : Bool) (w A B i j lv ld : Nat) (s s' : Nat → Int32) : Prop :=
  (∀ t, t < i → (bg (up (it par t A)) = it par t A → ld ≤ fl s (up (it par t A)) ∧ fl s' (up (it par t A)) = fl s (up (it par t A)) - ld ∧ (lv < i - 1 - t → ld < fl s (up (it par t A)))) ∧ (bg (up (it par t A)) ≠ it par t A → fl s' (up (it par t A)) = fl s (up (it par t A)) + ld ∧ (lv < i - 1 - t → up (it par t A) < r → ld < hl s (up (it par t A)) - fl s (up (it par t A))))) ∧
  (∀ t, t < j → (bg (up (it par t B)) = it par t B → fl s' (up (it par t B)) = fl s (up (it par t B)) + ld ∧ (lv < i + 1 + t → up (it par t B) < r → ld < hl s (up (it par t B)) - fl s (up (it par t B)))) ∧ (bg (up (it par t B)) ≠ it par t B → ld ≤ fl s (up (it par t B)) ∧ fl s' (up (it par t B)) = fl s (up (it par t B)) - ld ∧ (lv < i + 1 + t → ld < fl s (up (it par t B))))) ∧
  (em = true → fl s' w = fl s w + ld) ∧ (em = false → ld ≤ fl s w ∧ fl s' w = fl s w - ld) ∧ (w < r → ld ≤ hl s w ∧ (lv < i → ld < hl s w) ∧ (lv = i → ld = hl s w)) ∧
  (∀ v, v < r + n → v ≠ w → (∀ t, t < i → v ≠ up (it par t A)) → (∀ t, t < j → v ≠ up (it par t B)) → fl s' v = fl s v) ∧
  (i < lv → lv - i - 1 < j ∧ (bg (up (it par (lv - i - 1) B)) = it par (lv - i - 1) B → ld = if up (it par (lv - i - 1) B) < r then hl s (up (it par (lv - i - 1) B)) - fl s (up (it par (lv - i - 1) B)) else 1000000) ∧ (bg (up (it par (lv - i - 1) B)) ≠ it par (lv - i - 1) B → ld = fl s (up (it par (lv - i - 1) B)))) ∧ ∀ v, v < r → hl s' v = hl s v
theorem pv_D {n r : Nat} {bg en : Nat → Nat} {T : Nat → Prop} {up par rk : Nat → Nat} {s s' : Nat → Int32} {em : Bool} {w A B i j lv ld : Nat} (hC : tc_r n (r + n) bg en T up par rk) (hwT : ¬ T w) (hA : A < n ∨ A = 8) (hB : B < n ∨ B = 8) (ht : tap par A B i j) (hN : pvN n r s s' bg up par em w A B i j lv ld) : pvD n r bg up par em w A B i j lv ld s s' := by
  have ht' : tap par B A j i := ⟨ht.1.symm, tp0_sw ht.2⟩
  have dA : ∀ t, t < i → it par t A < n := fun t q => tap_docks hC hA ht q
  have dB : ∀ t, t < j → it par t B < n := fun t q => tap_docks hC hB ht' q
  have uT : ∀ d, d < n → up d ≠ w := fun d hd q => hwT (q ▸ (hC.2.2.1 d hd).2.1)
  have hWA : ∀ t, t < i → rgW up par w A B i (i - 1 - t) = up (it par t A) ∧ rgL bg up par em A B i (i - 1 - t) = !decide (bg (up (it par t A)) = it par t A) := fun t h => by
    unfold rgW rgL
    rw [if_pos (by omega), if_pos (by omega), show i - 1 - (i - 1 - t) = t by omega]
    exact ⟨rfl, rfl⟩
  have hWB : ∀ t, t < j → rgW up par w A B i (i + 1 + t) = up (it par t B) ∧ rgL bg up par em A B i (i + 1 + t) = decide (bg (up (it par t B)) = it par t B) := fun t h => by
    unfold rgW rgL
    rw [if_neg (by omega), if_neg (by omega), if_neg (by omega), if_neg (by omega), show i + 1 + t - i - 1 = t by omega]
    exact ⟨rfl, rfl⟩
  have hWi : rgW up par w A B i i = w ∧ rgL bg up par em A B i i = em := by
    unfold rgW rgL
    rw [if_neg (by omega), if_pos rfl, if_neg (by omega), if_pos rfl]
    exact ⟨rfl, rfl⟩
  obtain ⟨n1, n2, n3, n4, n5, n6, n7, n8⟩ := hN
  -- rooms
  have rmF : ∀ v, v ≠ w → rN r 1000000 s w v false = fl s v := fun v h => by
    unfold rN
    rw [if_neg h, if_pos rfl]
  have rmT : ∀ v, v ≠ w → rN r 1000000 s w v true = if v < r then hl s v - fl s v else 1000000 := fun v h => by
    unfold rN
    rw [if_neg h, if_neg (by decide)]
  have rmW : ∀ b, w < r → rN r 1000000 s w w b = hl s w := fun b h => by
    unfold rN
    rw [if_pos rfl, if_pos h]
  refine ⟨fun t h => ⟨fun q => ?_, fun q => ?_⟩, fun t h => ⟨fun q => ?_, fun q => ?_⟩, fun q => ?_, fun q => ?_, fun q => ⟨?_, fun q2 => ?_, fun q2 => ?_⟩, fun v hv q1 q2 q3 => ?_, fun q => ⟨by omega, fun q2 => ?_, fun q2 => ?_⟩, n8⟩
  · obtain ⟨e1, e2⟩ := hWA t h
    rw [decide_eq_true q] at e2
    have a6 := n6 (i - 1 - t) (by omega) e2
    rw [e1] at a6
    refine ⟨a6.1, a6.2, fun q2 => ?_⟩
    have a4 := n4 (i - 1 - t) q2 (by omega)
    rw [e1, e2] at a4
    exact Nat.lt_of_lt_of_eq a4 (rmF _ (uT _ (dA t h)))
  · obtain ⟨e1, e2⟩ := hWA t h
    rw [decide_eq_false q] at e2
    have a5 := n5 (i - 1 - t) (by omega) e2
    rw [e1] at a5
    refine ⟨a5, fun q2 q3 => ?_⟩
    have a4 := n4 (i - 1 - t) q2 (by omega)
    rw [e1, e2] at a4
    have := Nat.lt_of_lt_of_eq a4 (rmT _ (uT _ (dA t h)))
    rw [if_pos q3] at this
    exact this
  · obtain ⟨e1, e2⟩ := hWB t h
    rw [decide_eq_true q] at e2
    have a5 := n5 (i + 1 + t) (by omega) e2
    rw [e1] at a5
    refine ⟨a5, fun q2 q3 => ?_⟩
    have a4 := n4 (i + 1 + t) q2 (by omega)
    rw [e1, e2] at a4
    have := Nat.lt_of_lt_of_eq a4 (rmT _ (uT _ (dB t h)))
    rw [if_pos q3] at this
    exact this
  · obtain ⟨e1, e2⟩ := hWB t h
    rw [decide_eq_false q] at e2
    have a6 := n6 (i + 1 + t) (by omega) e2
    rw [e1] at a6
    refine ⟨a6.1, a6.2, fun q2 => ?_⟩
    have a4 := n4 (i + 1 + t) q2 (by omega)
    rw [e1, e2] at a4
    exact Nat.lt_of_lt_of_eq a4 (rmF _ (uT _ (dB t h)))
  · have a5 := n5 i (by omega) (by rw [hWi.2]; exact q)
    rw [hWi.1] at a5
    exact a5
  · have a6 := n6 i (by omega) (by rw [hWi.2]; exact q)
    rw [hWi.1] at a6
    exact a6
  · have a3 := n3 i (by omega)
    rw [hWi.1, rmW _ q] at a3
    exact a3
  · have a4 := n4 i q2 (by omega)
    rw [hWi.1, rmW _ q] at a4
    exact a4
  · subst q2
    rw [hWi.1, rmW _ q] at n2
    exact n2.symm
  · refine n7 v hv (fun k hk e => ?_)
    rcases Nat.lt_trichotomy k i with q | q | q
    · have := (hWA (i - 1 - k) (by omega)).1
      rw [show i - 1 - (i - 1 - k) = k by omega] at this
      exact q2 (i - 1 - k) (by omega) (e.trans this)
    · subst q
      exact q1 (e.trans hWi.1)
    · have := (hWB (k - i - 1) (by omega)).1
      rw [show i + 1 + (k - i - 1) = k by omega] at this
      exact q3 (k - i - 1) (by omega) (e.trans this)
  · obtain ⟨e1, e2⟩ := hWB (lv - i - 1) (by omega)
    rw [decide_eq_true q2] at e2
    rw [show i + 1 + (lv - i - 1) = lv by omega] at e1 e2
    rw [e1, e2, rmT _ (uT _ (dB _ (by omega)))] at n2
    exact n2.symm
  · obtain ⟨e1, e2⟩ := hWB (lv - i - 1) (by omega)
    rw [decide_eq_false q2] at e2
    rw [show i + 1 + (lv - i - 1) = lv by omega] at e1 e2
    rw [e1, e2, rmF _ (uT _ (dB _ (by omega)))] at n2
    exact n2.symm
/-- every dock could ship one more up to the hub -/
def sfP (n r : Nat) (bg up : Nat → Nat) (s : Nat → Int32) : Prop := ∀ d, d < n → (bg (up d) = d → up d < r → fl s (up d) < hl s (up d)) ∧ (bg (up d) ≠ d → 1 ≤ fl s (up d))
theorem sf_ld {n r : Nat} {bg up par : Nat → Nat} {s s' : Nat → Int32} {em : Bool} {w A B i j lv ld : Nat} (hD : pvD n r bg up par em w A B i j lv ld s s') (dB : ∀ t, t < j → it par t B < n) (hsf : sfP n r bg up s) (q : i < lv) : 1 ≤ ld := by
  obtain ⟨h1, h2, h3⟩ := hD.2.2.2.2.2.2.1 q
  obtain ⟨s1, s2⟩ := hsf _ (dB _ h1)
  by_cases x : bg (up (it par (lv - i - 1) B)) = it par (lv - i - 1) B
  · have := h2 x
    by_cases x2 : up (it par (lv - i - 1) B) < r
    · have s1' := s1 x x2
      rw [if_pos x2] at this
      omega
    · rw [if_neg x2] at this
      omega
  · have := h3 x
    have := s2 x
    omega
theorem sf_pv {n r : Nat} {bg en : Nat → Nat} {T : Nat → Prop} {up par rk up2 par2 : Nat → Nat} {s s' : Nat → Int32} {em : Bool} {w A B i j lv ld : Nat} (hC : tc_r n (r + n) bg en T up par rk) (hwT : ¬ T w) (hA : A < n ∨ A = 8) (hB : B < n ∨ B = 8) (ht : tap par A B i j) (hE1 : em = true → bg w = A ∧ fl s w = 0) (hE2 : em = false → bg w = B ∧ fl s w = hl s w ∧ w < r) (hAB : A ≠ B) (hle : ∀ v, v < r → fl s v ≤ hl s v) (hw : w < r + n) (hD : pvD n r bg up par em w A B i j lv ld s s') (hsf : sfP n r bg up s) (h1 : lv = i → up2 = up ∧ par2 = par) (h2 : lv < i → pvU up par up2 par2 w A B (i - 1 - lv)) (h3 : i < lv → pvU up par up2 par2 w B A (lv - i - 1)) : sfP n r bg up2 s' := by
  have ht' : tap par B A j i := ⟨ht.1.symm, tp0_sw ht.2⟩
  have dA : ∀ t, t < i → it par t A < n := fun t q => tap_docks hC hA ht q
  have dB : ∀ t, t < j → it par t B < n := fun t q => tap_docks hC hB ht' q
  have uT : ∀ d, d < n → up d ≠ w := fun d hd q => hwT (q ▸ (hC.2.2.1 d hd).2.1)
  have hld := sf_ld hD dB hsf
  obtain ⟨fa, fb, w1, w2, w3, fo, fl', hh⟩ := hD
  -- a dock that hangs as it did
  have keep : ∀ d, d < n → (∀ t, t < j → d = it par t B → lv < i + 1 + t) → (bg (up d) = d → up d < r → fl s' (up d) < hl s' (up d)) ∧ (bg (up d) ≠ d → 1 ≤ fl s' (up d)) := by
    intro d hd hb
    obtain ⟨s1, s2⟩ := hsf d hd
    by_cases qa : ∃ t, t < i ∧ d = it par t A
    · obtain ⟨t, t1, rfl⟩ := qa
      obtain ⟨a1, a2⟩ := fa t t1
      refine ⟨fun x y => ?_, fun x => ?_⟩
      · have := a1 x
        have := s1 x y
        rw [hh _ y]
        omega
      · have := a2 x
        have := s2 x
        omega
    · by_cases qb : ∃ t, t < j ∧ d = it par t B
      · obtain ⟨t, t1, rfl⟩ := qb
        obtain ⟨a1, a2⟩ := fb t t1
        have hlv := hb t t1 rfl
        refine ⟨fun x y => ?_, fun x => ?_⟩
        · obtain ⟨b1, b2⟩ := a1 x
          have b2 := b2 hlv y
          have := s1 x y
          rw [hh _ y]
          omega
        · obtain ⟨b0, b1, b2⟩ := a2 x
          have b2 := b2 hlv
          omega
      · have e : fl s' (up d) = fl s (up d) := fo (up d) (hC.2.2.1 d hd).1 (uT d hd) (fun t t1 e => qa ⟨t, t1, tc_inj hC hd (dA t t1) e⟩) (fun t t1 e => qb ⟨t, t1, tc_inj hC hd (dB t t1) e⟩)
        rw [e]
        refine ⟨fun x y => ?_, s2⟩
        rw [hh _ y]
        exact s1 x y
  intro d hd
  rcases Nat.lt_trichotomy lv i with q | q | q
  · -- A's side turns
    obtain ⟨o1, o2, o3, o4⟩ := h2 q
    by_cases qd : ∃ t, t ≤ i - 1 - lv ∧ d = it par t A
    · obtain ⟨t, t1, rfl⟩ := qd
      cases t with
      | zero =>
        show (bg (up2 A) = A → up2 A < r → fl s' (up2 A) < hl s' (up2 A)) ∧ (bg (up2 A) ≠ A → 1 ≤ fl s' (up2 A))
        rw [o2]
        cases em with
        | true =>
          obtain ⟨x1, x2⟩ := hE1 rfl
          refine ⟨fun _ y => ?_, fun x => absurd x1 x⟩
          rw [w1 rfl, x2, hh _ y]
          have := (w3 y).2.1 q
          omega
        | false =>
          obtain ⟨x1, x2, x3⟩ := hE2 rfl
          refine ⟨fun x => absurd (x.symm.trans x1) hAB, fun _ => ?_⟩
          have := (w3 x3).2.1 q
          have := w2 rfl
          omega
      | succ t =>
        have e4 := (o4 t (by omega)).1
        have hti : t < i := by omega
        obtain ⟨a1, a2⟩ := fa t hti
        have hj := (hC.2.2.1 _ (dA t hti)).2.2.1
        have hne : it par (t + 1) A ≠ it par t A := by
          rw [it_s]
          intro e
          have := (hC.2.2.1 _ (dA t hti)).2.2.2.2
          rw [e] at this
          omega
        rw [e4, it_s] at *
        generalize it par t A = x at *
        generalize up x = v at *
        have hlt : lv < i - 1 - t := by omega
        rcases hj with ⟨b1, b2⟩ | ⟨b1, b2⟩
        · -- begins at x, ends at par x
          refine ⟨fun y => absurd (y.symm.trans b1) hne, fun _ => ?_⟩
          obtain ⟨c1, c2, c3⟩ := a1 b1
          have := c3 hlt
          omega
        · refine ⟨fun _ y => ?_, fun y => absurd b2 y⟩
          obtain ⟨c1, c2⟩ := a2 (fun e => hne (b2.symm.trans e))
          have := c2 hlt y
          rw [hh _ y]
          omega
    · have e1 := (o1 d (fun t t1 e => qd ⟨t, t1, e⟩)).1
      rw [e1]
      exact keep d hd (fun t _ _ => by omega)
  · rw [(h1 q).1]
    exact keep d hd (fun t _ _ => by omega)
  · have hld1 := hld q
    obtain ⟨o1, o2, o3, o4⟩ := h3 q
    have hlj := (fl' q).1
    by_cases qd : ∃ t, t ≤ lv - i - 1 ∧ d = it par t B
    · obtain ⟨t, t1, rfl⟩ := qd
      cases t with
      | zero =>
        show (bg (up2 B) = B → up2 B < r → fl s' (up2 B) < hl s' (up2 B)) ∧ (bg (up2 B) ≠ B → 1 ≤ fl s' (up2 B))
        rw [o2]
        cases em with
        | true =>
          obtain ⟨x1, x2⟩ := hE1 rfl
          refine ⟨fun x => absurd (x1.symm.trans x) hAB, fun _ => ?_⟩
          rw [w1 rfl]
          omega
        | false =>
          obtain ⟨x1, x2, x3⟩ := hE2 rfl
          refine ⟨fun _ y => ?_, fun x => absurd x1 x⟩
          rw [hh _ y]
          have := w2 rfl
          omega
      | succ t =>
        have e4 := (o4 t (by omega)).1
        have htj : t < j := by omega
        obtain ⟨a1, a2⟩ := fb t htj
        have hj := (hC.2.2.1 _ (dB t htj)).2.2.1
        have hne : it par (t + 1) B ≠ it par t B := by
          rw [it_s]
          intro e
          have := (hC.2.2.1 _ (dB t htj)).2.2.2.2
          rw [e] at this
          omega
        rw [e4, it_s] at *
        generalize it par t B = x at *
        generalize up x = v at *
        rcases hj with ⟨b1, b2⟩ | ⟨b1, b2⟩
        · refine ⟨fun y => absurd (y.symm.trans b1) hne, fun _ => ?_⟩
          obtain ⟨c1, -⟩ := a1 b1
          omega
        · refine ⟨fun _ y => ?_, fun y => absurd b2 y⟩
          obtain ⟨c0, c1, -⟩ := a2 (fun e => hne (b2.symm.trans e))
          have := hle _ y
          rw [hh _ y]
          omega
    · have e1 := (o1 d (fun t t1 e => qd ⟨t, t1, e⟩)).1
      rw [e1]
      exact keep d hd (fun t t1 e => by
        by_cases x : t ≤ lv - i - 1
        · exact absurd ⟨t, x, e⟩ qd
        · omega)
