theorem gj_t {α : Type} {c : Prop} [Decidable c] {a b : Option α} {z : α} (h : c) (hf : (if c then a else b) = some z) : a = some z := by rw [if_pos h] at hf; exact hf
theorem gj_f {α : Type} {c : Prop} [Decidable c] {a b : Option α} {z : α} (h : ¬ c) (hf : (if c then a else b) = some z) : b = some z := by rw [if_neg h] at hf; exact hf
theorem gj_c {α : Type} {c : Prop} [Decidable c] {a : Option α} {z : α} (hf : (if c then a else none) = some z) : c ∧ a = some z := by
  by_cases h : c
  · rw [if_pos h] at hf; exact ⟨h, hf⟩
  · rw [if_neg h] at hf; cases hf
theorem gj_b {α β : Type} {o : Option α} {f : α → Option β} {z : β} (hf : o.bind f = some z) : ∃ x, o = some x ∧ f x = some z := Option.bind_eq_some_iff.mp hf
def gj_lp {α β : Type} (f : α → Option (β ⊕ α)) : Nat → α → Option β
  | 0, _ => none
  | n + 1, a => (f a).bind (fun x => Sum.elim some (gj_lp f n) x)
def gj_K {α β : Type} (f : α → Prop) (g : β → Prop) (x : α ⊕ β) : Prop := match x with | .inl a => f a | .inr b => g b
theorem gj_loop {α β : Type} {f : α → Option (β ⊕ α)} {head : α → Prop} {exit : β → Prop} (step : ∀ (a : α) (x : β ⊕ α), f a = some x → gj_K exit head x → head a) : ∀ (n : Nat) (a : α) (b : β), gj_lp f n a = some b → exit b → head a
  | 0, a, b, h, _ => by cases h
  | n + 1, a, b, h, he => by
    obtain ⟨x, h1, h2⟩ := gj_b h
    refine step a x h1 ?_
    rcases x with y | y
    · have h3 : some y = some b := h2
      cases h3
      exact he
    · exact gj_loop step n y b h2 he
theorem gj_eqS {E : gj_E} {X : gj_X} {nL ce sl : Nat} {Q : State → Prop} {pc : Nat} {lv : List (Nat × gj_V)} {st : List gj_V} {σ σ2 : gj_S} (h : σ = σ2) (k : gj_H E X nL ce sl Q pc lv st σ2) : gj_H E X nL ce sl Q pc lv st σ := by rw [h]; exact k
theorem gj_sub {E : gj_E} {X : gj_X} {nL ce sl : Nat} {Q : State → Prop} {pc : Nat} {lv lv2 : List (Nat × gj_V)} {st : List gj_V} {σ : gj_S} (ks : List Nat) (h : ks.filterMap (fun k => lv[k]?) = lv2) (k : gj_H E X nL ce sl Q pc lv2 st σ) : gj_H E X nL ce sl Q pc lv st σ := by
  obtain ⟨p, e, R, s, m, args, below, meth, c⟩ := X
  intro hcs H locs ls hW hS hl
  refine k hcs H locs ls hW hS (lv_sub hl ks ?_)
  subst h
  unfold lv_pick gj_L
  rw [List.map_filterMap]
  refine congrArg (fun f => List.filterMap f ks) (funext fun i => ?_)
  rw [List.getElem?_map]
section
variable {E : gj_E} {X : gj_X} {own : String} {cc : ByteArray} {nL : Nat} {rt : Option FieldType} {fr lo : Nat} {ce sl : Nat} {Q : State → Prop} {pc : Nat} {lv : List (Nat × gj_V)} {st : List gj_V} {σ : gj_S}
theorem gj_tblAt (v : Int32) {dflt a b : Int} {offs : Array Int} {len : Nat} {x : Int32} {off : Int} {tgt : Nat} (hO : gj_O E X own cc nL rt fr lo) (hd : decode cc pc = .ok (.tableswitch dflt a b offs, len)) (hx : x = v) (h1 : ¬ v.toInt < a) (h2 : ¬ b < v.toInt) (ho : offs[(v.toInt - a).toNat]? = some off) (ht : (pc : Int) + off = (tgt : Int)) (k : gj_H E X nL ce sl Q tgt lv st σ) : gj_H E X nL ce sl Q pc lv (gj_i x :: st) σ := by
  subst hx
  exact gj_tblIn hO hd h1 h2 ho ht k
theorem gj_mmin {idx : Nat} {x y : Int32} (hO : gj_O E X own cc nL rt fr lo) (hl : Cond.methodLink own idx Lib.Math.min.name ∈ gj_gw) (hf1 : 1 ≤ fr) (hf2 : 24 ≤ lo) (hcat : ((st.map (gj_tv E.2.1)).map fun v => v.category).sum ≤ 8) (hd : decode cc pc = .ok (.invokestatic idx, 3)) (k : gj_H E X nL ce sl Q (pc + 3) lv (gj_i (if y < x then y else x) :: st) σ) : gj_H E X nL ce sl Q pc lv (gj_i y :: gj_i x :: st) σ := by
  obtain ⟨p, e, R, s, m, args, below, meth, c⟩ := X
  obtain ⟨hx, hb, hml, hown, hts, hK, hi, hr, hlk, hfr, hlo⟩ := hO
  intro hcs H locs ls hW hS hl2
  exact va_mmin hx hb (hml.trans hl2.1.symm) hown (hts _ hl) (hts _ wk_min1) (hts _ wk_math) (hts _ wk_min2) (by omega) (by omega) hcs.1 hcs.2 hd (k hcs H locs ls hW hS hl2)
def gj_max (x y : Int32) : Int32 := if x < y then y else x
theorem gj_mmax {idx : Nat} {x y : Int32} (hO : gj_O E X own cc nL rt fr lo) (hl : Cond.methodLink own idx Lib.Math.max.name ∈ gj_gw) (hf1 : 1 ≤ fr) (hf2 : 24 ≤ lo) (hcat : ((st.map (gj_tv E.2.1)).map fun v => v.category).sum ≤ 8) (hd : decode cc pc = .ok (.invokestatic idx, 3)) (k : gj_H E X nL ce sl Q (pc + 3) lv (gj_i (gj_max x y) :: st) σ) : gj_H E X nL ce sl Q pc lv (gj_i y :: gj_i x :: st) σ := by
  obtain ⟨p, e, R, s, m, args, below, meth, c⟩ := X
  obtain ⟨hx, hb, hml, hown, hts, hK, hi, hr, hlk, hfr, hlo⟩ := hO
  intro hcs H locs ls hW hS hl2
  exact va_mmax hx hb (hml.trans hl2.1.symm) hown (hts _ hl) (hts _ wk_max1) (hts _ wk_math) (hts _ wk_max2) (by omega) (by omega) hcs.1 hcs.2 hd (k hcs H locs ls hW hS hl2)
theorem gj_mabs {idx : Nat} {x : Int32} (hO : gj_O E X own cc nL rt fr lo) (hl : Cond.methodLink own idx Lib.Math.abs.name ∈ gj_gw) (hf1 : 1 ≤ fr) (hf2 : 24 ≤ lo) (hcat : ((st.map (gj_tv E.2.1)).map fun v => v.category).sum ≤ 8) (hd : decode cc pc = .ok (.invokestatic idx, 3)) (k : gj_H E X nL ce sl Q (pc + 3) lv (gj_i (if 0 ≤ x then x else 0 - x) :: st) σ) : gj_H E X nL ce sl Q pc lv (gj_i x :: st) σ := by
  obtain ⟨p, e, R, s, m, args, below, meth, c⟩ := X
  obtain ⟨hx, hb, hml, hown, hts, hK, hi, hr, hlk, hfr, hlo⟩ := hO
  intro hcs H locs ls hW hS hl2
  exact va_mabs hx hb (hml.trans hl2.1.symm) hown (hts _ hl) (hts _ wk_abs1) (hts _ wk_math) (hts _ wk_abs2) (by omega) (by omega) hcs.1 hcs.2 hd (k hcs H locs ls hW hS hl2)
theorem gj_acp : nativeFrameWords "java/lang/System" "arraycopy" 5 + 11 ≤ 100 := by decide +kernel
theorem gj_cpyI {idx a b n0 n1 : Nat} {ln : Int32} (hO : gj_O E X own cc nL rt fr lo) (ha : gj_lt own a) (hka : gj_kd a = (10, n0)) (hb0 : gj_lt own b) (hkb : gj_kd b = (10, n1)) (hl : Cond.methodLink own idx arraycopyName ∈ gj_gw) (h3 : ¬ ln < 0) (h4 : ln.toNatClampNeg ≤ n0) (h5 : ln.toNatClampNeg ≤ n1) (hf1 : 1 ≤ fr) (hf2 : 120 ≤ lo) (hcat : ((st.map (gj_tv E.2.1)).map fun v => v.category).sum ≤ 8) (hd : decode cc pc = .ok (.invokestatic idx, 3)) (k : gj_H E X nL ce sl Q (pc + 3) lv st (gj_sI σ b (va_cpy (σ.1 a) (σ.1 b) 0 0 ln.toNatClampNeg))) : gj_H E X nL ce sl Q pc lv (gj_i ln :: gj_i 0 :: gj_r b :: gj_i 0 :: gj_r a :: st) σ := by
  obtain ⟨p, e, R, s, m, args, below, meth, c⟩ := X
  obtain ⟨hx, hb, hml, hown, hts, hK, hi, hr, hlk, hfr, hlo⟩ := hO
  intro hcs H locs ls hW hS hl2
  have hacp := gj_acp
  refine va_copyi hx hb (hml.trans hl2.1.symm) hown (hts _ hl) (hts _ wk_acp1) (hts _ wk_acp2) (hts _ wk_sys) hK hW (gj_D hi.1.1 _ σ) hS a b 1 1 (by rw [gj_at (gj_ltn hi.1 ha), gj_cI hka]) (by rw [gj_at (gj_ltn hi.1 hb0), gj_cI hkb]) rfl rfl rfl (sp := 0) (dp := 0) (by decide) (by decide) h3 (by simpa using h4) (by simpa using h5) (fun i _ => rfl) (by omega) (by omega) hd (fun H1 locs1 hP1 hD1 hS1 => ?_)
  refine k hcs H1 locs1 ls ?_ hS1 hl2
  have hc : gj_cell E.2.2.2 E.2.1 (gj_sI σ b (va_cpy (σ.1 a) (σ.1 b) 0 0 ln.toNatClampNeg)) b = _ := gj_cI hkb
  rw [show (gj_sI σ b (va_cpy (σ.1 a) (σ.1 b) 0 0 ln.toNatClampNeg)).1 b = va_cpy (σ.1 a) (σ.1 b) 0 0 ln.toNatClampNeg from by simp [gj_sI]] at hc
  rw [show ((0 : Int32).toNatClampNeg) = 0 from rfl, ← hc, gj_set (gj_ltn hi.1 hb0) gj_sI_o] at hP1
  exact hP1
theorem gj_cpyJ {idx a b n0 n1 : Nat} {ln : Int32} (hO : gj_O E X own cc nL rt fr lo) (ha : gj_lt own a) (hka : gj_kd a = (11, n0)) (hb0 : gj_lt own b) (hkb : gj_kd b = (11, n1)) (hl : Cond.methodLink own idx arraycopyName ∈ gj_gw) (h3 : ¬ ln < 0) (h4 : ln.toNatClampNeg ≤ n0) (h5 : ln.toNatClampNeg ≤ n1) (hf1 : 1 ≤ fr) (hf2 : 120 ≤ lo) (hcat : ((st.map (gj_tv E.2.1)).map fun v => v.category).sum ≤ 8) (hd : decode cc pc = .ok (.invokestatic idx, 3)) (k : gj_H E X nL ce sl Q (pc + 3) lv st (gj_sJ σ b (va_cpy (σ.2.1 a) (σ.2.1 b) 0 0 ln.toNatClampNeg))) : gj_H E X nL ce sl Q pc lv (gj_i ln :: gj_i 0 :: gj_r b :: gj_i 0 :: gj_r a :: st) σ := by
  obtain ⟨p, e, R, s, m, args, below, meth, c⟩ := X
  obtain ⟨hx, hb, hml, hown, hts, hK, hi, hr, hlk, hfr, hlo⟩ := hO
  intro hcs H locs ls hW hS hl2
  have hacp := gj_acp
  refine va_copyl hx hb (hml.trans hl2.1.symm) hown (hts _ hl) (hts _ wk_acp1) (hts _ wk_acp2) (hts _ wk_sys) hK hW (gj_D hi.1.1 _ σ) hS a b 2 2 (by rw [gj_at (gj_ltn hi.1 ha), gj_cJ hka]) (by rw [gj_at (gj_ltn hi.1 hb0), gj_cJ hkb]) rfl rfl rfl (sp := 0) (dp := 0) (by decide) (by decide) h3 (by simpa using h4) (by simpa using h5) (fun i _ => rfl) (by omega) (by omega) hd (fun H1 locs1 hP1 hD1 hS1 => ?_)
  refine k hcs H1 locs1 ls ?_ hS1 hl2
  have hc : gj_cell E.2.2.2 E.2.1 (gj_sJ σ b (va_cpy (σ.2.1 a) (σ.2.1 b) 0 0 ln.toNatClampNeg)) b = _ := gj_cJ hkb
  rw [show (gj_sJ σ b (va_cpy (σ.2.1 a) (σ.2.1 b) 0 0 ln.toNatClampNeg)).2.1 b = va_cpy (σ.2.1 a) (σ.2.1 b) 0 0 ln.toNatClampNeg from by simp [gj_sJ]] at hc
  rw [show ((0 : Int32).toNatClampNeg) = 0 from rfl, ← hc, gj_set (gj_ltn hi.1 hb0) gj_sJ_o] at hP1
  exact hP1
end
theorem kd_0 : gj_kd 0 = (8, 0) := rfl
theorem kl_0 {own : String} : gj_lt own 0 := Or.inl (Nat.le_of_ble_eq_true rfl)
theorem kd_1 : gj_kd 1 = (12, 600) := rfl
theorem kl_1 {own : String} : gj_lt own 1 := Or.inl (Nat.le_of_ble_eq_true rfl)
theorem kd_2 : gj_kd 2 = (2, 0) := rfl
theorem kl_2 {own : String} : gj_lt own 2 := Or.inl (Nat.le_of_ble_eq_true rfl)
theorem kd_3 : gj_kd 3 = (1, 0) := rfl
theorem kl_3 {own : String} : gj_lt own 3 := Or.inl (Nat.le_of_ble_eq_true rfl)
theorem kd_4 : gj_kd 4 = (10, 8) := rfl
theorem kl_4 {own : String} : gj_lt own 4 := Or.inl (Nat.le_of_ble_eq_true rfl)
theorem kd_5 : gj_kd 5 = (10, 24) := rfl
theorem kl_5 {own : String} : gj_lt own 5 := Or.inl (Nat.le_of_ble_eq_true rfl)
theorem kd_6 : gj_kd 6 = (10, 24) := rfl
theorem kl_6 {own : String} : gj_lt own 6 := Or.inl (Nat.le_of_ble_eq_true rfl)
theorem kd_7 : gj_kd 7 = (10, 24) := rfl
theorem kl_7 {own : String} : gj_lt own 7 := Or.inl (Nat.le_of_ble_eq_true rfl)
theorem kd_8 : gj_kd 8 = (10, 24) := rfl
theorem kl_8 {own : String} : gj_lt own 8 := Or.inl (Nat.le_of_ble_eq_true rfl)
theorem kd_9 : gj_kd 9 = (10, 24) := rfl
theorem kl_9 {own : String} : gj_lt own 9 := Or.inl (Nat.le_of_ble_eq_true rfl)
theorem kd_10 : gj_kd 10 = (10, 24) := rfl
theorem kl_10 {own : String} : gj_lt own 10 := Or.inl (Nat.le_of_ble_eq_true rfl)
theorem kd_11 : gj_kd 11 = (10, 80) := rfl
theorem kl_11 {own : String} : gj_lt own 11 := Or.inl (Nat.le_of_ble_eq_true rfl)
theorem kd_12 : gj_kd 12 = (11, 16) := rfl
theorem kl_12 {own : String} : gj_lt own 12 := Or.inl (Nat.le_of_ble_eq_true rfl)
theorem kd_13 : gj_kd 13 = (11, 8) := rfl
theorem kl_13 {own : String} : gj_lt own 13 := Or.inl (Nat.le_of_ble_eq_true rfl)
theorem kd_14 : gj_kd 14 = (12, 0) := rfl
theorem kl_14 {own : String} : gj_lt own 14 := Or.inl (Nat.le_of_ble_eq_true rfl)
theorem kd_15 : gj_kd 15 = (11, 16) := rfl
theorem kl_15 {own : String} : gj_lt own 15 := Or.inl (Nat.le_of_ble_eq_true rfl)
theorem kd_16 : gj_kd 16 = (7, 0) := rfl
theorem kl_16 {own : String} : gj_lt own 16 := Or.inl (Nat.le_of_ble_eq_true rfl)
theorem kd_17 : gj_kd 17 = (1, 0) := rfl
theorem kl_17 {own : String} : gj_lt own 17 := Or.inl (Nat.le_of_ble_eq_true rfl)
theorem kd_18 : gj_kd 18 = (10, 8) := rfl
theorem kl_18 {own : String} : gj_lt own 18 := Or.inl (Nat.le_of_ble_eq_true rfl)
theorem kd_19 : gj_kd 19 = (10, 24) := rfl
theorem kl_19 {own : String} : gj_lt own 19 := Or.inl (Nat.le_of_ble_eq_true rfl)
theorem kd_20 : gj_kd 20 = (10, 24) := rfl
theorem kl_20 {own : String} : gj_lt own 20 := Or.inl (Nat.le_of_ble_eq_true rfl)
theorem kd_21 : gj_kd 21 = (10, 24) := rfl
theorem kl_21 {own : String} : gj_lt own 21 := Or.inl (Nat.le_of_ble_eq_true rfl)
theorem kd_22 : gj_kd 22 = (10, 24) := rfl
theorem kl_22 {own : String} : gj_lt own 22 := Or.inl (Nat.le_of_ble_eq_true rfl)
theorem kd_23 : gj_kd 23 = (10, 24) := rfl
theorem kl_23 {own : String} : gj_lt own 23 := Or.inl (Nat.le_of_ble_eq_true rfl)
theorem kd_24 : gj_kd 24 = (10, 24) := rfl
theorem kl_24 {own : String} : gj_lt own 24 := Or.inl (Nat.le_of_ble_eq_true rfl)
theorem kd_25 : gj_kd 25 = (10, 80) := rfl
theorem kl_25 {own : String} : gj_lt own 25 := Or.inl (Nat.le_of_ble_eq_true rfl)
theorem kd_26 : gj_kd 26 = (5, 0) := rfl
theorem kl_26 {own : String} : gj_lt own 26 := Or.inl (Nat.le_of_ble_eq_true rfl)
theorem kd_27 : gj_kd 27 = (10, 9) := rfl
theorem kl_27 {own : String} : gj_lt own 27 := Or.inl (Nat.le_of_ble_eq_true rfl)
theorem kd_28 : gj_kd 28 = (10, 9) := rfl
theorem kl_28 {own : String} : gj_lt own 28 := Or.inl (Nat.le_of_ble_eq_true rfl)
theorem kd_29 : gj_kd 29 = (10, 9) := rfl
theorem kl_29 {own : String} : gj_lt own 29 := Or.inl (Nat.le_of_ble_eq_true rfl)
theorem kd_30 : gj_kd 30 = (10, 9) := rfl
theorem kl_30 {own : String} : gj_lt own 30 := Or.inl (Nat.le_of_ble_eq_true rfl)
theorem kd_31 : gj_kd 31 = (10, 9) := rfl
theorem kl_31 {own : String} : gj_lt own 31 := Or.inl (Nat.le_of_ble_eq_true rfl)
theorem kd_32 : gj_kd 32 = (3, 0) := rfl
theorem kl_32 {own : String} : gj_lt own 32 := Or.inl (Nat.le_of_ble_eq_true rfl)
theorem kd_33 : gj_kd 33 = (10, 17) := rfl
theorem kl_33 {own : String} : gj_lt own 33 := Or.inl (Nat.le_of_ble_eq_true rfl)
theorem kd_34 : gj_kd 34 = (13, 17) := rfl
theorem kl_34 {own : String} : gj_lt own 34 := Or.inl (Nat.le_of_ble_eq_true rfl)
theorem kd_35 : gj_kd 35 = (7, 0) := rfl
theorem kl_35 {own : String} : gj_lt own 35 := Or.inl (Nat.le_of_ble_eq_true rfl)
theorem kd_36 : gj_kd 36 = (1, 0) := rfl
theorem kl_36 {own : String} : gj_lt own 36 := Or.inl (Nat.le_of_ble_eq_true rfl)
theorem kd_37 : gj_kd 37 = (10, 8) := rfl
theorem kl_37 {own : String} : gj_lt own 37 := Or.inl (Nat.le_of_ble_eq_true rfl)
theorem kd_38 : gj_kd 38 = (10, 24) := rfl
theorem kl_38 {own : String} : gj_lt own 38 := Or.inl (Nat.le_of_ble_eq_true rfl)
theorem kd_39 : gj_kd 39 = (10, 24) := rfl
theorem kl_39 {own : String} : gj_lt own 39 := Or.inl (Nat.le_of_ble_eq_true rfl)
theorem kd_40 : gj_kd 40 = (10, 24) := rfl
theorem kl_40 {own : String} : gj_lt own 40 := Or.inl (Nat.le_of_ble_eq_true rfl)
theorem kd_41 : gj_kd 41 = (10, 24) := rfl
theorem kl_41 {own : String} : gj_lt own 41 := Or.inl (Nat.le_of_ble_eq_true rfl)
theorem kd_42 : gj_kd 42 = (10, 24) := rfl
theorem kl_42 {own : String} : gj_lt own 42 := Or.inl (Nat.le_of_ble_eq_true rfl)
theorem kd_43 : gj_kd 43 = (10, 24) := rfl
theorem kl_43 {own : String} : gj_lt own 43 := Or.inl (Nat.le_of_ble_eq_true rfl)
theorem kd_44 : gj_kd 44 = (10, 80) := rfl
theorem kl_44 {own : String} : gj_lt own 44 := Or.inl (Nat.le_of_ble_eq_true rfl)
theorem kd_45 : gj_kd 45 = (5, 0) := rfl
theorem kl_45 {own : String} : gj_lt own 45 := Or.inl (Nat.le_of_ble_eq_true rfl)
theorem kd_46 : gj_kd 46 = (10, 9) := rfl
theorem kl_46 {own : String} : gj_lt own 46 := Or.inl (Nat.le_of_ble_eq_true rfl)
theorem kd_47 : gj_kd 47 = (10, 9) := rfl
theorem kl_47 {own : String} : gj_lt own 47 := Or.inl (Nat.le_of_ble_eq_true rfl)
theorem kd_48 : gj_kd 48 = (10, 9) := rfl
theorem kl_48 {own : String} : gj_lt own 48 := Or.inl (Nat.le_of_ble_eq_true rfl)
theorem kd_49 : gj_kd 49 = (10, 9) := rfl
theorem kl_49 {own : String} : gj_lt own 49 := Or.inl (Nat.le_of_ble_eq_true rfl)
theorem kd_50 : gj_kd 50 = (10, 9) := rfl
theorem kl_50 {own : String} : gj_lt own 50 := Or.inl (Nat.le_of_ble_eq_true rfl)
theorem kd_51 : gj_kd 51 = (3, 0) := rfl
theorem kl_51 {own : String} : gj_lt own 51 := Or.inl (Nat.le_of_ble_eq_true rfl)
theorem kd_52 : gj_kd 52 = (10, 17) := rfl
theorem kl_52 {own : String} : gj_lt own 52 := Or.inl (Nat.le_of_ble_eq_true rfl)
theorem kd_53 : gj_kd 53 = (13, 17) := rfl
theorem kl_53 {own : String} : gj_lt own 53 := Or.inl (Nat.le_of_ble_eq_true rfl)
theorem kd_54 : gj_kd 54 = (0, 0) := rfl
theorem kl_54 {own : String} : gj_lt own 54 := Or.inl (Nat.le_of_ble_eq_true rfl)
theorem kd_55 : gj_kd 55 = (14, 12) := rfl
theorem kl_55 {own : String} : gj_lt own 55 := Or.inl (Nat.le_of_ble_eq_true rfl)
theorem kd_56 : gj_kd 56 = (1, 0) := rfl
theorem kl_56 {own : String} : gj_lt own 56 := Or.inl (Nat.le_of_ble_eq_true rfl)
theorem kd_57 : gj_kd 57 = (10, 8) := rfl
theorem kl_57 {own : String} : gj_lt own 57 := Or.inl (Nat.le_of_ble_eq_true rfl)
theorem kd_58 : gj_kd 58 = (10, 24) := rfl
theorem kl_58 {own : String} : gj_lt own 58 := Or.inl (Nat.le_of_ble_eq_true rfl)
theorem kd_59 : gj_kd 59 = (10, 24) := rfl
theorem kl_59 {own : String} : gj_lt own 59 := Or.inl (Nat.le_of_ble_eq_true rfl)
theorem kd_60 : gj_kd 60 = (10, 24) := rfl
theorem kl_60 {own : String} : gj_lt own 60 := Or.inl (Nat.le_of_ble_eq_true rfl)
theorem kd_61 : gj_kd 61 = (10, 24) := rfl
theorem kl_61 {own : String} : gj_lt own 61 := Or.inl (Nat.le_of_ble_eq_true rfl)
theorem kd_62 : gj_kd 62 = (10, 24) := rfl
theorem kl_62 {own : String} : gj_lt own 62 := Or.inl (Nat.le_of_ble_eq_true rfl)
theorem kd_63 : gj_kd 63 = (10, 24) := rfl
theorem kl_63 {own : String} : gj_lt own 63 := Or.inl (Nat.le_of_ble_eq_true rfl)
theorem kd_64 : gj_kd 64 = (10, 80) := rfl
theorem kl_64 {own : String} : gj_lt own 64 := Or.inl (Nat.le_of_ble_eq_true rfl)
theorem kd_65 : gj_kd 65 = (1, 0) := rfl
theorem kl_65 {own : String} : gj_lt own 65 := Or.inl (Nat.le_of_ble_eq_true rfl)
theorem kd_66 : gj_kd 66 = (10, 8) := rfl
theorem kl_66 {own : String} : gj_lt own 66 := Or.inl (Nat.le_of_ble_eq_true rfl)
theorem kd_67 : gj_kd 67 = (10, 24) := rfl
theorem kl_67 {own : String} : gj_lt own 67 := Or.inl (Nat.le_of_ble_eq_true rfl)
theorem kd_68 : gj_kd 68 = (10, 24) := rfl
theorem kl_68 {own : String} : gj_lt own 68 := Or.inl (Nat.le_of_ble_eq_true rfl)
theorem kd_69 : gj_kd 69 = (10, 24) := rfl
theorem kl_69 {own : String} : gj_lt own 69 := Or.inl (Nat.le_of_ble_eq_true rfl)
theorem kd_70 : gj_kd 70 = (10, 24) := rfl
theorem kl_70 {own : String} : gj_lt own 70 := Or.inl (Nat.le_of_ble_eq_true rfl)
theorem kd_71 : gj_kd 71 = (10, 24) := rfl
theorem kl_71 {own : String} : gj_lt own 71 := Or.inl (Nat.le_of_ble_eq_true rfl)
theorem kd_72 : gj_kd 72 = (10, 24) := rfl
theorem kl_72 {own : String} : gj_lt own 72 := Or.inl (Nat.le_of_ble_eq_true rfl)
theorem kd_73 : gj_kd 73 = (10, 80) := rfl
theorem kl_73 {own : String} : gj_lt own 73 := Or.inl (Nat.le_of_ble_eq_true rfl)
theorem kd_74 : gj_kd 74 = (1, 0) := rfl
theorem kl_74 {own : String} : gj_lt own 74 := Or.inl (Nat.le_of_ble_eq_true rfl)
theorem kd_75 : gj_kd 75 = (10, 8) := rfl
theorem kl_75 {own : String} : gj_lt own 75 := Or.inl (Nat.le_of_ble_eq_true rfl)
theorem kd_76 : gj_kd 76 = (10, 24) := rfl
theorem kl_76 {own : String} : gj_lt own 76 := Or.inl (Nat.le_of_ble_eq_true rfl)
theorem kd_77 : gj_kd 77 = (10, 24) := rfl
theorem kl_77 {own : String} : gj_lt own 77 := Or.inl (Nat.le_of_ble_eq_true rfl)
theorem kd_78 : gj_kd 78 = (10, 24) := rfl
theorem kl_78 {own : String} : gj_lt own 78 := Or.inl (Nat.le_of_ble_eq_true rfl)
theorem kd_79 : gj_kd 79 = (10, 24) := rfl
theorem kl_79 {own : String} : gj_lt own 79 := Or.inl (Nat.le_of_ble_eq_true rfl)
theorem kd_80 : gj_kd 80 = (10, 24) := rfl
theorem kl_80 {own : String} : gj_lt own 80 := Or.inl (Nat.le_of_ble_eq_true rfl)
theorem kd_81 : gj_kd 81 = (10, 24) := rfl
theorem kl_81 {own : String} : gj_lt own 81 := Or.inl (Nat.le_of_ble_eq_true rfl)
theorem kd_82 : gj_kd 82 = (10, 80) := rfl
theorem kl_82 {own : String} : gj_lt own 82 := Or.inl (Nat.le_of_ble_eq_true rfl)
theorem kd_83 : gj_kd 83 = (1, 0) := rfl
theorem kl_83 {own : String} : gj_lt own 83 := Or.inl (Nat.le_of_ble_eq_true rfl)
theorem kd_84 : gj_kd 84 = (10, 8) := rfl
theorem kl_84 {own : String} : gj_lt own 84 := Or.inl (Nat.le_of_ble_eq_true rfl)
theorem kd_85 : gj_kd 85 = (10, 24) := rfl
theorem kl_85 {own : String} : gj_lt own 85 := Or.inl (Nat.le_of_ble_eq_true rfl)
theorem kd_86 : gj_kd 86 = (10, 24) := rfl
theorem kl_86 {own : String} : gj_lt own 86 := Or.inl (Nat.le_of_ble_eq_true rfl)
theorem kd_87 : gj_kd 87 = (10, 24) := rfl
theorem kl_87 {own : String} : gj_lt own 87 := Or.inl (Nat.le_of_ble_eq_true rfl)
theorem kd_88 : gj_kd 88 = (10, 24) := rfl
theorem kl_88 {own : String} : gj_lt own 88 := Or.inl (Nat.le_of_ble_eq_true rfl)
theorem kd_89 : gj_kd 89 = (10, 24) := rfl
theorem kl_89 {own : String} : gj_lt own 89 := Or.inl (Nat.le_of_ble_eq_true rfl)
theorem kd_90 : gj_kd 90 = (10, 24) := rfl
theorem kl_90 {own : String} : gj_lt own 90 := Or.inl (Nat.le_of_ble_eq_true rfl)
theorem kd_91 : gj_kd 91 = (10, 80) := rfl
theorem kl_91 {own : String} : gj_lt own 91 := Or.inl (Nat.le_of_ble_eq_true rfl)
theorem kd_92 : gj_kd 92 = (1, 0) := rfl
theorem kl_92 {own : String} : gj_lt own 92 := Or.inl (Nat.le_of_ble_eq_true rfl)
theorem kd_93 : gj_kd 93 = (10, 8) := rfl
theorem kl_93 {own : String} : gj_lt own 93 := Or.inl (Nat.le_of_ble_eq_true rfl)
theorem kd_94 : gj_kd 94 = (10, 24) := rfl
theorem kl_94 {own : String} : gj_lt own 94 := Or.inl (Nat.le_of_ble_eq_true rfl)
theorem kd_95 : gj_kd 95 = (10, 24) := rfl
theorem kl_95 {own : String} : gj_lt own 95 := Or.inl (Nat.le_of_ble_eq_true rfl)
theorem kd_96 : gj_kd 96 = (10, 24) := rfl
theorem kl_96 {own : String} : gj_lt own 96 := Or.inl (Nat.le_of_ble_eq_true rfl)
theorem kd_97 : gj_kd 97 = (10, 24) := rfl
theorem kl_97 {own : String} : gj_lt own 97 := Or.inl (Nat.le_of_ble_eq_true rfl)
theorem kd_98 : gj_kd 98 = (10, 24) := rfl
theorem kl_98 {own : String} : gj_lt own 98 := Or.inl (Nat.le_of_ble_eq_true rfl)
theorem kd_99 : gj_kd 99 = (10, 24) := rfl
theorem kl_99 {own : String} : gj_lt own 99 := Or.inl (Nat.le_of_ble_eq_true rfl)
theorem kd_100 : gj_kd 100 = (10, 80) := rfl
theorem kl_100 {own : String} : gj_lt own 100 := Or.inl (Nat.le_of_ble_eq_true rfl)
theorem kd_101 : gj_kd 101 = (1, 0) := rfl
theorem kl_101 {own : String} : gj_lt own 101 := Or.inl (Nat.le_of_ble_eq_true rfl)
theorem kd_102 : gj_kd 102 = (10, 8) := rfl
theorem kl_102 {own : String} : gj_lt own 102 := Or.inl (Nat.le_of_ble_eq_true rfl)
theorem kd_103 : gj_kd 103 = (10, 24) := rfl
theorem kl_103 {own : String} : gj_lt own 103 := Or.inl (Nat.le_of_ble_eq_true rfl)
theorem kd_104 : gj_kd 104 = (10, 24) := rfl
theorem kl_104 {own : String} : gj_lt own 104 := Or.inl (Nat.le_of_ble_eq_true rfl)
theorem kd_105 : gj_kd 105 = (10, 24) := rfl
theorem kl_105 {own : String} : gj_lt own 105 := Or.inl (Nat.le_of_ble_eq_true rfl)
theorem kd_106 : gj_kd 106 = (10, 24) := rfl
theorem kl_106 {own : String} : gj_lt own 106 := Or.inl (Nat.le_of_ble_eq_true rfl)
theorem kd_107 : gj_kd 107 = (10, 24) := rfl
theorem kl_107 {own : String} : gj_lt own 107 := Or.inl (Nat.le_of_ble_eq_true rfl)
theorem kd_108 : gj_kd 108 = (10, 24) := rfl
theorem kl_108 {own : String} : gj_lt own 108 := Or.inl (Nat.le_of_ble_eq_true rfl)
theorem kd_109 : gj_kd 109 = (10, 80) := rfl
theorem kl_109 {own : String} : gj_lt own 109 := Or.inl (Nat.le_of_ble_eq_true rfl)
theorem kd_110 : gj_kd 110 = (1, 0) := rfl
theorem kl_110 {own : String} : gj_lt own 110 := Or.inl (Nat.le_of_ble_eq_true rfl)
theorem kd_111 : gj_kd 111 = (10, 8) := rfl
theorem kl_111 {own : String} : gj_lt own 111 := Or.inl (Nat.le_of_ble_eq_true rfl)
theorem kd_112 : gj_kd 112 = (10, 24) := rfl
theorem kl_112 {own : String} : gj_lt own 112 := Or.inl (Nat.le_of_ble_eq_true rfl)
theorem kd_113 : gj_kd 113 = (10, 24) := rfl
theorem kl_113 {own : String} : gj_lt own 113 := Or.inl (Nat.le_of_ble_eq_true rfl)
theorem kd_114 : gj_kd 114 = (10, 24) := rfl
theorem kl_114 {own : String} : gj_lt own 114 := Or.inl (Nat.le_of_ble_eq_true rfl)
theorem kd_115 : gj_kd 115 = (10, 24) := rfl
theorem kl_115 {own : String} : gj_lt own 115 := Or.inl (Nat.le_of_ble_eq_true rfl)
theorem kd_116 : gj_kd 116 = (10, 24) := rfl
theorem kl_116 {own : String} : gj_lt own 116 := Or.inl (Nat.le_of_ble_eq_true rfl)
theorem kd_117 : gj_kd 117 = (10, 24) := rfl
theorem kl_117 {own : String} : gj_lt own 117 := Or.inl (Nat.le_of_ble_eq_true rfl)
theorem kd_118 : gj_kd 118 = (10, 80) := rfl
theorem kl_118 {own : String} : gj_lt own 118 := Or.inl (Nat.le_of_ble_eq_true rfl)
theorem kd_119 : gj_kd 119 = (1, 0) := rfl
theorem kl_119 {own : String} : gj_lt own 119 := Or.inl (Nat.le_of_ble_eq_true rfl)
theorem kd_120 : gj_kd 120 = (10, 8) := rfl
theorem kl_120 {own : String} : gj_lt own 120 := Or.inl (Nat.le_of_ble_eq_true rfl)
theorem kd_121 : gj_kd 121 = (10, 24) := rfl
theorem kl_121 {own : String} : gj_lt own 121 := Or.inl (Nat.le_of_ble_eq_true rfl)
theorem kd_122 : gj_kd 122 = (10, 24) := rfl
theorem kl_122 {own : String} : gj_lt own 122 := Or.inl (Nat.le_of_ble_eq_true rfl)
theorem kd_123 : gj_kd 123 = (10, 24) := rfl
theorem kl_123 {own : String} : gj_lt own 123 := Or.inl (Nat.le_of_ble_eq_true rfl)
theorem kd_124 : gj_kd 124 = (10, 24) := rfl
theorem kl_124 {own : String} : gj_lt own 124 := Or.inl (Nat.le_of_ble_eq_true rfl)
theorem kd_125 : gj_kd 125 = (10, 24) := rfl
theorem kl_125 {own : String} : gj_lt own 125 := Or.inl (Nat.le_of_ble_eq_true rfl)
theorem kd_126 : gj_kd 126 = (10, 24) := rfl
theorem kl_126 {own : String} : gj_lt own 126 := Or.inl (Nat.le_of_ble_eq_true rfl)
theorem kd_127 : gj_kd 127 = (10, 80) := rfl
theorem kl_127 {own : String} : gj_lt own 127 := Or.inl (Nat.le_of_ble_eq_true rfl)
theorem kd_128 : gj_kd 128 = (1, 0) := rfl
theorem kl_128 {own : String} : gj_lt own 128 := Or.inl (Nat.le_of_ble_eq_true rfl)
theorem kd_129 : gj_kd 129 = (10, 8) := rfl
theorem kl_129 {own : String} : gj_lt own 129 := Or.inl (Nat.le_of_ble_eq_true rfl)
theorem kd_130 : gj_kd 130 = (10, 24) := rfl
theorem kl_130 {own : String} : gj_lt own 130 := Or.inl (Nat.le_of_ble_eq_true rfl)
theorem kd_131 : gj_kd 131 = (10, 24) := rfl
theorem kl_131 {own : String} : gj_lt own 131 := Or.inl (Nat.le_of_ble_eq_true rfl)
theorem kd_132 : gj_kd 132 = (10, 24) := rfl
theorem kl_132 {own : String} : gj_lt own 132 := Or.inl (Nat.le_of_ble_eq_true rfl)
theorem kd_133 : gj_kd 133 = (10, 24) := rfl
theorem kl_133 {own : String} : gj_lt own 133 := Or.inl (Nat.le_of_ble_eq_true rfl)
theorem kd_134 : gj_kd 134 = (10, 24) := rfl
theorem kl_134 {own : String} : gj_lt own 134 := Or.inl (Nat.le_of_ble_eq_true rfl)
theorem kd_135 : gj_kd 135 = (10, 24) := rfl
theorem kl_135 {own : String} : gj_lt own 135 := Or.inl (Nat.le_of_ble_eq_true rfl)
theorem kd_136 : gj_kd 136 = (10, 80) := rfl
theorem kl_136 {own : String} : gj_lt own 136 := Or.inl (Nat.le_of_ble_eq_true rfl)
theorem kd_137 : gj_kd 137 = (1, 0) := rfl
theorem kl_137 {own : String} : gj_lt own 137 := Or.inl (Nat.le_of_ble_eq_true rfl)
theorem kd_138 : gj_kd 138 = (10, 8) := rfl
theorem kl_138 {own : String} : gj_lt own 138 := Or.inl (Nat.le_of_ble_eq_true rfl)
theorem kd_139 : gj_kd 139 = (10, 24) := rfl
theorem kl_139 {own : String} : gj_lt own 139 := Or.inl (Nat.le_of_ble_eq_true rfl)
theorem kd_140 : gj_kd 140 = (10, 24) := rfl
theorem kl_140 {own : String} : gj_lt own 140 := Or.inl (Nat.le_of_ble_eq_true rfl)
theorem kd_141 : gj_kd 141 = (10, 24) := rfl
theorem kl_141 {own : String} : gj_lt own 141 := Or.inl (Nat.le_of_ble_eq_true rfl)
theorem kd_142 : gj_kd 142 = (10, 24) := rfl
theorem kl_142 {own : String} : gj_lt own 142 := Or.inl (Nat.le_of_ble_eq_true rfl)
theorem kd_143 : gj_kd 143 = (10, 24) := rfl
theorem kl_143 {own : String} : gj_lt own 143 := Or.inl (Nat.le_of_ble_eq_true rfl)
theorem kd_144 : gj_kd 144 = (10, 24) := rfl
theorem kl_144 {own : String} : gj_lt own 144 := Or.inl (Nat.le_of_ble_eq_true rfl)
theorem kd_145 : gj_kd 145 = (10, 80) := rfl
theorem kl_145 {own : String} : gj_lt own 145 := Or.inl (Nat.le_of_ble_eq_true rfl)
theorem kd_146 : gj_kd 146 = (1, 0) := rfl
theorem kl_146 {own : String} : gj_lt own 146 := Or.inl (Nat.le_of_ble_eq_true rfl)
theorem kd_147 : gj_kd 147 = (10, 8) := rfl
theorem kl_147 {own : String} : gj_lt own 147 := Or.inl (Nat.le_of_ble_eq_true rfl)
theorem kd_148 : gj_kd 148 = (10, 24) := rfl
theorem kl_148 {own : String} : gj_lt own 148 := Or.inl (Nat.le_of_ble_eq_true rfl)
theorem kd_149 : gj_kd 149 = (10, 24) := rfl
theorem kl_149 {own : String} : gj_lt own 149 := Or.inl (Nat.le_of_ble_eq_true rfl)
theorem kd_150 : gj_kd 150 = (10, 24) := rfl
theorem kl_150 {own : String} : gj_lt own 150 := Or.inl (Nat.le_of_ble_eq_true rfl)
theorem kd_151 : gj_kd 151 = (10, 24) := rfl
theorem kl_151 {own : String} : gj_lt own 151 := Or.inl (Nat.le_of_ble_eq_true rfl)
theorem kd_152 : gj_kd 152 = (10, 24) := rfl
theorem kl_152 {own : String} : gj_lt own 152 := Or.inl (Nat.le_of_ble_eq_true rfl)
theorem kd_153 : gj_kd 153 = (10, 24) := rfl
theorem kl_153 {own : String} : gj_lt own 153 := Or.inl (Nat.le_of_ble_eq_true rfl)
theorem kd_154 : gj_kd 154 = (10, 80) := rfl
theorem kl_154 {own : String} : gj_lt own 154 := Or.inl (Nat.le_of_ble_eq_true rfl)
theorem kd_155 : gj_kd 155 = (1, 0) := rfl
theorem kl_155 {own : String} : gj_lt own 155 := Or.inl (Nat.le_of_ble_eq_true rfl)
theorem kd_156 : gj_kd 156 = (10, 8) := rfl
theorem kl_156 {own : String} : gj_lt own 156 := Or.inl (Nat.le_of_ble_eq_true rfl)
theorem kd_157 : gj_kd 157 = (10, 24) := rfl
theorem kl_157 {own : String} : gj_lt own 157 := Or.inl (Nat.le_of_ble_eq_true rfl)
theorem kd_158 : gj_kd 158 = (10, 24) := rfl
theorem kl_158 {own : String} : gj_lt own 158 := Or.inl (Nat.le_of_ble_eq_true rfl)
theorem kd_159 : gj_kd 159 = (10, 24) := rfl
theorem kl_159 {own : String} : gj_lt own 159 := Or.inl (Nat.le_of_ble_eq_true rfl)
theorem kd_160 : gj_kd 160 = (10, 24) := rfl
theorem kl_160 {own : String} : gj_lt own 160 := Or.inl (Nat.le_of_ble_eq_true rfl)
theorem kd_161 : gj_kd 161 = (10, 24) := rfl
theorem kl_161 {own : String} : gj_lt own 161 := Or.inl (Nat.le_of_ble_eq_true rfl)
theorem kd_162 : gj_kd 162 = (10, 24) := rfl
theorem kl_162 {own : String} : gj_lt own 162 := Or.inl (Nat.le_of_ble_eq_true rfl)
theorem kd_163 : gj_kd 163 = (10, 80) := rfl
theorem kl_163 {own : String} : gj_lt own 163 := Or.inl (Nat.le_of_ble_eq_true rfl)
theorem kd_164 : gj_kd 164 = (14, 2) := rfl
theorem kl_164 {own : String} : gj_lt own 164 := Or.inl (Nat.le_of_ble_eq_true rfl)
theorem kd_165 : gj_kd 165 = (13, 2) := rfl
theorem kl_165 {own : String} : gj_lt own 165 := Or.inl (Nat.le_of_ble_eq_true rfl)
theorem kd_166 : gj_kd 166 = (6, 0) := rfl
theorem kl_166 {own : String} : gj_lt own 166 := Or.inl (Nat.le_of_ble_eq_true rfl)
theorem kd_167 : gj_kd 167 = (10, 8) := rfl
theorem kl_167 {own : String} : gj_lt own 167 := Or.inl (Nat.le_of_ble_eq_true rfl)
theorem kd_168 : gj_kd 168 = (4, 0) := rfl
theorem kl_168 {own : String} : gj_lt own 168 := Or.inl (Nat.le_of_ble_eq_true rfl)
theorem kd_169 : gj_kd 169 = (12, 192) := rfl
theorem kl_169 {own : String} : gj_lt own 169 := Or.inl (Nat.le_of_ble_eq_true rfl)
theorem kd_170 : gj_kd 170 = (1, 0) := rfl
theorem kl_170 {own : String} : gj_lt own 170 := Or.inl (Nat.le_of_ble_eq_true rfl)
theorem kd_171 : gj_kd 171 = (10, 8) := rfl
theorem kl_171 {own : String} : gj_lt own 171 := Or.inl (Nat.le_of_ble_eq_true rfl)
theorem kd_172 : gj_kd 172 = (10, 24) := rfl
theorem kl_172 {own : String} : gj_lt own 172 := Or.inl (Nat.le_of_ble_eq_true rfl)
theorem kd_173 : gj_kd 173 = (10, 24) := rfl
theorem kl_173 {own : String} : gj_lt own 173 := Or.inl (Nat.le_of_ble_eq_true rfl)
theorem kd_174 : gj_kd 174 = (10, 24) := rfl
theorem kl_174 {own : String} : gj_lt own 174 := Or.inl (Nat.le_of_ble_eq_true rfl)
theorem kd_175 : gj_kd 175 = (10, 24) := rfl
theorem kl_175 {own : String} : gj_lt own 175 := Or.inl (Nat.le_of_ble_eq_true rfl)
theorem kd_176 : gj_kd 176 = (10, 24) := rfl
theorem kl_176 {own : String} : gj_lt own 176 := Or.inl (Nat.le_of_ble_eq_true rfl)
theorem kd_177 : gj_kd 177 = (10, 24) := rfl
theorem kl_177 {own : String} : gj_lt own 177 := Or.inl (Nat.le_of_ble_eq_true rfl)
theorem kd_178 : gj_kd 178 = (10, 80) := rfl
theorem kl_178 {own : String} : gj_lt own 178 := Or.inl (Nat.le_of_ble_eq_true rfl)
theorem kd_179 : gj_kd 179 = (1, 0) := rfl
theorem kl_179 {own : String} : gj_lt own 179 := Or.inl (Nat.le_of_ble_eq_true rfl)
theorem kd_180 : gj_kd 180 = (10, 8) := rfl
theorem kl_180 {own : String} : gj_lt own 180 := Or.inl (Nat.le_of_ble_eq_true rfl)
theorem kd_181 : gj_kd 181 = (10, 24) := rfl
theorem kl_181 {own : String} : gj_lt own 181 := Or.inl (Nat.le_of_ble_eq_true rfl)
theorem kd_182 : gj_kd 182 = (10, 24) := rfl
theorem kl_182 {own : String} : gj_lt own 182 := Or.inl (Nat.le_of_ble_eq_true rfl)
theorem kd_183 : gj_kd 183 = (10, 24) := rfl
theorem kl_183 {own : String} : gj_lt own 183 := Or.inl (Nat.le_of_ble_eq_true rfl)
theorem kd_184 : gj_kd 184 = (10, 24) := rfl
theorem kl_184 {own : String} : gj_lt own 184 := Or.inl (Nat.le_of_ble_eq_true rfl)
theorem kd_185 : gj_kd 185 = (10, 24) := rfl
theorem kl_185 {own : String} : gj_lt own 185 := Or.inl (Nat.le_of_ble_eq_true rfl)
theorem kd_186 : gj_kd 186 = (10, 24) := rfl
theorem kl_186 {own : String} : gj_lt own 186 := Or.inl (Nat.le_of_ble_eq_true rfl)
theorem kd_187 : gj_kd 187 = (10, 80) := rfl
theorem kl_187 {own : String} : gj_lt own 187 := Or.inl (Nat.le_of_ble_eq_true rfl)
theorem kd_188 : gj_kd 188 = (9, 0) := rfl
theorem kl_188 : gj_lt RX9 188 := Or.inr (Or.inl ⟨Nat.le_of_ble_eq_true rfl, Or.inl rfl⟩)
theorem kd_189 : gj_kd 189 = (12, 600) := rfl
theorem kl_189 : gj_lt RX9 189 := Or.inr (Or.inl ⟨Nat.le_of_ble_eq_true rfl, Or.inl rfl⟩)
theorem kd_190 : gj_kd 190 = (10, 2) := rfl
theorem kl_190 : gj_lt RX9 190 := Or.inr (Or.inl ⟨Nat.le_of_ble_eq_true rfl, Or.inl rfl⟩)
theorem kd_191 : gj_kd 191 = (10, 2) := rfl
theorem kl_191 : gj_lt RX9 191 := Or.inr (Or.inl ⟨Nat.le_of_ble_eq_true rfl, Or.inl rfl⟩)
theorem kd_192 : gj_kd 192 = (11, 48) := rfl
theorem kl_192 : gj_lt RX9 192 := Or.inr (Or.inl ⟨Nat.le_of_ble_eq_true rfl, Or.inl rfl⟩)
theorem kd_193 : gj_kd 193 = (10, 16) := rfl
theorem kl_193 : gj_lt RX9 193 := Or.inr (Or.inl ⟨Nat.le_of_ble_eq_true rfl, Or.inl rfl⟩)
theorem kd_194 : gj_kd 194 = (10, 32) := rfl
theorem kl_194 : gj_lt RX9 194 := Or.inr (Or.inl ⟨Nat.le_of_ble_eq_true rfl, Or.inl rfl⟩)
theorem kd_195 : gj_kd 195 = (10, 32) := rfl
theorem kl_195 : gj_lt RX9 195 := Or.inr (Or.inl ⟨Nat.le_of_ble_eq_true rfl, Or.inl rfl⟩)
theorem kd_196 : gj_kd 196 = (10, 32) := rfl
theorem kl_196 : gj_lt RX9 196 := Or.inr (Or.inl ⟨Nat.le_of_ble_eq_true rfl, Or.inl rfl⟩)
theorem kd_197 : gj_kd 197 = (10, 32) := rfl
theorem kl_197 : gj_lt RX9 197 := Or.inr (Or.inl ⟨Nat.le_of_ble_eq_true rfl, Or.inl rfl⟩)
theorem kd_198 : gj_kd 198 = (10, 180) := rfl
theorem kl_198 : gj_lt RX9 198 := Or.inr (Or.inl ⟨Nat.le_of_ble_eq_true rfl, Or.inl rfl⟩)
theorem kd_199 : gj_kd 199 = (10, 2160) := rfl
theorem kl_199 : gj_lt RX9 199 := Or.inr (Or.inl ⟨Nat.le_of_ble_eq_true rfl, Or.inl rfl⟩)
theorem kd_200 : gj_kd 200 = (10, 360) := rfl
theorem kl_200 : gj_lt RX9 200 := Or.inr (Or.inl ⟨Nat.le_of_ble_eq_true rfl, Or.inl rfl⟩)
theorem kd_201 : gj_kd 201 = (13, 2) := rfl
theorem kl_201 : gj_lt RX9 201 := Or.inr (Or.inl ⟨Nat.le_of_ble_eq_true rfl, Or.inl rfl⟩)
theorem kd_202 : gj_kd 202 = (10, 180) := rfl
theorem kl_202 : gj_lt RX9 202 := Or.inr (Or.inl ⟨Nat.le_of_ble_eq_true rfl, Or.inl rfl⟩)
theorem kd_203 : gj_kd 203 = (10, 9) := rfl
theorem kl_203 : gj_lt RX9 203 := Or.inr (Or.inl ⟨Nat.le_of_ble_eq_true rfl, Or.inl rfl⟩)
theorem kd_204 : gj_kd 204 = (10, 9) := rfl
theorem kl_204 : gj_lt RX9 204 := Or.inr (Or.inl ⟨Nat.le_of_ble_eq_true rfl, Or.inl rfl⟩)
theorem kd_205 : gj_kd 205 = (10, 9) := rfl
theorem kl_205 : gj_lt RX9 205 := Or.inr (Or.inl ⟨Nat.le_of_ble_eq_true rfl, Or.inl rfl⟩)
theorem kd_206 : gj_kd 206 = (10, 24) := rfl
theorem kl_206 : gj_lt RX9 206 := Or.inr (Or.inl ⟨Nat.le_of_ble_eq_true rfl, Or.inl rfl⟩)
theorem kd_207 : gj_kd 207 = (13, 24) := rfl
theorem kl_207 : gj_lt RX9 207 := Or.inr (Or.inl ⟨Nat.le_of_ble_eq_true rfl, Or.inl rfl⟩)
theorem kd_208 : gj_kd 208 = (10, 9) := rfl
theorem kl_208 : gj_lt RX9 208 := Or.inr (Or.inl ⟨Nat.le_of_ble_eq_true rfl, Or.inl rfl⟩)
theorem kd_209 : gj_kd 209 = (10, 8) := rfl
theorem kl_209 : gj_lt RX9 209 := Or.inr (Or.inl ⟨Nat.le_of_ble_eq_true rfl, Or.inl rfl⟩)
theorem kd_210 : gj_kd 210 = (10, 240) := rfl
theorem kl_210 : gj_lt RX9 210 := Or.inr (Or.inl ⟨Nat.le_of_ble_eq_true rfl, Or.inl rfl⟩)
theorem kd_211 : gj_kd 211 = (11, 1) := rfl
theorem kl_211 : gj_lt RL 211 := Or.inr (Or.inr ⟨Nat.le_of_ble_eq_true rfl, rfl⟩)
theorem klL_188 : gj_lt RL 188 := Or.inr (Or.inl ⟨Nat.le_of_ble_eq_true rfl, Or.inr rfl⟩)
def isP (p : Nat) : Prop := p ∈ [3, 17, 36, 56, 65, 74, 83, 92, 101, 110, 119, 128, 137, 146, 155, 170, 179]
theorem isP_3 : isP 3 := by unfold isP; decide
theorem isP_17 : isP 17 := by unfold isP; decide
theorem isP_36 : isP 36 := by unfold isP; decide
theorem isP_56 : isP 56 := by unfold isP; decide
theorem isP_65 : isP 65 := by unfold isP; decide
theorem isP_74 : isP 74 := by unfold isP; decide
theorem isP_83 : isP 83 := by unfold isP; decide
theorem isP_92 : isP 92 := by unfold isP; decide
theorem isP_101 : isP 101 := by unfold isP; decide
theorem isP_110 : isP 110 := by unfold isP; decide
theorem isP_119 : isP 119 := by unfold isP; decide
theorem isP_128 : isP 128 := by unfold isP; decide
theorem isP_137 : isP 137 := by unfold isP; decide
theorem isP_146 : isP 146 := by unfold isP; decide
theorem isP_155 : isP 155 := by unfold isP; decide
theorem isP_170 : isP 170 := by unfold isP; decide
theorem isP_179 : isP 179 := by unfold isP; decide
theorem kdP_0 {p : Nat} (h : isP p) : gj_kd (p) = (1, 0) := (show ∀ q ∈ [3, 17, 36, 56, 65, 74, 83, 92, 101, 110, 119, 128, 137, 146, 155, 170, 179], gj_kd (q) = (1, 0) from by decide) p h
theorem klP_0 {own : String} {p : Nat} (h : isP p) : gj_lt own (p) := Or.inl ((show ∀ q ∈ [3, 17, 36, 56, 65, 74, 83, 92, 101, 110, 119, 128, 137, 146, 155, 170, 179], q < 188 from by decide) p h)
theorem kdP_1 {p : Nat} (h : isP p) : gj_kd (p + 1) = (10, 8) := (show ∀ q ∈ [3, 17, 36, 56, 65, 74, 83, 92, 101, 110, 119, 128, 137, 146, 155, 170, 179], gj_kd (q + 1) = (10, 8) from by decide) p h
theorem klP_1 {own : String} {p : Nat} (h : isP p) : gj_lt own (p + 1) := Or.inl ((show ∀ q ∈ [3, 17, 36, 56, 65, 74, 83, 92, 101, 110, 119, 128, 137, 146, 155, 170, 179], q + 1 < 188 from by decide) p h)
theorem kdP_2 {p : Nat} (h : isP p) : gj_kd (p + 2) = (10, 24) := (show ∀ q ∈ [3, 17, 36, 56, 65, 74, 83, 92, 101, 110, 119, 128, 137, 146, 155, 170, 179], gj_kd (q + 2) = (10, 24) from by decide) p h
theorem klP_2 {own : String} {p : Nat} (h : isP p) : gj_lt own (p + 2) := Or.inl ((show ∀ q ∈ [3, 17, 36, 56, 65, 74, 83, 92, 101, 110, 119, 128, 137, 146, 155, 170, 179], q + 2 < 188 from by decide) p h)
theorem kdP_3 {p : Nat} (h : isP p) : gj_kd (p + 3) = (10, 24) := (show ∀ q ∈ [3, 17, 36, 56, 65, 74, 83, 92, 101, 110, 119, 128, 137, 146, 155, 170, 179], gj_kd (q + 3) = (10, 24) from by decide) p h
theorem klP_3 {own : String} {p : Nat} (h : isP p) : gj_lt own (p + 3) := Or.inl ((show ∀ q ∈ [3, 17, 36, 56, 65, 74, 83, 92, 101, 110, 119, 128, 137, 146, 155, 170, 179], q + 3 < 188 from by decide) p h)
theorem kdP_4 {p : Nat} (h : isP p) : gj_kd (p + 4) = (10, 24) := (show ∀ q ∈ [3, 17, 36, 56, 65, 74, 83, 92, 101, 110, 119, 128, 137, 146, 155, 170, 179], gj_kd (q + 4) = (10, 24) from by decide) p h
theorem klP_4 {own : String} {p : Nat} (h : isP p) : gj_lt own (p + 4) := Or.inl ((show ∀ q ∈ [3, 17, 36, 56, 65, 74, 83, 92, 101, 110, 119, 128, 137, 146, 155, 170, 179], q + 4 < 188 from by decide) p h)
theorem kdP_5 {p : Nat} (h : isP p) : gj_kd (p + 5) = (10, 24) := (show ∀ q ∈ [3, 17, 36, 56, 65, 74, 83, 92, 101, 110, 119, 128, 137, 146, 155, 170, 179], gj_kd (q + 5) = (10, 24) from by decide) p h
theorem klP_5 {own : String} {p : Nat} (h : isP p) : gj_lt own (p + 5) := Or.inl ((show ∀ q ∈ [3, 17, 36, 56, 65, 74, 83, 92, 101, 110, 119, 128, 137, 146, 155, 170, 179], q + 5 < 188 from by decide) p h)
theorem kdP_6 {p : Nat} (h : isP p) : gj_kd (p + 6) = (10, 24) := (show ∀ q ∈ [3, 17, 36, 56, 65, 74, 83, 92, 101, 110, 119, 128, 137, 146, 155, 170, 179], gj_kd (q + 6) = (10, 24) from by decide) p h
theorem klP_6 {own : String} {p : Nat} (h : isP p) : gj_lt own (p + 6) := Or.inl ((show ∀ q ∈ [3, 17, 36, 56, 65, 74, 83, 92, 101, 110, 119, 128, 137, 146, 155, 170, 179], q + 6 < 188 from by decide) p h)
theorem kdP_7 {p : Nat} (h : isP p) : gj_kd (p + 7) = (10, 24) := (show ∀ q ∈ [3, 17, 36, 56, 65, 74, 83, 92, 101, 110, 119, 128, 137, 146, 155, 170, 179], gj_kd (q + 7) = (10, 24) from by decide) p h
theorem klP_7 {own : String} {p : Nat} (h : isP p) : gj_lt own (p + 7) := Or.inl ((show ∀ q ∈ [3, 17, 36, 56, 65, 74, 83, 92, 101, 110, 119, 128, 137, 146, 155, 170, 179], q + 7 < 188 from by decide) p h)
theorem kdP_8 {p : Nat} (h : isP p) : gj_kd (p + 8) = (10, 80) := (show ∀ q ∈ [3, 17, 36, 56, 65, 74, 83, 92, 101, 110, 119, 128, 137, 146, 155, 170, 179], gj_kd (q + 8) = (10, 80) from by decide) p h
theorem klP_8 {own : String} {p : Nat} (h : isP p) : gj_lt own (p + 8) := Or.inl ((show ∀ q ∈ [3, 17, 36, 56, 65, 74, 83, 92, 101, 110, 119, 128, 137, 146, 155, 170, 179], q + 8 < 188 from by decide) p h)
def isY (p : Nat) : Prop := p ∈ [16, 35]
theorem isY_16 : isY 16 := by unfold isY; decide
theorem isY_35 : isY 35 := by unfold isY; decide
theorem kdY_0 {p : Nat} (h : isY p) : gj_kd (p) = (7, 0) := (show ∀ q ∈ [16, 35], gj_kd (q) = (7, 0) from by decide) p h
theorem klY_0 {own : String} {p : Nat} (h : isY p) : gj_lt own (p) := Or.inl ((show ∀ q ∈ [16, 35], q < 188 from by decide) p h)
theorem kdY_1 {p : Nat} (h : isY p) : gj_kd (p + 1) = (1, 0) := (show ∀ q ∈ [16, 35], gj_kd (q + 1) = (1, 0) from by decide) p h
theorem klY_1 {own : String} {p : Nat} (h : isY p) : gj_lt own (p + 1) := Or.inl ((show ∀ q ∈ [16, 35], q + 1 < 188 from by decide) p h)
theorem kdY_2 {p : Nat} (h : isY p) : gj_kd (p + 2) = (10, 8) := (show ∀ q ∈ [16, 35], gj_kd (q + 2) = (10, 8) from by decide) p h
theorem klY_2 {own : String} {p : Nat} (h : isY p) : gj_lt own (p + 2) := Or.inl ((show ∀ q ∈ [16, 35], q + 2 < 188 from by decide) p h)
theorem kdY_3 {p : Nat} (h : isY p) : gj_kd (p + 3) = (10, 24) := (show ∀ q ∈ [16, 35], gj_kd (q + 3) = (10, 24) from by decide) p h
theorem klY_3 {own : String} {p : Nat} (h : isY p) : gj_lt own (p + 3) := Or.inl ((show ∀ q ∈ [16, 35], q + 3 < 188 from by decide) p h)
theorem kdY_4 {p : Nat} (h : isY p) : gj_kd (p + 4) = (10, 24) := (show ∀ q ∈ [16, 35], gj_kd (q + 4) = (10, 24) from by decide) p h
theorem klY_4 {own : String} {p : Nat} (h : isY p) : gj_lt own (p + 4) := Or.inl ((show ∀ q ∈ [16, 35], q + 4 < 188 from by decide) p h)
theorem kdY_5 {p : Nat} (h : isY p) : gj_kd (p + 5) = (10, 24) := (show ∀ q ∈ [16, 35], gj_kd (q + 5) = (10, 24) from by decide) p h
theorem klY_5 {own : String} {p : Nat} (h : isY p) : gj_lt own (p + 5) := Or.inl ((show ∀ q ∈ [16, 35], q + 5 < 188 from by decide) p h)
theorem kdY_6 {p : Nat} (h : isY p) : gj_kd (p + 6) = (10, 24) := (show ∀ q ∈ [16, 35], gj_kd (q + 6) = (10, 24) from by decide) p h
theorem klY_6 {own : String} {p : Nat} (h : isY p) : gj_lt own (p + 6) := Or.inl ((show ∀ q ∈ [16, 35], q + 6 < 188 from by decide) p h)
theorem kdY_7 {p : Nat} (h : isY p) : gj_kd (p + 7) = (10, 24) := (show ∀ q ∈ [16, 35], gj_kd (q + 7) = (10, 24) from by decide) p h
theorem klY_7 {own : String} {p : Nat} (h : isY p) : gj_lt own (p + 7) := Or.inl ((show ∀ q ∈ [16, 35], q + 7 < 188 from by decide) p h)
theorem kdY_8 {p : Nat} (h : isY p) : gj_kd (p + 8) = (10, 24) := (show ∀ q ∈ [16, 35], gj_kd (q + 8) = (10, 24) from by decide) p h
theorem klY_8 {own : String} {p : Nat} (h : isY p) : gj_lt own (p + 8) := Or.inl ((show ∀ q ∈ [16, 35], q + 8 < 188 from by decide) p h)
theorem kdY_9 {p : Nat} (h : isY p) : gj_kd (p + 9) = (10, 80) := (show ∀ q ∈ [16, 35], gj_kd (q + 9) = (10, 80) from by decide) p h
theorem klY_9 {own : String} {p : Nat} (h : isY p) : gj_lt own (p + 9) := Or.inl ((show ∀ q ∈ [16, 35], q + 9 < 188 from by decide) p h)
theorem kdY_10 {p : Nat} (h : isY p) : gj_kd (p + 10) = (5, 0) := (show ∀ q ∈ [16, 35], gj_kd (q + 10) = (5, 0) from by decide) p h
theorem klY_10 {own : String} {p : Nat} (h : isY p) : gj_lt own (p + 10) := Or.inl ((show ∀ q ∈ [16, 35], q + 10 < 188 from by decide) p h)
theorem kdY_11 {p : Nat} (h : isY p) : gj_kd (p + 11) = (10, 9) := (show ∀ q ∈ [16, 35], gj_kd (q + 11) = (10, 9) from by decide) p h
theorem klY_11 {own : String} {p : Nat} (h : isY p) : gj_lt own (p + 11) := Or.inl ((show ∀ q ∈ [16, 35], q + 11 < 188 from by decide) p h)
theorem kdY_12 {p : Nat} (h : isY p) : gj_kd (p + 12) = (10, 9) := (show ∀ q ∈ [16, 35], gj_kd (q + 12) = (10, 9) from by decide) p h
theorem klY_12 {own : String} {p : Nat} (h : isY p) : gj_lt own (p + 12) := Or.inl ((show ∀ q ∈ [16, 35], q + 12 < 188 from by decide) p h)
theorem kdY_13 {p : Nat} (h : isY p) : gj_kd (p + 13) = (10, 9) := (show ∀ q ∈ [16, 35], gj_kd (q + 13) = (10, 9) from by decide) p h
theorem klY_13 {own : String} {p : Nat} (h : isY p) : gj_lt own (p + 13) := Or.inl ((show ∀ q ∈ [16, 35], q + 13 < 188 from by decide) p h)
theorem kdY_14 {p : Nat} (h : isY p) : gj_kd (p + 14) = (10, 9) := (show ∀ q ∈ [16, 35], gj_kd (q + 14) = (10, 9) from by decide) p h
theorem klY_14 {own : String} {p : Nat} (h : isY p) : gj_lt own (p + 14) := Or.inl ((show ∀ q ∈ [16, 35], q + 14 < 188 from by decide) p h)
theorem kdY_15 {p : Nat} (h : isY p) : gj_kd (p + 15) = (10, 9) := (show ∀ q ∈ [16, 35], gj_kd (q + 15) = (10, 9) from by decide) p h
theorem klY_15 {own : String} {p : Nat} (h : isY p) : gj_lt own (p + 15) := Or.inl ((show ∀ q ∈ [16, 35], q + 15 < 188 from by decide) p h)
theorem kdY_16 {p : Nat} (h : isY p) : gj_kd (p + 16) = (3, 0) := (show ∀ q ∈ [16, 35], gj_kd (q + 16) = (3, 0) from by decide) p h
theorem klY_16 {own : String} {p : Nat} (h : isY p) : gj_lt own (p + 16) := Or.inl ((show ∀ q ∈ [16, 35], q + 16 < 188 from by decide) p h)
theorem kdY_17 {p : Nat} (h : isY p) : gj_kd (p + 17) = (10, 17) := (show ∀ q ∈ [16, 35], gj_kd (q + 17) = (10, 17) from by decide) p h
theorem klY_17 {own : String} {p : Nat} (h : isY p) : gj_lt own (p + 17) := Or.inl ((show ∀ q ∈ [16, 35], q + 17 < 188 from by decide) p h)
theorem kdY_18 {p : Nat} (h : isY p) : gj_kd (p + 18) = (13, 17) := (show ∀ q ∈ [16, 35], gj_kd (q + 18) = (13, 17) from by decide) p h
theorem klY_18 {own : String} {p : Nat} (h : isY p) : gj_lt own (p + 18) := Or.inl ((show ∀ q ∈ [16, 35], q + 18 < 188 from by decide) p h)
def isT (p : Nat) : Prop := p ∈ [26, 45]
theorem isT_26 : isT 26 := by unfold isT; decide
theorem isT_45 : isT 45 := by unfold isT; decide
theorem kdT_0 {p : Nat} (h : isT p) : gj_kd (p) = (5, 0) := (show ∀ q ∈ [26, 45], gj_kd (q) = (5, 0) from by decide) p h
theorem klT_0 {own : String} {p : Nat} (h : isT p) : gj_lt own (p) := Or.inl ((show ∀ q ∈ [26, 45], q < 188 from by decide) p h)
theorem kdT_1 {p : Nat} (h : isT p) : gj_kd (p + 1) = (10, 9) := (show ∀ q ∈ [26, 45], gj_kd (q + 1) = (10, 9) from by decide) p h
theorem klT_1 {own : String} {p : Nat} (h : isT p) : gj_lt own (p + 1) := Or.inl ((show ∀ q ∈ [26, 45], q + 1 < 188 from by decide) p h)
theorem kdT_2 {p : Nat} (h : isT p) : gj_kd (p + 2) = (10, 9) := (show ∀ q ∈ [26, 45], gj_kd (q + 2) = (10, 9) from by decide) p h
theorem klT_2 {own : String} {p : Nat} (h : isT p) : gj_lt own (p + 2) := Or.inl ((show ∀ q ∈ [26, 45], q + 2 < 188 from by decide) p h)
theorem kdT_3 {p : Nat} (h : isT p) : gj_kd (p + 3) = (10, 9) := (show ∀ q ∈ [26, 45], gj_kd (q + 3) = (10, 9) from by decide) p h
theorem klT_3 {own : String} {p : Nat} (h : isT p) : gj_lt own (p + 3) := Or.inl ((show ∀ q ∈ [26, 45], q + 3 < 188 from by decide) p h)
theorem kdT_4 {p : Nat} (h : isT p) : gj_kd (p + 4) = (10, 9) := (show ∀ q ∈ [26, 45], gj_kd (q + 4) = (10, 9) from by decide) p h
theorem klT_4 {own : String} {p : Nat} (h : isT p) : gj_lt own (p + 4) := Or.inl ((show ∀ q ∈ [26, 45], q + 4 < 188 from by decide) p h)
theorem kdT_5 {p : Nat} (h : isT p) : gj_kd (p + 5) = (10, 9) := (show ∀ q ∈ [26, 45], gj_kd (q + 5) = (10, 9) from by decide) p h
theorem klT_5 {own : String} {p : Nat} (h : isT p) : gj_lt own (p + 5) := Or.inl ((show ∀ q ∈ [26, 45], q + 5 < 188 from by decide) p h)
def isR (p : Nat) : Prop := p ∈ [32, 51]
theorem isR_32 : isR 32 := by unfold isR; decide
theorem isR_51 : isR 51 := by unfold isR; decide
theorem kdR_0 {p : Nat} (h : isR p) : gj_kd (p) = (3, 0) := (show ∀ q ∈ [32, 51], gj_kd (q) = (3, 0) from by decide) p h
theorem klR_0 {own : String} {p : Nat} (h : isR p) : gj_lt own (p) := Or.inl ((show ∀ q ∈ [32, 51], q < 188 from by decide) p h)
theorem kdR_1 {p : Nat} (h : isR p) : gj_kd (p + 1) = (10, 17) := (show ∀ q ∈ [32, 51], gj_kd (q + 1) = (10, 17) from by decide) p h
theorem klR_1 {own : String} {p : Nat} (h : isR p) : gj_lt own (p + 1) := Or.inl ((show ∀ q ∈ [32, 51], q + 1 < 188 from by decide) p h)
theorem kdR_2 {p : Nat} (h : isR p) : gj_kd (p + 2) = (13, 17) := (show ∀ q ∈ [32, 51], gj_kd (q + 2) = (13, 17) from by decide) p h
theorem klR_2 {own : String} {p : Nat} (h : isR p) : gj_lt own (p + 2) := Or.inl ((show ∀ q ∈ [32, 51], q + 2 < 188 from by decide) p h)
theorem isY_P {p : Nat} (h : isY p) : isP (p + 1) := (show ∀ q ∈ [16, 35], isP (q + 1) from by unfold isP; decide) p h
theorem isY_T {p : Nat} (h : isY p) : isT (p + 10) := (show ∀ q ∈ [16, 35], isT (q + 10) from by unfold isT; decide) p h
theorem isY_R {p : Nat} (h : isY p) : isR (p + 16) := (show ∀ q ∈ [16, 35], isR (q + 16) from by unfold isR; decide) p h
theorem pa_55 {j : Nat} (h : j < 12) : isP (gj_pa 55 j) := by
  have : ∀ q : Fin 12, isP (gj_pa 55 q.1) := by unfold isP; decide
  exact this ⟨j, h⟩
theorem pa_164 {j : Nat} (h : j < 2) : isP (gj_pa 164 j) := by
  have : ∀ q : Fin 2, isP (gj_pa 164 q.1) := by unfold isP; decide
  exact this ⟨j, h⟩
theorem gj_out3 {x : Int32} (h0 : ¬ x = 0) (h1 : ¬ x = 1) (h2 : ¬ x = 2) (h3 : ¬ x = 3) : x.toInt < 0 ∨ 3 < x.toInt := by
  have g0 : ¬ x.toInt = 0 := fun h => h0 (Int32.toInt_inj.mp h)
  have g1 : ¬ x.toInt = 1 := fun h => h1 (Int32.toInt_inj.mp h)
  have g2 : ¬ x.toInt = 2 := fun h => h2 (Int32.toInt_inj.mp h)
  have g3 : ¬ x.toInt = 3 := fun h => h3 (Int32.toInt_inj.mp h)
  omega
theorem gj_out5 {x : Int32} (h0 : ¬ x = 0) (h1 : ¬ x = 1) (h2 : ¬ x = 2) (h3 : ¬ x = 3) (h4 : ¬ x = 4) (h5 : ¬ x = 5) : x.toInt < 0 ∨ 5 < x.toInt := by
  have g0 : ¬ x.toInt = 0 := fun h => h0 (Int32.toInt_inj.mp h)
  have g1 : ¬ x.toInt = 1 := fun h => h1 (Int32.toInt_inj.mp h)
  have g2 : ¬ x.toInt = 2 := fun h => h2 (Int32.toInt_inj.mp h)
  have g3 : ¬ x.toInt = 3 := fun h => h3 (Int32.toInt_inj.mp h)
  have g4 : ¬ x.toInt = 4 := fun h => h4 (Int32.toInt_inj.mp h)
  have g5 : ¬ x.toInt = 5 := fun h => h5 (Int32.toInt_inj.mp h)
  omega
theorem gj_out6 {x : Int32} (h0 : ¬ x = 0) (h1 : ¬ x = 1) (h2 : ¬ x = 2) (h3 : ¬ x = 3) (h4 : ¬ x = 4) (h5 : ¬ x = 5) (h6 : ¬ x = 6) : x.toInt < 0 ∨ 6 < x.toInt := by
  have g0 : ¬ x.toInt = 0 := fun h => h0 (Int32.toInt_inj.mp h)
  have g1 : ¬ x.toInt = 1 := fun h => h1 (Int32.toInt_inj.mp h)
  have g2 : ¬ x.toInt = 2 := fun h => h2 (Int32.toInt_inj.mp h)
  have g3 : ¬ x.toInt = 3 := fun h => h3 (Int32.toInt_inj.mp h)
  have g4 : ¬ x.toInt = 4 := fun h => h4 (Int32.toInt_inj.mp h)
  have g5 : ¬ x.toInt = 5 := fun h => h5 (Int32.toInt_inj.mp h)
  have g6 : ¬ x.toInt = 6 := fun h => h6 (Int32.toInt_inj.mp h)
  omega
theorem gj_out10 {x : Int32} (h0 : ¬ x = 0) (h1 : ¬ x = 1) (h2 : ¬ x = 2) (h3 : ¬ x = 3) (h4 : ¬ x = 4) (h5 : ¬ x = 5) (h6 : ¬ x = 6) (h7 : ¬ x = 7) (h8 : ¬ x = 8) (h9 : ¬ x = 9) (h10 : ¬ x = 10) : x.toInt < 0 ∨ 10 < x.toInt := by
  have g0 : ¬ x.toInt = 0 := fun h => h0 (Int32.toInt_inj.mp h)
  have g1 : ¬ x.toInt = 1 := fun h => h1 (Int32.toInt_inj.mp h)
  have g2 : ¬ x.toInt = 2 := fun h => h2 (Int32.toInt_inj.mp h)
  have g3 : ¬ x.toInt = 3 := fun h => h3 (Int32.toInt_inj.mp h)
  have g4 : ¬ x.toInt = 4 := fun h => h4 (Int32.toInt_inj.mp h)
  have g5 : ¬ x.toInt = 5 := fun h => h5 (Int32.toInt_inj.mp h)
  have g6 : ¬ x.toInt = 6 := fun h => h6 (Int32.toInt_inj.mp h)
  have g7 : ¬ x.toInt = 7 := fun h => h7 (Int32.toInt_inj.mp h)
  have g8 : ¬ x.toInt = 8 := fun h => h8 (Int32.toInt_inj.mp h)
  have g9 : ¬ x.toInt = 9 := fun h => h9 (Int32.toInt_inj.mp h)
  have g10 : ¬ x.toInt = 10 := fun h => h10 (Int32.toInt_inj.mp h)
  omega
theorem ly_X0 : ∀ w ∈ u_ws RX0 TX0 3, w ∈ gj_gw := gj_lay (goodIn_r _ [270, 272, 274] (by decide +kernel) (by decide +kernel)) (by decide +kernel)
theorem ly_X1 : ∀ w ∈ u_ws RX1 TX1 13, w ∈ gj_gw := gj_lay (goodIn_r _ [101, 103, 105, 107, 109, 111, 113, 115, 117, 119, 121, 123, 125] (by decide +kernel) (by decide +kernel)) (by decide +kernel)
theorem ly_X2 : ∀ w ∈ u_ws RX2 TX2 11, w ∈ gj_gw := gj_lay (goodIn_r _ [143, 145, 147, 149, 151, 153, 155, 157, 159, 161, 163] (by decide +kernel) (by decide +kernel)) (by decide +kernel)
theorem ly_X3 : ∀ w ∈ u_ws RX3 TX3 6, w ∈ gj_gw := gj_lay (goodIn_r _ [228, 230, 232, 234, 236, 238] (by decide +kernel) (by decide +kernel)) (by decide +kernel)
theorem ly_X4 : ∀ w ∈ u_ws RX4 TX4 2, w ∈ gj_gw := gj_lay (goodIn_r _ [298, 300] (by decide +kernel) (by decide +kernel)) (by decide +kernel)
theorem ly_X5 : ∀ w ∈ u_ws RX5 TX5 5, w ∈ gj_gw := gj_lay (goodIn_r _ [195, 197, 199, 201, 203] (by decide +kernel) (by decide +kernel)) (by decide +kernel)
theorem ly_X6 : ∀ w ∈ u_ws RX6 TX6 1, w ∈ gj_gw := gj_lay (goodIn_r _ [285] (by decide +kernel) (by decide +kernel)) (by decide +kernel)
theorem ly_X7 : ∀ w ∈ u_ws RX7 TX7 4, w ∈ gj_gw := gj_lay (goodIn_r _ [248, 250, 252, 254] (by decide +kernel) (by decide +kernel)) (by decide +kernel)
theorem ly_X8 : ∀ w ∈ u_ws RX8 TX8 11, w ∈ gj_gw := gj_lay (goodIn_r _ [348, 350, 352, 354, 356, 358, 360, 362, 364, 366, 368] (by decide +kernel) (by decide +kernel)) (by decide +kernel)
theorem ly_X9 : ∀ w ∈ u_ws RX9 TX9 41, w ∈ gj_gw := gj_lay (goodIn_r _ [997, 999, 1001, 1003, 1005, 1007, 1009, 1011, 1013, 1015, 1017, 1019, 1021, 1023, 1025, 1027, 1029, 1031, 1033, 1035, 1037, 1039, 1041, 1043, 1045, 1047, 1049, 1051, 1053, 1055, 1057, 1059, 1061, 1063, 1065, 1067, 1069, 1071, 1073, 1075, 1077] (by decide +kernel) (by decide +kernel)) (by decide +kernel)
theorem gj_kd2 {q : Nat} (h : q ≠ 2) : (gj_kd q).1 ≠ 2 := by
  by_cases hq : q < 212
  · have : ∀ k : Fin 212, k.1 ≠ 2 → (gj_kd k.1).1 ≠ 2 := by decide +kernel
    exact this ⟨q, hq⟩ h
  · have h1 : gj_kd q = gj_md (q - 188) := by
      unfold gj_kd
      rw [if_neg (by omega), if_neg (by omega), if_neg (by omega), if_neg (by omega), if_neg (by omega), if_neg (by omega), if_neg (by omega), if_neg (by omega), if_neg (by omega)]
    rw [h1]
    obtain ⟨d, hd⟩ : ∃ d, q - 188 = d + 24 := ⟨q - 212, by omega⟩
    rw [hd]
    simp [gj_md]
theorem gj_sT_o {cy : Nat → ClassId} {ad : Nat → Nat} {σ : gj_S} {t : Nat} : ∀ q, q ≠ 2 → gj_cell cy ad (gj_sT σ t) q = gj_cell cy ad σ q := by
  intro q hq
  have h2 := gj_kd2 hq
  have hfs : ∀ t2 : Nat, gj_fs ad (gj_kd q).1 q (σ.1 q) (σ.2.1 q) t2 = gj_fs ad (gj_kd q).1 q (σ.1 q) (σ.2.1 q) σ.2.2 := by
    intro t2
    generalize (gj_kd q).1 = z at h2 ⊢
    unfold gj_fs
    split <;> first | rfl | exact absurd rfl h2
  unfold gj_cell gj_sT gj_cel
  rw [hfs t]
theorem gt_X0_0 {E : gj_E} {X : gj_X} {own : String} {cc : ByteArray} {nL : Nat} {rt : Option FieldType} {fr lo : Nat} {ce sl : Nat} {Q : State → Prop} {pc : Nat} {lv : List (Nat × gj_V)} {st : List gj_V} {σ : gj_S} (hO : gj_O E X own cc nL rt fr lo) {idx : Nat} (hl : Cond.fieldLink own idx RX0 "plans" "[LPivotDocks$Plan;" ∈ gj_gw) (hd : decode cc pc = .ok (.getfield idx, 3)) (k : gj_H E X nL ce sl Q (pc + 3) lv (gj_r 55 :: st) σ) : gj_H E X nL ce sl Q pc lv (gj_r 54 :: st) σ := gj_get hO (C := RX0) (T := TX0) (N := 3) (j := 0) ly_X0 kl_54 kd_54 (by decide) rfl (by decide) rfl hl rfl hd k
theorem gt_X0_1 {E : gj_E} {X : gj_X} {own : String} {cc : ByteArray} {nL : Nat} {rt : Option FieldType} {fr lo : Nat} {ce sl : Nat} {Q : State → Prop} {pc : Nat} {lv : List (Nat × gj_V)} {st : List gj_V} {σ : gj_S} (hO : gj_O E X own cc nL rt fr lo) {idx : Nat} (hl : Cond.fieldLink own idx RX0 "next" "I" ∈ gj_gw) (hd : decode cc pc = .ok (.getfield idx, 3)) (k : gj_H E X nL ce sl Q (pc + 3) lv (gj_i (σ.1 54 1) :: st) σ) : gj_H E X nL ce sl Q pc lv (gj_r 54 :: st) σ := gj_get hO (C := RX0) (T := TX0) (N := 3) (j := 1) ly_X0 kl_54 kd_54 (by decide) rfl (by decide) rfl hl rfl hd k
theorem pt_X0_1 {E : gj_E} {X : gj_X} {own : String} {cc : ByteArray} {nL : Nat} {rt : Option FieldType} {fr lo : Nat} {ce sl : Nat} {Q : State → Prop} {pc : Nat} {lv : List (Nat × gj_V)} {st : List gj_V} {σ : gj_S} (hO : gj_O E X own cc nL rt fr lo) {x : Int32} {idx : Nat} (hl : Cond.fieldLink own idx RX0 "next" "I" ∈ gj_gw) (hd : decode cc pc = .ok (.putfield idx, 3)) (k : gj_H E X nL ce sl Q (pc + 3) lv st (gj_sI σ 54 (upd (σ.1 54) 1 x))) : gj_H E X nL ce sl Q pc lv (gj_i x :: gj_r 54 :: st) σ := gj_put hO (C := RX0) (T := TX0) (N := 3) (j := 1) (ty := .int) (σ2 := (gj_sI σ 54 (upd (σ.1 54) 1 x))) ly_X0 tyX0_ok nmX0 kl_54 kd_54 (by decide) rfl (by decide) rfl hl rfl (by decide +kernel) rfl rfl (Nat.le_of_ble_eq_true rfl) rfl gj_sI_o hd k
theorem gt_X0_2 {E : gj_E} {X : gj_X} {own : String} {cc : ByteArray} {nL : Nat} {rt : Option FieldType} {fr lo : Nat} {ce sl : Nat} {Q : State → Prop} {pc : Nat} {lv : List (Nat × gj_V)} {st : List gj_V} {σ : gj_S} (hO : gj_O E X own cc nL rt fr lo) {idx : Nat} (hl : Cond.fieldLink own idx RX0 "held" "I" ∈ gj_gw) (hd : decode cc pc = .ok (.getfield idx, 3)) (k : gj_H E X nL ce sl Q (pc + 3) lv (gj_i (σ.1 54 2) :: st) σ) : gj_H E X nL ce sl Q pc lv (gj_r 54 :: st) σ := gj_get hO (C := RX0) (T := TX0) (N := 3) (j := 2) ly_X0 kl_54 kd_54 (by decide) rfl (by decide) rfl hl rfl hd k
theorem pt_X0_2 {E : gj_E} {X : gj_X} {own : String} {cc : ByteArray} {nL : Nat} {rt : Option FieldType} {fr lo : Nat} {ce sl : Nat} {Q : State → Prop} {pc : Nat} {lv : List (Nat × gj_V)} {st : List gj_V} {σ : gj_S} (hO : gj_O E X own cc nL rt fr lo) {x : Int32} {idx : Nat} (hl : Cond.fieldLink own idx RX0 "held" "I" ∈ gj_gw) (hd : decode cc pc = .ok (.putfield idx, 3)) (k : gj_H E X nL ce sl Q (pc + 3) lv st (gj_sI σ 54 (upd (σ.1 54) 2 x))) : gj_H E X nL ce sl Q pc lv (gj_i x :: gj_r 54 :: st) σ := gj_put hO (C := RX0) (T := TX0) (N := 3) (j := 2) (ty := .int) (σ2 := (gj_sI σ 54 (upd (σ.1 54) 2 x))) ly_X0 tyX0_ok nmX0 kl_54 kd_54 (by decide) rfl (by decide) rfl hl rfl (by decide +kernel) rfl rfl (Nat.le_of_ble_eq_true rfl) rfl gj_sI_o hd k
theorem gt_X1_0 {E : gj_E} {X : gj_X} {own : String} {cc : ByteArray} {nL : Nat} {rt : Option FieldType} {fr lo : Nat} {ce sl : Nat} {Q : State → Prop} {pc : Nat} {lv : List (Nat × gj_V)} {st : List gj_V} {σ : gj_S} (hO : gj_O E X own cc nL rt fr lo) {o : Nat} (hk : gj_kd o = (1, 0)) (ho : gj_lt own o) {idx : Nat} (hl : Cond.fieldLink own idx RX1 "docks" "I" ∈ gj_gw) (hd : decode cc pc = .ok (.getfield idx, 3)) (k : gj_H E X nL ce sl Q (pc + 3) lv (gj_i (σ.1 o 0) :: st) σ) : gj_H E X nL ce sl Q pc lv (gj_r o :: st) σ := gj_get hO (C := RX1) (T := TX1) (N := 13) (j := 0) ly_X1 ho hk (by decide) rfl (by decide) rfl hl rfl hd k
theorem pt_X1_0 {E : gj_E} {X : gj_X} {own : String} {cc : ByteArray} {nL : Nat} {rt : Option FieldType} {fr lo : Nat} {ce sl : Nat} {Q : State → Prop} {pc : Nat} {lv : List (Nat × gj_V)} {st : List gj_V} {σ : gj_S} (hO : gj_O E X own cc nL rt fr lo) {o : Nat} (hk : gj_kd o = (1, 0)) (ho : gj_lt own o) {x : Int32} {idx : Nat} (hl : Cond.fieldLink own idx RX1 "docks" "I" ∈ gj_gw) (hd : decode cc pc = .ok (.putfield idx, 3)) (k : gj_H E X nL ce sl Q (pc + 3) lv st (gj_sI σ o (upd (σ.1 o) 0 x))) : gj_H E X nL ce sl Q pc lv (gj_i x :: gj_r o :: st) σ := gj_put hO (C := RX1) (T := TX1) (N := 13) (j := 0) (ty := .int) (σ2 := (gj_sI σ o (upd (σ.1 o) 0 x))) ly_X1 tyX1_ok nmX1 ho hk (by decide) rfl (by decide) rfl hl rfl (by decide +kernel) rfl rfl (Nat.le_of_ble_eq_true rfl) (by simp [gj_sI, gj_fs, upd, gj_tv]) gj_sI_o hd k
theorem gt_X1_1 {E : gj_E} {X : gj_X} {own : String} {cc : ByteArray} {nL : Nat} {rt : Option FieldType} {fr lo : Nat} {ce sl : Nat} {Q : State → Prop} {pc : Nat} {lv : List (Nat × gj_V)} {st : List gj_V} {σ : gj_S} (hO : gj_O E X own cc nL rt fr lo) {o : Nat} (hk : gj_kd o = (1, 0)) (ho : gj_lt own o) {idx : Nat} (hl : Cond.fieldLink own idx RX1 "routes" "I" ∈ gj_gw) (hd : decode cc pc = .ok (.getfield idx, 3)) (k : gj_H E X nL ce sl Q (pc + 3) lv (gj_i (σ.1 o 1) :: st) σ) : gj_H E X nL ce sl Q pc lv (gj_r o :: st) σ := gj_get hO (C := RX1) (T := TX1) (N := 13) (j := 1) ly_X1 ho hk (by decide) rfl (by decide) rfl hl rfl hd k
theorem pt_X1_1 {E : gj_E} {X : gj_X} {own : String} {cc : ByteArray} {nL : Nat} {rt : Option FieldType} {fr lo : Nat} {ce sl : Nat} {Q : State → Prop} {pc : Nat} {lv : List (Nat × gj_V)} {st : List gj_V} {σ : gj_S} (hO : gj_O E X own cc nL rt fr lo) {o : Nat} (hk : gj_kd o = (1, 0)) (ho : gj_lt own o) {x : Int32} {idx : Nat} (hl : Cond.fieldLink own idx RX1 "routes" "I" ∈ gj_gw) (hd : decode cc pc = .ok (.putfield idx, 3)) (k : gj_H E X nL ce sl Q (pc + 3) lv st (gj_sI σ o (upd (σ.1 o) 1 x))) : gj_H E X nL ce sl Q pc lv (gj_i x :: gj_r o :: st) σ := gj_put hO (C := RX1) (T := TX1) (N := 13) (j := 1) (ty := .int) (σ2 := (gj_sI σ o (upd (σ.1 o) 1 x))) ly_X1 tyX1_ok nmX1 ho hk (by decide) rfl (by decide) rfl hl rfl (by decide +kernel) rfl rfl (Nat.le_of_ble_eq_true rfl) (by simp [gj_sI, gj_fs, upd, gj_tv]) gj_sI_o hd k
theorem gt_X1_2 {E : gj_E} {X : gj_X} {own : String} {cc : ByteArray} {nL : Nat} {rt : Option FieldType} {fr lo : Nat} {ce sl : Nat} {Q : State → Prop} {pc : Nat} {lv : List (Nat × gj_V)} {st : List gj_V} {σ : gj_S} (hO : gj_O E X own cc nL rt fr lo) {o : Nat} (hk : gj_kd o = (1, 0)) (ho : gj_lt own o) {idx : Nat} (hl : Cond.fieldLink own idx RX1 "block" "I" ∈ gj_gw) (hd : decode cc pc = .ok (.getfield idx, 3)) (k : gj_H E X nL ce sl Q (pc + 3) lv (gj_i (σ.1 o 2) :: st) σ) : gj_H E X nL ce sl Q pc lv (gj_r o :: st) σ := gj_get hO (C := RX1) (T := TX1) (N := 13) (j := 2) ly_X1 ho hk (by decide) rfl (by decide) rfl hl rfl hd k
theorem pt_X1_2 {E : gj_E} {X : gj_X} {own : String} {cc : ByteArray} {nL : Nat} {rt : Option FieldType} {fr lo : Nat} {ce sl : Nat} {Q : State → Prop} {pc : Nat} {lv : List (Nat × gj_V)} {st : List gj_V} {σ : gj_S} (hO : gj_O E X own cc nL rt fr lo) {o : Nat} (hk : gj_kd o = (1, 0)) (ho : gj_lt own o) {x : Int32} {idx : Nat} (hl : Cond.fieldLink own idx RX1 "block" "I" ∈ gj_gw) (hd : decode cc pc = .ok (.putfield idx, 3)) (k : gj_H E X nL ce sl Q (pc + 3) lv st (gj_sI σ o (upd (σ.1 o) 2 x))) : gj_H E X nL ce sl Q pc lv (gj_i x :: gj_r o :: st) σ := gj_put hO (C := RX1) (T := TX1) (N := 13) (j := 2) (ty := .int) (σ2 := (gj_sI σ o (upd (σ.1 o) 2 x))) ly_X1 tyX1_ok nmX1 ho hk (by decide) rfl (by decide) rfl hl rfl (by decide +kernel) rfl rfl (Nat.le_of_ble_eq_true rfl) (by simp [gj_sI, gj_fs, upd, gj_tv]) gj_sI_o hd k
theorem gt_X1_3 {E : gj_E} {X : gj_X} {own : String} {cc : ByteArray} {nL : Nat} {rt : Option FieldType} {fr lo : Nat} {ce sl : Nat} {Q : State → Prop} {pc : Nat} {lv : List (Nat × gj_V)} {st : List gj_V} {σ : gj_S} (hO : gj_O E X own cc nL rt fr lo) {o : Nat} (hk : gj_kd o = (1, 0)) (ho : gj_lt own o) {idx : Nat} (hl : Cond.fieldLink own idx RX1 "pointer" "I" ∈ gj_gw) (hd : decode cc pc = .ok (.getfield idx, 3)) (k : gj_H E X nL ce sl Q (pc + 3) lv (gj_i (σ.1 o 3) :: st) σ) : gj_H E X nL ce sl Q pc lv (gj_r o :: st) σ := gj_get hO (C := RX1) (T := TX1) (N := 13) (j := 3) ly_X1 ho hk (by decide) rfl (by decide) rfl hl rfl hd k
theorem pt_X1_3 {E : gj_E} {X : gj_X} {own : String} {cc : ByteArray} {nL : Nat} {rt : Option FieldType} {fr lo : Nat} {ce sl : Nat} {Q : State → Prop} {pc : Nat} {lv : List (Nat × gj_V)} {st : List gj_V} {σ : gj_S} (hO : gj_O E X own cc nL rt fr lo) {o : Nat} (hk : gj_kd o = (1, 0)) (ho : gj_lt own o) {x : Int32} {idx : Nat} (hl : Cond.fieldLink own idx RX1 "pointer" "I" ∈ gj_gw) (hd : decode cc pc = .ok (.putfield idx, 3)) (k : gj_H E X nL ce sl Q (pc + 3) lv st (gj_sI σ o (upd (σ.1 o) 3 x))) : gj_H E X nL ce sl Q pc lv (gj_i x :: gj_r o :: st) σ := gj_put hO (C := RX1) (T := TX1) (N := 13) (j := 3) (ty := .int) (σ2 := (gj_sI σ o (upd (σ.1 o) 3 x))) ly_X1 tyX1_ok nmX1 ho hk (by decide) rfl (by decide) rfl hl rfl (by decide +kernel) rfl rfl (Nat.le_of_ble_eq_true rfl) (by simp [gj_sI, gj_fs, upd, gj_tv]) gj_sI_o hd k
theorem gt_X1_4 {E : gj_E} {X : gj_X} {own : String} {cc : ByteArray} {nL : Nat} {rt : Option FieldType} {fr lo : Nat} {ce sl : Nat} {Q : State → Prop} {pc : Nat} {lv : List (Nat × gj_V)} {st : List gj_V} {σ : gj_S} (hO : gj_O E X own cc nL rt fr lo) {o : Nat} (hk : gj_kd o = (1, 0)) (ho : gj_lt own o) {idx : Nat} (hl : Cond.fieldLink own idx RX1 "pivots" "I" ∈ gj_gw) (hd : decode cc pc = .ok (.getfield idx, 3)) (k : gj_H E X nL ce sl Q (pc + 3) lv (gj_i (σ.1 o 4) :: st) σ) : gj_H E X nL ce sl Q pc lv (gj_r o :: st) σ := gj_get hO (C := RX1) (T := TX1) (N := 13) (j := 4) ly_X1 ho hk (by decide) rfl (by decide) rfl hl rfl hd k
theorem pt_X1_4 {E : gj_E} {X : gj_X} {own : String} {cc : ByteArray} {nL : Nat} {rt : Option FieldType} {fr lo : Nat} {ce sl : Nat} {Q : State → Prop} {pc : Nat} {lv : List (Nat × gj_V)} {st : List gj_V} {σ : gj_S} (hO : gj_O E X own cc nL rt fr lo) {o : Nat} (hk : gj_kd o = (1, 0)) (ho : gj_lt own o) {x : Int32} {idx : Nat} (hl : Cond.fieldLink own idx RX1 "pivots" "I" ∈ gj_gw) (hd : decode cc pc = .ok (.putfield idx, 3)) (k : gj_H E X nL ce sl Q (pc + 3) lv st (gj_sI σ o (upd (σ.1 o) 4 x))) : gj_H E X nL ce sl Q pc lv (gj_i x :: gj_r o :: st) σ := gj_put hO (C := RX1) (T := TX1) (N := 13) (j := 4) (ty := .int) (σ2 := (gj_sI σ o (upd (σ.1 o) 4 x))) ly_X1 tyX1_ok nmX1 ho hk (by decide) rfl (by decide) rfl hl rfl (by decide +kernel) rfl rfl (Nat.le_of_ble_eq_true rfl) (by simp [gj_sI, gj_fs, upd, gj_tv]) gj_sI_o hd k
theorem gt_X1_5 {E : gj_E} {X : gj_X} {own : String} {cc : ByteArray} {nL : Nat} {rt : Option FieldType} {fr lo : Nat} {ce sl : Nat} {Q : State → Prop} {pc : Nat} {lv : List (Nat × gj_V)} {st : List gj_V} {σ : gj_S} (hO : gj_O E X own cc nL rt fr lo) {o : Nat} (hk : gj_kd o = (1, 0)) (ho : gj_lt own o) {idx : Nat} (hl : Cond.fieldLink own idx RX1 "gifts" "[I" ∈ gj_gw) (hd : decode cc pc = .ok (.getfield idx, 3)) (k : gj_H E X nL ce sl Q (pc + 3) lv (gj_r (o + 1) :: st) σ) : gj_H E X nL ce sl Q pc lv (gj_r o :: st) σ := gj_get hO (C := RX1) (T := TX1) (N := 13) (j := 5) ly_X1 ho hk (by decide) rfl (by decide) rfl hl rfl hd k
theorem gt_X1_6 {E : gj_E} {X : gj_X} {own : String} {cc : ByteArray} {nL : Nat} {rt : Option FieldType} {fr lo : Nat} {ce sl : Nat} {Q : State → Prop} {pc : Nat} {lv : List (Nat × gj_V)} {st : List gj_V} {σ : gj_S} (hO : gj_O E X own cc nL rt fr lo) {o : Nat} (hk : gj_kd o = (1, 0)) (ho : gj_lt own o) {idx : Nat} (hl : Cond.fieldLink own idx RX1 "begins" "[I" ∈ gj_gw) (hd : decode cc pc = .ok (.getfield idx, 3)) (k : gj_H E X nL ce sl Q (pc + 3) lv (gj_r (o + 2) :: st) σ) : gj_H E X nL ce sl Q pc lv (gj_r o :: st) σ := gj_get hO (C := RX1) (T := TX1) (N := 13) (j := 6) ly_X1 ho hk (by decide) rfl (by decide) rfl hl rfl hd k
theorem gt_X1_7 {E : gj_E} {X : gj_X} {own : String} {cc : ByteArray} {nL : Nat} {rt : Option FieldType} {fr lo : Nat} {ce sl : Nat} {Q : State → Prop} {pc : Nat} {lv : List (Nat × gj_V)} {st : List gj_V} {σ : gj_S} (hO : gj_O E X own cc nL rt fr lo) {o : Nat} (hk : gj_kd o = (1, 0)) (ho : gj_lt own o) {idx : Nat} (hl : Cond.fieldLink own idx RX1 "ends" "[I" ∈ gj_gw) (hd : decode cc pc = .ok (.getfield idx, 3)) (k : gj_H E X nL ce sl Q (pc + 3) lv (gj_r (o + 3) :: st) σ) : gj_H E X nL ce sl Q pc lv (gj_r o :: st) σ := gj_get hO (C := RX1) (T := TX1) (N := 13) (j := 7) ly_X1 ho hk (by decide) rfl (by decide) rfl hl rfl hd k
theorem gt_X1_8 {E : gj_E} {X : gj_X} {own : String} {cc : ByteArray} {nL : Nat} {rt : Option FieldType} {fr lo : Nat} {ce sl : Nat} {Q : State → Prop} {pc : Nat} {lv : List (Nat × gj_V)} {st : List gj_V} {σ : gj_S} (hO : gj_O E X own cc nL rt fr lo) {o : Nat} (hk : gj_kd o = (1, 0)) (ho : gj_lt own o) {idx : Nat} (hl : Cond.fieldLink own idx RX1 "costs" "[I" ∈ gj_gw) (hd : decode cc pc = .ok (.getfield idx, 3)) (k : gj_H E X nL ce sl Q (pc + 3) lv (gj_r (o + 4) :: st) σ) : gj_H E X nL ce sl Q pc lv (gj_r o :: st) σ := gj_get hO (C := RX1) (T := TX1) (N := 13) (j := 8) ly_X1 ho hk (by decide) rfl (by decide) rfl hl rfl hd k
theorem gt_X1_9 {E : gj_E} {X : gj_X} {own : String} {cc : ByteArray} {nL : Nat} {rt : Option FieldType} {fr lo : Nat} {ce sl : Nat} {Q : State → Prop} {pc : Nat} {lv : List (Nat × gj_V)} {st : List gj_V} {σ : gj_S} (hO : gj_O E X own cc nL rt fr lo) {o : Nat} (hk : gj_kd o = (1, 0)) (ho : gj_lt own o) {idx : Nat} (hl : Cond.fieldLink own idx RX1 "holds" "[I" ∈ gj_gw) (hd : decode cc pc = .ok (.getfield idx, 3)) (k : gj_H E X nL ce sl Q (pc + 3) lv (gj_r (o + 5) :: st) σ) : gj_H E X nL ce sl Q pc lv (gj_r o :: st) σ := gj_get hO (C := RX1) (T := TX1) (N := 13) (j := 9) ly_X1 ho hk (by decide) rfl (by decide) rfl hl rfl hd k
theorem gt_X1_10 {E : gj_E} {X : gj_X} {own : String} {cc : ByteArray} {nL : Nat} {rt : Option FieldType} {fr lo : Nat} {ce sl : Nat} {Q : State → Prop} {pc : Nat} {lv : List (Nat × gj_V)} {st : List gj_V} {σ : gj_S} (hO : gj_O E X own cc nL rt fr lo) {o : Nat} (hk : gj_kd o = (1, 0)) (ho : gj_lt own o) {idx : Nat} (hl : Cond.fieldLink own idx RX1 "flows" "[I" ∈ gj_gw) (hd : decode cc pc = .ok (.getfield idx, 3)) (k : gj_H E X nL ce sl Q (pc + 3) lv (gj_r (o + 6) :: st) σ) : gj_H E X nL ce sl Q pc lv (gj_r o :: st) σ := gj_get hO (C := RX1) (T := TX1) (N := 13) (j := 10) ly_X1 ho hk (by decide) rfl (by decide) rfl hl rfl hd k
theorem gt_X1_11 {E : gj_E} {X : gj_X} {own : String} {cc : ByteArray} {nL : Nat} {rt : Option FieldType} {fr lo : Nat} {ce sl : Nat} {Q : State → Prop} {pc : Nat} {lv : List (Nat × gj_V)} {st : List gj_V} {σ : gj_S} (hO : gj_O E X own cc nL rt fr lo) {o : Nat} (hk : gj_kd o = (1, 0)) (ho : gj_lt own o) {idx : Nat} (hl : Cond.fieldLink own idx RX1 "states" "[I" ∈ gj_gw) (hd : decode cc pc = .ok (.getfield idx, 3)) (k : gj_H E X nL ce sl Q (pc + 3) lv (gj_r (o + 7) :: st) σ) : gj_H E X nL ce sl Q pc lv (gj_r o :: st) σ := gj_get hO (C := RX1) (T := TX1) (N := 13) (j := 11) ly_X1 ho hk (by decide) rfl (by decide) rfl hl rfl hd k
theorem gt_X1_12 {E : gj_E} {X : gj_X} {own : String} {cc : ByteArray} {nL : Nat} {rt : Option FieldType} {fr lo : Nat} {ce sl : Nat} {Q : State → Prop} {pc : Nat} {lv : List (Nat × gj_V)} {st : List gj_V} {σ : gj_S} (hO : gj_O E X own cc nL rt fr lo) {o : Nat} (hk : gj_kd o = (1, 0)) (ho : gj_lt own o) {idx : Nat} (hl : Cond.fieldLink own idx RX1 "log" "[I" ∈ gj_gw) (hd : decode cc pc = .ok (.getfield idx, 3)) (k : gj_H E X nL ce sl Q (pc + 3) lv (gj_r (o + 8) :: st) σ) : gj_H E X nL ce sl Q pc lv (gj_r o :: st) σ := gj_get hO (C := RX1) (T := TX1) (N := 13) (j := 12) ly_X1 ho hk (by decide) rfl (by decide) rfl hl rfl hd k
theorem gt_X2_0 {E : gj_E} {X : gj_X} {own : String} {cc : ByteArray} {nL : Nat} {rt : Option FieldType} {fr lo : Nat} {ce sl : Nat} {Q : State → Prop} {pc : Nat} {lv : List (Nat × gj_V)} {st : List gj_V} {σ : gj_S} (hO : gj_O E X own cc nL rt fr lo) {idx : Nat} (hl : Cond.fieldLink own idx RX2 "plan" "LPivotDocks$Plan;" ∈ gj_gw) (hd : decode cc pc = .ok (.getfield idx, 3)) (k : gj_H E X nL ce sl Q (pc + 3) lv (gj_r 3 :: st) σ) : gj_H E X nL ce sl Q pc lv (gj_r 2 :: st) σ := gj_get hO (C := RX2) (T := TX2) (N := 11) (j := 0) ly_X2 kl_2 kd_2 (by decide) rfl (by decide) rfl hl rfl hd k
theorem gt_X2_1 {E : gj_E} {X : gj_X} {own : String} {cc : ByteArray} {nL : Nat} {rt : Option FieldType} {fr lo : Nat} {ce sl : Nat} {Q : State → Prop} {pc : Nat} {lv : List (Nat × gj_V)} {st : List gj_V} {σ : gj_S} (hO : gj_O E X own cc nL rt fr lo) {idx : Nat} (hl : Cond.fieldLink own idx RX2 "routeNames" "[J" ∈ gj_gw) (hd : decode cc pc = .ok (.getfield idx, 3)) (k : gj_H E X nL ce sl Q (pc + 3) lv (gj_r 12 :: st) σ) : gj_H E X nL ce sl Q pc lv (gj_r 2 :: st) σ := gj_get hO (C := RX2) (T := TX2) (N := 11) (j := 1) ly_X2 kl_2 kd_2 (by decide) rfl (by decide) rfl hl rfl hd k
theorem gt_X2_2 {E : gj_E} {X : gj_X} {own : String} {cc : ByteArray} {nL : Nat} {rt : Option FieldType} {fr lo : Nat} {ce sl : Nat} {Q : State → Prop} {pc : Nat} {lv : List (Nat × gj_V)} {st : List gj_V} {σ : gj_S} (hO : gj_O E X own cc nL rt fr lo) {idx : Nat} (hl : Cond.fieldLink own idx RX2 "dockNames" "[J" ∈ gj_gw) (hd : decode cc pc = .ok (.getfield idx, 3)) (k : gj_H E X nL ce sl Q (pc + 3) lv (gj_r 13 :: st) σ) : gj_H E X nL ce sl Q pc lv (gj_r 2 :: st) σ := gj_get hO (C := RX2) (T := TX2) (N := 11) (j := 2) ly_X2 kl_2 kd_2 (by decide) rfl (by decide) rfl hl rfl hd k
theorem gt_X2_3 {E : gj_E} {X : gj_X} {own : String} {cc : ByteArray} {nL : Nat} {rt : Option FieldType} {fr lo : Nat} {ce sl : Nat} {Q : State → Prop} {pc : Nat} {lv : List (Nat × gj_V)} {st : List gj_V} {σ : gj_S} (hO : gj_O E X own cc nL rt fr lo) {idx : Nat} (hl : Cond.fieldLink own idx RX2 "blockTold" "Z" ∈ gj_gw) (hd : decode cc pc = .ok (.getfield idx, 3)) (k : gj_H E X nL ce sl Q (pc + 3) lv (gj_i (σ.1 2 3) :: st) σ) : gj_H E X nL ce sl Q pc lv (gj_r 2 :: st) σ := gj_get hO (C := RX2) (T := TX2) (N := 11) (j := 3) ly_X2 kl_2 kd_2 (by decide) rfl (by decide) rfl hl rfl hd k
theorem pt_X2_3 {E : gj_E} {X : gj_X} {own : String} {cc : ByteArray} {nL : Nat} {rt : Option FieldType} {fr lo : Nat} {ce sl : Nat} {Q : State → Prop} {pc : Nat} {lv : List (Nat × gj_V)} {st : List gj_V} {σ : gj_S} (hO : gj_O E X own cc nL rt fr lo) {x : Int32} (h01 : x = 0 ∨ x = 1) {idx : Nat} (hl : Cond.fieldLink own idx RX2 "blockTold" "Z" ∈ gj_gw) (hd : decode cc pc = .ok (.putfield idx, 3)) (k : gj_H E X nL ce sl Q (pc + 3) lv st (gj_sI σ 2 (upd (σ.1 2) 3 x))) : gj_H E X nL ce sl Q pc lv (gj_i x :: gj_r 2 :: st) σ := gj_put hO (C := RX2) (T := TX2) (N := 11) (j := 3) (ty := .boolean) (σ2 := (gj_sI σ 2 (upd (σ.1 2) 3 x))) ly_X2 tyX2_ok nmX2 kl_2 kd_2 (by decide) rfl (by decide) rfl hl rfl (by decide +kernel) (by rcases h01 with rfl | rfl <;> rfl) (by rcases h01 with rfl | rfl <;> rfl) (Nat.le_of_ble_eq_true rfl) rfl gj_sI_o hd k
theorem gt_X2_4 {E : gj_E} {X : gj_X} {own : String} {cc : ByteArray} {nL : Nat} {rt : Option FieldType} {fr lo : Nat} {ce sl : Nat} {Q : State → Prop} {pc : Nat} {lv : List (Nat × gj_V)} {st : List gj_V} {σ : gj_S} (hO : gj_O E X own cc nL rt fr lo) {idx : Nat} (hl : Cond.fieldLink own idx RX2 "fault" "I" ∈ gj_gw) (hd : decode cc pc = .ok (.getfield idx, 3)) (k : gj_H E X nL ce sl Q (pc + 3) lv (gj_i (σ.1 2 4) :: st) σ) : gj_H E X nL ce sl Q pc lv (gj_r 2 :: st) σ := gj_get hO (C := RX2) (T := TX2) (N := 11) (j := 4) ly_X2 kl_2 kd_2 (by decide) rfl (by decide) rfl hl rfl hd k
theorem pt_X2_4 {E : gj_E} {X : gj_X} {own : String} {cc : ByteArray} {nL : Nat} {rt : Option FieldType} {fr lo : Nat} {ce sl : Nat} {Q : State → Prop} {pc : Nat} {lv : List (Nat × gj_V)} {st : List gj_V} {σ : gj_S} (hO : gj_O E X own cc nL rt fr lo) {x : Int32} {idx : Nat} (hl : Cond.fieldLink own idx RX2 "fault" "I" ∈ gj_gw) (hd : decode cc pc = .ok (.putfield idx, 3)) (k : gj_H E X nL ce sl Q (pc + 3) lv st (gj_sI σ 2 (upd (σ.1 2) 4 x))) : gj_H E X nL ce sl Q pc lv (gj_i x :: gj_r 2 :: st) σ := gj_put hO (C := RX2) (T := TX2) (N := 11) (j := 4) (ty := .int) (σ2 := (gj_sI σ 2 (upd (σ.1 2) 4 x))) ly_X2 tyX2_ok nmX2 kl_2 kd_2 (by decide) rfl (by decide) rfl hl rfl (by decide +kernel) rfl rfl (Nat.le_of_ble_eq_true rfl) rfl gj_sI_o hd k
theorem gt_X2_5 {E : gj_E} {X : gj_X} {own : String} {cc : ByteArray} {nL : Nat} {rt : Option FieldType} {fr lo : Nat} {ce sl : Nat} {Q : State → Prop} {pc : Nat} {lv : List (Nat × gj_V)} {st : List gj_V} {σ : gj_S} (hO : gj_O E X own cc nL rt fr lo) {idx : Nat} (hl : Cond.fieldLink own idx RX2 "at" "I" ∈ gj_gw) (hd : decode cc pc = .ok (.getfield idx, 3)) (k : gj_H E X nL ce sl Q (pc + 3) lv (gj_i (σ.1 2 5) :: st) σ) : gj_H E X nL ce sl Q pc lv (gj_r 2 :: st) σ := gj_get hO (C := RX2) (T := TX2) (N := 11) (j := 5) ly_X2 kl_2 kd_2 (by decide) rfl (by decide) rfl hl rfl hd k
theorem pt_X2_5 {E : gj_E} {X : gj_X} {own : String} {cc : ByteArray} {nL : Nat} {rt : Option FieldType} {fr lo : Nat} {ce sl : Nat} {Q : State → Prop} {pc : Nat} {lv : List (Nat × gj_V)} {st : List gj_V} {σ : gj_S} (hO : gj_O E X own cc nL rt fr lo) {x : Int32} {idx : Nat} (hl : Cond.fieldLink own idx RX2 "at" "I" ∈ gj_gw) (hd : decode cc pc = .ok (.putfield idx, 3)) (k : gj_H E X nL ce sl Q (pc + 3) lv st (gj_sI σ 2 (upd (σ.1 2) 5 x))) : gj_H E X nL ce sl Q pc lv (gj_i x :: gj_r 2 :: st) σ := gj_put hO (C := RX2) (T := TX2) (N := 11) (j := 5) (ty := .int) (σ2 := (gj_sI σ 2 (upd (σ.1 2) 5 x))) ly_X2 tyX2_ok nmX2 kl_2 kd_2 (by decide) rfl (by decide) rfl hl rfl (by decide +kernel) rfl rfl (Nat.le_of_ble_eq_true rfl) rfl gj_sI_o hd k
theorem gt_X2_6 {E : gj_E} {X : gj_X} {own : String} {cc : ByteArray} {nL : Nat} {rt : Option FieldType} {fr lo : Nat} {ce sl : Nat} {Q : State → Prop} {pc : Nat} {lv : List (Nat × gj_V)} {st : List gj_V} {σ : gj_S} (hO : gj_O E X own cc nL rt fr lo) {idx : Nat} (hl : Cond.fieldLink own idx RX2 "length" "I" ∈ gj_gw) (hd : decode cc pc = .ok (.getfield idx, 3)) (k : gj_H E X nL ce sl Q (pc + 3) lv (gj_i (σ.1 2 6) :: st) σ) : gj_H E X nL ce sl Q pc lv (gj_r 2 :: st) σ := gj_get hO (C := RX2) (T := TX2) (N := 11) (j := 6) ly_X2 kl_2 kd_2 (by decide) rfl (by decide) rfl hl rfl hd k
theorem pt_X2_6 {E : gj_E} {X : gj_X} {own : String} {cc : ByteArray} {nL : Nat} {rt : Option FieldType} {fr lo : Nat} {ce sl : Nat} {Q : State → Prop} {pc : Nat} {lv : List (Nat × gj_V)} {st : List gj_V} {σ : gj_S} (hO : gj_O E X own cc nL rt fr lo) {x : Int32} {idx : Nat} (hl : Cond.fieldLink own idx RX2 "length" "I" ∈ gj_gw) (hd : decode cc pc = .ok (.putfield idx, 3)) (k : gj_H E X nL ce sl Q (pc + 3) lv st (gj_sI σ 2 (upd (σ.1 2) 6 x))) : gj_H E X nL ce sl Q pc lv (gj_i x :: gj_r 2 :: st) σ := gj_put hO (C := RX2) (T := TX2) (N := 11) (j := 6) (ty := .int) (σ2 := (gj_sI σ 2 (upd (σ.1 2) 6 x))) ly_X2 tyX2_ok nmX2 kl_2 kd_2 (by decide) rfl (by decide) rfl hl rfl (by decide +kernel) rfl rfl (Nat.le_of_ble_eq_true rfl) rfl gj_sI_o hd k
theorem gt_X2_7 {E : gj_E} {X : gj_X} {own : String} {cc : ByteArray} {nL : Nat} {rt : Option FieldType} {fr lo : Nat} {ce sl : Nat} {Q : State → Prop} {pc : Nat} {lv : List (Nat × gj_V)} {st : List gj_V} {σ : gj_S} (hO : gj_O E X own cc nL rt fr lo) {idx : Nat} (hl : Cond.fieldLink own idx RX2 "kind" "I" ∈ gj_gw) (hd : decode cc pc = .ok (.getfield idx, 3)) (k : gj_H E X nL ce sl Q (pc + 3) lv (gj_i (σ.1 2 7) :: st) σ) : gj_H E X nL ce sl Q pc lv (gj_r 2 :: st) σ := gj_get hO (C := RX2) (T := TX2) (N := 11) (j := 7) ly_X2 kl_2 kd_2 (by decide) rfl (by decide) rfl hl rfl hd k
theorem pt_X2_7 {E : gj_E} {X : gj_X} {own : String} {cc : ByteArray} {nL : Nat} {rt : Option FieldType} {fr lo : Nat} {ce sl : Nat} {Q : State → Prop} {pc : Nat} {lv : List (Nat × gj_V)} {st : List gj_V} {σ : gj_S} (hO : gj_O E X own cc nL rt fr lo) {x : Int32} {idx : Nat} (hl : Cond.fieldLink own idx RX2 "kind" "I" ∈ gj_gw) (hd : decode cc pc = .ok (.putfield idx, 3)) (k : gj_H E X nL ce sl Q (pc + 3) lv st (gj_sI σ 2 (upd (σ.1 2) 7 x))) : gj_H E X nL ce sl Q pc lv (gj_i x :: gj_r 2 :: st) σ := gj_put hO (C := RX2) (T := TX2) (N := 11) (j := 7) (ty := .int) (σ2 := (gj_sI σ 2 (upd (σ.1 2) 7 x))) ly_X2 tyX2_ok nmX2 kl_2 kd_2 (by decide) rfl (by decide) rfl hl rfl (by decide +kernel) rfl rfl (Nat.le_of_ble_eq_true rfl) rfl gj_sI_o hd k
theorem gt_X2_8 {E : gj_E} {X : gj_X} {own : String} {cc : ByteArray} {nL : Nat} {rt : Option FieldType} {fr lo : Nat} {ce sl : Nat} {Q : State → Prop} {pc : Nat} {lv : List (Nat × gj_V)} {st : List gj_V} {σ : gj_S} (hO : gj_O E X own cc nL rt fr lo) {idx : Nat} (hl : Cond.fieldLink own idx RX2 "tokenAt" "I" ∈ gj_gw) (hd : decode cc pc = .ok (.getfield idx, 3)) (k : gj_H E X nL ce sl Q (pc + 3) lv (gj_i (σ.1 2 8) :: st) σ) : gj_H E X nL ce sl Q pc lv (gj_r 2 :: st) σ := gj_get hO (C := RX2) (T := TX2) (N := 11) (j := 8) ly_X2 kl_2 kd_2 (by decide) rfl (by decide) rfl hl rfl hd k
theorem pt_X2_8 {E : gj_E} {X : gj_X} {own : String} {cc : ByteArray} {nL : Nat} {rt : Option FieldType} {fr lo : Nat} {ce sl : Nat} {Q : State → Prop} {pc : Nat} {lv : List (Nat × gj_V)} {st : List gj_V} {σ : gj_S} (hO : gj_O E X own cc nL rt fr lo) {x : Int32} {idx : Nat} (hl : Cond.fieldLink own idx RX2 "tokenAt" "I" ∈ gj_gw) (hd : decode cc pc = .ok (.putfield idx, 3)) (k : gj_H E X nL ce sl Q (pc + 3) lv st (gj_sI σ 2 (upd (σ.1 2) 8 x))) : gj_H E X nL ce sl Q pc lv (gj_i x :: gj_r 2 :: st) σ := gj_put hO (C := RX2) (T := TX2) (N := 11) (j := 8) (ty := .int) (σ2 := (gj_sI σ 2 (upd (σ.1 2) 8 x))) ly_X2 tyX2_ok nmX2 kl_2 kd_2 (by decide) rfl (by decide) rfl hl rfl (by decide +kernel) rfl rfl (Nat.le_of_ble_eq_true rfl) rfl gj_sI_o hd k
theorem gt_X2_9 {E : gj_E} {X : gj_X} {own : String} {cc : ByteArray} {nL : Nat} {rt : Option FieldType} {fr lo : Nat} {ce sl : Nat} {Q : State → Prop} {pc : Nat} {lv : List (Nat × gj_V)} {st : List gj_V} {σ : gj_S} (hO : gj_O E X own cc nL rt fr lo) {idx : Nat} (hl : Cond.fieldLink own idx RX2 "value" "J" ∈ gj_gw) (hd : decode cc pc = .ok (.getfield idx, 3)) (k : gj_H E X nL ce sl Q (pc + 3) lv (gj_l (σ.2.1 2 9) :: st) σ) : gj_H E X nL ce sl Q pc lv (gj_r 2 :: st) σ := gj_get hO (C := RX2) (T := TX2) (N := 11) (j := 9) ly_X2 kl_2 kd_2 (by decide) rfl (by decide) rfl hl rfl hd k
theorem pt_X2_9 {E : gj_E} {X : gj_X} {own : String} {cc : ByteArray} {nL : Nat} {rt : Option FieldType} {fr lo : Nat} {ce sl : Nat} {Q : State → Prop} {pc : Nat} {lv : List (Nat × gj_V)} {st : List gj_V} {σ : gj_S} (hO : gj_O E X own cc nL rt fr lo) {x : Int64} {idx : Nat} (hl : Cond.fieldLink own idx RX2 "value" "J" ∈ gj_gw) (hd : decode cc pc = .ok (.putfield idx, 3)) (k : gj_H E X nL ce sl Q (pc + 3) lv st (gj_sJ σ 2 (vp_updL (σ.2.1 2) 9 x))) : gj_H E X nL ce sl Q pc lv (gj_l x :: gj_r 2 :: st) σ := gj_put hO (C := RX2) (T := TX2) (N := 11) (j := 9) (ty := .long) (σ2 := (gj_sJ σ 2 (vp_updL (σ.2.1 2) 9 x))) ly_X2 tyX2_ok nmX2 kl_2 kd_2 (by decide) rfl (by decide) rfl hl rfl (by decide +kernel) rfl rfl (Nat.le_of_ble_eq_true rfl) rfl gj_sJ_o hd k
theorem gt_X2_10 {E : gj_E} {X : gj_X} {own : String} {cc : ByteArray} {nL : Nat} {rt : Option FieldType} {fr lo : Nat} {ce sl : Nat} {Q : State → Prop} {pc : Nat} {lv : List (Nat × gj_V)} {st : List gj_V} {σ : gj_S} (hO : gj_O E X own cc nL rt fr lo) (hT : σ.2.2 = 1) {idx : Nat} (hl : Cond.fieldLink own idx RX2 "tape" "[B" ∈ gj_gw) (hd : decode cc pc = .ok (.getfield idx, 3)) (k : gj_H E X nL ce sl Q (pc + 3) lv (gj_r 1 :: st) σ) : gj_H E X nL ce sl Q pc lv (gj_r 2 :: st) σ := gj_get hO (C := RX2) (T := TX2) (N := 11) (j := 10) (v := gj_r 1) ly_X2 kl_2 kd_2 (by decide) rfl (by decide) rfl hl (by rw [hT]; rfl) hd k
theorem pt_X2_10 {E : gj_E} {X : gj_X} {own : String} {cc : ByteArray} {nL : Nat} {rt : Option FieldType} {fr lo : Nat} {ce sl : Nat} {Q : State → Prop} {pc : Nat} {lv : List (Nat × gj_V)} {st : List gj_V} {σ : gj_S} (hO : gj_O E X own cc nL rt fr lo) {idx : Nat} (hl : Cond.fieldLink own idx RX2 "tape" "[B" ∈ gj_gw) (hd : decode cc pc = .ok (.putfield idx, 3)) (k : gj_H E X nL ce sl Q (pc + 3) lv st (gj_sT σ 1)) : gj_H E X nL ce sl Q pc lv (gj_r 1 :: gj_r 2 :: st) σ := gj_put hO (C := RX2) (T := TX2) (N := 11) (j := 10) (ty := .array .byte) (v := gj_r 1) (σ2 := gj_sT σ 1) ly_X2 tyX2_ok nmX2 kl_2 kd_2 (by decide) rfl (by decide) rfl hl rfl (by decide +kernel) rfl rfl (Nat.le_of_ble_eq_true rfl) rfl gj_sT_o hd k
theorem gt_X3_0 {E : gj_E} {X : gj_X} {own : String} {cc : ByteArray} {nL : Nat} {rt : Option FieldType} {fr lo : Nat} {ce sl : Nat} {Q : State → Prop} {pc : Nat} {lv : List (Nat × gj_V)} {st : List gj_V} {σ : gj_S} (hO : gj_O E X own cc nL rt fr lo) {o : Nat} (hk : gj_kd o = (3, 0)) (ho : gj_lt own o) {idx : Nat} (hl : Cond.fieldLink own idx RX3 "size" "I" ∈ gj_gw) (hd : decode cc pc = .ok (.getfield idx, 3)) (k : gj_H E X nL ce sl Q (pc + 3) lv (gj_i (σ.1 o 0) :: st) σ) : gj_H E X nL ce sl Q pc lv (gj_r o :: st) σ := gj_get hO (C := RX3) (T := TX3) (N := 6) (j := 0) ly_X3 ho hk (by decide) rfl (by decide) rfl hl rfl hd k
theorem pt_X3_0 {E : gj_E} {X : gj_X} {own : String} {cc : ByteArray} {nL : Nat} {rt : Option FieldType} {fr lo : Nat} {ce sl : Nat} {Q : State → Prop} {pc : Nat} {lv : List (Nat × gj_V)} {st : List gj_V} {σ : gj_S} (hO : gj_O E X own cc nL rt fr lo) {o : Nat} (hk : gj_kd o = (3, 0)) (ho : gj_lt own o) {x : Int32} {idx : Nat} (hl : Cond.fieldLink own idx RX3 "size" "I" ∈ gj_gw) (hd : decode cc pc = .ok (.putfield idx, 3)) (k : gj_H E X nL ce sl Q (pc + 3) lv st (gj_sI σ o (upd (σ.1 o) 0 x))) : gj_H E X nL ce sl Q pc lv (gj_i x :: gj_r o :: st) σ := gj_put hO (C := RX3) (T := TX3) (N := 6) (j := 0) (ty := .int) (σ2 := (gj_sI σ o (upd (σ.1 o) 0 x))) ly_X3 tyX3_ok nmX3 ho hk (by decide) rfl (by decide) rfl hl rfl (by decide +kernel) rfl rfl (Nat.le_of_ble_eq_true rfl) (by simp [gj_sI, gj_fs, upd, gj_tv]) gj_sI_o hd k
theorem gt_X3_1 {E : gj_E} {X : gj_X} {own : String} {cc : ByteArray} {nL : Nat} {rt : Option FieldType} {fr lo : Nat} {ce sl : Nat} {Q : State → Prop} {pc : Nat} {lv : List (Nat × gj_V)} {st : List gj_V} {σ : gj_S} (hO : gj_O E X own cc nL rt fr lo) {o : Nat} (hk : gj_kd o = (3, 0)) (ho : gj_lt own o) {idx : Nat} (hl : Cond.fieldLink own idx RX3 "apex" "I" ∈ gj_gw) (hd : decode cc pc = .ok (.getfield idx, 3)) (k : gj_H E X nL ce sl Q (pc + 3) lv (gj_i (σ.1 o 1) :: st) σ) : gj_H E X nL ce sl Q pc lv (gj_r o :: st) σ := gj_get hO (C := RX3) (T := TX3) (N := 6) (j := 1) ly_X3 ho hk (by decide) rfl (by decide) rfl hl rfl hd k
theorem pt_X3_1 {E : gj_E} {X : gj_X} {own : String} {cc : ByteArray} {nL : Nat} {rt : Option FieldType} {fr lo : Nat} {ce sl : Nat} {Q : State → Prop} {pc : Nat} {lv : List (Nat × gj_V)} {st : List gj_V} {σ : gj_S} (hO : gj_O E X own cc nL rt fr lo) {o : Nat} (hk : gj_kd o = (3, 0)) (ho : gj_lt own o) {x : Int32} {idx : Nat} (hl : Cond.fieldLink own idx RX3 "apex" "I" ∈ gj_gw) (hd : decode cc pc = .ok (.putfield idx, 3)) (k : gj_H E X nL ce sl Q (pc + 3) lv st (gj_sI σ o (upd (σ.1 o) 1 x))) : gj_H E X nL ce sl Q pc lv (gj_i x :: gj_r o :: st) σ := gj_put hO (C := RX3) (T := TX3) (N := 6) (j := 1) (ty := .int) (σ2 := (gj_sI σ o (upd (σ.1 o) 1 x))) ly_X3 tyX3_ok nmX3 ho hk (by decide) rfl (by decide) rfl hl rfl (by decide +kernel) rfl rfl (Nat.le_of_ble_eq_true rfl) (by simp [gj_sI, gj_fs, upd, gj_tv]) gj_sI_o hd k
theorem gt_X3_2 {E : gj_E} {X : gj_X} {own : String} {cc : ByteArray} {nL : Nat} {rt : Option FieldType} {fr lo : Nat} {ce sl : Nat} {Q : State → Prop} {pc : Nat} {lv : List (Nat × gj_V)} {st : List gj_V} {σ : gj_S} (hO : gj_O E X own cc nL rt fr lo) {o : Nat} (hk : gj_kd o = (3, 0)) (ho : gj_lt own o) {idx : Nat} (hl : Cond.fieldLink own idx RX3 "least" "I" ∈ gj_gw) (hd : decode cc pc = .ok (.getfield idx, 3)) (k : gj_H E X nL ce sl Q (pc + 3) lv (gj_i (σ.1 o 2) :: st) σ) : gj_H E X nL ce sl Q pc lv (gj_r o :: st) σ := gj_get hO (C := RX3) (T := TX3) (N := 6) (j := 2) ly_X3 ho hk (by decide) rfl (by decide) rfl hl rfl hd k
theorem pt_X3_2 {E : gj_E} {X : gj_X} {own : String} {cc : ByteArray} {nL : Nat} {rt : Option FieldType} {fr lo : Nat} {ce sl : Nat} {Q : State → Prop} {pc : Nat} {lv : List (Nat × gj_V)} {st : List gj_V} {σ : gj_S} (hO : gj_O E X own cc nL rt fr lo) {o : Nat} (hk : gj_kd o = (3, 0)) (ho : gj_lt own o) {x : Int32} {idx : Nat} (hl : Cond.fieldLink own idx RX3 "least" "I" ∈ gj_gw) (hd : decode cc pc = .ok (.putfield idx, 3)) (k : gj_H E X nL ce sl Q (pc + 3) lv st (gj_sI σ o (upd (σ.1 o) 2 x))) : gj_H E X nL ce sl Q pc lv (gj_i x :: gj_r o :: st) σ := gj_put hO (C := RX3) (T := TX3) (N := 6) (j := 2) (ty := .int) (σ2 := (gj_sI σ o (upd (σ.1 o) 2 x))) ly_X3 tyX3_ok nmX3 ho hk (by decide) rfl (by decide) rfl hl rfl (by decide +kernel) rfl rfl (Nat.le_of_ble_eq_true rfl) (by simp [gj_sI, gj_fs, upd, gj_tv]) gj_sI_o hd k
theorem gt_X3_3 {E : gj_E} {X : gj_X} {own : String} {cc : ByteArray} {nL : Nat} {rt : Option FieldType} {fr lo : Nat} {ce sl : Nat} {Q : State → Prop} {pc : Nat} {lv : List (Nat × gj_V)} {st : List gj_V} {σ : gj_S} (hO : gj_O E X own cc nL rt fr lo) {o : Nat} (hk : gj_kd o = (3, 0)) (ho : gj_lt own o) {idx : Nat} (hl : Cond.fieldLink own idx RX3 "ways" "[I" ∈ gj_gw) (hd : decode cc pc = .ok (.getfield idx, 3)) (k : gj_H E X nL ce sl Q (pc + 3) lv (gj_r (o + 1) :: st) σ) : gj_H E X nL ce sl Q pc lv (gj_r o :: st) σ := gj_get hO (C := RX3) (T := TX3) (N := 6) (j := 3) ly_X3 ho hk (by decide) rfl (by decide) rfl hl rfl hd k
theorem gt_X3_4 {E : gj_E} {X : gj_X} {own : String} {cc : ByteArray} {nL : Nat} {rt : Option FieldType} {fr lo : Nat} {ce sl : Nat} {Q : State → Prop} {pc : Nat} {lv : List (Nat × gj_V)} {st : List gj_V} {σ : gj_S} (hO : gj_O E X own cc nL rt fr lo) {o : Nat} (hk : gj_kd o = (3, 0)) (ho : gj_lt own o) {idx : Nat} (hl : Cond.fieldLink own idx RX3 "alongs" "[Z" ∈ gj_gw) (hd : decode cc pc = .ok (.getfield idx, 3)) (k : gj_H E X nL ce sl Q (pc + 3) lv (gj_r (o + 2) :: st) σ) : gj_H E X nL ce sl Q pc lv (gj_r o :: st) σ := gj_get hO (C := RX3) (T := TX3) (N := 6) (j := 4) ly_X3 ho hk (by decide) rfl (by decide) rfl hl rfl hd k
theorem gt_X3_5 {E : gj_E} {X : gj_X} {own : String} {cc : ByteArray} {nL : Nat} {rt : Option FieldType} {fr lo : Nat} {ce sl : Nat} {Q : State → Prop} {pc : Nat} {lv : List (Nat × gj_V)} {st : List gj_V} {σ : gj_S} (hO : gj_O E X own cc nL rt fr lo) {o : Nat} (hk : gj_kd o = (3, 0)) (ho : gj_lt own o) {idx : Nat} (hl : Cond.fieldLink own idx RX3 "leavingAt" "I" ∈ gj_gw) (hd : decode cc pc = .ok (.getfield idx, 3)) (k : gj_H E X nL ce sl Q (pc + 3) lv (gj_i (σ.1 o 5) :: st) σ) : gj_H E X nL ce sl Q pc lv (gj_r o :: st) σ := gj_get hO (C := RX3) (T := TX3) (N := 6) (j := 5) ly_X3 ho hk (by decide) rfl (by decide) rfl hl rfl hd k
theorem pt_X3_5 {E : gj_E} {X : gj_X} {own : String} {cc : ByteArray} {nL : Nat} {rt : Option FieldType} {fr lo : Nat} {ce sl : Nat} {Q : State → Prop} {pc : Nat} {lv : List (Nat × gj_V)} {st : List gj_V} {σ : gj_S} (hO : gj_O E X own cc nL rt fr lo) {o : Nat} (hk : gj_kd o = (3, 0)) (ho : gj_lt own o) {x : Int32} {idx : Nat} (hl : Cond.fieldLink own idx RX3 "leavingAt" "I" ∈ gj_gw) (hd : decode cc pc = .ok (.putfield idx, 3)) (k : gj_H E X nL ce sl Q (pc + 3) lv st (gj_sI σ o (upd (σ.1 o) 5 x))) : gj_H E X nL ce sl Q pc lv (gj_i x :: gj_r o :: st) σ := gj_put hO (C := RX3) (T := TX3) (N := 6) (j := 5) (ty := .int) (σ2 := (gj_sI σ o (upd (σ.1 o) 5 x))) ly_X3 tyX3_ok nmX3 ho hk (by decide) rfl (by decide) rfl hl rfl (by decide +kernel) rfl rfl (Nat.le_of_ble_eq_true rfl) (by simp [gj_sI, gj_fs, upd, gj_tv]) gj_sI_o hd k
theorem gt_X4_0 {E : gj_E} {X : gj_X} {own : String} {cc : ByteArray} {nL : Nat} {rt : Option FieldType} {fr lo : Nat} {ce sl : Nat} {Q : State → Prop} {pc : Nat} {lv : List (Nat × gj_V)} {st : List gj_V} {σ : gj_S} (hO : gj_O E X own cc nL rt fr lo) {idx : Nat} (hl : Cond.fieldLink own idx RX4 "bytes" "[B" ∈ gj_gw) (hd : decode cc pc = .ok (.getfield idx, 3)) (k : gj_H E X nL ce sl Q (pc + 3) lv (gj_r 169 :: st) σ) : gj_H E X nL ce sl Q pc lv (gj_r 168 :: st) σ := gj_get hO (C := RX4) (T := TX4) (N := 2) (j := 0) ly_X4 kl_168 kd_168 (by decide) rfl (by decide) rfl hl rfl hd k
theorem gt_X4_1 {E : gj_E} {X : gj_X} {own : String} {cc : ByteArray} {nL : Nat} {rt : Option FieldType} {fr lo : Nat} {ce sl : Nat} {Q : State → Prop} {pc : Nat} {lv : List (Nat × gj_V)} {st : List gj_V} {σ : gj_S} (hO : gj_O E X own cc nL rt fr lo) {idx : Nat} (hl : Cond.fieldLink own idx RX4 "length" "I" ∈ gj_gw) (hd : decode cc pc = .ok (.getfield idx, 3)) (k : gj_H E X nL ce sl Q (pc + 3) lv (gj_i (σ.1 168 1) :: st) σ) : gj_H E X nL ce sl Q pc lv (gj_r 168 :: st) σ := gj_get hO (C := RX4) (T := TX4) (N := 2) (j := 1) ly_X4 kl_168 kd_168 (by decide) rfl (by decide) rfl hl rfl hd k
theorem pt_X4_1 {E : gj_E} {X : gj_X} {own : String} {cc : ByteArray} {nL : Nat} {rt : Option FieldType} {fr lo : Nat} {ce sl : Nat} {Q : State → Prop} {pc : Nat} {lv : List (Nat × gj_V)} {st : List gj_V} {σ : gj_S} (hO : gj_O E X own cc nL rt fr lo) {x : Int32} {idx : Nat} (hl : Cond.fieldLink own idx RX4 "length" "I" ∈ gj_gw) (hd : decode cc pc = .ok (.putfield idx, 3)) (k : gj_H E X nL ce sl Q (pc + 3) lv st (gj_sI σ 168 (upd (σ.1 168) 1 x))) : gj_H E X nL ce sl Q pc lv (gj_i x :: gj_r 168 :: st) σ := gj_put hO (C := RX4) (T := TX4) (N := 2) (j := 1) (ty := .int) (σ2 := (gj_sI σ 168 (upd (σ.1 168) 1 x))) ly_X4 tyX4_ok nmX4 kl_168 kd_168 (by decide) rfl (by decide) rfl hl rfl (by decide +kernel) rfl rfl (Nat.le_of_ble_eq_true rfl) rfl gj_sI_o hd k
theorem gt_X5_0 {E : gj_E} {X : gj_X} {own : String} {cc : ByteArray} {nL : Nat} {rt : Option FieldType} {fr lo : Nat} {ce sl : Nat} {Q : State → Prop} {pc : Nat} {lv : List (Nat × gj_V)} {st : List gj_V} {σ : gj_S} (hO : gj_O E X own cc nL rt fr lo) {o : Nat} (hk : gj_kd o = (5, 0)) (ho : gj_lt own o) {idx : Nat} (hl : Cond.fieldLink own idx RX5 "waysUp" "[I" ∈ gj_gw) (hd : decode cc pc = .ok (.getfield idx, 3)) (k : gj_H E X nL ce sl Q (pc + 3) lv (gj_r (o + 1) :: st) σ) : gj_H E X nL ce sl Q pc lv (gj_r o :: st) σ := gj_get hO (C := RX5) (T := TX5) (N := 5) (j := 0) ly_X5 ho hk (by decide) rfl (by decide) rfl hl rfl hd k
theorem gt_X5_1 {E : gj_E} {X : gj_X} {own : String} {cc : ByteArray} {nL : Nat} {rt : Option FieldType} {fr lo : Nat} {ce sl : Nat} {Q : State → Prop} {pc : Nat} {lv : List (Nat × gj_V)} {st : List gj_V} {σ : gj_S} (hO : gj_O E X own cc nL rt fr lo) {o : Nat} (hk : gj_kd o = (5, 0)) (ho : gj_lt own o) {idx : Nat} (hl : Cond.fieldLink own idx RX5 "parents" "[I" ∈ gj_gw) (hd : decode cc pc = .ok (.getfield idx, 3)) (k : gj_H E X nL ce sl Q (pc + 3) lv (gj_r (o + 2) :: st) σ) : gj_H E X nL ce sl Q pc lv (gj_r o :: st) σ := gj_get hO (C := RX5) (T := TX5) (N := 5) (j := 1) ly_X5 ho hk (by decide) rfl (by decide) rfl hl rfl hd k
theorem gt_X5_2 {E : gj_E} {X : gj_X} {own : String} {cc : ByteArray} {nL : Nat} {rt : Option FieldType} {fr lo : Nat} {ce sl : Nat} {Q : State → Prop} {pc : Nat} {lv : List (Nat × gj_V)} {st : List gj_V} {σ : gj_S} (hO : gj_O E X own cc nL rt fr lo) {o : Nat} (hk : gj_kd o = (5, 0)) (ho : gj_lt own o) {idx : Nat} (hl : Cond.fieldLink own idx RX5 "depths" "[I" ∈ gj_gw) (hd : decode cc pc = .ok (.getfield idx, 3)) (k : gj_H E X nL ce sl Q (pc + 3) lv (gj_r (o + 3) :: st) σ) : gj_H E X nL ce sl Q pc lv (gj_r o :: st) σ := gj_get hO (C := RX5) (T := TX5) (N := 5) (j := 2) ly_X5 ho hk (by decide) rfl (by decide) rfl hl rfl hd k
theorem gt_X5_3 {E : gj_E} {X : gj_X} {own : String} {cc : ByteArray} {nL : Nat} {rt : Option FieldType} {fr lo : Nat} {ce sl : Nat} {Q : State → Prop} {pc : Nat} {lv : List (Nat × gj_V)} {st : List gj_V} {σ : gj_S} (hO : gj_O E X own cc nL rt fr lo) {o : Nat} (hk : gj_kd o = (5, 0)) (ho : gj_lt own o) {idx : Nat} (hl : Cond.fieldLink own idx RX5 "prices" "[I" ∈ gj_gw) (hd : decode cc pc = .ok (.getfield idx, 3)) (k : gj_H E X nL ce sl Q (pc + 3) lv (gj_r (o + 4) :: st) σ) : gj_H E X nL ce sl Q pc lv (gj_r o :: st) σ := gj_get hO (C := RX5) (T := TX5) (N := 5) (j := 3) ly_X5 ho hk (by decide) rfl (by decide) rfl hl rfl hd k
theorem gt_X5_4 {E : gj_E} {X : gj_X} {own : String} {cc : ByteArray} {nL : Nat} {rt : Option FieldType} {fr lo : Nat} {ce sl : Nat} {Q : State → Prop} {pc : Nat} {lv : List (Nat × gj_V)} {st : List gj_V} {σ : gj_S} (hO : gj_O E X own cc nL rt fr lo) {o : Nat} (hk : gj_kd o = (5, 0)) (ho : gj_lt own o) {idx : Nat} (hl : Cond.fieldLink own idx RX5 "formerPrices" "[I" ∈ gj_gw) (hd : decode cc pc = .ok (.getfield idx, 3)) (k : gj_H E X nL ce sl Q (pc + 3) lv (gj_r (o + 5) :: st) σ) : gj_H E X nL ce sl Q pc lv (gj_r o :: st) σ := gj_get hO (C := RX5) (T := TX5) (N := 5) (j := 4) ly_X5 ho hk (by decide) rfl (by decide) rfl hl rfl hd k
theorem gt_X6_0 {E : gj_E} {X : gj_X} {own : String} {cc : ByteArray} {nL : Nat} {rt : Option FieldType} {fr lo : Nat} {ce sl : Nat} {Q : State → Prop} {pc : Nat} {lv : List (Nat × gj_V)} {st : List gj_V} {σ : gj_S} (hO : gj_O E X own cc nL rt fr lo) {idx : Nat} (hl : Cond.fieldLink own idx RX6 "least" "[I" ∈ gj_gw) (hd : decode cc pc = .ok (.getfield idx, 3)) (k : gj_H E X nL ce sl Q (pc + 3) lv (gj_r 167 :: st) σ) : gj_H E X nL ce sl Q pc lv (gj_r 166 :: st) σ := gj_get hO (C := RX6) (T := TX6) (N := 1) (j := 0) ly_X6 kl_166 kd_166 (by decide) rfl (by decide) rfl hl rfl hd k
theorem gt_X7_0 {E : gj_E} {X : gj_X} {own : String} {cc : ByteArray} {nL : Nat} {rt : Option FieldType} {fr lo : Nat} {ce sl : Nat} {Q : State → Prop} {pc : Nat} {lv : List (Nat × gj_V)} {st : List gj_V} {σ : gj_S} (hO : gj_O E X own cc nL rt fr lo) {o : Nat} (hk : gj_kd o = (7, 0)) (ho : gj_lt own o) {idx : Nat} (hl : Cond.fieldLink own idx RX7 "plan" "LPivotDocks$Plan;" ∈ gj_gw) (hd : decode cc pc = .ok (.getfield idx, 3)) (k : gj_H E X nL ce sl Q (pc + 3) lv (gj_r (o + 1) :: st) σ) : gj_H E X nL ce sl Q pc lv (gj_r o :: st) σ := gj_get hO (C := RX7) (T := TX7) (N := 4) (j := 0) ly_X7 ho hk (by decide) rfl (by decide) rfl hl rfl hd k
theorem gt_X7_1 {E : gj_E} {X : gj_X} {own : String} {cc : ByteArray} {nL : Nat} {rt : Option FieldType} {fr lo : Nat} {ce sl : Nat} {Q : State → Prop} {pc : Nat} {lv : List (Nat × gj_V)} {st : List gj_V} {σ : gj_S} (hO : gj_O E X own cc nL rt fr lo) {o : Nat} (hk : gj_kd o = (7, 0)) (ho : gj_lt own o) {idx : Nat} (hl : Cond.fieldLink own idx RX7 "tree" "LPivotDocks$Tree;" ∈ gj_gw) (hd : decode cc pc = .ok (.getfield idx, 3)) (k : gj_H E X nL ce sl Q (pc + 3) lv (gj_r (o + 10) :: st) σ) : gj_H E X nL ce sl Q pc lv (gj_r o :: st) σ := gj_get hO (C := RX7) (T := TX7) (N := 4) (j := 1) ly_X7 ho hk (by decide) rfl (by decide) rfl hl rfl hd k
theorem gt_X7_2 {E : gj_E} {X : gj_X} {own : String} {cc : ByteArray} {nL : Nat} {rt : Option FieldType} {fr lo : Nat} {ce sl : Nat} {Q : State → Prop} {pc : Nat} {lv : List (Nat × gj_V)} {st : List gj_V} {σ : gj_S} (hO : gj_O E X own cc nL rt fr lo) {o : Nat} (hk : gj_kd o = (7, 0)) (ho : gj_lt own o) {idx : Nat} (hl : Cond.fieldLink own idx RX7 "closed" "LPivotDocks$Ring;" ∈ gj_gw) (hd : decode cc pc = .ok (.getfield idx, 3)) (k : gj_H E X nL ce sl Q (pc + 3) lv (gj_r (o + 16) :: st) σ) : gj_H E X nL ce sl Q pc lv (gj_r o :: st) σ := gj_get hO (C := RX7) (T := TX7) (N := 4) (j := 2) ly_X7 ho hk (by decide) rfl (by decide) rfl hl rfl hd k
theorem gt_X7_3 {E : gj_E} {X : gj_X} {own : String} {cc : ByteArray} {nL : Nat} {rt : Option FieldType} {fr lo : Nat} {ce sl : Nat} {Q : State → Prop} {pc : Nat} {lv : List (Nat × gj_V)} {st : List gj_V} {σ : gj_S} (hO : gj_O E X own cc nL rt fr lo) {o : Nat} (hk : gj_kd o = (7, 0)) (ho : gj_lt own o) {idx : Nat} (hl : Cond.fieldLink own idx RX7 "behindLooked" "I" ∈ gj_gw) (hd : decode cc pc = .ok (.getfield idx, 3)) (k : gj_H E X nL ce sl Q (pc + 3) lv (gj_i (σ.1 o 3) :: st) σ) : gj_H E X nL ce sl Q pc lv (gj_r o :: st) σ := gj_get hO (C := RX7) (T := TX7) (N := 4) (j := 3) ly_X7 ho hk (by decide) rfl (by decide) rfl hl rfl hd k
theorem pt_X7_3 {E : gj_E} {X : gj_X} {own : String} {cc : ByteArray} {nL : Nat} {rt : Option FieldType} {fr lo : Nat} {ce sl : Nat} {Q : State → Prop} {pc : Nat} {lv : List (Nat × gj_V)} {st : List gj_V} {σ : gj_S} (hO : gj_O E X own cc nL rt fr lo) {o : Nat} (hk : gj_kd o = (7, 0)) (ho : gj_lt own o) {x : Int32} {idx : Nat} (hl : Cond.fieldLink own idx RX7 "behindLooked" "I" ∈ gj_gw) (hd : decode cc pc = .ok (.putfield idx, 3)) (k : gj_H E X nL ce sl Q (pc + 3) lv st (gj_sI σ o (upd (σ.1 o) 3 x))) : gj_H E X nL ce sl Q pc lv (gj_i x :: gj_r o :: st) σ := gj_put hO (C := RX7) (T := TX7) (N := 4) (j := 3) (ty := .int) (σ2 := (gj_sI σ o (upd (σ.1 o) 3 x))) ly_X7 tyX7_ok nmX7 ho hk (by decide) rfl (by decide) rfl hl rfl (by decide +kernel) rfl rfl (Nat.le_of_ble_eq_true rfl) (by simp [gj_sI, gj_fs, upd, gj_tv]) gj_sI_o hd k
theorem gt_X8_0 {E : gj_E} {X : gj_X} {own : String} {cc : ByteArray} {nL : Nat} {rt : Option FieldType} {fr lo : Nat} {ce sl : Nat} {Q : State → Prop} {pc : Nat} {lv : List (Nat × gj_V)} {st : List gj_V} {σ : gj_S} (hO : gj_O E X own cc nL rt fr lo) {idx : Nat} (hl : Cond.fieldLink own idx RX8 "tape" "[B" ∈ gj_gw) (hd : decode cc pc = .ok (.getfield idx, 3)) (k : gj_H E X nL ce sl Q (pc + 3) lv (gj_r 1 :: st) σ) : gj_H E X nL ce sl Q pc lv (gj_r 0 :: st) σ := gj_get hO (C := RX8) (T := TX8) (N := 11) (j := 0) ly_X8 kl_0 kd_0 (by decide) rfl (by decide) rfl hl rfl hd k
theorem gt_X8_1 {E : gj_E} {X : gj_X} {own : String} {cc : ByteArray} {nL : Nat} {rt : Option FieldType} {fr lo : Nat} {ce sl : Nat} {Q : State → Prop} {pc : Nat} {lv : List (Nat × gj_V)} {st : List gj_V} {σ : gj_S} (hO : gj_O E X own cc nL rt fr lo) {idx : Nat} (hl : Cond.fieldLink own idx RX8 "taped" "I" ∈ gj_gw) (hd : decode cc pc = .ok (.getfield idx, 3)) (k : gj_H E X nL ce sl Q (pc + 3) lv (gj_i (σ.1 0 1) :: st) σ) : gj_H E X nL ce sl Q pc lv (gj_r 0 :: st) σ := gj_get hO (C := RX8) (T := TX8) (N := 11) (j := 1) ly_X8 kl_0 kd_0 (by decide) rfl (by decide) rfl hl rfl hd k
theorem pt_X8_1 {E : gj_E} {X : gj_X} {own : String} {cc : ByteArray} {nL : Nat} {rt : Option FieldType} {fr lo : Nat} {ce sl : Nat} {Q : State → Prop} {pc : Nat} {lv : List (Nat × gj_V)} {st : List gj_V} {σ : gj_S} (hO : gj_O E X own cc nL rt fr lo) {x : Int32} {idx : Nat} (hl : Cond.fieldLink own idx RX8 "taped" "I" ∈ gj_gw) (hd : decode cc pc = .ok (.putfield idx, 3)) (k : gj_H E X nL ce sl Q (pc + 3) lv st (gj_sI σ 0 (upd (σ.1 0) 1 x))) : gj_H E X nL ce sl Q pc lv (gj_i x :: gj_r 0 :: st) σ := gj_put hO (C := RX8) (T := TX8) (N := 11) (j := 1) (ty := .int) (σ2 := (gj_sI σ 0 (upd (σ.1 0) 1 x))) ly_X8 tyX8_ok nmX8 kl_0 kd_0 (by decide) rfl (by decide) rfl hl rfl (by decide +kernel) rfl rfl (Nat.le_of_ble_eq_true rfl) rfl gj_sI_o hd k
theorem gt_X8_2 {E : gj_E} {X : gj_X} {own : String} {cc : ByteArray} {nL : Nat} {rt : Option FieldType} {fr lo : Nat} {ce sl : Nat} {Q : State → Prop} {pc : Nat} {lv : List (Nat × gj_V)} {st : List gj_V} {σ : gj_S} (hO : gj_O E X own cc nL rt fr lo) {idx : Nat} (hl : Cond.fieldLink own idx RX8 "reader" "LPivotDocks$Reader;" ∈ gj_gw) (hd : decode cc pc = .ok (.getfield idx, 3)) (k : gj_H E X nL ce sl Q (pc + 3) lv (gj_r 2 :: st) σ) : gj_H E X nL ce sl Q pc lv (gj_r 0 :: st) σ := gj_get hO (C := RX8) (T := TX8) (N := 11) (j := 2) ly_X8 kl_0 kd_0 (by decide) rfl (by decide) rfl hl rfl hd k
theorem gt_X8_3 {E : gj_E} {X : gj_X} {own : String} {cc : ByteArray} {nL : Nat} {rt : Option FieldType} {fr lo : Nat} {ce sl : Nat} {Q : State → Prop} {pc : Nat} {lv : List (Nat × gj_V)} {st : List gj_V} {σ : gj_S} (hO : gj_O E X own cc nL rt fr lo) {idx : Nat} (hl : Cond.fieldLink own idx RX8 "routeNames" "[J" ∈ gj_gw) (hd : decode cc pc = .ok (.getfield idx, 3)) (k : gj_H E X nL ce sl Q (pc + 3) lv (gj_r 15 :: st) σ) : gj_H E X nL ce sl Q pc lv (gj_r 0 :: st) σ := gj_get hO (C := RX8) (T := TX8) (N := 11) (j := 3) ly_X8 kl_0 kd_0 (by decide) rfl (by decide) rfl hl rfl hd k
theorem gt_X8_4 {E : gj_E} {X : gj_X} {own : String} {cc : ByteArray} {nL : Nat} {rt : Option FieldType} {fr lo : Nat} {ce sl : Nat} {Q : State → Prop} {pc : Nat} {lv : List (Nat × gj_V)} {st : List gj_V} {σ : gj_S} (hO : gj_O E X own cc nL rt fr lo) {idx : Nat} (hl : Cond.fieldLink own idx RX8 "yard" "LPivotDocks$Yard;" ∈ gj_gw) (hd : decode cc pc = .ok (.getfield idx, 3)) (k : gj_H E X nL ce sl Q (pc + 3) lv (gj_r 16 :: st) σ) : gj_H E X nL ce sl Q pc lv (gj_r 0 :: st) σ := gj_get hO (C := RX8) (T := TX8) (N := 11) (j := 4) ly_X8 kl_0 kd_0 (by decide) rfl (by decide) rfl hl rfl hd k
theorem gt_X8_5 {E : gj_E} {X : gj_X} {own : String} {cc : ByteArray} {nL : Nat} {rt : Option FieldType} {fr lo : Nat} {ce sl : Nat} {Q : State → Prop} {pc : Nat} {lv : List (Nat × gj_V)} {st : List gj_V} {σ : gj_S} (hO : gj_O E X own cc nL rt fr lo) {idx : Nat} (hl : Cond.fieldLink own idx RX8 "trial" "LPivotDocks$Yard;" ∈ gj_gw) (hd : decode cc pc = .ok (.getfield idx, 3)) (k : gj_H E X nL ce sl Q (pc + 3) lv (gj_r 35 :: st) σ) : gj_H E X nL ce sl Q pc lv (gj_r 0 :: st) σ := gj_get hO (C := RX8) (T := TX8) (N := 11) (j := 5) ly_X8 kl_0 kd_0 (by decide) rfl (by decide) rfl hl rfl hd k
theorem gt_X8_6 {E : gj_E} {X : gj_X} {own : String} {cc : ByteArray} {nL : Nat} {rt : Option FieldType} {fr lo : Nat} {ce sl : Nat} {Q : State → Prop} {pc : Nat} {lv : List (Nat × gj_V)} {st : List gj_V} {σ : gj_S} (hO : gj_O E X own cc nL rt fr lo) {idx : Nat} (hl : Cond.fieldLink own idx RX8 "past" "LPivotDocks$Past;" ∈ gj_gw) (hd : decode cc pc = .ok (.getfield idx, 3)) (k : gj_H E X nL ce sl Q (pc + 3) lv (gj_r 54 :: st) σ) : gj_H E X nL ce sl Q pc lv (gj_r 0 :: st) σ := gj_get hO (C := RX8) (T := TX8) (N := 11) (j := 6) ly_X8 kl_0 kd_0 (by decide) rfl (by decide) rfl hl rfl hd k
theorem gt_X8_7 {E : gj_E} {X : gj_X} {own : String} {cc : ByteArray} {nL : Nat} {rt : Option FieldType} {fr lo : Nat} {ce sl : Nat} {Q : State → Prop} {pc : Nat} {lv : List (Nat × gj_V)} {st : List gj_V} {σ : gj_S} (hO : gj_O E X own cc nL rt fr lo) {idx : Nat} (hl : Cond.fieldLink own idx RX8 "keeps" "[LPivotDocks$Plan;" ∈ gj_gw) (hd : decode cc pc = .ok (.getfield idx, 3)) (k : gj_H E X nL ce sl Q (pc + 3) lv (gj_r 164 :: st) σ) : gj_H E X nL ce sl Q pc lv (gj_r 0 :: st) σ := gj_get hO (C := RX8) (T := TX8) (N := 11) (j := 7) ly_X8 kl_0 kd_0 (by decide) rfl (by decide) rfl hl rfl hd k
theorem gt_X8_8 {E : gj_E} {X : gj_X} {own : String} {cc : ByteArray} {nL : Nat} {rt : Option FieldType} {fr lo : Nat} {ce sl : Nat} {Q : State → Prop} {pc : Nat} {lv : List (Nat × gj_V)} {st : List gj_V} {σ : gj_S} (hO : gj_O E X own cc nL rt fr lo) {idx : Nat} (hl : Cond.fieldLink own idx RX8 "laid" "[Z" ∈ gj_gw) (hd : decode cc pc = .ok (.getfield idx, 3)) (k : gj_H E X nL ce sl Q (pc + 3) lv (gj_r 165 :: st) σ) : gj_H E X nL ce sl Q pc lv (gj_r 0 :: st) σ := gj_get hO (C := RX8) (T := TX8) (N := 11) (j := 8) ly_X8 kl_0 kd_0 (by decide) rfl (by decide) rfl hl rfl hd k
theorem gt_X8_9 {E : gj_E} {X : gj_X} {own : String} {cc : ByteArray} {nL : Nat} {rt : Option FieldType} {fr lo : Nat} {ce sl : Nat} {Q : State → Prop} {pc : Nat} {lv : List (Nat × gj_V)} {st : List gj_V} {σ : gj_S} (hO : gj_O E X own cc nL rt fr lo) {idx : Nat} (hl : Cond.fieldLink own idx RX8 "paths" "LPivotDocks$UnitPaths;" ∈ gj_gw) (hd : decode cc pc = .ok (.getfield idx, 3)) (k : gj_H E X nL ce sl Q (pc + 3) lv (gj_r 166 :: st) σ) : gj_H E X nL ce sl Q pc lv (gj_r 0 :: st) σ := gj_get hO (C := RX8) (T := TX8) (N := 11) (j := 9) ly_X8 kl_0 kd_0 (by decide) rfl (by decide) rfl hl rfl hd k
theorem gt_X8_10 {E : gj_E} {X : gj_X} {own : String} {cc : ByteArray} {nL : Nat} {rt : Option FieldType} {fr lo : Nat} {ce sl : Nat} {Q : State → Prop} {pc : Nat} {lv : List (Nat × gj_V)} {st : List gj_V} {σ : gj_S} (hO : gj_O E X own cc nL rt fr lo) {idx : Nat} (hl : Cond.fieldLink own idx RX8 "page" "LPivotDocks$Sheet;" ∈ gj_gw) (hd : decode cc pc = .ok (.getfield idx, 3)) (k : gj_H E X nL ce sl Q (pc + 3) lv (gj_r 168 :: st) σ) : gj_H E X nL ce sl Q pc lv (gj_r 0 :: st) σ := gj_get hO (C := RX8) (T := TX8) (N := 11) (j := 10) ly_X8 kl_0 kd_0 (by decide) rfl (by decide) rfl hl rfl hd k
theorem gt_X9_0 {E : gj_E} {X : gj_X} {cc : ByteArray} {nL : Nat} {rt : Option FieldType} {fr lo : Nat} {ce sl : Nat} {Q : State → Prop} {pc : Nat} {lv : List (Nat × gj_V)} {st : List gj_V} {σ : gj_S} (hO : gj_O E X RX9 cc nL rt fr lo) {idx : Nat} (hl : Cond.fieldLink RX9 idx RX9 "thrown" "I" ∈ gj_gw) (hd : decode cc pc = .ok (.getfield idx, 3)) (k : gj_H E X nL ce sl Q (pc + 3) lv (gj_i (σ.1 188 0) :: st) σ) : gj_H E X nL ce sl Q pc lv (gj_r 188 :: st) σ := gj_get hO (C := RX9) (T := TX9) (N := 41) (j := 0) ly_X9 kl_188 kd_188 (by decide) rfl (by decide) rfl hl rfl hd k
theorem pt_X9_0 {E : gj_E} {X : gj_X} {cc : ByteArray} {nL : Nat} {rt : Option FieldType} {fr lo : Nat} {ce sl : Nat} {Q : State → Prop} {pc : Nat} {lv : List (Nat × gj_V)} {st : List gj_V} {σ : gj_S} (hO : gj_O E X RX9 cc nL rt fr lo) {x : Int32} {idx : Nat} (hl : Cond.fieldLink RX9 idx RX9 "thrown" "I" ∈ gj_gw) (hd : decode cc pc = .ok (.putfield idx, 3)) (k : gj_H E X nL ce sl Q (pc + 3) lv st (gj_sI σ 188 (upd (σ.1 188) 0 x))) : gj_H E X nL ce sl Q pc lv (gj_i x :: gj_r 188 :: st) σ := gj_put hO (C := RX9) (T := TX9) (N := 41) (j := 0) (ty := .int) (σ2 := (gj_sI σ 188 (upd (σ.1 188) 0 x))) ly_X9 tyX9_ok nmX9 kl_188 kd_188 (by decide) rfl (by decide) rfl hl rfl (by decide +kernel) rfl rfl (Nat.le_of_ble_eq_true rfl) rfl gj_sI_o hd k
theorem gt_X9_1 {E : gj_E} {X : gj_X} {cc : ByteArray} {nL : Nat} {rt : Option FieldType} {fr lo : Nat} {ce sl : Nat} {Q : State → Prop} {pc : Nat} {lv : List (Nat × gj_V)} {st : List gj_V} {σ : gj_S} (hO : gj_O E X RX9 cc nL rt fr lo) {idx : Nat} (hl : Cond.fieldLink RX9 idx RX9 "tape" "[B" ∈ gj_gw) (hd : decode cc pc = .ok (.getfield idx, 3)) (k : gj_H E X nL ce sl Q (pc + 3) lv (gj_r 189 :: st) σ) : gj_H E X nL ce sl Q pc lv (gj_r 188 :: st) σ := gj_get hO (C := RX9) (T := TX9) (N := 41) (j := 1) ly_X9 kl_188 kd_188 (by decide) rfl (by decide) rfl hl rfl hd k
theorem gt_X9_2 {E : gj_E} {X : gj_X} {cc : ByteArray} {nL : Nat} {rt : Option FieldType} {fr lo : Nat} {ce sl : Nat} {Q : State → Prop} {pc : Nat} {lv : List (Nat × gj_V)} {st : List gj_V} {σ : gj_S} (hO : gj_O E X RX9 cc nL rt fr lo) {idx : Nat} (hl : Cond.fieldLink RX9 idx RX9 "taped" "I" ∈ gj_gw) (hd : decode cc pc = .ok (.getfield idx, 3)) (k : gj_H E X nL ce sl Q (pc + 3) lv (gj_i (σ.1 188 2) :: st) σ) : gj_H E X nL ce sl Q pc lv (gj_r 188 :: st) σ := gj_get hO (C := RX9) (T := TX9) (N := 41) (j := 2) ly_X9 kl_188 kd_188 (by decide) rfl (by decide) rfl hl rfl hd k
theorem pt_X9_2 {E : gj_E} {X : gj_X} {cc : ByteArray} {nL : Nat} {rt : Option FieldType} {fr lo : Nat} {ce sl : Nat} {Q : State → Prop} {pc : Nat} {lv : List (Nat × gj_V)} {st : List gj_V} {σ : gj_S} (hO : gj_O E X RX9 cc nL rt fr lo) {x : Int32} {idx : Nat} (hl : Cond.fieldLink RX9 idx RX9 "taped" "I" ∈ gj_gw) (hd : decode cc pc = .ok (.putfield idx, 3)) (k : gj_H E X nL ce sl Q (pc + 3) lv st (gj_sI σ 188 (upd (σ.1 188) 2 x))) : gj_H E X nL ce sl Q pc lv (gj_i x :: gj_r 188 :: st) σ := gj_put hO (C := RX9) (T := TX9) (N := 41) (j := 2) (ty := .int) (σ2 := (gj_sI σ 188 (upd (σ.1 188) 2 x))) ly_X9 tyX9_ok nmX9 kl_188 kd_188 (by decide) rfl (by decide) rfl hl rfl (by decide +kernel) rfl rfl (Nat.le_of_ble_eq_true rfl) rfl gj_sI_o hd k
theorem gt_X9_3 {E : gj_E} {X : gj_X} {cc : ByteArray} {nL : Nat} {rt : Option FieldType} {fr lo : Nat} {ce sl : Nat} {Q : State → Prop} {pc : Nat} {lv : List (Nat × gj_V)} {st : List gj_V} {σ : gj_S} (hO : gj_O E X RX9 cc nL rt fr lo) {idx : Nat} (hl : Cond.fieldLink RX9 idx RX9 "size" "I" ∈ gj_gw) (hd : decode cc pc = .ok (.getfield idx, 3)) (k : gj_H E X nL ce sl Q (pc + 3) lv (gj_i (σ.1 188 3) :: st) σ) : gj_H E X nL ce sl Q pc lv (gj_r 188 :: st) σ := gj_get hO (C := RX9) (T := TX9) (N := 41) (j := 3) ly_X9 kl_188 kd_188 (by decide) rfl (by decide) rfl hl rfl hd k
theorem pt_X9_3 {E : gj_E} {X : gj_X} {cc : ByteArray} {nL : Nat} {rt : Option FieldType} {fr lo : Nat} {ce sl : Nat} {Q : State → Prop} {pc : Nat} {lv : List (Nat × gj_V)} {st : List gj_V} {σ : gj_S} (hO : gj_O E X RX9 cc nL rt fr lo) {x : Int32} {idx : Nat} (hl : Cond.fieldLink RX9 idx RX9 "size" "I" ∈ gj_gw) (hd : decode cc pc = .ok (.putfield idx, 3)) (k : gj_H E X nL ce sl Q (pc + 3) lv st (gj_sI σ 188 (upd (σ.1 188) 3 x))) : gj_H E X nL ce sl Q pc lv (gj_i x :: gj_r 188 :: st) σ := gj_put hO (C := RX9) (T := TX9) (N := 41) (j := 3) (ty := .int) (σ2 := (gj_sI σ 188 (upd (σ.1 188) 3 x))) ly_X9 tyX9_ok nmX9 kl_188 kd_188 (by decide) rfl (by decide) rfl hl rfl (by decide +kernel) rfl rfl (Nat.le_of_ble_eq_true rfl) rfl gj_sI_o hd k
theorem gt_X9_4 {E : gj_E} {X : gj_X} {cc : ByteArray} {nL : Nat} {rt : Option FieldType} {fr lo : Nat} {ce sl : Nat} {Q : State → Prop} {pc : Nat} {lv : List (Nat × gj_V)} {st : List gj_V} {σ : gj_S} (hO : gj_O E X RX9 cc nL rt fr lo) {idx : Nat} (hl : Cond.fieldLink RX9 idx RX9 "from" "I" ∈ gj_gw) (hd : decode cc pc = .ok (.getfield idx, 3)) (k : gj_H E X nL ce sl Q (pc + 3) lv (gj_i (σ.1 188 4) :: st) σ) : gj_H E X nL ce sl Q pc lv (gj_r 188 :: st) σ := gj_get hO (C := RX9) (T := TX9) (N := 41) (j := 4) ly_X9 kl_188 kd_188 (by decide) rfl (by decide) rfl hl rfl hd k
theorem pt_X9_4 {E : gj_E} {X : gj_X} {cc : ByteArray} {nL : Nat} {rt : Option FieldType} {fr lo : Nat} {ce sl : Nat} {Q : State → Prop} {pc : Nat} {lv : List (Nat × gj_V)} {st : List gj_V} {σ : gj_S} (hO : gj_O E X RX9 cc nL rt fr lo) {x : Int32} {idx : Nat} (hl : Cond.fieldLink RX9 idx RX9 "from" "I" ∈ gj_gw) (hd : decode cc pc = .ok (.putfield idx, 3)) (k : gj_H E X nL ce sl Q (pc + 3) lv st (gj_sI σ 188 (upd (σ.1 188) 4 x))) : gj_H E X nL ce sl Q pc lv (gj_i x :: gj_r 188 :: st) σ := gj_put hO (C := RX9) (T := TX9) (N := 41) (j := 4) (ty := .int) (σ2 := (gj_sI σ 188 (upd (σ.1 188) 4 x))) ly_X9 tyX9_ok nmX9 kl_188 kd_188 (by decide) rfl (by decide) rfl hl rfl (by decide +kernel) rfl rfl (Nat.le_of_ble_eq_true rfl) rfl gj_sI_o hd k
theorem gt_X9_5 {E : gj_E} {X : gj_X} {cc : ByteArray} {nL : Nat} {rt : Option FieldType} {fr lo : Nat} {ce sl : Nat} {Q : State → Prop} {pc : Nat} {lv : List (Nat × gj_V)} {st : List gj_V} {σ : gj_S} (hO : gj_O E X RX9 cc nL rt fr lo) {idx : Nat} (hl : Cond.fieldLink RX9 idx RX9 "to" "I" ∈ gj_gw) (hd : decode cc pc = .ok (.getfield idx, 3)) (k : gj_H E X nL ce sl Q (pc + 3) lv (gj_i (σ.1 188 5) :: st) σ) : gj_H E X nL ce sl Q pc lv (gj_r 188 :: st) σ := gj_get hO (C := RX9) (T := TX9) (N := 41) (j := 5) ly_X9 kl_188 kd_188 (by decide) rfl (by decide) rfl hl rfl hd k
theorem pt_X9_5 {E : gj_E} {X : gj_X} {cc : ByteArray} {nL : Nat} {rt : Option FieldType} {fr lo : Nat} {ce sl : Nat} {Q : State → Prop} {pc : Nat} {lv : List (Nat × gj_V)} {st : List gj_V} {σ : gj_S} (hO : gj_O E X RX9 cc nL rt fr lo) {x : Int32} {idx : Nat} (hl : Cond.fieldLink RX9 idx RX9 "to" "I" ∈ gj_gw) (hd : decode cc pc = .ok (.putfield idx, 3)) (k : gj_H E X nL ce sl Q (pc + 3) lv st (gj_sI σ 188 (upd (σ.1 188) 5 x))) : gj_H E X nL ce sl Q pc lv (gj_i x :: gj_r 188 :: st) σ := gj_put hO (C := RX9) (T := TX9) (N := 41) (j := 5) (ty := .int) (σ2 := (gj_sI σ 188 (upd (σ.1 188) 5 x))) ly_X9 tyX9_ok nmX9 kl_188 kd_188 (by decide) rfl (by decide) rfl hl rfl (by decide +kernel) rfl rfl (Nat.le_of_ble_eq_true rfl) rfl gj_sI_o hd k
theorem gt_X9_6 {E : gj_E} {X : gj_X} {cc : ByteArray} {nL : Nat} {rt : Option FieldType} {fr lo : Nat} {ce sl : Nat} {Q : State → Prop} {pc : Nat} {lv : List (Nat × gj_V)} {st : List gj_V} {σ : gj_S} (hO : gj_O E X RX9 cc nL rt fr lo) {idx : Nat} (hl : Cond.fieldLink RX9 idx RX9 "token" "I" ∈ gj_gw) (hd : decode cc pc = .ok (.getfield idx, 3)) (k : gj_H E X nL ce sl Q (pc + 3) lv (gj_i (σ.1 188 6) :: st) σ) : gj_H E X nL ce sl Q pc lv (gj_r 188 :: st) σ := gj_get hO (C := RX9) (T := TX9) (N := 41) (j := 6) ly_X9 kl_188 kd_188 (by decide) rfl (by decide) rfl hl rfl hd k
theorem pt_X9_6 {E : gj_E} {X : gj_X} {cc : ByteArray} {nL : Nat} {rt : Option FieldType} {fr lo : Nat} {ce sl : Nat} {Q : State → Prop} {pc : Nat} {lv : List (Nat × gj_V)} {st : List gj_V} {σ : gj_S} (hO : gj_O E X RX9 cc nL rt fr lo) {x : Int32} {idx : Nat} (hl : Cond.fieldLink RX9 idx RX9 "token" "I" ∈ gj_gw) (hd : decode cc pc = .ok (.putfield idx, 3)) (k : gj_H E X nL ce sl Q (pc + 3) lv st (gj_sI σ 188 (upd (σ.1 188) 6 x))) : gj_H E X nL ce sl Q pc lv (gj_i x :: gj_r 188 :: st) σ := gj_put hO (C := RX9) (T := TX9) (N := 41) (j := 6) (ty := .int) (σ2 := (gj_sI σ 188 (upd (σ.1 188) 6 x))) ly_X9 tyX9_ok nmX9 kl_188 kd_188 (by decide) rfl (by decide) rfl hl rfl (by decide +kernel) rfl rfl (Nat.le_of_ble_eq_true rfl) rfl gj_sI_o hd k
theorem gt_X9_7 {E : gj_E} {X : gj_X} {cc : ByteArray} {nL : Nat} {rt : Option FieldType} {fr lo : Nat} {ce sl : Nat} {Q : State → Prop} {pc : Nat} {lv : List (Nat × gj_V)} {st : List gj_V} {σ : gj_S} (hO : gj_O E X RX9 cc nL rt fr lo) {idx : Nat} (hl : Cond.fieldLink RX9 idx RX9 "value" "I" ∈ gj_gw) (hd : decode cc pc = .ok (.getfield idx, 3)) (k : gj_H E X nL ce sl Q (pc + 3) lv (gj_i (σ.1 188 7) :: st) σ) : gj_H E X nL ce sl Q pc lv (gj_r 188 :: st) σ := gj_get hO (C := RX9) (T := TX9) (N := 41) (j := 7) ly_X9 kl_188 kd_188 (by decide) rfl (by decide) rfl hl rfl hd k
theorem pt_X9_7 {E : gj_E} {X : gj_X} {cc : ByteArray} {nL : Nat} {rt : Option FieldType} {fr lo : Nat} {ce sl : Nat} {Q : State → Prop} {pc : Nat} {lv : List (Nat × gj_V)} {st : List gj_V} {σ : gj_S} (hO : gj_O E X RX9 cc nL rt fr lo) {x : Int32} {idx : Nat} (hl : Cond.fieldLink RX9 idx RX9 "value" "I" ∈ gj_gw) (hd : decode cc pc = .ok (.putfield idx, 3)) (k : gj_H E X nL ce sl Q (pc + 3) lv st (gj_sI σ 188 (upd (σ.1 188) 7 x))) : gj_H E X nL ce sl Q pc lv (gj_i x :: gj_r 188 :: st) σ := gj_put hO (C := RX9) (T := TX9) (N := 41) (j := 7) (ty := .int) (σ2 := (gj_sI σ 188 (upd (σ.1 188) 7 x))) ly_X9 tyX9_ok nmX9 kl_188 kd_188 (by decide) rfl (by decide) rfl hl rfl (by decide +kernel) rfl rfl (Nat.le_of_ble_eq_true rfl) rfl gj_sI_o hd k
theorem gt_X9_8 {E : gj_E} {X : gj_X} {cc : ByteArray} {nL : Nat} {rt : Option FieldType} {fr lo : Nat} {ce sl : Nat} {Q : State → Prop} {pc : Nat} {lv : List (Nat × gj_V)} {st : List gj_V} {σ : gj_S} (hO : gj_O E X RX9 cc nL rt fr lo) {idx : Nat} (hl : Cond.fieldLink RX9 idx RX9 "word" "J" ∈ gj_gw) (hd : decode cc pc = .ok (.getfield idx, 3)) (k : gj_H E X nL ce sl Q (pc + 3) lv (gj_l (σ.2.1 188 8) :: st) σ) : gj_H E X nL ce sl Q pc lv (gj_r 188 :: st) σ := gj_get hO (C := RX9) (T := TX9) (N := 41) (j := 8) ly_X9 kl_188 kd_188 (by decide) rfl (by decide) rfl hl rfl hd k
theorem pt_X9_8 {E : gj_E} {X : gj_X} {cc : ByteArray} {nL : Nat} {rt : Option FieldType} {fr lo : Nat} {ce sl : Nat} {Q : State → Prop} {pc : Nat} {lv : List (Nat × gj_V)} {st : List gj_V} {σ : gj_S} (hO : gj_O E X RX9 cc nL rt fr lo) {x : Int64} {idx : Nat} (hl : Cond.fieldLink RX9 idx RX9 "word" "J" ∈ gj_gw) (hd : decode cc pc = .ok (.putfield idx, 3)) (k : gj_H E X nL ce sl Q (pc + 3) lv st (gj_sJ σ 188 (vp_updL (σ.2.1 188) 8 x))) : gj_H E X nL ce sl Q pc lv (gj_l x :: gj_r 188 :: st) σ := gj_put hO (C := RX9) (T := TX9) (N := 41) (j := 8) (ty := .long) (σ2 := (gj_sJ σ 188 (vp_updL (σ.2.1 188) 8 x))) ly_X9 tyX9_ok nmX9 kl_188 kd_188 (by decide) rfl (by decide) rfl hl rfl (by decide +kernel) rfl rfl (Nat.le_of_ble_eq_true rfl) rfl gj_sJ_o hd k
theorem gt_X9_9 {E : gj_E} {X : gj_X} {cc : ByteArray} {nL : Nat} {rt : Option FieldType} {fr lo : Nat} {ce sl : Nat} {Q : State → Prop} {pc : Nat} {lv : List (Nat × gj_V)} {st : List gj_V} {σ : gj_S} (hO : gj_O E X RX9 cc nL rt fr lo) {idx : Nat} (hl : Cond.fieldLink RX9 idx RX9 "fault" "I" ∈ gj_gw) (hd : decode cc pc = .ok (.getfield idx, 3)) (k : gj_H E X nL ce sl Q (pc + 3) lv (gj_i (σ.1 188 9) :: st) σ) : gj_H E X nL ce sl Q pc lv (gj_r 188 :: st) σ := gj_get hO (C := RX9) (T := TX9) (N := 41) (j := 9) ly_X9 kl_188 kd_188 (by decide) rfl (by decide) rfl hl rfl hd k
theorem pt_X9_9 {E : gj_E} {X : gj_X} {cc : ByteArray} {nL : Nat} {rt : Option FieldType} {fr lo : Nat} {ce sl : Nat} {Q : State → Prop} {pc : Nat} {lv : List (Nat × gj_V)} {st : List gj_V} {σ : gj_S} (hO : gj_O E X RX9 cc nL rt fr lo) {x : Int32} {idx : Nat} (hl : Cond.fieldLink RX9 idx RX9 "fault" "I" ∈ gj_gw) (hd : decode cc pc = .ok (.putfield idx, 3)) (k : gj_H E X nL ce sl Q (pc + 3) lv st (gj_sI σ 188 (upd (σ.1 188) 9 x))) : gj_H E X nL ce sl Q pc lv (gj_i x :: gj_r 188 :: st) σ := gj_put hO (C := RX9) (T := TX9) (N := 41) (j := 9) (ty := .int) (σ2 := (gj_sI σ 188 (upd (σ.1 188) 9 x))) ly_X9 tyX9_ok nmX9 kl_188 kd_188 (by decide) rfl (by decide) rfl hl rfl (by decide +kernel) rfl rfl (Nat.le_of_ble_eq_true rfl) rfl gj_sI_o hd k
theorem gt_X9_10 {E : gj_E} {X : gj_X} {cc : ByteArray} {nL : Nat} {rt : Option FieldType} {fr lo : Nat} {ce sl : Nat} {Q : State → Prop} {pc : Nat} {lv : List (Nat × gj_V)} {st : List gj_V} {σ : gj_S} (hO : gj_O E X RX9 cc nL rt fr lo) {idx : Nat} (hl : Cond.fieldLink RX9 idx RX9 "faultPlace" "I" ∈ gj_gw) (hd : decode cc pc = .ok (.getfield idx, 3)) (k : gj_H E X nL ce sl Q (pc + 3) lv (gj_i (σ.1 188 10) :: st) σ) : gj_H E X nL ce sl Q pc lv (gj_r 188 :: st) σ := gj_get hO (C := RX9) (T := TX9) (N := 41) (j := 10) ly_X9 kl_188 kd_188 (by decide) rfl (by decide) rfl hl rfl hd k
theorem pt_X9_10 {E : gj_E} {X : gj_X} {cc : ByteArray} {nL : Nat} {rt : Option FieldType} {fr lo : Nat} {ce sl : Nat} {Q : State → Prop} {pc : Nat} {lv : List (Nat × gj_V)} {st : List gj_V} {σ : gj_S} (hO : gj_O E X RX9 cc nL rt fr lo) {x : Int32} {idx : Nat} (hl : Cond.fieldLink RX9 idx RX9 "faultPlace" "I" ∈ gj_gw) (hd : decode cc pc = .ok (.putfield idx, 3)) (k : gj_H E X nL ce sl Q (pc + 3) lv st (gj_sI σ 188 (upd (σ.1 188) 10 x))) : gj_H E X nL ce sl Q pc lv (gj_i x :: gj_r 188 :: st) σ := gj_put hO (C := RX9) (T := TX9) (N := 41) (j := 10) (ty := .int) (σ2 := (gj_sI σ 188 (upd (σ.1 188) 10 x))) ly_X9 tyX9_ok nmX9 kl_188 kd_188 (by decide) rfl (by decide) rfl hl rfl (by decide +kernel) rfl rfl (Nat.le_of_ble_eq_true rfl) rfl gj_sI_o hd k
theorem gt_X9_11 {E : gj_E} {X : gj_X} {cc : ByteArray} {nL : Nat} {rt : Option FieldType} {fr lo : Nat} {ce sl : Nat} {Q : State → Prop} {pc : Nat} {lv : List (Nat × gj_V)} {st : List gj_V} {σ : gj_S} (hO : gj_O E X RX9 cc nL rt fr lo) {idx : Nat} (hl : Cond.fieldLink RX9 idx RX9 "docks" "[I" ∈ gj_gw) (hd : decode cc pc = .ok (.getfield idx, 3)) (k : gj_H E X nL ce sl Q (pc + 3) lv (gj_r 190 :: st) σ) : gj_H E X nL ce sl Q pc lv (gj_r 188 :: st) σ := gj_get hO (C := RX9) (T := TX9) (N := 41) (j := 11) ly_X9 kl_188 kd_188 (by decide) rfl (by decide) rfl hl rfl hd k
theorem gt_X9_12 {E : gj_E} {X : gj_X} {cc : ByteArray} {nL : Nat} {rt : Option FieldType} {fr lo : Nat} {ce sl : Nat} {Q : State → Prop} {pc : Nat} {lv : List (Nat × gj_V)} {st : List gj_V} {σ : gj_S} (hO : gj_O E X RX9 cc nL rt fr lo) {idx : Nat} (hl : Cond.fieldLink RX9 idx RX9 "routes" "[I" ∈ gj_gw) (hd : decode cc pc = .ok (.getfield idx, 3)) (k : gj_H E X nL ce sl Q (pc + 3) lv (gj_r 191 :: st) σ) : gj_H E X nL ce sl Q pc lv (gj_r 188 :: st) σ := gj_get hO (C := RX9) (T := TX9) (N := 41) (j := 12) ly_X9 kl_188 kd_188 (by decide) rfl (by decide) rfl hl rfl hd k
theorem gt_X9_13 {E : gj_E} {X : gj_X} {cc : ByteArray} {nL : Nat} {rt : Option FieldType} {fr lo : Nat} {ce sl : Nat} {Q : State → Prop} {pc : Nat} {lv : List (Nat × gj_V)} {st : List gj_V} {σ : gj_S} (hO : gj_O E X RX9 cc nL rt fr lo) {idx : Nat} (hl : Cond.fieldLink RX9 idx RX9 "names" "[J" ∈ gj_gw) (hd : decode cc pc = .ok (.getfield idx, 3)) (k : gj_H E X nL ce sl Q (pc + 3) lv (gj_r 192 :: st) σ) : gj_H E X nL ce sl Q pc lv (gj_r 188 :: st) σ := gj_get hO (C := RX9) (T := TX9) (N := 41) (j := 13) ly_X9 kl_188 kd_188 (by decide) rfl (by decide) rfl hl rfl hd k
theorem gt_X9_14 {E : gj_E} {X : gj_X} {cc : ByteArray} {nL : Nat} {rt : Option FieldType} {fr lo : Nat} {ce sl : Nat} {Q : State → Prop} {pc : Nat} {lv : List (Nat × gj_V)} {st : List gj_V} {σ : gj_S} (hO : gj_O E X RX9 cc nL rt fr lo) {idx : Nat} (hl : Cond.fieldLink RX9 idx RX9 "gives" "[I" ∈ gj_gw) (hd : decode cc pc = .ok (.getfield idx, 3)) (k : gj_H E X nL ce sl Q (pc + 3) lv (gj_r 193 :: st) σ) : gj_H E X nL ce sl Q pc lv (gj_r 188 :: st) σ := gj_get hO (C := RX9) (T := TX9) (N := 41) (j := 14) ly_X9 kl_188 kd_188 (by decide) rfl (by decide) rfl hl rfl hd k
theorem gt_X9_15 {E : gj_E} {X : gj_X} {cc : ByteArray} {nL : Nat} {rt : Option FieldType} {fr lo : Nat} {ce sl : Nat} {Q : State → Prop} {pc : Nat} {lv : List (Nat × gj_V)} {st : List gj_V} {σ : gj_S} (hO : gj_O E X RX9 cc nL rt fr lo) {idx : Nat} (hl : Cond.fieldLink RX9 idx RX9 "begin" "[I" ∈ gj_gw) (hd : decode cc pc = .ok (.getfield idx, 3)) (k : gj_H E X nL ce sl Q (pc + 3) lv (gj_r 194 :: st) σ) : gj_H E X nL ce sl Q pc lv (gj_r 188 :: st) σ := gj_get hO (C := RX9) (T := TX9) (N := 41) (j := 15) ly_X9 kl_188 kd_188 (by decide) rfl (by decide) rfl hl rfl hd k
theorem gt_X9_16 {E : gj_E} {X : gj_X} {cc : ByteArray} {nL : Nat} {rt : Option FieldType} {fr lo : Nat} {ce sl : Nat} {Q : State → Prop} {pc : Nat} {lv : List (Nat × gj_V)} {st : List gj_V} {σ : gj_S} (hO : gj_O E X RX9 cc nL rt fr lo) {idx : Nat} (hl : Cond.fieldLink RX9 idx RX9 "end" "[I" ∈ gj_gw) (hd : decode cc pc = .ok (.getfield idx, 3)) (k : gj_H E X nL ce sl Q (pc + 3) lv (gj_r 195 :: st) σ) : gj_H E X nL ce sl Q pc lv (gj_r 188 :: st) σ := gj_get hO (C := RX9) (T := TX9) (N := 41) (j := 16) ly_X9 kl_188 kd_188 (by decide) rfl (by decide) rfl hl rfl hd k
theorem gt_X9_17 {E : gj_E} {X : gj_X} {cc : ByteArray} {nL : Nat} {rt : Option FieldType} {fr lo : Nat} {ce sl : Nat} {Q : State → Prop} {pc : Nat} {lv : List (Nat × gj_V)} {st : List gj_V} {σ : gj_S} (hO : gj_O E X RX9 cc nL rt fr lo) {idx : Nat} (hl : Cond.fieldLink RX9 idx RX9 "costs" "[I" ∈ gj_gw) (hd : decode cc pc = .ok (.getfield idx, 3)) (k : gj_H E X nL ce sl Q (pc + 3) lv (gj_r 196 :: st) σ) : gj_H E X nL ce sl Q pc lv (gj_r 188 :: st) σ := gj_get hO (C := RX9) (T := TX9) (N := 41) (j := 17) ly_X9 kl_188 kd_188 (by decide) rfl (by decide) rfl hl rfl hd k
theorem gt_X9_18 {E : gj_E} {X : gj_X} {cc : ByteArray} {nL : Nat} {rt : Option FieldType} {fr lo : Nat} {ce sl : Nat} {Q : State → Prop} {pc : Nat} {lv : List (Nat × gj_V)} {st : List gj_V} {σ : gj_S} (hO : gj_O E X RX9 cc nL rt fr lo) {idx : Nat} (hl : Cond.fieldLink RX9 idx RX9 "holds" "[I" ∈ gj_gw) (hd : decode cc pc = .ok (.getfield idx, 3)) (k : gj_H E X nL ce sl Q (pc + 3) lv (gj_r 197 :: st) σ) : gj_H E X nL ce sl Q pc lv (gj_r 188 :: st) σ := gj_get hO (C := RX9) (T := TX9) (N := 41) (j := 18) ly_X9 kl_188 kd_188 (by decide) rfl (by decide) rfl hl rfl hd k
theorem gt_X9_19 {E : gj_E} {X : gj_X} {cc : ByteArray} {nL : Nat} {rt : Option FieldType} {fr lo : Nat} {ce sl : Nat} {Q : State → Prop} {pc : Nat} {lv : List (Nat × gj_V)} {st : List gj_V} {σ : gj_S} (hO : gj_O E X RX9 cc nL rt fr lo) {idx : Nat} (hl : Cond.fieldLink RX9 idx RX9 "blockRead" "I" ∈ gj_gw) (hd : decode cc pc = .ok (.getfield idx, 3)) (k : gj_H E X nL ce sl Q (pc + 3) lv (gj_i (σ.1 188 19) :: st) σ) : gj_H E X nL ce sl Q pc lv (gj_r 188 :: st) σ := gj_get hO (C := RX9) (T := TX9) (N := 41) (j := 19) ly_X9 kl_188 kd_188 (by decide) rfl (by decide) rfl hl rfl hd k
theorem pt_X9_19 {E : gj_E} {X : gj_X} {cc : ByteArray} {nL : Nat} {rt : Option FieldType} {fr lo : Nat} {ce sl : Nat} {Q : State → Prop} {pc : Nat} {lv : List (Nat × gj_V)} {st : List gj_V} {σ : gj_S} (hO : gj_O E X RX9 cc nL rt fr lo) {x : Int32} {idx : Nat} (hl : Cond.fieldLink RX9 idx RX9 "blockRead" "I" ∈ gj_gw) (hd : decode cc pc = .ok (.putfield idx, 3)) (k : gj_H E X nL ce sl Q (pc + 3) lv st (gj_sI σ 188 (upd (σ.1 188) 19 x))) : gj_H E X nL ce sl Q pc lv (gj_i x :: gj_r 188 :: st) σ := gj_put hO (C := RX9) (T := TX9) (N := 41) (j := 19) (ty := .int) (σ2 := (gj_sI σ 188 (upd (σ.1 188) 19 x))) ly_X9 tyX9_ok nmX9 kl_188 kd_188 (by decide) rfl (by decide) rfl hl rfl (by decide +kernel) rfl rfl (Nat.le_of_ble_eq_true rfl) rfl gj_sI_o hd k
theorem gt_X9_20 {E : gj_E} {X : gj_X} {cc : ByteArray} {nL : Nat} {rt : Option FieldType} {fr lo : Nat} {ce sl : Nat} {Q : State → Prop} {pc : Nat} {lv : List (Nat × gj_V)} {st : List gj_V} {σ : gj_S} (hO : gj_O E X RX9 cc nL rt fr lo) {idx : Nat} (hl : Cond.fieldLink RX9 idx RX9 "hasBlock" "Z" ∈ gj_gw) (hd : decode cc pc = .ok (.getfield idx, 3)) (k : gj_H E X nL ce sl Q (pc + 3) lv (gj_i (σ.1 188 20) :: st) σ) : gj_H E X nL ce sl Q pc lv (gj_r 188 :: st) σ := gj_get hO (C := RX9) (T := TX9) (N := 41) (j := 20) ly_X9 kl_188 kd_188 (by decide) rfl (by decide) rfl hl rfl hd k
theorem pt_X9_20 {E : gj_E} {X : gj_X} {cc : ByteArray} {nL : Nat} {rt : Option FieldType} {fr lo : Nat} {ce sl : Nat} {Q : State → Prop} {pc : Nat} {lv : List (Nat × gj_V)} {st : List gj_V} {σ : gj_S} (hO : gj_O E X RX9 cc nL rt fr lo) {x : Int32} (h01 : x = 0 ∨ x = 1) {idx : Nat} (hl : Cond.fieldLink RX9 idx RX9 "hasBlock" "Z" ∈ gj_gw) (hd : decode cc pc = .ok (.putfield idx, 3)) (k : gj_H E X nL ce sl Q (pc + 3) lv st (gj_sI σ 188 (upd (σ.1 188) 20 x))) : gj_H E X nL ce sl Q pc lv (gj_i x :: gj_r 188 :: st) σ := gj_put hO (C := RX9) (T := TX9) (N := 41) (j := 20) (ty := .boolean) (σ2 := (gj_sI σ 188 (upd (σ.1 188) 20 x))) ly_X9 tyX9_ok nmX9 kl_188 kd_188 (by decide) rfl (by decide) rfl hl rfl (by decide +kernel) (by rcases h01 with rfl | rfl <;> rfl) (by rcases h01 with rfl | rfl <;> rfl) (Nat.le_of_ble_eq_true rfl) rfl gj_sI_o hd k
theorem gt_X9_21 {E : gj_E} {X : gj_X} {cc : ByteArray} {nL : Nat} {rt : Option FieldType} {fr lo : Nat} {ce sl : Nat} {Q : State → Prop} {pc : Nat} {lv : List (Nat × gj_V)} {st : List gj_V} {σ : gj_S} (hO : gj_O E X RX9 cc nL rt fr lo) {idx : Nat} (hl : Cond.fieldLink RX9 idx RX9 "s" "[I" ∈ gj_gw) (hd : decode cc pc = .ok (.getfield idx, 3)) (k : gj_H E X nL ce sl Q (pc + 3) lv (gj_r 198 :: st) σ) : gj_H E X nL ce sl Q pc lv (gj_r 188 :: st) σ := gj_get hO (C := RX9) (T := TX9) (N := 41) (j := 21) ly_X9 kl_188 kd_188 (by decide) rfl (by decide) rfl hl rfl hd k
theorem gt_X9_22 {E : gj_E} {X : gj_X} {cc : ByteArray} {nL : Nat} {rt : Option FieldType} {fr lo : Nat} {ce sl : Nat} {Q : State → Prop} {pc : Nat} {lv : List (Nat × gj_V)} {st : List gj_V} {σ : gj_S} (hO : gj_O E X RX9 cc nL rt fr lo) {idx : Nat} (hl : Cond.fieldLink RX9 idx RX9 "undone" "[I" ∈ gj_gw) (hd : decode cc pc = .ok (.getfield idx, 3)) (k : gj_H E X nL ce sl Q (pc + 3) lv (gj_r 199 :: st) σ) : gj_H E X nL ce sl Q pc lv (gj_r 188 :: st) σ := gj_get hO (C := RX9) (T := TX9) (N := 41) (j := 22) ly_X9 kl_188 kd_188 (by decide) rfl (by decide) rfl hl rfl hd k
theorem gt_X9_23 {E : gj_E} {X : gj_X} {cc : ByteArray} {nL : Nat} {rt : Option FieldType} {fr lo : Nat} {ce sl : Nat} {Q : State → Prop} {pc : Nat} {lv : List (Nat × gj_V)} {st : List gj_V} {σ : gj_S} (hO : gj_O E X RX9 cc nL rt fr lo) {idx : Nat} (hl : Cond.fieldLink RX9 idx RX9 "undos" "I" ∈ gj_gw) (hd : decode cc pc = .ok (.getfield idx, 3)) (k : gj_H E X nL ce sl Q (pc + 3) lv (gj_i (σ.1 188 23) :: st) σ) : gj_H E X nL ce sl Q pc lv (gj_r 188 :: st) σ := gj_get hO (C := RX9) (T := TX9) (N := 41) (j := 23) ly_X9 kl_188 kd_188 (by decide) rfl (by decide) rfl hl rfl hd k
theorem pt_X9_23 {E : gj_E} {X : gj_X} {cc : ByteArray} {nL : Nat} {rt : Option FieldType} {fr lo : Nat} {ce sl : Nat} {Q : State → Prop} {pc : Nat} {lv : List (Nat × gj_V)} {st : List gj_V} {σ : gj_S} (hO : gj_O E X RX9 cc nL rt fr lo) {x : Int32} {idx : Nat} (hl : Cond.fieldLink RX9 idx RX9 "undos" "I" ∈ gj_gw) (hd : decode cc pc = .ok (.putfield idx, 3)) (k : gj_H E X nL ce sl Q (pc + 3) lv st (gj_sI σ 188 (upd (σ.1 188) 23 x))) : gj_H E X nL ce sl Q pc lv (gj_i x :: gj_r 188 :: st) σ := gj_put hO (C := RX9) (T := TX9) (N := 41) (j := 23) (ty := .int) (σ2 := (gj_sI σ 188 (upd (σ.1 188) 23 x))) ly_X9 tyX9_ok nmX9 kl_188 kd_188 (by decide) rfl (by decide) rfl hl rfl (by decide +kernel) rfl rfl (Nat.le_of_ble_eq_true rfl) rfl gj_sI_o hd k
theorem gt_X9_24 {E : gj_E} {X : gj_X} {cc : ByteArray} {nL : Nat} {rt : Option FieldType} {fr lo : Nat} {ce sl : Nat} {Q : State → Prop} {pc : Nat} {lv : List (Nat × gj_V)} {st : List gj_V} {σ : gj_S} (hO : gj_O E X RX9 cc nL rt fr lo) {idx : Nat} (hl : Cond.fieldLink RX9 idx RX9 "kept" "[I" ∈ gj_gw) (hd : decode cc pc = .ok (.getfield idx, 3)) (k : gj_H E X nL ce sl Q (pc + 3) lv (gj_r 200 :: st) σ) : gj_H E X nL ce sl Q pc lv (gj_r 188 :: st) σ := gj_get hO (C := RX9) (T := TX9) (N := 41) (j := 24) ly_X9 kl_188 kd_188 (by decide) rfl (by decide) rfl hl rfl hd k
theorem gt_X9_25 {E : gj_E} {X : gj_X} {cc : ByteArray} {nL : Nat} {rt : Option FieldType} {fr lo : Nat} {ce sl : Nat} {Q : State → Prop} {pc : Nat} {lv : List (Nat × gj_V)} {st : List gj_V} {σ : gj_S} (hO : gj_O E X RX9 cc nL rt fr lo) {idx : Nat} (hl : Cond.fieldLink RX9 idx RX9 "isKept" "[Z" ∈ gj_gw) (hd : decode cc pc = .ok (.getfield idx, 3)) (k : gj_H E X nL ce sl Q (pc + 3) lv (gj_r 201 :: st) σ) : gj_H E X nL ce sl Q pc lv (gj_r 188 :: st) σ := gj_get hO (C := RX9) (T := TX9) (N := 41) (j := 25) ly_X9 kl_188 kd_188 (by decide) rfl (by decide) rfl hl rfl hd k
theorem gt_X9_26 {E : gj_E} {X : gj_X} {cc : ByteArray} {nL : Nat} {rt : Option FieldType} {fr lo : Nat} {ce sl : Nat} {Q : State → Prop} {pc : Nat} {lv : List (Nat × gj_V)} {st : List gj_V} {σ : gj_S} (hO : gj_O E X RX9 cc nL rt fr lo) {idx : Nat} (hl : Cond.fieldLink RX9 idx RX9 "aside" "[I" ∈ gj_gw) (hd : decode cc pc = .ok (.getfield idx, 3)) (k : gj_H E X nL ce sl Q (pc + 3) lv (gj_r 202 :: st) σ) : gj_H E X nL ce sl Q pc lv (gj_r 188 :: st) σ := gj_get hO (C := RX9) (T := TX9) (N := 41) (j := 26) ly_X9 kl_188 kd_188 (by decide) rfl (by decide) rfl hl rfl hd k
theorem gt_X9_27 {E : gj_E} {X : gj_X} {cc : ByteArray} {nL : Nat} {rt : Option FieldType} {fr lo : Nat} {ce sl : Nat} {Q : State → Prop} {pc : Nat} {lv : List (Nat × gj_V)} {st : List gj_V} {σ : gj_S} (hO : gj_O E X RX9 cc nL rt fr lo) {idx : Nat} (hl : Cond.fieldLink RX9 idx RX9 "up" "[I" ∈ gj_gw) (hd : decode cc pc = .ok (.getfield idx, 3)) (k : gj_H E X nL ce sl Q (pc + 3) lv (gj_r 203 :: st) σ) : gj_H E X nL ce sl Q pc lv (gj_r 188 :: st) σ := gj_get hO (C := RX9) (T := TX9) (N := 41) (j := 27) ly_X9 kl_188 kd_188 (by decide) rfl (by decide) rfl hl rfl hd k
theorem gt_X9_28 {E : gj_E} {X : gj_X} {cc : ByteArray} {nL : Nat} {rt : Option FieldType} {fr lo : Nat} {ce sl : Nat} {Q : State → Prop} {pc : Nat} {lv : List (Nat × gj_V)} {st : List gj_V} {σ : gj_S} (hO : gj_O E X RX9 cc nL rt fr lo) {idx : Nat} (hl : Cond.fieldLink RX9 idx RX9 "depth" "[I" ∈ gj_gw) (hd : decode cc pc = .ok (.getfield idx, 3)) (k : gj_H E X nL ce sl Q (pc + 3) lv (gj_r 204 :: st) σ) : gj_H E X nL ce sl Q pc lv (gj_r 188 :: st) σ := gj_get hO (C := RX9) (T := TX9) (N := 41) (j := 28) ly_X9 kl_188 kd_188 (by decide) rfl (by decide) rfl hl rfl hd k
theorem gt_X9_29 {E : gj_E} {X : gj_X} {cc : ByteArray} {nL : Nat} {rt : Option FieldType} {fr lo : Nat} {ce sl : Nat} {Q : State → Prop} {pc : Nat} {lv : List (Nat × gj_V)} {st : List gj_V} {σ : gj_S} (hO : gj_O E X RX9 cc nL rt fr lo) {idx : Nat} (hl : Cond.fieldLink RX9 idx RX9 "price" "[I" ∈ gj_gw) (hd : decode cc pc = .ok (.getfield idx, 3)) (k : gj_H E X nL ce sl Q (pc + 3) lv (gj_r 205 :: st) σ) : gj_H E X nL ce sl Q pc lv (gj_r 188 :: st) σ := gj_get hO (C := RX9) (T := TX9) (N := 41) (j := 29) ly_X9 kl_188 kd_188 (by decide) rfl (by decide) rfl hl rfl hd k
theorem gt_X9_30 {E : gj_E} {X : gj_X} {cc : ByteArray} {nL : Nat} {rt : Option FieldType} {fr lo : Nat} {ce sl : Nat} {Q : State → Prop} {pc : Nat} {lv : List (Nat × gj_V)} {st : List gj_V} {σ : gj_S} (hO : gj_O E X RX9 cc nL rt fr lo) {idx : Nat} (hl : Cond.fieldLink RX9 idx RX9 "lookedBehind" "I" ∈ gj_gw) (hd : decode cc pc = .ok (.getfield idx, 3)) (k : gj_H E X nL ce sl Q (pc + 3) lv (gj_i (σ.1 188 30) :: st) σ) : gj_H E X nL ce sl Q pc lv (gj_r 188 :: st) σ := gj_get hO (C := RX9) (T := TX9) (N := 41) (j := 30) ly_X9 kl_188 kd_188 (by decide) rfl (by decide) rfl hl rfl hd k
theorem pt_X9_30 {E : gj_E} {X : gj_X} {cc : ByteArray} {nL : Nat} {rt : Option FieldType} {fr lo : Nat} {ce sl : Nat} {Q : State → Prop} {pc : Nat} {lv : List (Nat × gj_V)} {st : List gj_V} {σ : gj_S} (hO : gj_O E X RX9 cc nL rt fr lo) {x : Int32} {idx : Nat} (hl : Cond.fieldLink RX9 idx RX9 "lookedBehind" "I" ∈ gj_gw) (hd : decode cc pc = .ok (.putfield idx, 3)) (k : gj_H E X nL ce sl Q (pc + 3) lv st (gj_sI σ 188 (upd (σ.1 188) 30 x))) : gj_H E X nL ce sl Q pc lv (gj_i x :: gj_r 188 :: st) σ := gj_put hO (C := RX9) (T := TX9) (N := 41) (j := 30) (ty := .int) (σ2 := (gj_sI σ 188 (upd (σ.1 188) 30 x))) ly_X9 tyX9_ok nmX9 kl_188 kd_188 (by decide) rfl (by decide) rfl hl rfl (by decide +kernel) rfl rfl (Nat.le_of_ble_eq_true rfl) rfl gj_sI_o hd k
theorem gt_X9_31 {E : gj_E} {X : gj_X} {cc : ByteArray} {nL : Nat} {rt : Option FieldType} {fr lo : Nat} {ce sl : Nat} {Q : State → Prop} {pc : Nat} {lv : List (Nat × gj_V)} {st : List gj_V} {σ : gj_S} (hO : gj_O E X RX9 cc nL rt fr lo) {idx : Nat} (hl : Cond.fieldLink RX9 idx RX9 "ring" "[I" ∈ gj_gw) (hd : decode cc pc = .ok (.getfield idx, 3)) (k : gj_H E X nL ce sl Q (pc + 3) lv (gj_r 206 :: st) σ) : gj_H E X nL ce sl Q pc lv (gj_r 188 :: st) σ := gj_get hO (C := RX9) (T := TX9) (N := 41) (j := 31) ly_X9 kl_188 kd_188 (by decide) rfl (by decide) rfl hl rfl hd k
theorem gt_X9_32 {E : gj_E} {X : gj_X} {cc : ByteArray} {nL : Nat} {rt : Option FieldType} {fr lo : Nat} {ce sl : Nat} {Q : State → Prop} {pc : Nat} {lv : List (Nat × gj_V)} {st : List gj_V} {σ : gj_S} (hO : gj_O E X RX9 cc nL rt fr lo) {idx : Nat} (hl : Cond.fieldLink RX9 idx RX9 "along" "[Z" ∈ gj_gw) (hd : decode cc pc = .ok (.getfield idx, 3)) (k : gj_H E X nL ce sl Q (pc + 3) lv (gj_r 207 :: st) σ) : gj_H E X nL ce sl Q pc lv (gj_r 188 :: st) σ := gj_get hO (C := RX9) (T := TX9) (N := 41) (j := 32) ly_X9 kl_188 kd_188 (by decide) rfl (by decide) rfl hl rfl hd k
theorem gt_X9_33 {E : gj_E} {X : gj_X} {cc : ByteArray} {nL : Nat} {rt : Option FieldType} {fr lo : Nat} {ce sl : Nat} {Q : State → Prop} {pc : Nat} {lv : List (Nat × gj_V)} {st : List gj_V} {σ : gj_S} (hO : gj_O E X RX9 cc nL rt fr lo) {idx : Nat} (hl : Cond.fieldLink RX9 idx RX9 "ringMany" "I" ∈ gj_gw) (hd : decode cc pc = .ok (.getfield idx, 3)) (k : gj_H E X nL ce sl Q (pc + 3) lv (gj_i (σ.1 188 33) :: st) σ) : gj_H E X nL ce sl Q pc lv (gj_r 188 :: st) σ := gj_get hO (C := RX9) (T := TX9) (N := 41) (j := 33) ly_X9 kl_188 kd_188 (by decide) rfl (by decide) rfl hl rfl hd k
theorem pt_X9_33 {E : gj_E} {X : gj_X} {cc : ByteArray} {nL : Nat} {rt : Option FieldType} {fr lo : Nat} {ce sl : Nat} {Q : State → Prop} {pc : Nat} {lv : List (Nat × gj_V)} {st : List gj_V} {σ : gj_S} (hO : gj_O E X RX9 cc nL rt fr lo) {x : Int32} {idx : Nat} (hl : Cond.fieldLink RX9 idx RX9 "ringMany" "I" ∈ gj_gw) (hd : decode cc pc = .ok (.putfield idx, 3)) (k : gj_H E X nL ce sl Q (pc + 3) lv st (gj_sI σ 188 (upd (σ.1 188) 33 x))) : gj_H E X nL ce sl Q pc lv (gj_i x :: gj_r 188 :: st) σ := gj_put hO (C := RX9) (T := TX9) (N := 41) (j := 33) (ty := .int) (σ2 := (gj_sI σ 188 (upd (σ.1 188) 33 x))) ly_X9 tyX9_ok nmX9 kl_188 kd_188 (by decide) rfl (by decide) rfl hl rfl (by decide +kernel) rfl rfl (Nat.le_of_ble_eq_true rfl) rfl gj_sI_o hd k
theorem gt_X9_34 {E : gj_E} {X : gj_X} {cc : ByteArray} {nL : Nat} {rt : Option FieldType} {fr lo : Nat} {ce sl : Nat} {Q : State → Prop} {pc : Nat} {lv : List (Nat × gj_V)} {st : List gj_V} {σ : gj_S} (hO : gj_O E X RX9 cc nL rt fr lo) {idx : Nat} (hl : Cond.fieldLink RX9 idx RX9 "apex" "I" ∈ gj_gw) (hd : decode cc pc = .ok (.getfield idx, 3)) (k : gj_H E X nL ce sl Q (pc + 3) lv (gj_i (σ.1 188 34) :: st) σ) : gj_H E X nL ce sl Q pc lv (gj_r 188 :: st) σ := gj_get hO (C := RX9) (T := TX9) (N := 41) (j := 34) ly_X9 kl_188 kd_188 (by decide) rfl (by decide) rfl hl rfl hd k
theorem pt_X9_34 {E : gj_E} {X : gj_X} {cc : ByteArray} {nL : Nat} {rt : Option FieldType} {fr lo : Nat} {ce sl : Nat} {Q : State → Prop} {pc : Nat} {lv : List (Nat × gj_V)} {st : List gj_V} {σ : gj_S} (hO : gj_O E X RX9 cc nL rt fr lo) {x : Int32} {idx : Nat} (hl : Cond.fieldLink RX9 idx RX9 "apex" "I" ∈ gj_gw) (hd : decode cc pc = .ok (.putfield idx, 3)) (k : gj_H E X nL ce sl Q (pc + 3) lv st (gj_sI σ 188 (upd (σ.1 188) 34 x))) : gj_H E X nL ce sl Q pc lv (gj_i x :: gj_r 188 :: st) σ := gj_put hO (C := RX9) (T := TX9) (N := 41) (j := 34) (ty := .int) (σ2 := (gj_sI σ 188 (upd (σ.1 188) 34 x))) ly_X9 tyX9_ok nmX9 kl_188 kd_188 (by decide) rfl (by decide) rfl hl rfl (by decide +kernel) rfl rfl (Nat.le_of_ble_eq_true rfl) rfl gj_sI_o hd k
theorem gt_X9_35 {E : gj_E} {X : gj_X} {cc : ByteArray} {nL : Nat} {rt : Option FieldType} {fr lo : Nat} {ce sl : Nat} {Q : State → Prop} {pc : Nat} {lv : List (Nat × gj_V)} {st : List gj_V} {σ : gj_S} (hO : gj_O E X RX9 cc nL rt fr lo) {idx : Nat} (hl : Cond.fieldLink RX9 idx RX9 "load" "I" ∈ gj_gw) (hd : decode cc pc = .ok (.getfield idx, 3)) (k : gj_H E X nL ce sl Q (pc + 3) lv (gj_i (σ.1 188 35) :: st) σ) : gj_H E X nL ce sl Q pc lv (gj_r 188 :: st) σ := gj_get hO (C := RX9) (T := TX9) (N := 41) (j := 35) ly_X9 kl_188 kd_188 (by decide) rfl (by decide) rfl hl rfl hd k
theorem pt_X9_35 {E : gj_E} {X : gj_X} {cc : ByteArray} {nL : Nat} {rt : Option FieldType} {fr lo : Nat} {ce sl : Nat} {Q : State → Prop} {pc : Nat} {lv : List (Nat × gj_V)} {st : List gj_V} {σ : gj_S} (hO : gj_O E X RX9 cc nL rt fr lo) {x : Int32} {idx : Nat} (hl : Cond.fieldLink RX9 idx RX9 "load" "I" ∈ gj_gw) (hd : decode cc pc = .ok (.putfield idx, 3)) (k : gj_H E X nL ce sl Q (pc + 3) lv st (gj_sI σ 188 (upd (σ.1 188) 35 x))) : gj_H E X nL ce sl Q pc lv (gj_i x :: gj_r 188 :: st) σ := gj_put hO (C := RX9) (T := TX9) (N := 41) (j := 35) (ty := .int) (σ2 := (gj_sI σ 188 (upd (σ.1 188) 35 x))) ly_X9 tyX9_ok nmX9 kl_188 kd_188 (by decide) rfl (by decide) rfl hl rfl (by decide +kernel) rfl rfl (Nat.le_of_ble_eq_true rfl) rfl gj_sI_o hd k
theorem gt_X9_36 {E : gj_E} {X : gj_X} {cc : ByteArray} {nL : Nat} {rt : Option FieldType} {fr lo : Nat} {ce sl : Nat} {Q : State → Prop} {pc : Nat} {lv : List (Nat × gj_V)} {st : List gj_V} {σ : gj_S} (hO : gj_O E X RX9 cc nL rt fr lo) {idx : Nat} (hl : Cond.fieldLink RX9 idx RX9 "leaving" "I" ∈ gj_gw) (hd : decode cc pc = .ok (.getfield idx, 3)) (k : gj_H E X nL ce sl Q (pc + 3) lv (gj_i (σ.1 188 36) :: st) σ) : gj_H E X nL ce sl Q pc lv (gj_r 188 :: st) σ := gj_get hO (C := RX9) (T := TX9) (N := 41) (j := 36) ly_X9 kl_188 kd_188 (by decide) rfl (by decide) rfl hl rfl hd k
theorem pt_X9_36 {E : gj_E} {X : gj_X} {cc : ByteArray} {nL : Nat} {rt : Option FieldType} {fr lo : Nat} {ce sl : Nat} {Q : State → Prop} {pc : Nat} {lv : List (Nat × gj_V)} {st : List gj_V} {σ : gj_S} (hO : gj_O E X RX9 cc nL rt fr lo) {x : Int32} {idx : Nat} (hl : Cond.fieldLink RX9 idx RX9 "leaving" "I" ∈ gj_gw) (hd : decode cc pc = .ok (.putfield idx, 3)) (k : gj_H E X nL ce sl Q (pc + 3) lv st (gj_sI σ 188 (upd (σ.1 188) 36 x))) : gj_H E X nL ce sl Q pc lv (gj_i x :: gj_r 188 :: st) σ := gj_put hO (C := RX9) (T := TX9) (N := 41) (j := 36) (ty := .int) (σ2 := (gj_sI σ 188 (upd (σ.1 188) 36 x))) ly_X9 tyX9_ok nmX9 kl_188 kd_188 (by decide) rfl (by decide) rfl hl rfl (by decide +kernel) rfl rfl (Nat.le_of_ble_eq_true rfl) rfl gj_sI_o hd k
theorem gt_X9_37 {E : gj_E} {X : gj_X} {cc : ByteArray} {nL : Nat} {rt : Option FieldType} {fr lo : Nat} {ce sl : Nat} {Q : State → Prop} {pc : Nat} {lv : List (Nat × gj_V)} {st : List gj_V} {σ : gj_S} (hO : gj_O E X RX9 cc nL rt fr lo) {idx : Nat} (hl : Cond.fieldLink RX9 idx RX9 "priceWas" "[I" ∈ gj_gw) (hd : decode cc pc = .ok (.getfield idx, 3)) (k : gj_H E X nL ce sl Q (pc + 3) lv (gj_r 208 :: st) σ) : gj_H E X nL ce sl Q pc lv (gj_r 188 :: st) σ := gj_get hO (C := RX9) (T := TX9) (N := 41) (j := 37) ly_X9 kl_188 kd_188 (by decide) rfl (by decide) rfl hl rfl hd k
theorem gt_X9_38 {E : gj_E} {X : gj_X} {cc : ByteArray} {nL : Nat} {rt : Option FieldType} {fr lo : Nat} {ce sl : Nat} {Q : State → Prop} {pc : Nat} {lv : List (Nat × gj_V)} {st : List gj_V} {σ : gj_S} (hO : gj_O E X RX9 cc nL rt fr lo) {idx : Nat} (hl : Cond.fieldLink RX9 idx RX9 "dear" "[I" ∈ gj_gw) (hd : decode cc pc = .ok (.getfield idx, 3)) (k : gj_H E X nL ce sl Q (pc + 3) lv (gj_r 209 :: st) σ) : gj_H E X nL ce sl Q pc lv (gj_r 188 :: st) σ := gj_get hO (C := RX9) (T := TX9) (N := 41) (j := 38) ly_X9 kl_188 kd_188 (by decide) rfl (by decide) rfl hl rfl hd k
theorem gt_X9_39 {E : gj_E} {X : gj_X} {cc : ByteArray} {nL : Nat} {rt : Option FieldType} {fr lo : Nat} {ce sl : Nat} {Q : State → Prop} {pc : Nat} {lv : List (Nat × gj_V)} {st : List gj_V} {σ : gj_S} (hO : gj_O E X RX9 cc nL rt fr lo) {idx : Nat} (hl : Cond.fieldLink RX9 idx RX9 "page" "[I" ∈ gj_gw) (hd : decode cc pc = .ok (.getfield idx, 3)) (k : gj_H E X nL ce sl Q (pc + 3) lv (gj_r 210 :: st) σ) : gj_H E X nL ce sl Q pc lv (gj_r 188 :: st) σ := gj_get hO (C := RX9) (T := TX9) (N := 41) (j := 39) ly_X9 kl_188 kd_188 (by decide) rfl (by decide) rfl hl rfl hd k
theorem gt_X9_40 {E : gj_E} {X : gj_X} {cc : ByteArray} {nL : Nat} {rt : Option FieldType} {fr lo : Nat} {ce sl : Nat} {Q : State → Prop} {pc : Nat} {lv : List (Nat × gj_V)} {st : List gj_V} {σ : gj_S} (hO : gj_O E X RX9 cc nL rt fr lo) {idx : Nat} (hl : Cond.fieldLink RX9 idx RX9 "pageMany" "I" ∈ gj_gw) (hd : decode cc pc = .ok (.getfield idx, 3)) (k : gj_H E X nL ce sl Q (pc + 3) lv (gj_i (σ.1 188 40) :: st) σ) : gj_H E X nL ce sl Q pc lv (gj_r 188 :: st) σ := gj_get hO (C := RX9) (T := TX9) (N := 41) (j := 40) ly_X9 kl_188 kd_188 (by decide) rfl (by decide) rfl hl rfl hd k
theorem pt_X9_40 {E : gj_E} {X : gj_X} {cc : ByteArray} {nL : Nat} {rt : Option FieldType} {fr lo : Nat} {ce sl : Nat} {Q : State → Prop} {pc : Nat} {lv : List (Nat × gj_V)} {st : List gj_V} {σ : gj_S} (hO : gj_O E X RX9 cc nL rt fr lo) {x : Int32} {idx : Nat} (hl : Cond.fieldLink RX9 idx RX9 "pageMany" "I" ∈ gj_gw) (hd : decode cc pc = .ok (.putfield idx, 3)) (k : gj_H E X nL ce sl Q (pc + 3) lv st (gj_sI σ 188 (upd (σ.1 188) 40 x))) : gj_H E X nL ce sl Q pc lv (gj_i x :: gj_r 188 :: st) σ := gj_put hO (C := RX9) (T := TX9) (N := 41) (j := 40) (ty := .int) (σ2 := (gj_sI σ 188 (upd (σ.1 188) 40 x))) ly_X9 tyX9_ok nmX9 kl_188 kd_188 (by decide) rfl (by decide) rfl hl rfl (by decide +kernel) rfl rfl (Nat.le_of_ble_eq_true rfl) rfl gj_sI_o hd k
