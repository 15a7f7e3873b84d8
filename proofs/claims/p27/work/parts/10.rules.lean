section
variable {E : gj_E} {X : gj_X} {own : String} {cc : ByteArray} {nL : Nat} {rt : Option FieldType} {fr lo : Nat} {r : Option gj_V} {τ : gj_S} {ce sl : Nat} {Q : State → Prop} {pc : Nat} {lv : List (Nat × gj_V)} {st : List gj_V} {σ : gj_S}
theorem gj_iconst (hO : gj_O E X own cc nL rt fr lo) {n : Int} {v : Int32} (hd : decode cc pc = .ok (.iconst n, 1)) (hv : Int32.ofInt n = v) (k : gj_H E X nL ce sl Q (pc + 1) lv (gj_i v :: st) σ) : gj_H E X nL ce sl Q pc lv st σ := by
  obtain ⟨p, e, R, s, m, args, below, meth, c⟩ := X
  obtain ⟨hx, hb, hml, hown, hts, hK, hi, hr, hlk, hfr, hlo⟩ := hO
  intro hcs H locs ls hW hS hl
  exact lv_iconst hx hb hd hv (k hcs H locs ls hW hS hl)
theorem gj_bipush (hO : gj_O E X own cc nL rt fr lo) {n : Int} {v : Int32} (hd : decode cc pc = .ok (.bipush n, 2)) (hv : (Int8.ofInt n).toInt32 = v) (k : gj_H E X nL ce sl Q (pc + 2) lv (gj_i v :: st) σ) : gj_H E X nL ce sl Q pc lv st σ := by
  obtain ⟨p, e, R, s, m, args, below, meth, c⟩ := X
  obtain ⟨hx, hb, hml, hown, hts, hK, hi, hr, hlk, hfr, hlo⟩ := hO
  intro hcs H locs ls hW hS hl
  exact lv_bipush hx hb hd hv (k hcs H locs ls hW hS hl)
theorem gj_sipush (hO : gj_O E X own cc nL rt fr lo) {n : Int} {v : Int32} (hd : decode cc pc = .ok (.sipush n, 3)) (hv : (Int16.ofInt n).toInt32 = v) (k : gj_H E X nL ce sl Q (pc + 3) lv (gj_i v :: st) σ) : gj_H E X nL ce sl Q pc lv st σ := by
  obtain ⟨p, e, R, s, m, args, below, meth, c⟩ := X
  obtain ⟨hx, hb, hml, hown, hts, hK, hi, hr, hlk, hfr, hlo⟩ := hO
  intro hcs H locs ls hW hS hl
  exact lv_sipush hx hb hd hv (k hcs H locs ls hW hS hl)
theorem gj_lconst (hO : gj_O E X own cc nL rt fr lo) {n : Fin 2} {v : Int64} (hd : decode cc pc = .ok (.lconst n, 1)) (hv : Int64.ofNat (n : Nat) = v) (k : gj_H E X nL ce sl Q (pc + 1) lv (gj_l v :: st) σ) : gj_H E X nL ce sl Q pc lv st σ := by
  obtain ⟨p, e, R, s, m, args, below, meth, c⟩ := X
  obtain ⟨hx, hb, hml, hown, hts, hK, hi, hr, hlk, hfr, hlo⟩ := hO
  intro hcs H locs ls hW hS hl
  exact lv_lconst hx hb hd hv (k hcs H locs ls hW hS hl)
theorem gj_ldc (hO : gj_O E X own cc nL rt fr lo) {index : Nat} {v : Int32} (hc : Jvm.Cond.constant own index v ∈ gj_gw) (hd : decode cc pc = .ok (.ldc index, 2)) (k : gj_H E X nL ce sl Q (pc + 2) lv (gj_i v :: st) σ) : gj_H E X nL ce sl Q pc lv st σ := by
  obtain ⟨p, e, R, s, m, args, below, meth, c⟩ := X
  obtain ⟨hx, hb, hml, hown, hts, hK, hi, hr, hlk, hfr, hlo⟩ := hO
  intro hcs H locs ls hW hS hl
  exact lv_ldc hx hb hown (hts _ hc) hd (k hcs H locs ls hW hS hl)
theorem gj_ldcw (hO : gj_O E X own cc nL rt fr lo) {index : Nat} {v : Int32} (hc : Jvm.Cond.constant own index v ∈ gj_gw) (hd : decode cc pc = .ok (.ldc_w index, 3)) (k : gj_H E X nL ce sl Q (pc + 3) lv (gj_i v :: st) σ) : gj_H E X nL ce sl Q pc lv st σ := by
  obtain ⟨p, e, R, s, m, args, below, meth, c⟩ := X
  obtain ⟨hx, hb, hml, hown, hts, hK, hi, hr, hlk, hfr, hlo⟩ := hO
  intro hcs H locs ls hW hS hl
  exact lv_ldcw hx hb hown (hts _ hc) hd (k hcs H locs ls hW hS hl)
theorem gj_ldc2 (hO : gj_O E X own cc nL rt fr lo) {index : Nat} {v : Int64} (hc : Jvm.Cond.constantLong own index v ∈ gj_gw) (hd : decode cc pc = .ok (.ldc2_w index, 3)) (k : gj_H E X nL ce sl Q (pc + 3) lv (gj_l v :: st) σ) : gj_H E X nL ce sl Q pc lv st σ := by
  obtain ⟨p, e, R, s, m, args, below, meth, c⟩ := X
  obtain ⟨hx, hb, hml, hown, hts, hK, hi, hr, hlk, hfr, hlo⟩ := hO
  intro hcs H locs ls hW hS hl
  exact lv_ldc2 hx hb hown (hts _ hc) hd (k hcs H locs ls hW hS hl)
theorem gj_iload_n (hO : gj_O E X own cc nL rt fr lo) {n : Fin 4} {i : Nat} (j : Nat) {x : Int32} (hd : decode cc pc = .ok (.iload_n n, 1)) (hn : (n : Nat) = i) (hj : lv[j]? = some (i, gj_i x)) (k : gj_H E X nL ce sl Q (pc + 1) lv (gj_i x :: st) σ) : gj_H E X nL ce sl Q pc lv st σ := by
  obtain ⟨p, e, R, s, m, args, below, meth, c⟩ := X
  obtain ⟨hx, hb, hml, hown, hts, hK, hi, hr, hlk, hfr, hlo⟩ := hO
  intro hcs H locs ls hW hS hl
  exact lv_iload_n hx hb hd hn (lv_at hl j (by unfold gj_L; rw [List.getElem?_map, hj]; rfl)) (k hcs H locs ls hW hS hl)
theorem gj_iload (hO : gj_O E X own cc nL rt fr lo) {i : Nat} (j : Nat) {x : Int32} (hd : decode cc pc = .ok (.iload i, 2)) (hj : lv[j]? = some (i, gj_i x)) (k : gj_H E X nL ce sl Q (pc + 2) lv (gj_i x :: st) σ) : gj_H E X nL ce sl Q pc lv st σ := by
  obtain ⟨p, e, R, s, m, args, below, meth, c⟩ := X
  obtain ⟨hx, hb, hml, hown, hts, hK, hi, hr, hlk, hfr, hlo⟩ := hO
  intro hcs H locs ls hW hS hl
  exact lv_iload hx hb hd (lv_at hl j (by unfold gj_L; rw [List.getElem?_map, hj]; rfl)) (k hcs H locs ls hW hS hl)
theorem gj_lload_n (hO : gj_O E X own cc nL rt fr lo) {n : Fin 4} {i : Nat} (j : Nat) {x : Int64} (hd : decode cc pc = .ok (.lload_n n, 1)) (hn : (n : Nat) = i) (hj : lv[j]? = some (i, gj_l x)) (k : gj_H E X nL ce sl Q (pc + 1) lv (gj_l x :: st) σ) : gj_H E X nL ce sl Q pc lv st σ := by
  obtain ⟨p, e, R, s, m, args, below, meth, c⟩ := X
  obtain ⟨hx, hb, hml, hown, hts, hK, hi, hr, hlk, hfr, hlo⟩ := hO
  intro hcs H locs ls hW hS hl
  exact lv_lload_n hx hb hd hn (lv_at hl j (by unfold gj_L; rw [List.getElem?_map, hj]; rfl)) (k hcs H locs ls hW hS hl)
theorem gj_lload (hO : gj_O E X own cc nL rt fr lo) {i : Nat} (j : Nat) {x : Int64} (hd : decode cc pc = .ok (.lload i, 2)) (hj : lv[j]? = some (i, gj_l x)) (k : gj_H E X nL ce sl Q (pc + 2) lv (gj_l x :: st) σ) : gj_H E X nL ce sl Q pc lv st σ := by
  obtain ⟨p, e, R, s, m, args, below, meth, c⟩ := X
  obtain ⟨hx, hb, hml, hown, hts, hK, hi, hr, hlk, hfr, hlo⟩ := hO
  intro hcs H locs ls hW hS hl
  exact lv_lload hx hb hd (lv_at hl j (by unfold gj_L; rw [List.getElem?_map, hj]; rfl)) (k hcs H locs ls hW hS hl)
theorem gj_aload_n (hO : gj_O E X own cc nL rt fr lo) {n : Fin 4} {i : Nat} (j : Nat) {x : Nat} (hd : decode cc pc = .ok (.aload_n n, 1)) (hn : (n : Nat) = i) (hj : lv[j]? = some (i, gj_r x)) (k : gj_H E X nL ce sl Q (pc + 1) lv (gj_r x :: st) σ) : gj_H E X nL ce sl Q pc lv st σ := by
  obtain ⟨p, e, R, s, m, args, below, meth, c⟩ := X
  obtain ⟨hx, hb, hml, hown, hts, hK, hi, hr, hlk, hfr, hlo⟩ := hO
  intro hcs H locs ls hW hS hl
  exact lv_aload_n hx hb hd hn (lv_at hl j (by unfold gj_L; rw [List.getElem?_map, hj]; rfl)) (k hcs H locs ls hW hS hl)
theorem gj_aload (hO : gj_O E X own cc nL rt fr lo) {i : Nat} (j : Nat) {x : Nat} (hd : decode cc pc = .ok (.aload i, 2)) (hj : lv[j]? = some (i, gj_r x)) (k : gj_H E X nL ce sl Q (pc + 2) lv (gj_r x :: st) σ) : gj_H E X nL ce sl Q pc lv st σ := by
  obtain ⟨p, e, R, s, m, args, below, meth, c⟩ := X
  obtain ⟨hx, hb, hml, hown, hts, hK, hi, hr, hlk, hfr, hlo⟩ := hO
  intro hcs H locs ls hW hS hl
  exact lv_aload hx hb hd (lv_at hl j (by unfold gj_L; rw [List.getElem?_map, hj]; rfl)) (k hcs H locs ls hW hS hl)
theorem gj_L_sub {ad : Nat → Nat} {lv lv2 : List (Nat × gj_V)} {ls : Array Slot} {n : Nat} {L : List (Nat × Value)} (h : lv_has ls n L) (ks : List Nat) (hk : lv_pick L ks = gj_L ad lv2) : lv_has ls n (gj_L ad lv2) := lv_sub h ks hk
def gj_put1 (lv : List (Nat × gj_V)) (i : Nat) (v : gj_V) : List (Nat × gj_V) := (i, v) :: lv.filter (fun q => !(q.1 == i) && !(q.1 + 1 == i && (match q.2 with | .inr (.inl _) => true | _ => false)))
def gj_put2 (lv : List (Nat × gj_V)) (i : Nat) (v : gj_V) : List (Nat × gj_V) := (i, v) :: lv.filter (fun q => !(q.1 == i) && (!(q.1 == i + 1) && !(q.1 + 1 == i && (match q.2 with | .inr (.inl _) => true | _ => false))))
theorem gj_cat (ad : Nat → Nat) (v : gj_V) : ((gj_tv ad v).category == 2) = (match v with | .inr (.inl _) => true | _ => false) := by
  rcases v with x | x | x <;> rfl
theorem gj_put1_L (ad : Nat → Nat) (lv : List (Nat × gj_V)) (i : Nat) (v : gj_V) : (i, gj_tv ad v) :: (gj_L ad lv).filter (fun q => !(q.1 == i) && !(q.1 + 1 == i && q.2.category == 2)) = gj_L ad (gj_put1 lv i v) := by
  unfold gj_L gj_put1
  rw [List.map_cons, List.filter_map]
  refine congrArg (List.cons _) (congrArg (List.map _) (List.filter_congr fun q _ => ?_))
  simp only [Function.comp, gj_cat]
theorem gj_put2_L (ad : Nat → Nat) (lv : List (Nat × gj_V)) (i : Nat) (v : gj_V) : (i, gj_tv ad v) :: (gj_L ad lv).filter (fun q => !(q.1 == i) && (!(q.1 == i + 1) && !(q.1 + 1 == i && q.2.category == 2))) = gj_L ad (gj_put2 lv i v) := by
  unfold gj_L gj_put2
  rw [List.map_cons, List.filter_map]
  refine congrArg (List.cons _) (congrArg (List.map _) (List.filter_congr fun q _ => ?_))
  simp only [Function.comp, gj_cat]
theorem gj_istore_n (hO : gj_O E X own cc nL rt fr lo) {n : Fin 4} {i : Nat} {x : Int32} {lv2 : List (Nat × gj_V)} (hd : decode cc pc = .ok (.istore_n n, 1)) (hn : (n : Nat) = i) (hb2 : i < nL) (hv : gj_put1 lv i (gj_i x) = lv2) (k : gj_H E X nL ce sl Q (pc + 1) lv2 st σ) : gj_H E X nL ce sl Q pc lv (gj_i x :: st) σ := by
  obtain ⟨p, e, R, s, m, args, below, meth, c⟩ := X
  obtain ⟨hx, hb, hml, hown, hts, hK, hi, hr, hlk, hfr, hlo⟩ := hO
  intro hcs H locs ls hW hS hl
  subst hv
  exact lv_istore_n hx hb hd hn hl hb2 (gj_put1_L E.2.1 lv i (gj_i x)) (fun ls2 hl2 => k hcs H locs ls2 hW hS hl2)
theorem gj_istore (hO : gj_O E X own cc nL rt fr lo) {i : Nat} {x : Int32} {lv2 : List (Nat × gj_V)} (hd : decode cc pc = .ok (.istore i, 2)) (hb2 : i < nL) (hv : gj_put1 lv i (gj_i x) = lv2) (k : gj_H E X nL ce sl Q (pc + 2) lv2 st σ) : gj_H E X nL ce sl Q pc lv (gj_i x :: st) σ := by
  obtain ⟨p, e, R, s, m, args, below, meth, c⟩ := X
  obtain ⟨hx, hb, hml, hown, hts, hK, hi, hr, hlk, hfr, hlo⟩ := hO
  intro hcs H locs ls hW hS hl
  subst hv
  exact lv_istore hx hb hd hl hb2 (gj_put1_L E.2.1 lv i (gj_i x)) (fun ls2 hl2 => k hcs H locs ls2 hW hS hl2)
theorem gj_lstore_n (hO : gj_O E X own cc nL rt fr lo) {n : Fin 4} {i : Nat} {x : Int64} {lv2 : List (Nat × gj_V)} (hd : decode cc pc = .ok (.lstore_n n, 1)) (hn : (n : Nat) = i) (hb2 : i + 1 < nL) (hv : gj_put2 lv i (gj_l x) = lv2) (k : gj_H E X nL ce sl Q (pc + 1) lv2 st σ) : gj_H E X nL ce sl Q pc lv (gj_l x :: st) σ := by
  obtain ⟨p, e, R, s, m, args, below, meth, c⟩ := X
  obtain ⟨hx, hb, hml, hown, hts, hK, hi, hr, hlk, hfr, hlo⟩ := hO
  intro hcs H locs ls hW hS hl
  subst hv
  exact lv_lstore_n hx hb hd hn hl hb2 (gj_put2_L E.2.1 lv i (gj_l x)) (fun ls2 hl2 => k hcs H locs ls2 hW hS hl2)
theorem gj_lstore (hO : gj_O E X own cc nL rt fr lo) {i : Nat} {x : Int64} {lv2 : List (Nat × gj_V)} (hd : decode cc pc = .ok (.lstore i, 2)) (hb2 : i + 1 < nL) (hv : gj_put2 lv i (gj_l x) = lv2) (k : gj_H E X nL ce sl Q (pc + 2) lv2 st σ) : gj_H E X nL ce sl Q pc lv (gj_l x :: st) σ := by
  obtain ⟨p, e, R, s, m, args, below, meth, c⟩ := X
  obtain ⟨hx, hb, hml, hown, hts, hK, hi, hr, hlk, hfr, hlo⟩ := hO
  intro hcs H locs ls hW hS hl
  subst hv
  exact lv_lstore hx hb hd hl hb2 (gj_put2_L E.2.1 lv i (gj_l x)) (fun ls2 hl2 => k hcs H locs ls2 hW hS hl2)
theorem gj_astore_n (hO : gj_O E X own cc nL rt fr lo) {n : Fin 4} {i : Nat} {x : Nat} {lv2 : List (Nat × gj_V)} (hd : decode cc pc = .ok (.astore_n n, 1)) (hn : (n : Nat) = i) (hb2 : i < nL) (hv : gj_put1 lv i (gj_r x) = lv2) (k : gj_H E X nL ce sl Q (pc + 1) lv2 st σ) : gj_H E X nL ce sl Q pc lv (gj_r x :: st) σ := by
  obtain ⟨p, e, R, s, m, args, below, meth, c⟩ := X
  obtain ⟨hx, hb, hml, hown, hts, hK, hi, hr, hlk, hfr, hlo⟩ := hO
  intro hcs H locs ls hW hS hl
  subst hv
  exact lv_astore_n hx hb hd hn hl hb2 (gj_put1_L E.2.1 lv i (gj_r x)) (fun ls2 hl2 => k hcs H locs ls2 hW hS hl2)
theorem gj_astore (hO : gj_O E X own cc nL rt fr lo) {i : Nat} {x : Nat} {lv2 : List (Nat × gj_V)} (hd : decode cc pc = .ok (.astore i, 2)) (hb2 : i < nL) (hv : gj_put1 lv i (gj_r x) = lv2) (k : gj_H E X nL ce sl Q (pc + 2) lv2 st σ) : gj_H E X nL ce sl Q pc lv (gj_r x :: st) σ := by
  obtain ⟨p, e, R, s, m, args, below, meth, c⟩ := X
  obtain ⟨hx, hb, hml, hown, hts, hK, hi, hr, hlk, hfr, hlo⟩ := hO
  intro hcs H locs ls hW hS hl
  subst hv
  exact lv_astore hx hb hd hl hb2 (gj_put1_L E.2.1 lv i (gj_r x)) (fun ls2 hl2 => k hcs H locs ls2 hW hS hl2)
theorem gj_iinc (hO : gj_O E X own cc nL rt fr lo) {i : Nat} {n : Int} (j : Nat) {x v : Int32} {lv2 : List (Nat × gj_V)} (hd : decode cc pc = .ok (.iinc i n, 3)) (hj : lv[j]? = some (i, gj_i x)) (hw : x + Int32.ofInt n = v) (hb2 : i < nL) (hv : gj_put1 lv i (gj_i v) = lv2) (k : gj_H E X nL ce sl Q (pc + 3) lv2 st σ) : gj_H E X nL ce sl Q pc lv st σ := by
  obtain ⟨p, e, R, s, m, args, below, meth, c⟩ := X
  obtain ⟨hx, hb, hml, hown, hts, hK, hi, hr, hlk, hfr, hlo⟩ := hO
  intro hcs H locs ls hW hS hl
  subst hv
  exact lv_iinc hx hb hd hl (k := j) (by unfold gj_L; rw [List.getElem?_map, hj]; rfl) hw hb2 (gj_put1_L E.2.1 lv i (gj_i v)) (fun ls2 hl2 => k hcs H locs ls2 hW hS hl2)
theorem gj_iadd (hO : gj_O E X own cc nL rt fr lo) {x y : Int32} (hd : decode cc pc = .ok (.iadd, 1)) (k : gj_H E X nL ce sl Q (pc + 1) lv (gj_i (x + y) :: st) σ) : gj_H E X nL ce sl Q pc lv (gj_i y :: gj_i x :: st) σ := by
  obtain ⟨p, e, R, s, m, args, below, meth, c⟩ := X
  obtain ⟨hx, hb, hml, hown, hts, hK, hi, hr, hlk, hfr, hlo⟩ := hO
  intro hcs H locs ls hW hS hl
  exact lv_iadd hx hb hd (k hcs H locs ls hW hS hl)
theorem gj_isub (hO : gj_O E X own cc nL rt fr lo) {x y : Int32} (hd : decode cc pc = .ok (.isub, 1)) (k : gj_H E X nL ce sl Q (pc + 1) lv (gj_i (x - y) :: st) σ) : gj_H E X nL ce sl Q pc lv (gj_i y :: gj_i x :: st) σ := by
  obtain ⟨p, e, R, s, m, args, below, meth, c⟩ := X
  obtain ⟨hx, hb, hml, hown, hts, hK, hi, hr, hlk, hfr, hlo⟩ := hO
  intro hcs H locs ls hW hS hl
  exact lv_isub hx hb hd (k hcs H locs ls hW hS hl)
theorem gj_imul (hO : gj_O E X own cc nL rt fr lo) {x y : Int32} (hd : decode cc pc = .ok (.imul, 1)) (k : gj_H E X nL ce sl Q (pc + 1) lv (gj_i (x * y) :: st) σ) : gj_H E X nL ce sl Q pc lv (gj_i y :: gj_i x :: st) σ := by
  obtain ⟨p, e, R, s, m, args, below, meth, c⟩ := X
  obtain ⟨hx, hb, hml, hown, hts, hK, hi, hr, hlk, hfr, hlo⟩ := hO
  intro hcs H locs ls hW hS hl
  exact lv_imul hx hb hd (k hcs H locs ls hW hS hl)
theorem gj_iand (hO : gj_O E X own cc nL rt fr lo) {x y : Int32} (hd : decode cc pc = .ok (.iand, 1)) (k : gj_H E X nL ce sl Q (pc + 1) lv (gj_i (x &&& y) :: st) σ) : gj_H E X nL ce sl Q pc lv (gj_i y :: gj_i x :: st) σ := by
  obtain ⟨p, e, R, s, m, args, below, meth, c⟩ := X
  obtain ⟨hx, hb, hml, hown, hts, hK, hi, hr, hlk, hfr, hlo⟩ := hO
  intro hcs H locs ls hW hS hl
  exact lv_iand hx hb hd (k hcs H locs ls hW hS hl)
theorem gj_ior (hO : gj_O E X own cc nL rt fr lo) {x y : Int32} (hd : decode cc pc = .ok (.ior, 1)) (k : gj_H E X nL ce sl Q (pc + 1) lv (gj_i (x ||| y) :: st) σ) : gj_H E X nL ce sl Q pc lv (gj_i y :: gj_i x :: st) σ := by
  obtain ⟨p, e, R, s, m, args, below, meth, c⟩ := X
  obtain ⟨hx, hb, hml, hown, hts, hK, hi, hr, hlk, hfr, hlo⟩ := hO
  intro hcs H locs ls hW hS hl
  exact lv_ior hx hb hd (k hcs H locs ls hW hS hl)
theorem gj_ixor (hO : gj_O E X own cc nL rt fr lo) {x y : Int32} (hd : decode cc pc = .ok (.ixor, 1)) (k : gj_H E X nL ce sl Q (pc + 1) lv (gj_i (x ^^^ y) :: st) σ) : gj_H E X nL ce sl Q pc lv (gj_i y :: gj_i x :: st) σ := by
  obtain ⟨p, e, R, s, m, args, below, meth, c⟩ := X
  obtain ⟨hx, hb, hml, hown, hts, hK, hi, hr, hlk, hfr, hlo⟩ := hO
  intro hcs H locs ls hW hS hl
  exact lv_ixor hx hb hd (k hcs H locs ls hW hS hl)
theorem gj_ishl (hO : gj_O E X own cc nL rt fr lo) {x y : Int32} (hd : decode cc pc = .ok (.ishl, 1)) (k : gj_H E X nL ce sl Q (pc + 1) lv (gj_i (x <<< (y &&& 31)) :: st) σ) : gj_H E X nL ce sl Q pc lv (gj_i y :: gj_i x :: st) σ := by
  obtain ⟨p, e, R, s, m, args, below, meth, c⟩ := X
  obtain ⟨hx, hb, hml, hown, hts, hK, hi, hr, hlk, hfr, hlo⟩ := hO
  intro hcs H locs ls hW hS hl
  exact lv_ishl hx hb hd (k hcs H locs ls hW hS hl)
theorem gj_ishr (hO : gj_O E X own cc nL rt fr lo) {x y : Int32} (hd : decode cc pc = .ok (.ishr, 1)) (k : gj_H E X nL ce sl Q (pc + 1) lv (gj_i (x >>> (y &&& 31)) :: st) σ) : gj_H E X nL ce sl Q pc lv (gj_i y :: gj_i x :: st) σ := by
  obtain ⟨p, e, R, s, m, args, below, meth, c⟩ := X
  obtain ⟨hx, hb, hml, hown, hts, hK, hi, hr, hlk, hfr, hlo⟩ := hO
  intro hcs H locs ls hW hS hl
  exact lv_ishr hx hb hd (k hcs H locs ls hW hS hl)
theorem gj_idiv (hO : gj_O E X own cc nL rt fr lo) {x y : Int32} (hd : decode cc pc = .ok (.idiv, 1)) (hne : ¬ y = 0) (k : gj_H E X nL ce sl Q (pc + 1) lv (gj_i (x / y) :: st) σ) : gj_H E X nL ce sl Q pc lv (gj_i y :: gj_i x :: st) σ := by
  obtain ⟨p, e, R, s, m, args, below, meth, c⟩ := X
  obtain ⟨hx, hb, hml, hown, hts, hK, hi, hr, hlk, hfr, hlo⟩ := hO
  intro hcs H locs ls hW hS hl
  exact lv_idiv hx hb hd hne (k hcs H locs ls hW hS hl)
theorem gj_irem (hO : gj_O E X own cc nL rt fr lo) {x y : Int32} (hd : decode cc pc = .ok (.irem, 1)) (hne : ¬ y = 0) (k : gj_H E X nL ce sl Q (pc + 1) lv (gj_i (x - x / y * y) :: st) σ) : gj_H E X nL ce sl Q pc lv (gj_i y :: gj_i x :: st) σ := by
  obtain ⟨p, e, R, s, m, args, below, meth, c⟩ := X
  obtain ⟨hx, hb, hml, hown, hts, hK, hi, hr, hlk, hfr, hlo⟩ := hO
  intro hcs H locs ls hW hS hl
  exact lv_irem hx hb hd hne (k hcs H locs ls hW hS hl)
theorem gj_ladd (hO : gj_O E X own cc nL rt fr lo) {x y : Int64} (hd : decode cc pc = .ok (.ladd, 1)) (k : gj_H E X nL ce sl Q (pc + 1) lv (gj_l (x + y) :: st) σ) : gj_H E X nL ce sl Q pc lv (gj_l y :: gj_l x :: st) σ := by
  obtain ⟨p, e, R, s, m, args, below, meth, c⟩ := X
  obtain ⟨hx, hb, hml, hown, hts, hK, hi, hr, hlk, hfr, hlo⟩ := hO
  intro hcs H locs ls hW hS hl
  exact lv_ladd hx hb hd (k hcs H locs ls hW hS hl)
theorem gj_lsub (hO : gj_O E X own cc nL rt fr lo) {x y : Int64} (hd : decode cc pc = .ok (.lsub, 1)) (k : gj_H E X nL ce sl Q (pc + 1) lv (gj_l (x - y) :: st) σ) : gj_H E X nL ce sl Q pc lv (gj_l y :: gj_l x :: st) σ := by
  obtain ⟨p, e, R, s, m, args, below, meth, c⟩ := X
  obtain ⟨hx, hb, hml, hown, hts, hK, hi, hr, hlk, hfr, hlo⟩ := hO
  intro hcs H locs ls hW hS hl
  exact lv_lsub hx hb hd (k hcs H locs ls hW hS hl)
theorem gj_lmul (hO : gj_O E X own cc nL rt fr lo) {x y : Int64} (hd : decode cc pc = .ok (.lmul, 1)) (k : gj_H E X nL ce sl Q (pc + 1) lv (gj_l (x * y) :: st) σ) : gj_H E X nL ce sl Q pc lv (gj_l y :: gj_l x :: st) σ := by
  obtain ⟨p, e, R, s, m, args, below, meth, c⟩ := X
  obtain ⟨hx, hb, hml, hown, hts, hK, hi, hr, hlk, hfr, hlo⟩ := hO
  intro hcs H locs ls hW hS hl
  exact lv_lmul hx hb hd (k hcs H locs ls hW hS hl)
theorem gj_land (hO : gj_O E X own cc nL rt fr lo) {x y : Int64} (hd : decode cc pc = .ok (.land, 1)) (k : gj_H E X nL ce sl Q (pc + 1) lv (gj_l (x &&& y) :: st) σ) : gj_H E X nL ce sl Q pc lv (gj_l y :: gj_l x :: st) σ := by
  obtain ⟨p, e, R, s, m, args, below, meth, c⟩ := X
  obtain ⟨hx, hb, hml, hown, hts, hK, hi, hr, hlk, hfr, hlo⟩ := hO
  intro hcs H locs ls hW hS hl
  exact lv_land hx hb hd (k hcs H locs ls hW hS hl)
theorem gj_lor (hO : gj_O E X own cc nL rt fr lo) {x y : Int64} (hd : decode cc pc = .ok (.lor, 1)) (k : gj_H E X nL ce sl Q (pc + 1) lv (gj_l (x ||| y) :: st) σ) : gj_H E X nL ce sl Q pc lv (gj_l y :: gj_l x :: st) σ := by
  obtain ⟨p, e, R, s, m, args, below, meth, c⟩ := X
  obtain ⟨hx, hb, hml, hown, hts, hK, hi, hr, hlk, hfr, hlo⟩ := hO
  intro hcs H locs ls hW hS hl
  exact lv_lor hx hb hd (k hcs H locs ls hW hS hl)
theorem gj_ineg (hO : gj_O E X own cc nL rt fr lo) {x : Int32} (hd : decode cc pc = .ok (.ineg, 1)) (k : gj_H E X nL ce sl Q (pc + 1) lv (gj_i (0 - x) :: st) σ) : gj_H E X nL ce sl Q pc lv (gj_i x :: st) σ := by
  obtain ⟨p, e, R, s, m, args, below, meth, c⟩ := X
  obtain ⟨hx, hb, hml, hown, hts, hK, hi, hr, hlk, hfr, hlo⟩ := hO
  intro hcs H locs ls hW hS hl
  exact lv_ineg hx hb hd (k hcs H locs ls hW hS hl)
theorem gj_lshl (hO : gj_O E X own cc nL rt fr lo) {x : Int64} {y : Int32} (hd : decode cc pc = .ok (.lshl, 1)) (k : gj_H E X nL ce sl Q (pc + 1) lv (gj_l (x <<< (y.toInt64 &&& 63)) :: st) σ) : gj_H E X nL ce sl Q pc lv (gj_i y :: gj_l x :: st) σ := by
  obtain ⟨p, e, R, s, m, args, below, meth, c⟩ := X
  obtain ⟨hx, hb, hml, hown, hts, hK, hi, hr, hlk, hfr, hlo⟩ := hO
  intro hcs H locs ls hW hS hl
  exact lv_lshl hx hb hd rfl (k hcs H locs ls hW hS hl)
theorem gj_lshr (hO : gj_O E X own cc nL rt fr lo) {x : Int64} {y : Int32} (hd : decode cc pc = .ok (.lshr, 1)) (k : gj_H E X nL ce sl Q (pc + 1) lv (gj_l (x >>> (y.toInt64 &&& 63)) :: st) σ) : gj_H E X nL ce sl Q pc lv (gj_i y :: gj_l x :: st) σ := by
  obtain ⟨p, e, R, s, m, args, below, meth, c⟩ := X
  obtain ⟨hx, hb, hml, hown, hts, hK, hi, hr, hlk, hfr, hlo⟩ := hO
  intro hcs H locs ls hW hS hl
  exact lv_lshr hx hb hd rfl (k hcs H locs ls hW hS hl)
theorem gj_i2l (hO : gj_O E X own cc nL rt fr lo) {x : Int32} (hd : decode cc pc = .ok (.i2l, 1)) (k : gj_H E X nL ce sl Q (pc + 1) lv (gj_l x.toInt64 :: st) σ) : gj_H E X nL ce sl Q pc lv (gj_i x :: st) σ := by
  obtain ⟨p, e, R, s, m, args, below, meth, c⟩ := X
  obtain ⟨hx, hb, hml, hown, hts, hK, hi, hr, hlk, hfr, hlo⟩ := hO
  intro hcs H locs ls hW hS hl
  exact lv_i2l hx hb hd rfl (k hcs H locs ls hW hS hl)
theorem gj_l2i (hO : gj_O E X own cc nL rt fr lo) {x : Int64} (hd : decode cc pc = .ok (.l2i, 1)) (k : gj_H E X nL ce sl Q (pc + 1) lv (gj_i x.toInt32 :: st) σ) : gj_H E X nL ce sl Q pc lv (gj_l x :: st) σ := by
  obtain ⟨p, e, R, s, m, args, below, meth, c⟩ := X
  obtain ⟨hx, hb, hml, hown, hts, hK, hi, hr, hlk, hfr, hlo⟩ := hO
  intro hcs H locs ls hW hS hl
  exact lv_l2i hx hb hd rfl (k hcs H locs ls hW hS hl)
theorem gj_i2b (hO : gj_O E X own cc nL rt fr lo) {x : Int32} (hd : decode cc pc = .ok (.i2b, 1)) (k : gj_H E X nL ce sl Q (pc + 1) lv (gj_i x.toInt8.toInt32 :: st) σ) : gj_H E X nL ce sl Q pc lv (gj_i x :: st) σ := by
  obtain ⟨p, e, R, s, m, args, below, meth, c⟩ := X
  obtain ⟨hx, hb, hml, hown, hts, hK, hi, hr, hlk, hfr, hlo⟩ := hO
  intro hcs H locs ls hW hS hl
  exact lv_i2b hx hb hd rfl (k hcs H locs ls hW hS hl)
theorem gj_i2c (hO : gj_O E X own cc nL rt fr lo) {x : Int32} (hd : decode cc pc = .ok (.i2c, 1)) (k : gj_H E X nL ce sl Q (pc + 1) lv (gj_i (x.toUInt32 % 65536).toInt32 :: st) σ) : gj_H E X nL ce sl Q pc lv (gj_i x :: st) σ := by
  obtain ⟨p, e, R, s, m, args, below, meth, c⟩ := X
  obtain ⟨hx, hb, hml, hown, hts, hK, hi, hr, hlk, hfr, hlo⟩ := hO
  intro hcs H locs ls hW hS hl
  exact lv_i2c hx hb hd rfl (k hcs H locs ls hW hS hl)
theorem gj_lcmp (hO : gj_O E X own cc nL rt fr lo) {x y : Int64} (hd : decode cc pc = .ok (.lcmp, 1)) (k : gj_H E X nL ce sl Q (pc + 1) lv (gj_i (lg_cmp x y) :: st) σ) : gj_H E X nL ce sl Q pc lv (gj_l y :: gj_l x :: st) σ := by
  obtain ⟨p, e, R, s, m, args, below, meth, c⟩ := X
  obtain ⟨hx, hb, hml, hown, hts, hK, hi, hr, hlk, hfr, hlo⟩ := hO
  intro hcs H locs ls hW hS hl
  exact W.lcmp hx hb hd (k hcs H locs ls hW hS hl)
def gj_c1 (v : gj_V) : Prop := match v with | .inr (.inl _) => False | _ => True
theorem gj_c1_cat {ad : Nat → Nat} {v : gj_V} (h : gj_c1 v) : (gj_tv ad v).category = 1 := by
  rcases v with x | x | x
  · rfl
  · exact h.elim
  · rfl
theorem gj_dup (hO : gj_O E X own cc nL rt fr lo) {v : gj_V} (hd : decode cc pc = .ok (.dup, 1)) (h1 : gj_c1 v) (k : gj_H E X nL ce sl Q (pc + 1) lv (v :: v :: st) σ) : gj_H E X nL ce sl Q pc lv (v :: st) σ := by
  obtain ⟨p, e, R, s, m, args, below, meth, c⟩ := X
  obtain ⟨hx, hb, hml, hown, hts, hK, hi, hr, hlk, hfr, hlo⟩ := hO
  intro hcs H locs ls hW hS hl
  exact lv_dup hx hb hd (gj_c1_cat h1) (k hcs H locs ls hW hS hl)
theorem gj_pop (hO : gj_O E X own cc nL rt fr lo) {v : gj_V} (hd : decode cc pc = .ok (.pop, 1)) (h1 : gj_c1 v) (k : gj_H E X nL ce sl Q (pc + 1) lv st σ) : gj_H E X nL ce sl Q pc lv (v :: st) σ := by
  obtain ⟨p, e, R, s, m, args, below, meth, c⟩ := X
  obtain ⟨hx, hb, hml, hown, hts, hK, hi, hr, hlk, hfr, hlo⟩ := hO
  intro hcs H locs ls hW hS hl
  exact lv_pop hx hb hd (gj_c1_cat h1) (k hcs H locs ls hW hS hl)
theorem gj_dup2 (hO : gj_O E X own cc nL rt fr lo) {v w : gj_V} (hd : decode cc pc = .ok (.dup2, 1)) (h1 : gj_c1 v) (h2 : gj_c1 w) (k : gj_H E X nL ce sl Q (pc + 1) lv (v :: w :: v :: w :: st) σ) : gj_H E X nL ce sl Q pc lv (v :: w :: st) σ := by
  obtain ⟨p, e, R, s, m, args, below, meth, c⟩ := X
  obtain ⟨hx, hb, hml, hown, hts, hK, hi, hr, hlk, hfr, hlo⟩ := hO
  intro hcs H locs ls hW hS hl
  exact lv_dup2_11 hx hb hd (gj_c1_cat h1) (gj_c1_cat h2) (k hcs H locs ls hW hS hl)
theorem gj_if_eq (hO : gj_O E X own cc nL rt fr lo) {x : Int32} {off : Int} {tgt : Nat} (hd : decode cc pc = .ok (.ifCond .eq off, 3)) (ht : (pc : Int) + off = (tgt : Int)) (kt : x = 0 → gj_H E X nL ce sl Q tgt lv st σ) (kf : ¬ x = 0 → gj_H E X nL ce sl Q (pc + 3) lv st σ) : gj_H E X nL ce sl Q pc lv (gj_i x :: st) σ := by
  obtain ⟨p, e, R, s, m, args, below, meth, c⟩ := X
  obtain ⟨hx, hb, hml, hown, hts, hK, hi, hr, hlk, hfr, hlo⟩ := hO
  intro hcs H locs ls hW hS hl
  exact lv_if_eq hx hb hd ht (fun h => kt h hcs H locs ls hW hS hl) (fun h => kf h hcs H locs ls hW hS hl)
theorem gj_if_ne (hO : gj_O E X own cc nL rt fr lo) {x : Int32} {off : Int} {tgt : Nat} (hd : decode cc pc = .ok (.ifCond .ne off, 3)) (ht : (pc : Int) + off = (tgt : Int)) (kt : ¬ x = 0 → gj_H E X nL ce sl Q tgt lv st σ) (kf : x = 0 → gj_H E X nL ce sl Q (pc + 3) lv st σ) : gj_H E X nL ce sl Q pc lv (gj_i x :: st) σ := by
  obtain ⟨p, e, R, s, m, args, below, meth, c⟩ := X
  obtain ⟨hx, hb, hml, hown, hts, hK, hi, hr, hlk, hfr, hlo⟩ := hO
  intro hcs H locs ls hW hS hl
  exact lv_if_ne hx hb hd ht (fun h => kt h hcs H locs ls hW hS hl) (fun h => kf h hcs H locs ls hW hS hl)
theorem gj_if_lt (hO : gj_O E X own cc nL rt fr lo) {x : Int32} {off : Int} {tgt : Nat} (hd : decode cc pc = .ok (.ifCond .lt off, 3)) (ht : (pc : Int) + off = (tgt : Int)) (kt : x < 0 → gj_H E X nL ce sl Q tgt lv st σ) (kf : ¬ x < 0 → gj_H E X nL ce sl Q (pc + 3) lv st σ) : gj_H E X nL ce sl Q pc lv (gj_i x :: st) σ := by
  obtain ⟨p, e, R, s, m, args, below, meth, c⟩ := X
  obtain ⟨hx, hb, hml, hown, hts, hK, hi, hr, hlk, hfr, hlo⟩ := hO
  intro hcs H locs ls hW hS hl
  exact lv_if_lt hx hb hd ht (fun h => kt h hcs H locs ls hW hS hl) (fun h => kf h hcs H locs ls hW hS hl)
theorem gj_if_ge (hO : gj_O E X own cc nL rt fr lo) {x : Int32} {off : Int} {tgt : Nat} (hd : decode cc pc = .ok (.ifCond .ge off, 3)) (ht : (pc : Int) + off = (tgt : Int)) (kt : 0 ≤ x → gj_H E X nL ce sl Q tgt lv st σ) (kf : ¬ 0 ≤ x → gj_H E X nL ce sl Q (pc + 3) lv st σ) : gj_H E X nL ce sl Q pc lv (gj_i x :: st) σ := by
  obtain ⟨p, e, R, s, m, args, below, meth, c⟩ := X
  obtain ⟨hx, hb, hml, hown, hts, hK, hi, hr, hlk, hfr, hlo⟩ := hO
  intro hcs H locs ls hW hS hl
  exact lv_if_ge hx hb hd ht (fun h => kt h hcs H locs ls hW hS hl) (fun h => kf h hcs H locs ls hW hS hl)
theorem gj_if_gt (hO : gj_O E X own cc nL rt fr lo) {x : Int32} {off : Int} {tgt : Nat} (hd : decode cc pc = .ok (.ifCond .gt off, 3)) (ht : (pc : Int) + off = (tgt : Int)) (kt : 0 < x → gj_H E X nL ce sl Q tgt lv st σ) (kf : ¬ 0 < x → gj_H E X nL ce sl Q (pc + 3) lv st σ) : gj_H E X nL ce sl Q pc lv (gj_i x :: st) σ := by
  obtain ⟨p, e, R, s, m, args, below, meth, c⟩ := X
  obtain ⟨hx, hb, hml, hown, hts, hK, hi, hr, hlk, hfr, hlo⟩ := hO
  intro hcs H locs ls hW hS hl
  exact lv_if_gt hx hb hd ht (fun h => kt h hcs H locs ls hW hS hl) (fun h => kf h hcs H locs ls hW hS hl)
theorem gj_if_le (hO : gj_O E X own cc nL rt fr lo) {x : Int32} {off : Int} {tgt : Nat} (hd : decode cc pc = .ok (.ifCond .le off, 3)) (ht : (pc : Int) + off = (tgt : Int)) (kt : x ≤ 0 → gj_H E X nL ce sl Q tgt lv st σ) (kf : ¬ x ≤ 0 → gj_H E X nL ce sl Q (pc + 3) lv st σ) : gj_H E X nL ce sl Q pc lv (gj_i x :: st) σ := by
  obtain ⟨p, e, R, s, m, args, below, meth, c⟩ := X
  obtain ⟨hx, hb, hml, hown, hts, hK, hi, hr, hlk, hfr, hlo⟩ := hO
  intro hcs H locs ls hW hS hl
  exact lv_if_le hx hb hd ht (fun h => kt h hcs H locs ls hW hS hl) (fun h => kf h hcs H locs ls hW hS hl)
theorem gj_icmp_eq (hO : gj_O E X own cc nL rt fr lo) {x y : Int32} {off : Int} {tgt : Nat} (hd : decode cc pc = .ok (.if_icmp .eq off, 3)) (ht : (pc : Int) + off = (tgt : Int)) (kt : x = y → gj_H E X nL ce sl Q tgt lv st σ) (kf : ¬ x = y → gj_H E X nL ce sl Q (pc + 3) lv st σ) : gj_H E X nL ce sl Q pc lv (gj_i y :: gj_i x :: st) σ := by
  obtain ⟨p, e, R, s, m, args, below, meth, c⟩ := X
  obtain ⟨hx, hb, hml, hown, hts, hK, hi, hr, hlk, hfr, hlo⟩ := hO
  intro hcs H locs ls hW hS hl
  exact lv_icmp_eq hx hb hd ht (fun h => kt h hcs H locs ls hW hS hl) (fun h => kf h hcs H locs ls hW hS hl)
theorem gj_icmp_ne (hO : gj_O E X own cc nL rt fr lo) {x y : Int32} {off : Int} {tgt : Nat} (hd : decode cc pc = .ok (.if_icmp .ne off, 3)) (ht : (pc : Int) + off = (tgt : Int)) (kt : ¬ x = y → gj_H E X nL ce sl Q tgt lv st σ) (kf : x = y → gj_H E X nL ce sl Q (pc + 3) lv st σ) : gj_H E X nL ce sl Q pc lv (gj_i y :: gj_i x :: st) σ := by
  obtain ⟨p, e, R, s, m, args, below, meth, c⟩ := X
  obtain ⟨hx, hb, hml, hown, hts, hK, hi, hr, hlk, hfr, hlo⟩ := hO
  intro hcs H locs ls hW hS hl
  exact lv_icmp_ne hx hb hd ht (fun h => kt h hcs H locs ls hW hS hl) (fun h => kf h hcs H locs ls hW hS hl)
theorem gj_icmp_lt (hO : gj_O E X own cc nL rt fr lo) {x y : Int32} {off : Int} {tgt : Nat} (hd : decode cc pc = .ok (.if_icmp .lt off, 3)) (ht : (pc : Int) + off = (tgt : Int)) (kt : x < y → gj_H E X nL ce sl Q tgt lv st σ) (kf : ¬ x < y → gj_H E X nL ce sl Q (pc + 3) lv st σ) : gj_H E X nL ce sl Q pc lv (gj_i y :: gj_i x :: st) σ := by
  obtain ⟨p, e, R, s, m, args, below, meth, c⟩ := X
  obtain ⟨hx, hb, hml, hown, hts, hK, hi, hr, hlk, hfr, hlo⟩ := hO
  intro hcs H locs ls hW hS hl
  exact lv_icmp_lt hx hb hd ht (fun h => kt h hcs H locs ls hW hS hl) (fun h => kf h hcs H locs ls hW hS hl)
theorem gj_icmp_ge (hO : gj_O E X own cc nL rt fr lo) {x y : Int32} {off : Int} {tgt : Nat} (hd : decode cc pc = .ok (.if_icmp .ge off, 3)) (ht : (pc : Int) + off = (tgt : Int)) (kt : y ≤ x → gj_H E X nL ce sl Q tgt lv st σ) (kf : ¬ y ≤ x → gj_H E X nL ce sl Q (pc + 3) lv st σ) : gj_H E X nL ce sl Q pc lv (gj_i y :: gj_i x :: st) σ := by
  obtain ⟨p, e, R, s, m, args, below, meth, c⟩ := X
  obtain ⟨hx, hb, hml, hown, hts, hK, hi, hr, hlk, hfr, hlo⟩ := hO
  intro hcs H locs ls hW hS hl
  exact lv_icmp_ge hx hb hd ht (fun h => kt h hcs H locs ls hW hS hl) (fun h => kf h hcs H locs ls hW hS hl)
theorem gj_icmp_gt (hO : gj_O E X own cc nL rt fr lo) {x y : Int32} {off : Int} {tgt : Nat} (hd : decode cc pc = .ok (.if_icmp .gt off, 3)) (ht : (pc : Int) + off = (tgt : Int)) (kt : y < x → gj_H E X nL ce sl Q tgt lv st σ) (kf : ¬ y < x → gj_H E X nL ce sl Q (pc + 3) lv st σ) : gj_H E X nL ce sl Q pc lv (gj_i y :: gj_i x :: st) σ := by
  obtain ⟨p, e, R, s, m, args, below, meth, c⟩ := X
  obtain ⟨hx, hb, hml, hown, hts, hK, hi, hr, hlk, hfr, hlo⟩ := hO
  intro hcs H locs ls hW hS hl
  exact lv_icmp_gt hx hb hd ht (fun h => kt h hcs H locs ls hW hS hl) (fun h => kf h hcs H locs ls hW hS hl)
theorem gj_icmp_le (hO : gj_O E X own cc nL rt fr lo) {x y : Int32} {off : Int} {tgt : Nat} (hd : decode cc pc = .ok (.if_icmp .le off, 3)) (ht : (pc : Int) + off = (tgt : Int)) (kt : x ≤ y → gj_H E X nL ce sl Q tgt lv st σ) (kf : ¬ x ≤ y → gj_H E X nL ce sl Q (pc + 3) lv st σ) : gj_H E X nL ce sl Q pc lv (gj_i y :: gj_i x :: st) σ := by
  obtain ⟨p, e, R, s, m, args, below, meth, c⟩ := X
  obtain ⟨hx, hb, hml, hown, hts, hK, hi, hr, hlk, hfr, hlo⟩ := hO
  intro hcs H locs ls hW hS hl
  exact lv_icmp_le hx hb hd ht (fun h => kt h hcs H locs ls hW hS hl) (fun h => kf h hcs H locs ls hW hS hl)
theorem gj_goto (hO : gj_O E X own cc nL rt fr lo) {off : Int} {tgt : Nat} (hd : decode cc pc = .ok (.goto off, 3)) (ht : (pc : Int) + off = (tgt : Int)) (k : gj_H E X nL ce sl Q tgt lv st σ) : gj_H E X nL ce sl Q pc lv st σ := by
  obtain ⟨p, e, R, s, m, args, below, meth, c⟩ := X
  obtain ⟨hx, hb, hml, hown, hts, hK, hi, hr, hlk, hfr, hlo⟩ := hO
  intro hcs H locs ls hW hS hl
  exact lv_goto hx hb hd ht (k hcs H locs ls hW hS hl)
theorem gj_tblIn (hO : gj_O E X own cc nL rt fr lo) {dflt a b : Int} {offs : Array Int} {len : Nat} {x : Int32} {off : Int} {tgt : Nat} (hd : decode cc pc = .ok (.tableswitch dflt a b offs, len)) (h1 : ¬ x.toInt < a) (h2 : ¬ b < x.toInt) (ho : offs[(x.toInt - a).toNat]? = some off) (ht : (pc : Int) + off = (tgt : Int)) (k : gj_H E X nL ce sl Q tgt lv st σ) : gj_H E X nL ce sl Q pc lv (gj_i x :: st) σ := by
  obtain ⟨p, e, R, s, m, args, below, meth, c⟩ := X
  obtain ⟨hx, hb, hml, hown, hts, hK, hi, hr, hlk, hfr, hlo⟩ := hO
  intro hcs H locs ls hW hS hl
  exact lv_tableIn hx hb hd h1 h2 ho ht (k hcs H locs ls hW hS hl)
theorem gj_tblOut (hO : gj_O E X own cc nL rt fr lo) {dflt a b : Int} {offs : Array Int} {len : Nat} {x : Int32} {tgt : Nat} (hd : decode cc pc = .ok (.tableswitch dflt a b offs, len)) (h : x.toInt < a ∨ b < x.toInt) (ht : (pc : Int) + dflt = (tgt : Int)) (k : gj_H E X nL ce sl Q tgt lv st σ) : gj_H E X nL ce sl Q pc lv (gj_i x :: st) σ := by
  obtain ⟨p, e, R, s, m, args, below, meth, c⟩ := X
  obtain ⟨hx, hb, hml, hown, hts, hK, hi, hr, hlk, hfr, hlo⟩ := hO
  intro hcs H locs ls hW hS hl
  exact lv_tableOut hx hb hd h ht (k hcs H locs ls hW hS hl)
theorem gj_cI {cy : Nat → ClassId} {ad : Nat → Nat} {σ : gj_S} {k n : Nat} (h : gj_kd k = (10, n)) : gj_cell cy ad σ k = .inl (cy 1, n, .inl (σ.1 k)) := by simp [gj_cell, gj_cel, h]
theorem gj_cJ {cy : Nat → ClassId} {ad : Nat → Nat} {σ : gj_S} {k n : Nat} (h : gj_kd k = (11, n)) : gj_cell cy ad σ k = .inl (cy 2, n, .inr (.inl (σ.2.1 k))) := by simp [gj_cell, gj_cel, h]
theorem gj_cB {cy : Nat → ClassId} {ad : Nat → Nat} {σ : gj_S} {k n : Nat} (h : gj_kd k = (12, n)) : gj_cell cy ad σ k = .inl (cy 0, n, .inl (σ.1 k)) := by simp [gj_cell, gj_cel, h]
theorem gj_cZ {cy : Nat → ClassId} {ad : Nat → Nat} {σ : gj_S} {k n : Nat} (h : gj_kd k = (13, n)) : gj_cell cy ad σ k = .inl (cy 3, n, .inl (σ.1 k)) := by simp [gj_cell, gj_cel, h]
theorem gj_cP {cy : Nat → ClassId} {ad : Nat → Nat} {σ : gj_S} {k n : Nat} (h : gj_kd k = (14, n)) : gj_cell cy ad σ k = .inl (cy 4, n, .inr (.inr (.inr (.inr (fun j => some (ad (gj_pa k j))))))) := by simp [gj_cell, gj_cel, h]
theorem gj_cO {cy : Nat → ClassId} {ad : Nat → Nat} {σ : gj_S} {k ci : Nat} (h : gj_kd k = (ci, 0)) (hc : ci < 10) : gj_cell cy ad σ k = .inr (ci, gj_fs ad ci k (σ.1 k) (σ.2.1 k) σ.2.2) := by
  have h10 : ci ≠ 10 := by omega
  have h11 : ci ≠ 11 := by omega
  have h12 : ci ≠ 12 := by omega
  have h13 : ci ≠ 13 := by omega
  have h14 : ci ≠ 14 := by omega
  simp [gj_cell, gj_cel, h, h10, h11, h12, h13, h14]
theorem gj_sI_o {cy : Nat → ClassId} {ad : Nat → Nat} {σ : gj_S} {k : Nat} {f : Nat → Int32} : ∀ j, j ≠ k → gj_cell cy ad (gj_sI σ k f) j = gj_cell cy ad σ j := by
  intro j hj
  simp [gj_cell, gj_sI, hj]
theorem gj_sJ_o {cy : Nat → ClassId} {ad : Nat → Nat} {σ : gj_S} {k : Nat} {f : Nat → Int64} : ∀ j, j ≠ k → gj_cell cy ad (gj_sJ σ k f) j = gj_cell cy ad σ j := by
  intro j hj
  simp [gj_cell, gj_sJ, hj]
/-- the place is in the row -/
abbrev gj_in (i : Int32) (n : Nat) : Prop := ¬ i < 0 ∧ i.toNatClampNeg < n
theorem gj_in_vp {i : Int32} {n : Nat} (h : gj_in i n) : vp_in i n := fun q => q.elim h.1 (fun z => absurd z (Nat.not_le.mpr h.2))
theorem gj_iald (hO : gj_O E X own cc nL rt fr lo) {a n : Nat} {i : Int32} (ha : gj_lt own a) (hk : gj_kd a = (10, n)) (hin : gj_in i n) (hd : decode cc pc = .ok (.iaload, 1)) (k : gj_H E X nL ce sl Q (pc + 1) lv (gj_i (σ.1 a i.toNatClampNeg) :: st) σ) : gj_H E X nL ce sl Q pc lv (gj_i i :: gj_r a :: st) σ := by
  obtain ⟨p, e, R, s, m, args, below, meth, c⟩ := X
  obtain ⟨hx, hb, hml, hown, hts, hK, hi, hr, hlk, hfr, hlo⟩ := hO
  intro hcs H locs ls hW hS hl
  exact va_iald hx hb hK hW a 1 (by rw [gj_at (gj_ltn hi.1 ha), gj_cI hk]) rfl (gj_in_vp hin) hd (k hcs H locs ls hW hS hl)
theorem gj_bald (hO : gj_O E X own cc nL rt fr lo) {a n : Nat} {i : Int32} (ha : gj_lt own a) (hk : gj_kd a = (12, n)) (hin : gj_in i n) (hd : decode cc pc = .ok (.baload, 1)) (k : gj_H E X nL ce sl Q (pc + 1) lv (gj_i (σ.1 a i.toNatClampNeg) :: st) σ) : gj_H E X nL ce sl Q pc lv (gj_i i :: gj_r a :: st) σ := by
  obtain ⟨p, e, R, s, m, args, below, meth, c⟩ := X
  obtain ⟨hx, hb, hml, hown, hts, hK, hi, hr, hlk, hfr, hlo⟩ := hO
  intro hcs H locs ls hW hS hl
  exact va_bald hx hb hK hW a 0 (by rw [gj_at (gj_ltn hi.1 ha), gj_cB hk]) rfl (gj_in_vp hin) hd (k hcs H locs ls hW hS hl)
theorem gj_zald (hO : gj_O E X own cc nL rt fr lo) {a n : Nat} {i : Int32} (ha : gj_lt own a) (hk : gj_kd a = (13, n)) (hin : gj_in i n) (hd : decode cc pc = .ok (.baload, 1)) (k : gj_H E X nL ce sl Q (pc + 1) lv (gj_i (σ.1 a i.toNatClampNeg) :: st) σ) : gj_H E X nL ce sl Q pc lv (gj_i i :: gj_r a :: st) σ := by
  obtain ⟨p, e, R, s, m, args, below, meth, c⟩ := X
  obtain ⟨hx, hb, hml, hown, hts, hK, hi, hr, hlk, hfr, hlo⟩ := hO
  intro hcs H locs ls hW hS hl
  exact va_zald hx hb hK hW a 3 (by rw [gj_at (gj_ltn hi.1 ha), gj_cZ hk]) rfl (gj_in_vp hin) hd (k hcs H locs ls hW hS hl)
theorem gj_lald (hO : gj_O E X own cc nL rt fr lo) {a n : Nat} {i : Int32} (ha : gj_lt own a) (hk : gj_kd a = (11, n)) (hin : gj_in i n) (hd : decode cc pc = .ok (.laload, 1)) (k : gj_H E X nL ce sl Q (pc + 1) lv (gj_l (σ.2.1 a i.toNatClampNeg) :: st) σ) : gj_H E X nL ce sl Q pc lv (gj_i i :: gj_r a :: st) σ := by
  obtain ⟨p, e, R, s, m, args, below, meth, c⟩ := X
  obtain ⟨hx, hb, hml, hown, hts, hK, hi, hr, hlk, hfr, hlo⟩ := hO
  intro hcs H locs ls hW hS hl
  exact va_lald hx hb hK hW a 2 (by rw [gj_at (gj_ltn hi.1 ha), gj_cJ hk]) rfl (gj_in_vp hin) hd (k hcs H locs ls hW hS hl)
theorem gj_iast (hO : gj_O E X own cc nL rt fr lo) {a n : Nat} {i : Int32} {x : Int32} (ha : gj_lt own a) (hk : gj_kd a = (10, n)) (hin : gj_in i n) (hd : decode cc pc = .ok (.iastore, 1)) (k : gj_H E X nL ce sl Q (pc + 1) lv st (gj_sI σ a (upd (σ.1 a) i.toNatClampNeg x))) : gj_H E X nL ce sl Q pc lv (gj_i x :: gj_i i :: gj_r a :: st) σ := by
  obtain ⟨p, e, R, s, m, args, below, meth, c⟩ := X
  obtain ⟨hx, hb, hml, hown, hts, hK, hi, hr, hlk, hfr, hlo⟩ := hO
  intro hcs H locs ls hW hS hl
  refine va_iast hx hb hK hW (gj_D hi.1.1 _ σ) hS a 1 (by rw [gj_at (gj_ltn hi.1 ha), gj_cI hk]) rfl (gj_in_vp hin) hd (fun H1 locs1 hP1 hD1 hS1 => ?_)
  refine k hcs H1 locs1 ls ?_ hS1 hl
  have hc : gj_cell E.2.2.2 E.2.1 (gj_sI σ a (upd (σ.1 a) i.toNatClampNeg x)) a = _ := gj_cI hk
  rw [show (gj_sI σ a (upd (σ.1 a) i.toNatClampNeg x)).1 a = (upd (σ.1 a) i.toNatClampNeg x) from by simp [gj_sI]] at hc
  rw [← hc, gj_set (gj_ltn hi.1 ha) gj_sI_o] at hP1
  exact hP1
theorem gj_bast (hO : gj_O E X own cc nL rt fr lo) {a n : Nat} {i : Int32} {x : Int32} (ha : gj_lt own a) (hk : gj_kd a = (12, n)) (hin : gj_in i n) (hd : decode cc pc = .ok (.bastore, 1)) (k : gj_H E X nL ce sl Q (pc + 1) lv st (gj_sI σ a (upd (σ.1 a) i.toNatClampNeg (vp_nar .byte x)))) : gj_H E X nL ce sl Q pc lv (gj_i x :: gj_i i :: gj_r a :: st) σ := by
  obtain ⟨p, e, R, s, m, args, below, meth, c⟩ := X
  obtain ⟨hx, hb, hml, hown, hts, hK, hi, hr, hlk, hfr, hlo⟩ := hO
  intro hcs H locs ls hW hS hl
  refine va_bast hx hb hK hW (gj_D hi.1.1 _ σ) hS a 0 (by rw [gj_at (gj_ltn hi.1 ha), gj_cB hk]) rfl (gj_in_vp hin) hd (fun H1 locs1 hP1 hD1 hS1 => ?_)
  refine k hcs H1 locs1 ls ?_ hS1 hl
  have hc : gj_cell E.2.2.2 E.2.1 (gj_sI σ a (upd (σ.1 a) i.toNatClampNeg (vp_nar .byte x))) a = _ := gj_cB hk
  rw [show (gj_sI σ a (upd (σ.1 a) i.toNatClampNeg (vp_nar .byte x))).1 a = (upd (σ.1 a) i.toNatClampNeg (vp_nar .byte x)) from by simp [gj_sI]] at hc
  rw [← hc, gj_set (gj_ltn hi.1 ha) gj_sI_o] at hP1
  exact hP1
theorem gj_zast (hO : gj_O E X own cc nL rt fr lo) {a n : Nat} {i : Int32} {x : Int32} (ha : gj_lt own a) (hk : gj_kd a = (13, n)) (hin : gj_in i n) (hd : decode cc pc = .ok (.bastore, 1)) (k : gj_H E X nL ce sl Q (pc + 1) lv st (gj_sI σ a (upd (σ.1 a) i.toNatClampNeg (vp_nar .boolean x)))) : gj_H E X nL ce sl Q pc lv (gj_i x :: gj_i i :: gj_r a :: st) σ := by
  obtain ⟨p, e, R, s, m, args, below, meth, c⟩ := X
  obtain ⟨hx, hb, hml, hown, hts, hK, hi, hr, hlk, hfr, hlo⟩ := hO
  intro hcs H locs ls hW hS hl
  refine va_zast hx hb hK hW (gj_D hi.1.1 _ σ) hS a 3 (by rw [gj_at (gj_ltn hi.1 ha), gj_cZ hk]) rfl (gj_in_vp hin) hd (fun H1 locs1 hP1 hD1 hS1 => ?_)
  refine k hcs H1 locs1 ls ?_ hS1 hl
  have hc : gj_cell E.2.2.2 E.2.1 (gj_sI σ a (upd (σ.1 a) i.toNatClampNeg (vp_nar .boolean x))) a = _ := gj_cZ hk
  rw [show (gj_sI σ a (upd (σ.1 a) i.toNatClampNeg (vp_nar .boolean x))).1 a = (upd (σ.1 a) i.toNatClampNeg (vp_nar .boolean x)) from by simp [gj_sI]] at hc
  rw [← hc, gj_set (gj_ltn hi.1 ha) gj_sI_o] at hP1
  exact hP1
theorem gj_last (hO : gj_O E X own cc nL rt fr lo) {a n : Nat} {i : Int32} {x : Int64} (ha : gj_lt own a) (hk : gj_kd a = (11, n)) (hin : gj_in i n) (hd : decode cc pc = .ok (.lastore, 1)) (k : gj_H E X nL ce sl Q (pc + 1) lv st (gj_sJ σ a (vp_updL (σ.2.1 a) i.toNatClampNeg x))) : gj_H E X nL ce sl Q pc lv (gj_l x :: gj_i i :: gj_r a :: st) σ := by
  obtain ⟨p, e, R, s, m, args, below, meth, c⟩ := X
  obtain ⟨hx, hb, hml, hown, hts, hK, hi, hr, hlk, hfr, hlo⟩ := hO
  intro hcs H locs ls hW hS hl
  refine va_last hx hb hK hW (gj_D hi.1.1 _ σ) hS a 2 (by rw [gj_at (gj_ltn hi.1 ha), gj_cJ hk]) rfl (gj_in_vp hin) hd (fun H1 locs1 hP1 hD1 hS1 => ?_)
  refine k hcs H1 locs1 ls ?_ hS1 hl
  have hc : gj_cell E.2.2.2 E.2.1 (gj_sJ σ a (vp_updL (σ.2.1 a) i.toNatClampNeg x)) a = _ := gj_cJ hk
  rw [show (gj_sJ σ a (vp_updL (σ.2.1 a) i.toNatClampNeg x)).2.1 a = (vp_updL (σ.2.1 a) i.toNatClampNeg x) from by simp [gj_sJ]] at hc
  rw [← hc, gj_set (gj_ltn hi.1 ha) gj_sJ_o] at hP1
  exact hP1
theorem gj_aald (hO : gj_O E X own cc nL rt fr lo) {a n : Nat} {i : Int32} (ha : gj_lt own a) (hk : gj_kd a = (14, n)) (hin : gj_in i n) (hd : decode cc pc = .ok (.aaload, 1)) (k : gj_H E X nL ce sl Q (pc + 1) lv (gj_r (gj_pa a i.toNatClampNeg) :: st) σ) : gj_H E X nL ce sl Q pc lv (gj_i i :: gj_r a :: st) σ := by
  obtain ⟨p, e, R, s, m, args, below, meth, c⟩ := X
  obtain ⟨hx, hb, hml, hown, hts, hK, hi, hr, hlk, hfr, hlo⟩ := hO
  intro hcs H locs ls hW hS hl
  exact va_aldq (f := fun j => some (E.2.1 (gj_pa a j))) hx hb hK hW a 4 (by rw [gj_at (gj_ltn hi.1 ha), gj_cP hk]) rfl (gj_in_vp hin) hd (k hcs H locs ls hW hS hl)
theorem gj_alenB (hO : gj_O E X own cc nL rt fr lo) {a n : Nat} {v : Int32} (ha : gj_lt own a) (hk : gj_kd a = (12, n)) (hv : Int32.ofNat n = v) (hd : decode cc pc = .ok (.arraylength, 1)) (k : gj_H E X nL ce sl Q (pc + 1) lv (gj_i v :: st) σ) : gj_H E X nL ce sl Q pc lv (gj_r a :: st) σ := by
  obtain ⟨p, e, R, s, m, args, below, meth, c⟩ := X
  obtain ⟨hx, hb, hml, hown, hts, hK, hi, hr, hlk, hfr, hlo⟩ := hO
  intro hcs H locs ls hW hS hl
  exact va_alen hx hb hK hW a 0 (by rw [gj_at (gj_ltn hi.1 ha), gj_cB hk]) rfl hv hd (k hcs H locs ls hW hS hl)
theorem gj_alenI (hO : gj_O E X own cc nL rt fr lo) {a n : Nat} {v : Int32} (ha : gj_lt own a) (hk : gj_kd a = (10, n)) (hv : Int32.ofNat n = v) (hd : decode cc pc = .ok (.arraylength, 1)) (k : gj_H E X nL ce sl Q (pc + 1) lv (gj_i v :: st) σ) : gj_H E X nL ce sl Q pc lv (gj_r a :: st) σ := by
  obtain ⟨p, e, R, s, m, args, below, meth, c⟩ := X
  obtain ⟨hx, hb, hml, hown, hts, hK, hi, hr, hlk, hfr, hlo⟩ := hO
  intro hcs H locs ls hW hS hl
  exact va_alen hx hb hK hW a 1 (by rw [gj_at (gj_ltn hi.1 ha), gj_cI hk]) rfl hv hd (k hcs H locs ls hW hS hl)
theorem gj_alenJ (hO : gj_O E X own cc nL rt fr lo) {a n : Nat} {v : Int32} (ha : gj_lt own a) (hk : gj_kd a = (11, n)) (hv : Int32.ofNat n = v) (hd : decode cc pc = .ok (.arraylength, 1)) (k : gj_H E X nL ce sl Q (pc + 1) lv (gj_i v :: st) σ) : gj_H E X nL ce sl Q pc lv (gj_r a :: st) σ := by
  obtain ⟨p, e, R, s, m, args, below, meth, c⟩ := X
  obtain ⟨hx, hb, hml, hown, hts, hK, hi, hr, hlk, hfr, hlo⟩ := hO
  intro hcs H locs ls hW hS hl
  exact va_alen hx hb hK hW a 2 (by rw [gj_at (gj_ltn hi.1 ha), gj_cJ hk]) rfl hv hd (k hcs H locs ls hW hS hl)
theorem gj_get (hO : gj_O E X own cc nL rt fr lo) {C : String} {T : u_T} {N ci idx o j : Nat} {v : gj_V} (hin : ∀ w ∈ u_ws C T N, w ∈ gj_gw) (ho : gj_lt own o) (hk : gj_kd o = (ci, 0)) (h10 : ci < 10) (hc : vwCl[ci]? = some (C, T, N)) (hj : j < N) (hdc : (T j).1 = C) (hlink : Cond.fieldLink own idx C (T j).2.1 (T j).2.2.1 ∈ gj_gw) (hv : (gj_fs E.2.1 ci o (σ.1 o) (σ.2.1 o) σ.2.2)[j]? = some (gj_tv E.2.1 v)) (hd : decode cc pc = .ok (.getfield idx, 3)) (k : gj_H E X nL ce sl Q (pc + 3) lv (v :: st) σ) : gj_H E X nL ce sl Q pc lv (gj_r o :: st) σ := by
  obtain ⟨p, e, R, s, m, args, below, meth, c⟩ := X
  obtain ⟨hx, hb, hml, hown, hts, hK, hi, hr, hlk, hfr, hlo⟩ := hO
  intro hcs H locs ls hW hS hl
  exact va_get hx hb hts hin hown hK hW o (by rw [gj_at (gj_ltn hi.1 ho), gj_cO hk h10]) hc j hj (hts _ hlink) (fun x hx2 => by rw [hdc] at hx2; exact hx2) hv hd (k hcs H locs ls hW hS hl)
theorem gj_put (hO : gj_O E X own cc nL rt fr lo) {C : String} {T : u_T} {N ci idx o j : Nat} {ty0 : Nat → FieldType} {ty : FieldType} {v : gj_V} {σ2 : gj_S} (hin : ∀ w ∈ u_ws C T N, w ∈ gj_gw) (hty : ∀ k, k < N → parseFieldDescriptor (T k).2.2.1 = some (ty0 k)) (hnm : ∀ a, a < N → ∀ b, b < N → a ≠ b → (T a).2.1 ≠ (T b).2.1) (ho : gj_lt own o) (hk : gj_kd o = (ci, 0)) (h10 : ci < 10) (hc : vwCl[ci]? = some (C, T, N)) (hj : j < N) (hdc : (T j).1 = C) (hlink : Cond.fieldLink own idx C (T j).2.1 (T j).2.2.1 ∈ gj_gw) (hfin : (T j).2.2.2 = false) (hpd : parseFieldDescriptor (T j).2.2.1 = some ty) (hnar : narrow ty (gj_tv E.2.1 v) = gj_tv E.2.1 v) (hfit : fits ty (gj_tv E.2.1 v) = true)
    (hlen : j < (gj_fs E.2.1 ci o (σ.1 o) (σ.2.1 o) σ.2.2).length) (hs2 : gj_fs E.2.1 ci o (σ2.1 o) (σ2.2.1 o) σ2.2.2 = (gj_fs E.2.1 ci o (σ.1 o) (σ.2.1 o) σ.2.2).set j (gj_tv E.2.1 v)) (hoth : ∀ q, q ≠ o → gj_cell E.2.2.2 E.2.1 σ2 q = gj_cell E.2.2.2 E.2.1 σ q) (hd : decode cc pc = .ok (.putfield idx, 3)) (k : gj_H E X nL ce sl Q (pc + 3) lv st σ2) : gj_H E X nL ce sl Q pc lv (v :: gj_r o :: st) σ := by
  obtain ⟨p, e, R, s, m, args, below, meth, c⟩ := X
  obtain ⟨hx, hb, hml, hown, hts, hK, hi, hr, hlk, hfr, hlo⟩ := hO
  intro hcs H locs ls hW hS hl
  refine va_put hx hb hts hin ty0 hty hnm hown hK hW (gj_D hi.1.1 _ σ) hS o (by rw [gj_at (gj_ltn hi.1 ho), gj_cO hk h10]) hc j hj (hts _ hlink) (fun x hx2 => by rw [hdc] at hx2; exact hx2) hfin hpd hnar hfit hlen hd (fun H1 locs1 hP1 hD1 hS1 => ?_)
  refine k hcs H1 locs1 ls ?_ hS1 hl
  rw [← hs2, ← gj_cO (cy := E.2.2.2) (ad := E.2.1) (σ := σ2) hk h10, gj_set (gj_ltn hi.1 ho) hoth] at hP1
  exact hP1
theorem gj_iret (hO : gj_O E X own cc nL (some .int) fr lo) {x : Int32} (hd : decode cc pc = .ok (.ireturn, 1)) : gj_G E X nL (some (gj_i x)) σ pc lv [gj_i x] σ := by
  obtain ⟨p, e, R, s, m, args, below, meth, c⟩ := X
  obtain ⟨hx, hb, hml, hown, hts, hK, hi, hr, hlk, hfr, hlo⟩ := hO
  intro hcs H locs ls hW hS hl
  exact W.iret (v := x) hx hb hr (fun t ht hw => ⟨⟨rfl, by rw [ht]; exact hW⟩, hS.F ht⟩) hS.2.2 hd
theorem gj_zret (hO : gj_O E X own cc nL (some .boolean) fr lo) {x : Int32} (h01 : x = 0 ∨ x = 1) (hd : decode cc pc = .ok (.ireturn, 1)) : gj_G E X nL (some (gj_i x)) σ pc lv [gj_i x] σ := by
  obtain ⟨p, e, R, s, m, args, below, meth, c⟩ := X
  obtain ⟨hx, hb, hml, hown, hts, hK, hi, hr, hlk, hfr, hlo⟩ := hO
  intro hcs H locs ls hW hS hl
  exact W.zret (v := x) hx hb hr (by rcases h01 with rfl | rfl <;> rfl) (fun t ht hw => ⟨⟨rfl, by rw [ht]; exact hW⟩, hS.F ht⟩) hS.2.2 hd
theorem gj_lret (hO : gj_O E X own cc nL (some .long) fr lo) {x : Int64} (hd : decode cc pc = .ok (.lreturn, 1)) : gj_G E X nL (some (gj_l x)) σ pc lv [gj_l x] σ := by
  obtain ⟨p, e, R, s, m, args, below, meth, c⟩ := X
  obtain ⟨hx, hb, hml, hown, hts, hK, hi, hr, hlk, hfr, hlo⟩ := hO
  intro hcs H locs ls hW hS hl
  exact W.lret (v := x) hx hb hr (fun t ht hw => ⟨⟨rfl, by rw [ht]; exact hW⟩, hS.F ht⟩) hS.2.2 hd
theorem gj_vret (hO : gj_O E X own cc nL none fr lo) (hd : decode cc pc = .ok (.return_, 1)) : gj_G E X nL none σ pc lv [] σ := by
  obtain ⟨p, e, R, s, m, args, below, meth, c⟩ := X
  obtain ⟨hx, hb, hml, hown, hts, hK, hi, hr, hlk, hfr, hlo⟩ := hO
  intro hcs H locs ls hW hS hl
  exact W.vret hx hb hr (fun t ht hw => ⟨⟨rfl, by rw [ht]; exact hW⟩, hS.F ht⟩) hS.2.2 hd
theorem gj_aret {C : String} (hO : gj_O E X own cc nL (some (.object C)) fr lo) {x : Nat} (hd : decode cc pc = .ok (.areturn, 1)) : gj_G E X nL (some (gj_r x)) σ pc lv [gj_r x] σ := by
  obtain ⟨p, e, R, s, m, args, below, meth, c⟩ := X
  obtain ⟨hx, hb, hml, hown, hts, hK, hi, hr, hlk, hfr, hlo⟩ := hO
  intro hcs H locs ls hW hS hl
  exact W.aret (v := .ref (E.2.1 x)) hx hb hr (Or.inl ⟨C, rfl⟩) (Or.inr ⟨_, rfl⟩) (fun t ht hw => ⟨⟨rfl, by rw [ht]; exact hW⟩, hS.F ht⟩) hS.2.2 hd
theorem gj_F {E : gj_E} {s : State} {H : Heap} {locs : List Loc} (hS : va_S (gj_A E.2.1 s.heap.size) s.heap H locs) : ∀ q, gj_A E.2.1 H.size q → gj_A E.2.1 s.heap.size q := fun q h => h.elim Or.inl (fun z => Or.inr (Nat.le_trans hS.1 z))
theorem gj_blind {E : gj_E} {vs : List gj_V} {σ : gj_S} {sz : Nat} : FrameBlind (gj_P E own vs σ sz) := fun a U g mk q => by
  obtain ⟨q0, q1, q2, q3, q4⟩ := q
  exact ⟨q0, q1, q2, va_K.moved (u := U) (U := U.calling g mk a) (Vm.Alike.refl U.vm) q3, q4.1, gj_Zsame (s := U) (U := U.calling g mk a) rfl rfl q4.2⟩
/-- behind a call -/
theorem gj_behind {p : Program} {e : Env} {R : Room} {s : State} {m : MethodId} {args a : Array Value} {below : List Frame} {meth : Method} {c : Code} {H : Heap} {locs : List Loc} {Q : State → Prop} {ls : Array Slot} {stk rest : List Value} {rv : Option gj_V} {σ2 : gj_S} (hS : va_S (gj_A E.2.1 s.heap.size) s.heap H locs)
    (hr : va_Run p E.1 e R s m args below meth c H locs ce sl 0 0 (F0 m pc ls stk) rest (gj_Q E rv σ2 (gj_A E.2.1 H.size) a) (gj_A E.2.1 H.size))
    (kk : ∀ (H1 : Heap) (locs1 : List Loc), gj_W E σ2 H1 → va_S (gj_A E.2.1 s.heap.size) s.heap H1 locs1 → W p E.1 e R s m args below meth c H1 locs1 ce sl Q (F0 m (pc + 3) ls ((rv.map (gj_tv E.2.1)).toList ++ rest))) : W p E.1 e R s m args below meth c H locs ce sl Q (F0 m pc ls stk) := by
  intro T hT X
  obtain ⟨v, st₀, t, T', L, h0, X', hL, e1, e2, ⟨⟨hv, hb⟩, hz, hk⟩, st⟩ := hr T hT X
  cases hv
  rw [h0] at hz hk
  obtain ⟨t2, a1, b1⟩ := kk T'.heap (locs ++ L) (by rw [e1]; exact hb)
    ⟨Nat.le_trans hS.1 (by rw [e1]; exact hz), fun q h1 h2 => by rw [e1, hk q (Nat.lt_of_lt_of_le h1 hS.1) (fun z => h2 (gj_F hS q z))]; exact hS.2.1 q h1 h2, fun q hq => by
      rcases List.mem_append.mp hq with h | h
      · exact hS.2.2 q h
      · exact gj_F hS _ (hL q h)⟩ T' rfl X'
  exact ⟨t2, st t2 a1, b1⟩
theorem gj_callV (hO : gj_O E X own cc nL rt fr lo) {y : MethodName} {yc : ByteArray} {yn idx o ci n N : Nat} {yt : Option FieldType} {yf yl : Nat} {vs stk : List gj_V} {rv : Option gj_V} {σ2 : gj_S} {C : String} {T : u_T} (hM : gj_M E y yc yn yt yf yl (gj_r o :: vs) σ rv σ2) (hio : gj_I E.2.1 own → gj_I E.2.1 y.cls)
    (hl1 : Cond.methodLink own idx y ∈ gj_gw) (hl2 : Cond.instanceMethod y ∈ gj_gw) (hl3 : Cond.selects C y y ∈ gj_gw) (hl4 : Cond.initialized C ∈ gj_gw) (hl5 : Cond.code y yc yn yt ∈ gj_gw)
    (ho : gj_lt own o) (hk : gj_kd o = (ci, 0)) (h10 : ci < 10) (hc : vwCl[ci]? = some (C, T, N)) (hd : y.cls = C ∧ y.cls ≠ "java/lang/invoke/MethodHandle" ∧ y.cls ≠ "java/lang/invoke/VarHandle" ∧ (parseMethodDescriptor y.desc).map (fun d => d.parameters.length) = some n) (hn : vs.length = n) (hf1 : yf + 1 ≤ fr) (hf2 : 8 + (yn + 11) + yl ≤ lo)
    (hstk : stk = vs.reverse ++ gj_r o :: st) (hcat : ((st.map (gj_tv E.2.1)).map fun v => v.category).sum ≤ 8) (hdc : decode cc pc = .ok (.invokevirtual idx, 3)) (k : gj_H E X nL ce sl Q (pc + 3) lv (rv.toList ++ st) σ2) : gj_H E X nL ce sl Q pc lv stk σ := by
  obtain ⟨p, e, R, s, m, args, below, meth, c⟩ := X
  obtain ⟨hx, hb, hml, hown, hts, hK, hi, hr, hlk, hfr, hlo⟩ := hO
  subst hstk
  intro hcs H locs ls hW hS hl
  have hG : GoodIn gj_gw (wsV own idx C y (.code y yc yn yt :: gj_gw)) := gj_GI (fun w hw => by
    rcases List.mem_append.mp hw with h | h
    · simp only [List.mem_cons, List.not_mem_nil, or_false] at h
      rcases h with rfl | rfl | rfl | rfl
      · exact hl1
      · exact hl2
      · exact hl3
      · exact hl4
    · rcases List.mem_cons.mp h with rfl | h
      · exact hl5
      · exact h)
  refine gj_behind hS (va_runV (As := vs.map (gj_tv E.2.1)) (rest := st.map (gj_tv E.2.1)) (b := E.2.1 o) ⟨hx, hb, hml, hown, hts⟩ (hM H.size) (cwV n hts hG rfl rfl rfl hd ⟨by rw [hfr]; exact hf1, by rw [hlo]; exact hf2⟩) ⟨gj_blind, va_recv hK hW (ci := ci) (q0 := o) hc (by rw [gj_at (gj_ltn hi.1 ho), gj_cO hk h10]), fun U hU hWm => ⟨rfl, by rw [hU], by rw [hU]; exact hW, va_K.moved hWm.alike hK, hio hi.1, gj_Zcall hi.2 hS hU hWm⟩⟩ rfl (by rw [List.length_map, hn]) hl.1 (by simp [gj_tv]) (lv_room hcat) hdc hcs) (fun H1 locs1 hW1 hS1 => ?_)
  have := k hcs H1 locs1 ls hW1 hS1 hl
  rw [List.map_append] at this
  cases rv <;> exact this
theorem gj_callS (hO : gj_O E X own cc nL rt fr lo) {y : MethodName} {yc : ByteArray} {yn idx n : Nat} {yt : Option FieldType} {yf yl : Nat} {vs stk : List gj_V} {rv : Option gj_V} {σ2 : gj_S} (hM : gj_M E y yc yn yt yf yl vs σ rv σ2) (hio : gj_I E.2.1 own → gj_I E.2.1 y.cls)
    (hl1 : Cond.methodLink own idx y ∈ gj_gw) (hl2 : Cond.static y ∈ gj_gw) (hl4 : Cond.initialized y.cls ∈ gj_gw) (hl5 : Cond.code y yc yn yt ∈ gj_gw)
    (hd : y.cls ≠ "java/lang/invoke/MethodHandle" ∧ y.cls ≠ "java/lang/invoke/VarHandle" ∧ (parseMethodDescriptor y.desc).map (fun d => d.parameters.length) = some n) (hn : vs.length = n) (hf1 : yf + 1 ≤ fr) (hf2 : 8 + (yn + 11) + yl ≤ lo)
    (hstk : stk = vs.reverse ++ st) (hcat : ((st.map (gj_tv E.2.1)).map fun v => v.category).sum ≤ 8) (hdc : decode cc pc = .ok (.invokestatic idx, 3)) (k : gj_H E X nL ce sl Q (pc + 3) lv (rv.toList ++ st) σ2) : gj_H E X nL ce sl Q pc lv stk σ := by
  obtain ⟨p, e, R, s, m, args, below, meth, c⟩ := X
  obtain ⟨hx, hb, hml, hown, hts, hK, hi, hr, hlk, hfr, hlo⟩ := hO
  subst hstk
  intro hcs H locs ls hW hS hl
  have hG : GoodIn gj_gw (va_wsS own idx y (.code y yc yn yt :: gj_gw)) := gj_GI (fun w hw => by
    rcases List.mem_append.mp hw with h | h
    · simp only [List.mem_cons, List.not_mem_nil, or_false] at h
      rcases h with rfl | rfl | rfl
      · exact hl1
      · exact hl2
      · exact hl4
    · rcases List.mem_cons.mp h with rfl | h
      · exact hl5
      · exact h)
  refine gj_behind hS (va_runS (As := vs.map (gj_tv E.2.1)) (rest := st.map (gj_tv E.2.1)) ⟨hx, hb, hml, hown, hts⟩ (hM H.size) (va_cwS n hts hG rfl rfl rfl hd ⟨by rw [hfr]; exact hf1, by rw [hlo]; exact hf2⟩) ⟨gj_blind, fun U hU hWm => ⟨rfl, by rw [hU], by rw [hU]; exact hW, va_K.moved hWm.alike hK, hio hi.1, gj_Zcall hi.2 hS hU hWm⟩⟩ rfl (by rw [List.length_map, hn]) hl.1 (by simp) (lv_room hcat) hdc hcs) (fun H1 locs1 hW1 hS1 => ?_)
  have := k hcs H1 locs1 ls hW1 hS1 hl
  rw [List.map_append] at this
  cases rv <;> exact this
end
