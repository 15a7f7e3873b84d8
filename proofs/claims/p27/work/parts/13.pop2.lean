theorem gj_pop2 {E : gj_E} {X : gj_X} {own : String} {cc : ByteArray} {nL : Nat} {rt : Option FieldType} {fr lo : Nat} {ce sl : Nat} {Q : State → Prop} {pc : Nat} {lv : List (Nat × gj_V)} {st : List gj_V} {σ : gj_S} (hO : gj_O E X own cc nL rt fr lo) {x : Int64} (hd : decode cc pc = .ok (.pop2, 1)) (k : gj_H E X nL ce sl Q (pc + 1) lv st σ) : gj_H E X nL ce sl Q pc lv (gj_l x :: st) σ := by
  obtain ⟨p, e, R, s, m, args, below, meth, c⟩ := X
  obtain ⟨hx, hb, hml, hown, hts, hK, hi, hr, hlk, hfr, hlo⟩ := hO
  intro hcs H locs ls hW hS hl
  exact lv_pop2_2 hx hb hd rfl (k hcs H locs ls hW hS hl)
