theorem wb_oi : Cond.instanceMethod objectInit ∈ gj_gw := gj_good (List.mem_of_getElem? (i := 27) (by decide +kernel)) (by decide +kernel)
theorem wb_oc : Cond.code objectInit ⟨#[0xb1]⟩ 1 none ∈ gj_gw := gj_good (List.mem_of_getElem? (i := 28) (by decide +kernel)) (by decide +kernel)
theorem wb_aI : Cond.arrayClass .int ∈ gj_gw := gj_good (List.mem_of_getElem? (i := 129) (by decide +kernel)) (by decide +kernel)
theorem wb_aJ : Cond.arrayClass .long ∈ gj_gw := gj_good (List.mem_of_getElem? (i := 166) (by decide +kernel)) (by decide +kernel)
theorem wb_aB : Cond.arrayClass .byte ∈ gj_gw := gj_good (List.mem_of_getElem? (i := 128) (by decide +kernel)) (by decide +kernel)
theorem wb_aZ : Cond.arrayClass .boolean ∈ gj_gw := gj_good (List.mem_of_getElem? (i := 241) (by decide +kernel)) (by decide +kernel)
/-- the nest mates' links, by class, place in its pool, method -/
def bj_nest : List (String × Nat × MethodName) := [(RX8, 19, yX2_init), (RX2, 11, yX1_init), (RX8, 30, yX7_init), (RX7, 11, yX1_init), (RX7, 20, yX5_init), (RX7, 27, yX3_init), (RX0, 24, yX1_init), (RX8, 57, yX6_init), (RX8, 64, yX4_init), (RX8, 69, yX1_init)]
def bj_Z (U : State) : Prop := (∀ q ∈ bj_nest, va_Nw (.methodLinkNest q.1 q.2.1 q.2.2 "PivotDocks") U) ∧ va_AO "PivotDocks$Plan" U
theorem bj_Zwarm {s U : State} (hW : s.WarmedH U.vm) (h : bj_Z s) : bj_Z U := ⟨fun q hq => va_Nw.warmM hW (h.1 q hq), va_AO.moved hW.alike h.2⟩
theorem bj_Zsame {s U : State} (hv : s.vm = U.vm) (h : bj_Z s) : bj_Z U := ⟨fun q hq => va_Nw.same rfl hv (h.1 q hq), va_AO.moved (by rw [← hv]; exact Vm.Alike.refl s.vm) h.2⟩
/-- launch, base, classes' numbers, arrays' classes -/
abbrev bj_E : Type := Launch × Nat × va_G × (Nat → ClassId)
def bj_P (E : bj_E) (n : Nat) (w : Nat → va_E) (H : Heap) : Prop := ∀ k, k < n → va_at E.2.2.1 vwCl (E.2.1 + k, w k) H
def bj_ws (B n : Nat) (w : Nat → va_E) : va_W := (List.range n).map (fun k => (B + k, w k))
theorem bj_at {B n : Nat} {w : Nat → va_E} {k : Nat} (h : k < n) : (bj_ws B n w)[k]? = some (B + k, w k) := by simp [bj_ws, h]
theorem bj_at_inv {B n : Nat} {w : Nat → va_E} {k : Nat} {q : Nat × va_E} (h : (bj_ws B n w)[k]? = some q) : k < n ∧ q = (B + k, w k) := by
  by_cases hk : k < n
  · rw [bj_at hk] at h
    exact ⟨hk, (Option.some.inj h).symm⟩
  · simp [bj_ws, hk] at h
theorem bj_toP {E : bj_E} {n : Nat} {w : Nat → va_E} {H : Heap} (h : bj_P E n w H) : va_P E.2.2.1 vwCl (bj_ws E.2.1 n w) H := by
  intro k q hq
  obtain ⟨hk, rfl⟩ := bj_at_inv hq
  exact h k hk
theorem bj_D (B n : Nat) (w : Nat → va_E) : va_D (fun q => B ≤ q) (bj_ws B n w) := by
  refine ⟨fun i j p q hp hq e => ?_, fun k q hq => ?_⟩
  · obtain ⟨h1, rfl⟩ := bj_at_inv hp
    obtain ⟨h2, rfl⟩ := bj_at_inv hq
    have : B + i = B + j := e
    omega
  · obtain ⟨h1, rfl⟩ := bj_at_inv hq
    exact Nat.le_add_right B k
theorem bj_setw {B n : Nat} {w : Nat → va_E} {k : Nat} {c : va_E} (hk : k < n) : (bj_ws B n w).set k (B + k, c) = bj_ws B n (va_up w k c) := by
  apply List.ext_getElem?
  intro i
  by_cases hi : i < n
  · by_cases e : i = k
    · subst e
      rw [bj_at hi, List.getElem?_set_self (by simp [bj_ws, hi])]
      simp [va_up]
    · rw [bj_at hi, List.getElem?_set_ne (fun q => e q.symm), bj_at hi]
      simp [va_up, e]
  · rw [List.getElem?_eq_none (by simp [bj_ws]; omega), List.getElem?_eq_none (by simp [bj_ws]; omega)]
theorem bj_ofP {E : bj_E} {n : Nat} {w : Nat → va_E} {H : Heap} (h : va_P E.2.2.1 vwCl (bj_ws E.2.1 n w) H) : bj_P E n w H := fun k hk => h k _ (bj_at hk)
theorem bj_P.congr {E : bj_E} {n : Nat} {w w2 : Nat → va_E} {H : Heap} (h : bj_P E n w H) (e : ∀ k, k < n → w k = w2 k) : bj_P E n w2 H := fun k hk => by rw [← e k hk]; exact h k hk
def bj_tv (B : Nat) (v : gj_V) : Value := gj_tv (fun k => B + k) v
def bj_H (E : bj_E) (X : gj_X) (nL ce sl : Nat) (Q : State → Prop) (pc : Nat) (lv : List (Nat × gj_V)) (st : List gj_V) (n : Nat) (w : Nat → va_E) : Prop :=
  match X with
  | (p, e, R, s, m, args, below, meth, c) => ∀ (H : Heap) (locs : List Loc) (ls : Array Slot), bj_P E n w H → va_S (fun q => E.2.1 ≤ q) s.heap H locs → lv_has ls nL (gj_L (fun k => E.2.1 + k) lv) →
    W p E.1 e R s m args below meth c H locs ce sl Q (F0 m pc ls (st.map (gj_tv (fun k => E.2.1 + k))))
/-- what a building method owes: the world w2 of n2 cells -/
def bj_Q (E : bj_E) (n2 : Nat) (w2 : Nat → va_E) : Array Value → State → Outcome → State → Prop := fun _ st oc t => (oc = .returned none ∧ bj_P E n2 w2 t.heap) ∧ va_F (fun q => E.2.1 ≤ q) st t
def bj_M (E : bj_E) (y : MethodName) (c : ByteArray) (nL fr lo mc ms o n : Nat) (w : Nat → va_E) (n2 : Nat) (w2 : Nat → va_E) : Prop :=
  Met E.1 y (.code y c nL none :: gj_gw) { frames := fr, cells := mc, slots := ms, locals := lo } (va_Pc [.ref (E.2.1 + o)] (fun U => U.heap.size = E.2.1 + n ∧ bj_P E n w U.heap ∧ va_K E.2.2.1 vwCl (gj_tys E.2.2.2) U ∧ bj_Z U)) (bj_Q E n2 w2) mc ms (fun q => E.2.1 ≤ q)
def bj_O (E : bj_E) (X : gj_X) (own : String) (cc : ByteArray) (nL fr lo mc ms n0 : Nat) : Prop :=
  match X with
  | (p, _, R, s, m, args, _, meth, c) => p.tables.exec = Jvm.exec ∧ c.code = cc ∧ c.maxLocals = nL ∧ s.vm.findClass own = some m.cls ∧ (∀ w ∈ gj_gw, w.before args s = true) ∧ va_K E.2.2.1 vwCl (gj_tys E.2.2.2) s ∧ bj_Z s ∧ meth.sig.returnType = none ∧ meth.locks = false ∧ meth.name = "<init>" ∧ R.frames = fr ∧ R.locals = lo ∧ R.cells = mc ∧ R.slots = ms ∧ s.heap.size = E.2.1 + n0
def bj_MQ (E : bj_E) (X : gj_X) (mc ms n2 : Nat) (w2 : Nat → va_E) : State → Prop :=
  match X with
  | (_, _, _, s, _, args, below, _, _) => MQ below (bj_Q E n2 w2) args s mc ms (fun q => E.2.1 ≤ q)
theorem bj_body {E : bj_E} {y : MethodName} {c : ByteArray} {nL fr lo mc ms o n n2 : Nat} {w w2 : Nat → va_E} (hy : plainFor y = true) (hn : y.name = "<init>") (h1 : 1 ≤ nL)
    (h : ∀ X : gj_X, bj_O E X y.cls c nL fr lo mc ms n → bj_H E X nL 0 0 (bj_MQ E X mc ms n2 w2) 0 [(0, gj_r o)] [] n w) : bj_M E y c nL fr lo mc ms o n w n2 w2 := by
  refine gj_ofW (cc := c) (maxL := nL) (ret := none) hy rfl ?_
  intro p e s m args below meth cd s₁ B hml hv
  obtain ⟨rfl, hsz, hW, hK, hZ⟩ := hv
  have hts := atoms_spec (ws := .code y c nL none :: gj_gw) B.pre
  have hO : bj_O E (p, e, (headSpec (.code y c nL none :: gj_gw) { frames := fr, cells := mc, slots := ms, locals := lo }).room, s, m, ([.ref (E.2.1 + o)] : List Value).toArray, below, meth, cd) y.cls c nL fr lo mc ms n :=
    ⟨B.exec, B.bytes, hml, findClass_of_methodNamed B.named, fun w hw => hts w (List.mem_cons_of_mem _ hw), hK, hZ, B.returns, B.notSynchronized, (name_of_methodNamed B.named B.method).1.trans hn, rfl, rfl, rfl, rfl, hsz⟩
  have hl := lv_entry ([.ref (E.2.1 + o)]) (n := nL) h1
  rw [lg_entry_eq]
  exact h _ hO s.heap [] _ hW va_S.rf hl
section
variable {E : bj_E} {X : gj_X} {own : String} {cc : ByteArray} {nL fr lo mc ms n0 ce sl : Nat} {Q : State → Prop} {pc : Nat} {lv : List (Nat × gj_V)} {st : List gj_V} {n : Nat} {w : Nat → va_E}
theorem bj_aload_n (hO : bj_O E X own cc nL fr lo mc ms n0) {i : Fin 4} {q : Nat} (j : Nat) {x : Nat} (hd : decode cc pc = .ok (.aload_n i, 1)) (hn : (i : Nat) = q) (hj : lv[j]? = some (q, gj_r x)) (k : bj_H E X nL ce sl Q (pc + 1) lv (gj_r x :: st) n w) : bj_H E X nL ce sl Q pc lv st n w := by
  obtain ⟨p, e, R, s, m, args, below, meth, c⟩ := X
  obtain ⟨hx, hb, hml, hown, hts, hK, hZ, hr, hlk, hin, hfr, hlo, hmc, hms, hB⟩ := hO
  intro H locs ls hW hS hl
  exact lv_aload_n hx hb hd hn (lv_at hl j (by unfold gj_L; rw [List.getElem?_map, hj]; rfl)) (k H locs ls hW hS hl)
theorem bj_iload_n (hO : bj_O E X own cc nL fr lo mc ms n0) {i : Fin 4} {q : Nat} (j : Nat) {x : Int32} (hd : decode cc pc = .ok (.iload_n i, 1)) (hn : (i : Nat) = q) (hj : lv[j]? = some (q, gj_i x)) (k : bj_H E X nL ce sl Q (pc + 1) lv (gj_i x :: st) n w) : bj_H E X nL ce sl Q pc lv st n w := by
  obtain ⟨p, e, R, s, m, args, below, meth, c⟩ := X
  obtain ⟨hx, hb, hml, hown, hts, hK, hZ, hr, hlk, hin, hfr, hlo, hmc, hms, hB⟩ := hO
  intro H locs ls hW hS hl
  exact lv_iload_n hx hb hd hn (lv_at hl j (by unfold gj_L; rw [List.getElem?_map, hj]; rfl)) (k H locs ls hW hS hl)
theorem bj_iconst (hO : bj_O E X own cc nL fr lo mc ms n0) {z : Int} {v : Int32} (hd : decode cc pc = .ok (.iconst z, 1)) (hv : Int32.ofInt z = v) (k : bj_H E X nL ce sl Q (pc + 1) lv (gj_i v :: st) n w) : bj_H E X nL ce sl Q pc lv st n w := by
  obtain ⟨p, e, R, s, m, args, below, meth, c⟩ := X
  obtain ⟨hx, hb, hml, hown, hts, hK, hZ, hr, hlk, hin, hfr, hlo, hmc, hms, hB⟩ := hO
  intro H locs ls hW hS hl
  exact lv_iconst hx hb hd hv (k H locs ls hW hS hl)
theorem bj_bipush (hO : bj_O E X own cc nL fr lo mc ms n0) {z : Int} {v : Int32} (hd : decode cc pc = .ok (.bipush z, 2)) (hv : (Int8.ofInt z).toInt32 = v) (k : bj_H E X nL ce sl Q (pc + 2) lv (gj_i v :: st) n w) : bj_H E X nL ce sl Q pc lv st n w := by
  obtain ⟨p, e, R, s, m, args, below, meth, c⟩ := X
  obtain ⟨hx, hb, hml, hown, hts, hK, hZ, hr, hlk, hin, hfr, hlo, hmc, hms, hB⟩ := hO
  intro H locs ls hW hS hl
  exact lv_bipush hx hb hd hv (k H locs ls hW hS hl)
theorem bj_sipush (hO : bj_O E X own cc nL fr lo mc ms n0) {z : Int} {v : Int32} (hd : decode cc pc = .ok (.sipush z, 3)) (hv : (Int16.ofInt z).toInt32 = v) (k : bj_H E X nL ce sl Q (pc + 3) lv (gj_i v :: st) n w) : bj_H E X nL ce sl Q pc lv st n w := by
  obtain ⟨p, e, R, s, m, args, below, meth, c⟩ := X
  obtain ⟨hx, hb, hml, hown, hts, hK, hZ, hr, hlk, hin, hfr, hlo, hmc, hms, hB⟩ := hO
  intro H locs ls hW hS hl
  exact lv_sipush hx hb hd hv (k H locs ls hW hS hl)
theorem bj_lconst (hO : bj_O E X own cc nL fr lo mc ms n0) {z : Fin 2} {v : Int64} (hd : decode cc pc = .ok (.lconst z, 1)) (hv : Int64.ofNat (z : Nat) = v) (k : bj_H E X nL ce sl Q (pc + 1) lv (gj_l v :: st) n w) : bj_H E X nL ce sl Q pc lv st n w := by
  obtain ⟨p, e, R, s, m, args, below, meth, c⟩ := X
  obtain ⟨hx, hb, hml, hown, hts, hK, hZ, hr, hlk, hin, hfr, hlo, hmc, hms, hB⟩ := hO
  intro H locs ls hW hS hl
  exact lv_lconst hx hb hd hv (k H locs ls hW hS hl)
theorem bj_dup (hO : bj_O E X own cc nL fr lo mc ms n0) {v : gj_V} (hd : decode cc pc = .ok (.dup, 1)) (h1 : gj_c1 v) (k : bj_H E X nL ce sl Q (pc + 1) lv (v :: v :: st) n w) : bj_H E X nL ce sl Q pc lv (v :: st) n w := by
  obtain ⟨p, e, R, s, m, args, below, meth, c⟩ := X
  obtain ⟨hx, hb, hml, hown, hts, hK, hZ, hr, hlk, hin, hfr, hlo, hmc, hms, hB⟩ := hO
  intro H locs ls hW hS hl
  exact lv_dup hx hb hd (gj_c1_cat h1) (k H locs ls hW hS hl)
theorem bj_istore_n (hO : bj_O E X own cc nL fr lo mc ms n0) {i : Fin 4} {q : Nat} {x : Int32} {lv2 : List (Nat × gj_V)} (hd : decode cc pc = .ok (.istore_n i, 1)) (hn : (i : Nat) = q) (hb2 : q < nL) (hv : gj_put1 lv q (gj_i x) = lv2) (k : bj_H E X nL ce sl Q (pc + 1) lv2 st n w) : bj_H E X nL ce sl Q pc lv (gj_i x :: st) n w := by
  obtain ⟨p, e, R, s, m, args, below, meth, c⟩ := X
  obtain ⟨hx, hb, hml, hown, hts, hK, hZ, hr, hlk, hin, hfr, hlo, hmc, hms, hB⟩ := hO
  intro H locs ls hW hS hl
  subst hv
  exact lv_istore_n hx hb hd hn hl hb2 (gj_put1_L _ lv q (gj_i x)) (fun ls2 hl2 => k H locs ls2 hW hS hl2)
theorem bj_iinc (hO : bj_O E X own cc nL fr lo mc ms n0) {i : Nat} {z : Int} (j : Nat) {x v : Int32} {lv2 : List (Nat × gj_V)} (hd : decode cc pc = .ok (.iinc i z, 3)) (hj : lv[j]? = some (i, gj_i x)) (hw : x + Int32.ofInt z = v) (hb2 : i < nL) (hv : gj_put1 lv i (gj_i v) = lv2) (k : bj_H E X nL ce sl Q (pc + 3) lv2 st n w) : bj_H E X nL ce sl Q pc lv st n w := by
  obtain ⟨p, e, R, s, m, args, below, meth, c⟩ := X
  obtain ⟨hx, hb, hml, hown, hts, hK, hZ, hr, hlk, hin, hfr, hlo, hmc, hms, hB⟩ := hO
  intro H locs ls hW hS hl
  subst hv
  exact lv_iinc hx hb hd hl (k := j) (by unfold gj_L; rw [List.getElem?_map, hj]; rfl) hw hb2 (gj_put1_L _ lv i (gj_i v)) (fun ls2 hl2 => k H locs ls2 hW hS hl2)
theorem bj_ge_t (hO : bj_O E X own cc nL fr lo mc ms n0) {x y : Int32} {off : Int} {tgt : Nat} (hd : decode cc pc = .ok (.if_icmp .ge off, 3)) (ht : (pc : Int) + off = (tgt : Int)) (h : y ≤ x) (k : bj_H E X nL ce sl Q tgt lv st n w) : bj_H E X nL ce sl Q pc lv (gj_i y :: gj_i x :: st) n w := by
  obtain ⟨p, e, R, s, m, args, below, meth, c⟩ := X
  obtain ⟨hx, hb, hml, hown, hts, hK, hZ, hr, hlk, hin, hfr, hlo, hmc, hms, hB⟩ := hO
  intro H locs ls hW hS hl
  exact lv_icmp_ge hx hb hd ht (fun _ => k H locs ls hW hS hl) (fun h2 => absurd h h2)
theorem bj_ge_f (hO : bj_O E X own cc nL fr lo mc ms n0) {x y : Int32} {off : Int} (tgt : Nat) (hd : decode cc pc = .ok (.if_icmp .ge off, 3)) (ht : (pc : Int) + off = (tgt : Int)) (h : ¬ y ≤ x) (k : bj_H E X nL ce sl Q (pc + 3) lv st n w) : bj_H E X nL ce sl Q pc lv (gj_i y :: gj_i x :: st) n w := by
  obtain ⟨p, e, R, s, m, args, below, meth, c⟩ := X
  obtain ⟨hx, hb, hml, hown, hts, hK, hZ, hr, hlk, hin, hfr, hlo, hmc, hms, hB⟩ := hO
  intro H locs ls hW hS hl
  exact lv_icmp_ge hx hb hd ht (fun h2 => absurd h2 h) (fun _ => k H locs ls hW hS hl)
theorem bj_goto (hO : bj_O E X own cc nL fr lo mc ms n0) {off : Int} {tgt : Nat} (hd : decode cc pc = .ok (.goto off, 3)) (ht : (pc : Int) + off = (tgt : Int)) (k : bj_H E X nL ce sl Q tgt lv st n w) : bj_H E X nL ce sl Q pc lv st n w := by
  obtain ⟨p, e, R, s, m, args, below, meth, c⟩ := X
  obtain ⟨hx, hb, hml, hown, hts, hK, hZ, hr, hlk, hin, hfr, hlo, hmc, hms, hB⟩ := hO
  intro H locs ls hW hS hl
  exact lv_goto hx hb hd ht (k H locs ls hW hS hl)
theorem bj_obj (hO : bj_O E X own cc nL fr lo mc ms n0) {idx : Nat} {a : Nat} (hl1 : Cond.methodLink own idx objectInit ∈ gj_gw) (hd : decode cc pc = .ok (.invokespecial idx, 3)) (hf1 : 1 ≤ fr) (hf2 : 12 ≤ lo) (hst : st = []) (k : bj_H E X nL ce sl Q (pc + 3) lv st n w) : bj_H E X nL ce sl Q pc lv (gj_r a :: st) n w := by
  obtain ⟨p, e, R, s, m, args, below, meth, c⟩ := X
  obtain ⟨hx, hb, hml, hown, hts, hK, hZ, hr, hlk, hin, hfr, hlo, hmc, hms, hB⟩ := hO
  intro H locs ls hW hS hl
  subst hst
  refine W.objInit hx hb hown (hts _ hl1) (hts _ wb_oi) (hts _ wb_oc) rfl (hl.1.trans hml.symm) rfl hd (by omega) (by simp [JFrame.monitorRoom]; omega) ?_
  exact k H locs ls hW hS hl
theorem bj_sz {p : Program} {l : Launch} {e : Env} {R : Room} {s : State} {m : MethodId} {args : Array Value} {below : List Frame} {meth : Method} {c : Code} {H : Heap} {locs : List Loc} {g : JFrame} (h : H.size ≤ s.heap.size + ce → W p l e R s m args below meth c H locs ce sl Q g) : W p l e R s m args below meth c H locs ce sl Q g := by
  intro T hT X
  refine h ?_ T hT X
  rw [← hT]
  exact X.same.2.2.1
theorem bj_size {B : Nat} {H : Heap} {s : State} (hW : bj_P E n w H) (h0 : 0 < n) (hs : s.heap.size = E.2.1 + n0) (hn : n0 + ce = n) (hz : H.size ≤ s.heap.size + ce) : H.size = E.2.1 + n := by
  have h1 := (hW (n - 1) (by omega)).lt
  have h2 : E.2.1 + (n - 1) < H.size := h1
  omega
theorem bj_push {H H1 : Heap} (hz : H.size = E.2.1 + n) (hW : bj_P E n w H) (o1 : ∀ q, q < H.size → H1[q]? = H[q]?) {c : va_E} (hc : va_at E.2.2.1 vwCl (E.2.1 + n, c) H1) {w2 : Nat → va_E} (h0n : 0 < n) (hna : n0 + ce = n) (e1 : ∀ k, k < n → w2 k = w k) (e2 : w2 n = c) : bj_P E (n + 1) w2 H1 := by
  intro k hk
  by_cases h : k < n
  · rw [e1 k h]
    have := hW k h
    exact this.kept (o1 _ this.lt)
  · have : k = n := by omega
    subst this
    rw [e2]
    exact hc
theorem bj_Spush {B : Nat} {H0 H H1 : Heap} {locs : List Loc} (hS : va_S (fun q => B ≤ q) H0 H locs) (z1 : H1.size = H.size + 1) (o1 : ∀ q, q < H.size → H1[q]? = H[q]?) : va_S (fun q => B ≤ q) H0 H1 locs := ⟨Nat.le_trans hS.1 (by omega), fun x h1 h2 => (o1 x (Nat.lt_of_lt_of_le h1 hS.1)).trans (hS.2.1 x h1 h2), hS.2.2⟩
theorem bj_new (hO : bj_O E X own cc nL fr lo mc ms n0) {C : String} {T : u_T} {N ci idx : Nat} {ty : Nat → FieldType} {fs : List Value} {w2 : Nat → va_E} (hin9 : ∀ w ∈ u_ws C T N, w ∈ gj_gw) (hty : ∀ k, k < N → parseFieldDescriptor (T k).2.2.1 = some (ty k)) (hl1 : Cond.classLink own idx C ∈ gj_gw) (hl2 : Cond.instantiable C N ∈ gj_gw) (hl3 : Cond.initialized C ∈ gj_gw) (hc : vwCl[ci]? = some (C, T, N)) (hfs : ∀ j, j < N → defaultValue (ty j) = vp_V fs j) (h1 : ce + 1 ≤ mc) (h2 : sl + N ≤ ms) (h0n : 0 < n) (hna : n0 + ce = n) (e1 : ∀ k, k < n → w2 k = w k) (e2 : w2 n = .inr (ci, fs)) (hd : decode cc pc = .ok (.new idx, 3)) (k : bj_H E X nL (ce + 1) (sl + N) Q (pc + 3) lv (gj_r n :: st) (n + 1) w2) : bj_H E X nL ce sl Q pc lv st n w := by
  obtain ⟨p, e, R, s, m, args, below, meth, c⟩ := X
  obtain ⟨hx, hb, hml, hown, hts, hK, hZ, hr, hlk, hin, hfr, hlo, hmc, hms, hB⟩ := hO
  intro H locs ls hW hS hl
  have hKn := hK.1 ci _ hc
  refine bj_sz fun hz9 => ?_
  have hz : H.size = E.2.1 + n := bj_size (B := 0) hW h0n hB hna hz9
  refine W.newcK hx hb hown (hts _ hl1) (hts _ hl2) (hts _ hl3) rfl hd (by omega) (by omega) hKn.2.1 rfl fun H1 kC hkC q1 z1 o1 => ?_
  rw [hz] at q1
  have hat : va_at E.2.2.1 vwCl (E.2.1 + n, .inr (ci, fs)) H1 := ⟨_, hc, (u_born ty hts hin9 hKn hkC q1 hty).to hfs⟩
  have := k H1 locs ls (bj_push hz hW o1 hat h0n hna e1 e2) (bj_Spush hS z1 o1) hl
  rw [hz]
  exact this
theorem bj_newaI (hO : bj_O E X own cc nL fr lo mc ms n0) {z : Int32} {N : Nat} {w2 : Nat → va_E} (hn0 : ¬ z < 0) (hN : z.toNatClampNeg = N) (hN2 : N ≤ 5000) (h1 : ce + 1 ≤ mc) (h2 : sl + N ≤ ms) (h0n : 0 < n) (hna : n0 + ce = n) (e1 : ∀ k, k < n → w2 k = w k) (e2 : w2 n = .inl (E.2.2.2 1, N, .inl (fun _ => 0))) (hd : decode cc pc = .ok (.newarray .int, 2)) (k : bj_H E X nL (ce + 1) (sl + N) Q (pc + 2) lv (gj_r n :: st) (n + 1) w2) : bj_H E X nL ce sl Q pc lv (gj_i z :: st) n w := by
  obtain ⟨p, e, R, s, m, args, below, meth, c⟩ := X
  obtain ⟨hx, hb, hml, hown, hts, hK, hZ, hr, hlk, hin, hfr, hlo, hmc, hms, hB⟩ := hO
  intro H locs ls hW hS hl
  refine bj_sz fun hz9 => ?_
  have hz : H.size = E.2.1 + n := bj_size (B := 0) hW h0n hB hna hz9
  refine va_newaK (atype := .int) hx hb (hts _ wb_aI) rfl hd rfl hn0 hN (by show N * 4 ≤ 536870912; omega) (by omega) (by omega) rfl fun H1 cA q1 z1 o1 hAr hNm => ?_
  rw [hz] at q1
  have hcy : cA = E.2.2.2 1 := by
    have := (hK.2 1 (E.2.2.2 1, .int) rfl).2
    exact Option.some.inj (hNm.symm.trans this)
  subst hcy
  have hat : va_at E.2.2.1 vwCl (E.2.1 + n, .inl (E.2.2.2 1, N, .inl (fun _ => 0))) H1 := q1
  have := k H1 locs ls (bj_push hz hW o1 hat h0n hna e1 e2) (bj_Spush hS z1 o1) hl
  rw [hz]
  exact this
theorem bj_newaJ (hO : bj_O E X own cc nL fr lo mc ms n0) {z : Int32} {N : Nat} {w2 : Nat → va_E} (hn0 : ¬ z < 0) (hN : z.toNatClampNeg = N) (hN2 : N ≤ 5000) (h1 : ce + 1 ≤ mc) (h2 : sl + N ≤ ms) (h0n : 0 < n) (hna : n0 + ce = n) (e1 : ∀ k, k < n → w2 k = w k) (e2 : w2 n = .inl (E.2.2.2 2, N, .inr (.inl (fun _ => 0)))) (hd : decode cc pc = .ok (.newarray .long, 2)) (k : bj_H E X nL (ce + 1) (sl + N) Q (pc + 2) lv (gj_r n :: st) (n + 1) w2) : bj_H E X nL ce sl Q pc lv (gj_i z :: st) n w := by
  obtain ⟨p, e, R, s, m, args, below, meth, c⟩ := X
  obtain ⟨hx, hb, hml, hown, hts, hK, hZ, hr, hlk, hin, hfr, hlo, hmc, hms, hB⟩ := hO
  intro H locs ls hW hS hl
  refine bj_sz fun hz9 => ?_
  have hz : H.size = E.2.1 + n := bj_size (B := 0) hW h0n hB hna hz9
  refine va_newaK (atype := .long) hx hb (hts _ wb_aJ) rfl hd rfl hn0 hN (by show N * 8 ≤ 536870912; omega) (by omega) (by omega) rfl fun H1 cA q1 z1 o1 hAr hNm => ?_
  rw [hz] at q1
  have hcy : cA = E.2.2.2 2 := by
    have := (hK.2 2 (E.2.2.2 2, .long) rfl).2
    exact Option.some.inj (hNm.symm.trans this)
  subst hcy
  have hat : va_at E.2.2.1 vwCl (E.2.1 + n, .inl (E.2.2.2 2, N, .inr (.inl (fun _ => 0)))) H1 := q1
  have := k H1 locs ls (bj_push hz hW o1 hat h0n hna e1 e2) (bj_Spush hS z1 o1) hl
  rw [hz]
  exact this
theorem bj_newaB (hO : bj_O E X own cc nL fr lo mc ms n0) {z : Int32} {N : Nat} {w2 : Nat → va_E} (hn0 : ¬ z < 0) (hN : z.toNatClampNeg = N) (hN2 : N ≤ 5000) (h1 : ce + 1 ≤ mc) (h2 : sl + N ≤ ms) (h0n : 0 < n) (hna : n0 + ce = n) (e1 : ∀ k, k < n → w2 k = w k) (e2 : w2 n = .inl (E.2.2.2 0, N, .inl (fun _ => 0))) (hd : decode cc pc = .ok (.newarray .byte, 2)) (k : bj_H E X nL (ce + 1) (sl + N) Q (pc + 2) lv (gj_r n :: st) (n + 1) w2) : bj_H E X nL ce sl Q pc lv (gj_i z :: st) n w := by
  obtain ⟨p, e, R, s, m, args, below, meth, c⟩ := X
  obtain ⟨hx, hb, hml, hown, hts, hK, hZ, hr, hlk, hin, hfr, hlo, hmc, hms, hB⟩ := hO
  intro H locs ls hW hS hl
  refine bj_sz fun hz9 => ?_
  have hz : H.size = E.2.1 + n := bj_size (B := 0) hW h0n hB hna hz9
  refine va_newaK (atype := .byte) hx hb (hts _ wb_aB) rfl hd rfl hn0 hN (by show N * 1 ≤ 536870912; omega) (by omega) (by omega) rfl fun H1 cA q1 z1 o1 hAr hNm => ?_
  rw [hz] at q1
  have hcy : cA = E.2.2.2 0 := by
    have := (hK.2 0 (E.2.2.2 0, .byte) rfl).2
    exact Option.some.inj (hNm.symm.trans this)
  subst hcy
  have hat : va_at E.2.2.1 vwCl (E.2.1 + n, .inl (E.2.2.2 0, N, .inl (fun _ => 0))) H1 := q1
  have := k H1 locs ls (bj_push hz hW o1 hat h0n hna e1 e2) (bj_Spush hS z1 o1) hl
  rw [hz]
  exact this
theorem bj_newaZ (hO : bj_O E X own cc nL fr lo mc ms n0) {z : Int32} {N : Nat} {w2 : Nat → va_E} (hn0 : ¬ z < 0) (hN : z.toNatClampNeg = N) (hN2 : N ≤ 5000) (h1 : ce + 1 ≤ mc) (h2 : sl + N ≤ ms) (h0n : 0 < n) (hna : n0 + ce = n) (e1 : ∀ k, k < n → w2 k = w k) (e2 : w2 n = .inl (E.2.2.2 3, N, .inl (fun _ => 0))) (hd : decode cc pc = .ok (.newarray .boolean, 2)) (k : bj_H E X nL (ce + 1) (sl + N) Q (pc + 2) lv (gj_r n :: st) (n + 1) w2) : bj_H E X nL ce sl Q pc lv (gj_i z :: st) n w := by
  obtain ⟨p, e, R, s, m, args, below, meth, c⟩ := X
  obtain ⟨hx, hb, hml, hown, hts, hK, hZ, hr, hlk, hin, hfr, hlo, hmc, hms, hB⟩ := hO
  intro H locs ls hW hS hl
  refine bj_sz fun hz9 => ?_
  have hz : H.size = E.2.1 + n := bj_size (B := 0) hW h0n hB hna hz9
  refine va_newaK (atype := .boolean) hx hb (hts _ wb_aZ) rfl hd rfl hn0 hN (by show N * 1 ≤ 536870912; omega) (by omega) (by omega) rfl fun H1 cA q1 z1 o1 hAr hNm => ?_
  rw [hz] at q1
  have hcy : cA = E.2.2.2 3 := by
    have := (hK.2 3 (E.2.2.2 3, .boolean) rfl).2
    exact Option.some.inj (hNm.symm.trans this)
  subst hcy
  have hat : va_at E.2.2.1 vwCl (E.2.1 + n, .inl (E.2.2.2 3, N, .inl (fun _ => 0))) H1 := q1
  have := k H1 locs ls (bj_push hz hW o1 hat h0n hna e1 e2) (bj_Spush hS z1 o1) hl
  rw [hz]
  exact this
theorem bj_anew (hO : bj_O E X own cc nL fr lo mc ms n0) {idx : Nat} {z : Int32} {N : Nat} {w2 : Nat → va_E} (hl1 : Cond.classLink own idx "PivotDocks$Plan" ∈ gj_gw) (hn0 : ¬ z < 0) (hN : z.toNatClampNeg = N) (hN2 : N ≤ 5000) (h1 : ce + 1 ≤ mc) (h2 : sl + N ≤ ms) (h0n : 0 < n) (hna : n0 + ce = n) (e1 : ∀ k, k < n → w2 k = w k) (e2 : w2 n = .inl (E.2.2.2 4, N, .inr (.inr (.inr (.inr (fun _ => none)))))) (hd : decode cc pc = .ok (.anewarray idx, 3)) (k : bj_H E X nL (ce + 1) (sl + N) Q (pc + 3) lv (gj_r n :: st) (n + 1) w2) : bj_H E X nL ce sl Q pc lv (gj_i z :: st) n w := by
  obtain ⟨p, e, R, s, m, args, below, meth, c⟩ := X
  obtain ⟨hx, hb, hml, hown, hts, hK, hZ, hr, hlk, hin, hfr, hlo, hmc, hms, hB⟩ := hO
  intro H locs ls hW hS hl
  subst hN
  refine bj_sz fun hz9 => ?_
  have hz : H.size = E.2.1 + n := bj_size (B := 0) hW h0n hB hna hz9
  refine W.anew hx hb hown (hts _ hl1) (va_AO.use hZ.2) rfl hd rfl hn0 (by omega) (by omega) (by omega) fun cA kA comp f1 f2 f3 f4 => ?_
  generalize hH1 : H.push ({ cls := cA, slots := Array.replicate z.toNatClampNeg .null, vm := .none } : Cell) = H1
  have z1 : H1.size = H.size + 1 := by rw [← hH1, Array.size_push]
  have q1 : H1[H.size]? = some (arrV cA z.toNatClampNeg (fun _ => .null)) := by rw [← hH1, Array.getElem?_push_size, ← arrV_new]
  have o1 : ∀ q, q < H.size → H1[q]? = H[q]? := by
    intro q hq
    rw [← hH1, Array.getElem?_push, if_neg (Nat.ne_of_lt hq)]
  rw [hz] at q1
  have hcy : cA = E.2.2.2 4 := by
    obtain ⟨kA2, comp2, g1, g2, g3, g4⟩ := (hK.2 4 (E.2.2.2 4, .object "PivotDocks$Plan") rfl).2
    exact Option.some.inj (f1.symm.trans g4)
  subst hcy
  have hat : va_at E.2.2.1 vwCl (E.2.1 + n, .inl (E.2.2.2 4, z.toNatClampNeg, .inr (.inr (.inr (.inr (fun _ => none)))))) H1 := by
    show H1[E.2.1 + n]? = some (vp_cell _ _)
    rw [vp_cell_q]
    exact q1
  have := k H1 locs ls (bj_push hz hW o1 hat h0n hna e1 e2) (bj_Spush hS z1 o1) hl
  rw [hz]
  exact this
theorem bj_put (hO : bj_O E X own cc nL fr lo mc ms n0) {C : String} {T : u_T} {N ci idx o j : Nat} {ty0 : Nat → FieldType} {ty : FieldType} {v : gj_V} {fs : List Value} {w2 : Nat → va_E} (hin9 : ∀ w ∈ u_ws C T N, w ∈ gj_gw) (hty : ∀ k, k < N → parseFieldDescriptor (T k).2.2.1 = some (ty0 k)) (hnm : ∀ a, a < N → ∀ b, b < N → a ≠ b → (T a).2.1 ≠ (T b).2.1) (ho : o < n) (hwo : w o = .inr (ci, fs)) (hc : vwCl[ci]? = some (C, T, N)) (hj : j < N) (hdc : (T j).1 = C) (hdC : (T j).1 = C) (hlink : Cond.fieldLink own idx C (T j).2.1 (T j).2.2.1 ∈ gj_gw) (hfin : (T j).2.2.2 = false) (hpd : parseFieldDescriptor (T j).2.2.1 = some ty) (hnar : narrow ty (gj_tv (fun k => E.2.1 + k) v) = gj_tv (fun k => E.2.1 + k) v) (hfit : fits ty (gj_tv (fun k => E.2.1 + k) v) = true) (hlen : j < fs.length) (e1 : ∀ k, k < n → k ≠ o → w2 k = w k) (e2 : w2 o = .inr (ci, fs.set j (gj_tv (fun k => E.2.1 + k) v))) (hd : decode cc pc = .ok (.putfield idx, 3)) (k : bj_H E X nL ce sl Q (pc + 3) lv st n w2) : bj_H E X nL ce sl Q pc lv (v :: gj_r o :: st) n w := by
  obtain ⟨p, e, R, s, m, args, below, meth, c⟩ := X
  obtain ⟨hx, hb, hml, hown, hts, hK, hZ, hr, hlk, hin, hfr, hlo, hmc, hms, hB⟩ := hO
  intro H locs ls hW hS hl
  refine va_put (A := fun q => E.2.1 ≤ q) hx hb hts hin9 ty0 hty hnm hown hK (bj_toP hW) (bj_D _ _ _) hS o (by rw [bj_at ho, hwo]) hc j hj (hts _ hlink) (fun x hx2 => by rw [hdC] at hx2; exact hx2) hfin hpd hnar hfit hlen hd (fun H1 locs1 hP1 hD1 hS1 => ?_)
  rw [bj_setw ho] at hP1
  refine k H1 locs1 ls ((bj_ofP hP1).congr (fun q hq => ?_)) hS1 hl
  by_cases e : q = o
  · subst e; rw [e2]; simp [va_up]
  · rw [e1 q hq e]; simp [va_up, e]
theorem bj_putF (hO : bj_O E X own cc nL fr lo mc ms n0) {C : String} {T : u_T} {N ci idx o j : Nat} {ty0 : Nat → FieldType} {ty : FieldType} {v : gj_V} {fs : List Value} {w2 : Nat → va_E} (hin9 : ∀ w ∈ u_ws C T N, w ∈ gj_gw) (hty : ∀ k, k < N → parseFieldDescriptor (T k).2.2.1 = some (ty0 k)) (hnm : ∀ a, a < N → ∀ b, b < N → a ≠ b → (T a).2.1 ≠ (T b).2.1) (ho : o < n) (hwo : w o = .inr (ci, fs)) (hc : vwCl[ci]? = some (C, T, N)) (hj : j < N) (hdc : (T j).1 = own) (hdC : (T j).1 = C) (hlink : Cond.fieldLink own idx C (T j).2.1 (T j).2.2.1 ∈ gj_gw) (hfin : (T j).2.2.2 = true) (hpd : parseFieldDescriptor (T j).2.2.1 = some ty) (hnar : narrow ty (gj_tv (fun k => E.2.1 + k) v) = gj_tv (fun k => E.2.1 + k) v) (hfit : fits ty (gj_tv (fun k => E.2.1 + k) v) = true) (hlen : j < fs.length) (e1 : ∀ k, k < n → k ≠ o → w2 k = w k) (e2 : w2 o = .inr (ci, fs.set j (gj_tv (fun k => E.2.1 + k) v))) (hd : decode cc pc = .ok (.putfield idx, 3)) (k : bj_H E X nL ce sl Q (pc + 3) lv st n w2) : bj_H E X nL ce sl Q pc lv (v :: gj_r o :: st) n w := by
  obtain ⟨p, e, R, s, m, args, below, meth, c⟩ := X
  obtain ⟨hx, hb, hml, hown, hts, hK, hZ, hr, hlk, hin, hfr, hlo, hmc, hms, hB⟩ := hO
  intro H locs ls hW hS hl
  refine va_putF (A := fun q => E.2.1 ≤ q) hx hb hts hin9 ty0 hty hnm hown hK (bj_toP hW) (bj_D _ _ _) hS o (by rw [bj_at ho, hwo]) hc j hj (hts _ hlink) (fun x hx2 => by rw [hdC] at hx2; exact hx2) hfin hin hdc hpd hnar hfit hlen hd (fun H1 locs1 hP1 hD1 hS1 => ?_)
  rw [bj_setw ho] at hP1
  refine k H1 locs1 ls ((bj_ofP hP1).congr (fun q hq => ?_)) hS1 hl
  by_cases e : q = o
  · subst e; rw [e2]; simp [va_up]
  · rw [e1 q hq e]; simp [va_up, e]
theorem bj_get (hO : bj_O E X own cc nL fr lo mc ms n0) {C : String} {T : u_T} {N ci idx o j : Nat} {v : gj_V} {fs : List Value} (hin9 : ∀ w ∈ u_ws C T N, w ∈ gj_gw) (ho : o < n) (hwo : w o = .inr (ci, fs)) (hc : vwCl[ci]? = some (C, T, N)) (hj : j < N) (hdC : (T j).1 = C) (hlink : Cond.fieldLink own idx C (T j).2.1 (T j).2.2.1 ∈ gj_gw) (hv : fs[j]? = some (gj_tv (fun k => E.2.1 + k) v)) (hd : decode cc pc = .ok (.getfield idx, 3)) (k : bj_H E X nL ce sl Q (pc + 3) lv (v :: st) n w) : bj_H E X nL ce sl Q pc lv (gj_r o :: st) n w := by
  obtain ⟨p, e, R, s, m, args, below, meth, c⟩ := X
  obtain ⟨hx, hb, hml, hown, hts, hK, hZ, hr, hlk, hin, hfr, hlo, hmc, hms, hB⟩ := hO
  intro H locs ls hW hS hl
  exact va_get hx hb hts hin9 hown hK (bj_toP hW) o (by rw [bj_at ho, hwo]) hc j hj (hts _ hlink) (fun x hx2 => by rw [hdC] at hx2; exact hx2) hv hd (k H locs ls hW hS hl)
theorem bj_aast (hO : bj_O E X own cc nL fr lo mc ms n0) {a v N : Nat} {z : Int32} {fs : List Value} {f : Nat → Option Nat} {w2 : Nat → va_E} (ha : a < n) (hwa : w a = .inl (E.2.2.2 4, N, .inr (.inr (.inr (.inr f))))) (hv : v < n) (hwv : w v = .inr (1, fs)) (hin8 : vp_in z N) (e1 : ∀ k, k < n → k ≠ a → w2 k = w k) (e2 : w2 a = .inl (E.2.2.2 4, N, .inr (.inr (.inr (.inr (va_up f z.toNatClampNeg (some (E.2.1 + v)))))))) (hd : decode cc pc = .ok (.aastore, 1)) (k : bj_H E X nL ce sl Q (pc + 1) lv st n w2) : bj_H E X nL ce sl Q pc lv (gj_r v :: gj_i z :: gj_r a :: st) n w := by
  obtain ⟨p, e, R, s, m, args, below, meth, c⟩ := X
  obtain ⟨hx, hb, hml, hown, hts, hK, hZ, hr, hlk, hin, hfr, hlo, hmc, hms, hB⟩ := hO
  intro H locs ls hW hS hl
  refine va_astq (A := fun q => E.2.1 ≤ q) (r := (RX1, TX1, 13)) hx hb hK (bj_toP hW) (bj_D _ _ _) hS a 4 v 1 (by rw [bj_at ha, hwa]) rfl (by rw [bj_at hv, hwv]) rfl hin8 hd (fun H1 locs1 hP1 hD1 hS1 => ?_)
  rw [bj_setw ha] at hP1
  refine k H1 locs1 ls ((bj_ofP hP1).congr (fun q hq => ?_)) hS1 hl
  by_cases e : q = a
  · subst e; rw [e2]; simp [va_up]
  · rw [e1 q hq e]; simp [va_up, e]
theorem bj_vret {n2 : Nat} {w2 : Nat → va_E} (hO : bj_O E X own cc nL fr lo mc ms n0) (hc1 : ce = mc) (hc2 : sl = ms) (hn : n2 = n) (hw : ∀ k, k < n → w k = w2 k) (hd : decode cc pc = .ok (.return_, 1)) : bj_H E X nL ce sl (bj_MQ E X mc ms n2 w2) pc lv [] n w := by
  obtain ⟨p, e, R, s, m, args, below, meth, c⟩ := X
  obtain ⟨hx, hb, hml, hown, hts, hK, hZ, hr, hlk, hin, hfr, hlo, hmc, hms, hB⟩ := hO
  subst hc1; subst hc2; subst hn
  intro H locs ls hW hS hl
  exact W.vret hx hb hr (fun t ht hw2 => ⟨⟨rfl, by rw [ht]; exact hW.congr hw⟩, hS.F ht⟩) hS.2.2 hd
/-- a constructor is called -/
theorem bj_call (hO : bj_O E X own cc nL fr lo mc ms n0) {y : MethodName} {yc : ByteArray} {yn idx o yf yl mc2 ms2 n2 : Nat} {w2 : Nat → va_E} (hM : bj_M E y yc yn yf yl mc2 ms2 o n w n2 w2) (hl1 : (own, idx, y) ∈ bj_nest) (hl2 : Cond.instanceMethod y ∈ gj_gw) (hl4 : Cond.initialized y.cls ∈ gj_gw) (hl5 : Cond.code y yc yn none ∈ gj_gw) (hy : y.name = "<init>")
    (hd : y.cls ≠ "java/lang/invoke/MethodHandle" ∧ y.cls ≠ "java/lang/invoke/VarHandle" ∧ (parseMethodDescriptor y.desc).map (fun d => d.parameters.length) = some 0) (hf1 : yf + 1 ≤ fr) (hf2 : 8 + (yn + 11) + yl ≤ lo) (h1 : ce + mc2 ≤ mc) (h2 : sl + ms2 ≤ ms) (h0n : 0 < n) (hna : n0 + ce = n)
    (hcat : ((st.map (gj_tv (fun k => E.2.1 + k))).map fun v => v.category).sum ≤ 8) (hdc : decode cc pc = .ok (.invokespecial idx, 3)) (k : bj_H E X nL (ce + mc2) (sl + ms2) Q (pc + 3) lv st n2 w2) : bj_H E X nL ce sl Q pc lv (gj_r o :: st) n w := by
  obtain ⟨p, e, R, s, m, args, below, meth, c⟩ := X
  obtain ⟨hx, hb, hml, hown, hts, hK, hZ, hr, hlk, hin, hfr, hlo, hmc, hms, hB⟩ := hO
  intro H locs ls hW hS hl
  refine bj_sz fun hz9 => ?_
  have hz : H.size = E.2.1 + n := bj_size (B := 0) hW h0n hB hna hz9
  have hG : GoodIn gj_gw (.code y yc yn none :: gj_gw) := gj_GI (fun w hw => (List.mem_cons.mp hw).elim (fun e => e ▸ hl5) id)
  have hrun := va_runIN (As := []) (rest := st.map (gj_tv (fun k => E.2.1 + k))) (b := E.2.1 + o) (g := F0 m pc ls (.ref (E.2.1 + o) :: st.map (gj_tv (fun k => E.2.1 + k)))) (H := H) (locs := locs) (cells := ce) (slots := sl) (below := below) (meth := meth) (e := e) ⟨hx, hb, hml, hown, hts⟩ hM ⟨va_cnB 0 hts hG rfl rfl rfl (hZ.1 _ hl1) (hts _ hl4) hd ⟨by rw [hfr]; exact hf1, by rw [hlo]; exact hf2⟩, hy, hts _ hl2⟩ ⟨fun a U g mk q => by
      obtain ⟨q0, q1, q2, q3, q4⟩ := q
      exact ⟨q0, q1, q2, va_K.moved (u := U) (U := U.calling g mk a) (Vm.Alike.refl U.vm) q3, bj_Zsame (U := U.calling g mk a) rfl q4⟩, fun U hU hWm => ⟨rfl, by rw [hU]; exact hz, by rw [hU]; exact hW, va_K.moved hWm.alike hK, bj_Zwarm hWm hZ⟩⟩ rfl rfl hl.1 rfl (lv_room hcat) hdc ⟨by rw [hmc]; exact h1, by rw [hms]; exact h2⟩
  intro T hT X
  obtain ⟨v, st₀, t, T', L, h0, X', hL, e1, e2, ⟨⟨hv, hb2⟩, hz2, hk⟩, stp⟩ := hrun T hT X
  cases hv
  rw [h0] at hz2 hk
  obtain ⟨t2, a1, b1⟩ := k T'.heap (locs ++ L) ls (by rw [e1]; exact hb2)
    ⟨Nat.le_trans hS.1 (by rw [e1]; exact hz2), fun q h1 h2 => by rw [e1, hk q (Nat.lt_of_lt_of_le h1 hS.1) h2]; exact hS.2.1 q h1 h2, fun q hq => by
      rcases List.mem_append.mp hq with h | h
      · exact hS.2.2 q h
      · exact hL q h⟩ hl T' rfl X'
  exact ⟨t2, stp t2 a1, b1⟩
end
