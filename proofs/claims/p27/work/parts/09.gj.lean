/-! ===== the judgement gj_: one world for the whole system; its 212 cells by number ===== -/
abbrev gj_V : Type := Int32 ⊕ Int64 ⊕ Nat
abbrev gj_i (x : Int32) : gj_V := .inl x
abbrev gj_l (x : Int64) : gj_V := .inr (.inl x)
abbrev gj_r (k : Nat) : gj_V := .inr (.inr k)
def gj_tv (ad : Nat → Nat) (v : gj_V) : Value := match v with
  | .inl x => .int x
  | .inr (.inl x) => .long x
  | .inr (.inr k) => .ref (ad k)
abbrev gj_S : Type := (Nat → Nat → Int32) × (Nat → Nat → Int64) × Nat
def gj_sI (σ : gj_S) (k : Nat) (f : Nat → Int32) : gj_S := (fun q => if q = k then f else σ.1 q, σ.2.1, σ.2.2)
def gj_sJ (σ : gj_S) (k : Nat) (f : Nat → Int64) : gj_S := (σ.1, fun q => if q = k then f else σ.2.1 q, σ.2.2)
def gj_sT (σ : gj_S) (t : Nat) : gj_S := (σ.1, σ.2.1, t)
/-- cells: kind (0..9 an object of that number in vwCl, 10 int[], 11 long[], 12 byte[], 13 boolean[], 14 Plan[]) and length -/
def gj_pl (d : Nat) : Nat × Nat := if d = 0 then (1, 0) else if d = 1 then (10, 8) else if d = 8 then (10, 80) else (10, 24)
def gj_yd (d : Nat) : Nat × Nat := if d = 0 then (7, 0) else if d < 10 then gj_pl (d - 1) else if d = 10 then (5, 0) else if d < 16 then (10, 9) else if d = 16 then (3, 0) else if d = 17 then (10, 17) else (13, 17)
def gj_md (d : Nat) : Nat × Nat := match d with
  | 0 => (9, 0) | 1 => (12, 600) | 2 => (10, 2) | 3 => (10, 2) | 4 => (11, 48) | 5 => (10, 16) | 6 => (10, 32) | 7 => (10, 32) | 8 => (10, 32) | 9 => (10, 32)
  | 10 => (10, 180) | 11 => (10, 2160) | 12 => (10, 360) | 13 => (13, 2) | 14 => (10, 180) | 15 => (10, 9) | 16 => (10, 9) | 17 => (10, 9) | 18 => (10, 24) | 19 => (13, 24) | 20 => (10, 9) | 21 => (10, 8) | 22 => (10, 240) | _ => (11, 1)
def gj_kd (k : Nat) : Nat × Nat :=
  if k < 3 then (if k = 0 then (8, 0) else if k = 1 then (12, 600) else (2, 0))
  else if k < 12 then gj_pl (k - 3)
  else if k < 16 then (if k = 12 then (11, 16) else if k = 13 then (11, 8) else if k = 14 then (12, 0) else (11, 16))
  else if k < 35 then gj_yd (k - 16)
  else if k < 54 then gj_yd (k - 35)
  else if k < 56 then (if k = 54 then (0, 0) else (14, 12))
  else if k < 164 then gj_pl ((k - 56) % 9)
  else if k < 170 then (if k = 164 then (14, 2) else if k = 165 then (13, 2) else if k = 166 then (6, 0) else if k = 167 then (10, 8) else if k = 168 then (4, 0) else (12, 192))
  else if k < 188 then gj_pl ((k - 170) % 9)
  else gj_md (k - 188)
/-- which plan lies at place j of the array of plans k -/
def gj_pa (k j : Nat) : Nat := if k = 55 then 56 + 9 * j else 170 + 9 * j
/-- the fields of an object -/
def gj_fs (ad : Nat → Nat) (ci k : Nat) (f : Nat → Int32) (g : Nat → Int64) (t : Nat) : List Value := match ci with
  | 0 => [.ref (ad (k + 1)), .int (f 1), .int (f 2)]
  | 1 => [.int (f 0), .int (f 1), .int (f 2), .int (f 3), .int (f 4), .ref (ad (k + 1)), .ref (ad (k + 2)), .ref (ad (k + 3)), .ref (ad (k + 4)), .ref (ad (k + 5)), .ref (ad (k + 6)), .ref (ad (k + 7)), .ref (ad (k + 8))]
  | 2 => [.ref (ad (k + 1)), .ref (ad (k + 10)), .ref (ad (k + 11)), .int (f 3), .int (f 4), .int (f 5), .int (f 6), .int (f 7), .int (f 8), .long (g 9), .ref (ad t)]
  | 3 => [.int (f 0), .int (f 1), .int (f 2), .ref (ad (k + 1)), .ref (ad (k + 2)), .int (f 5)]
  | 4 => [.ref (ad (k + 1)), .int (f 1)]
  | 5 => [.ref (ad (k + 1)), .ref (ad (k + 2)), .ref (ad (k + 3)), .ref (ad (k + 4)), .ref (ad (k + 5))]
  | 6 => [.ref (ad (k + 1))]
  | 7 => [.ref (ad (k + 1)), .ref (ad (k + 10)), .ref (ad (k + 16)), .int (f 3)]
  | 8 => [.ref (ad (k + 1)), .int (f 1), .ref (ad (k + 2)), .ref (ad (k + 15)), .ref (ad (k + 16)), .ref (ad (k + 35)), .ref (ad (k + 54)), .ref (ad (k + 164)), .ref (ad (k + 165)), .ref (ad (k + 166)), .ref (ad (k + 168))]
  | _ => [.int (f 0), .ref (ad (k + 1)), .int (f 2), .int (f 3), .int (f 4), .int (f 5), .int (f 6), .int (f 7), .long (g 8), .int (f 9), .int (f 10), .ref (ad (k + 2)), .ref (ad (k + 3)), .ref (ad (k + 4)), .ref (ad (k + 5)), .ref (ad (k + 6)), .ref (ad (k + 7)), .ref (ad (k + 8)), .ref (ad (k + 9)), .int (f 19), .int (f 20), .ref (ad (k + 10)), .ref (ad (k + 11)), .int (f 23), .ref (ad (k + 12)), .ref (ad (k + 13)), .ref (ad (k + 14)), .ref (ad (k + 15)), .ref (ad (k + 16)), .ref (ad (k + 17)), .int (f 30), .ref (ad (k + 18)), .ref (ad (k + 19)), .int (f 33), .int (f 34), .int (f 35), .int (f 36), .ref (ad (k + 20)), .ref (ad (k + 21)), .ref (ad (k + 22)), .int (f 40)]
/-- what a cell of a kind holds -/
def gj_cel (cy : Nat → ClassId) (ad : Nat → Nat) (kd : Nat × Nat) (k : Nat) (f : Nat → Int32) (g : Nat → Int64) (t : Nat) : va_E :=
  if kd.1 = 10 then .inl (cy 1, kd.2, .inl f)
  else if kd.1 = 11 then .inl (cy 2, kd.2, .inr (.inl g))
  else if kd.1 = 12 then .inl (cy 0, kd.2, .inl f)
  else if kd.1 = 13 then .inl (cy 3, kd.2, .inl f)
  else if kd.1 = 14 then .inl (cy 4, kd.2, .inr (.inr (.inr (.inr (fun j => some (ad (gj_pa k j)))))))
  else .inr (kd.1, gj_fs ad kd.1 k f g t)
def gj_cell (cy : Nat → ClassId) (ad : Nat → Nat) (σ : gj_S) (k : Nat) : va_E := gj_cel cy ad (gj_kd k) k (σ.1 k) (σ.2.1 k) σ.2.2
def gj_tys (cy : Nat → ClassId) : List (ClassId × FieldType) := [(cy 0, .byte), (cy 1, .int), (cy 2, .long), (cy 3, .boolean), (cy 4, .object "PivotDocks$Plan")]
def gj_ws (cy : Nat → ClassId) (ad : Nat → Nat) (σ : gj_S) : va_W := (List.range (ad 5000)).map (fun k => (ad k, gj_cell cy ad σ k))
theorem gj_at {cy : Nat → ClassId} {ad : Nat → Nat} {σ : gj_S} {k : Nat} (h : k < ad 5000) : (gj_ws cy ad σ)[k]? = some (ad k, gj_cell cy ad σ k) := by
  simp [gj_ws, h]
theorem gj_at_inv {cy : Nat → ClassId} {ad : Nat → Nat} {σ : gj_S} {k : Nat} {q : Nat × va_E} (h : (gj_ws cy ad σ)[k]? = some q) : k < ad 5000 ∧ q = (ad k, gj_cell cy ad σ k) := by
  by_cases hk : k < ad 5000
  · rw [gj_at hk] at h
    exact ⟨hk, (Option.some.inj h).symm⟩
  · simp [gj_ws, hk] at h
theorem gj_set {cy : Nat → ClassId} {ad : Nat → Nat} {σ τ : gj_S} {k : Nat} (hk : k < ad 5000) (hs : ∀ j, j ≠ k → gj_cell cy ad τ j = gj_cell cy ad σ j) : (gj_ws cy ad σ).set k (ad k, gj_cell cy ad τ k) = gj_ws cy ad τ := by
  apply List.ext_getElem?
  intro i
  by_cases hi : i < ad 5000
  · by_cases e : i = k
    · subst e
      rw [gj_at hi, List.getElem?_set_self (by simp [gj_ws, hi])]
    · rw [gj_at hi, List.getElem?_set_ne (fun q => e q.symm), gj_at hi, hs i e]
  · rw [List.getElem?_eq_none (by simp [gj_ws]; omega), List.getElem?_eq_none (by simp [gj_ws]; omega)]
/-- how many of the cells are there stands at ad 5000 -/
def gj_inj (ad : Nat → Nat) : Prop := ∀ i j : Nat, i < ad 5000 → j < ad 5000 → ad i = ad j → i = j
def gj_I (ad : Nat → Nat) (own : String) : Prop := gj_inj ad ∧ 188 ≤ ad 5000 ∧ (own = RX9 → 211 ≤ ad 5000) ∧ (own = RL → 212 ≤ ad 5000)
def gj_lt (own : String) (a : Nat) : Prop := a < 188 ∨ (a < 211 ∧ (own = RX9 ∨ own = RL)) ∨ (a < 212 ∧ own = RL)
theorem gj_ltn {ad : Nat → Nat} {own : String} {a : Nat} (h : gj_I ad own) (ha : gj_lt own a) : a < ad 5000 := by
  obtain ⟨-, h1, h2, h3⟩ := h
  rcases ha with ha | ⟨ha, ho | ho⟩ | ⟨ha, ho⟩
  · omega
  · have := h2 ho; omega
  · have := h3 ho; omega
  · have := h3 ho; omega
theorem gj_Iany {ad : Nat → Nat} {own C : String} (hC : C ≠ RX9 ∧ C ≠ RL) (h : gj_I ad own) : gj_I ad C := ⟨h.1, h.2.1, fun e => absurd e hC.1, fun e => absurd e hC.2⟩
theorem gj_I9 {ad : Nat → Nat} {own : String} (hw : gj_lt own 188) (h : gj_I ad own) : gj_I ad RX9 := by
  refine ⟨h.1, h.2.1, fun _ => ?_, fun e => absurd e (by decide)⟩
  rcases hw with hw | ⟨-, ho | ho⟩ | ⟨-, ho⟩
  · omega
  · exact h.2.2.1 ho
  · have := h.2.2.2 ho; omega
  · have := h.2.2.2 ho; omega
def gj_A (ad : Nat → Nat) (sz : Nat) : Nat → Prop := fun q => (∃ k : Nat, k < ad 5000 ∧ q = ad k) ∨ sz ≤ q
theorem gj_D {cy : Nat → ClassId} {ad : Nat → Nat} (hi : gj_inj ad) (sz : Nat) (σ : gj_S) : va_D (gj_A ad sz) (gj_ws cy ad σ) := by
  refine ⟨fun i j p q hp hq e => ?_, fun k q hq => ?_⟩
  · obtain ⟨h1, rfl⟩ := gj_at_inv hp
    obtain ⟨h2, rfl⟩ := gj_at_inv hq
    exact hi i j h1 h2 e
  · obtain ⟨h1, rfl⟩ := gj_at_inv hq
    exact Or.inl ⟨k, h1, rfl⟩
/-- the words that all methods share -/
def gj_gw : List Cond := lw_tbl.filter goodWord
theorem gj_good {w : Cond} (h : w ∈ tables_1) (g : goodWord w = true) : w ∈ gj_gw := List.mem_filter.mpr ⟨List.mem_append_right _ h, g⟩
theorem gj_goodP {w : Cond} (h : w ∈ k2_sels lw_privs) (g : goodWord w = true) : w ∈ gj_gw := List.mem_filter.mpr ⟨List.mem_append_left _ h, g⟩
theorem gj_goodC {w : Cond} (h : w ∈ gj_gw) : w ∈ gj_gw ∧ ((w.onTables && w.keeps) = true ∨ ∃ ty, w = .arrayClass ty) := ⟨h, good_of_word (List.mem_filter.mp h).2⟩
theorem gj_GI {ws : List Cond} (h : ∀ w ∈ ws, w ∈ gj_gw) : GoodIn gj_gw ws := fun w hw => gj_goodC (h w hw)
theorem gj_lay {ws : List Cond} (h : GoodIn tables_1 ws) (g : ws.all goodWord = true) : ∀ w ∈ ws, w ∈ gj_gw := fun w hw => gj_good (h w hw).1 (List.all_eq_true.mp g w hw)
/-- the launch, where the cells lie, the classes' numbers, the arrays' classes -/
abbrev gj_E : Type := Launch × (Nat → Nat) × va_G × (Nat → ClassId)
/-- the String constants that are spelled, in the order of their numbers 1000.. -/
def gj_len : List Nat := [4, 5, 5, 5, 5, 5, 5]
def gj_byt : List (List Int32) := [[100, 111, 99, 107], [103, 105, 118, 101, 115], [116, 97, 107, 101, 115], [114, 111, 117, 116, 101], [99, 111, 115, 116, 115], [104, 111, 108, 100, 115], [98, 108, 111, 99, 107]]
/-- all String constants: class, place in its pool, text, number -/
def gj_strs : List (String × Nat × String × Nat) := [("PivotDocksModel", 150, "dock", 1000), ("PivotDocksModel", 156, "gives", 1001), ("PivotDocksModel", 157, "takes", 1002), ("PivotDocksModel", 159, "route", 1003), ("PivotDocksModel", 161, "costs", 1004), ("PivotDocksModel", 162, "holds", 1005), ("PivotDocksModel", 163, "block", 1006), ("PivotDocks", 109, "no such dock", 1007), ("PivotDocks", 143, "no such number of a dock", 1008), ("PivotDocks", 148, "no such way", 1009), ("PivotDocks", 174, "no such number of a way", 1010), ("PivotDocks", 226, "no such pivot", 1011), ("PivotDocks", 228, "no such number of a pivot", 1012)]
/-- words that calls don't keep by themselves -/
def gj_isB : Cond → Bool
  | .castable _ _ => true
  | .declares _ => true
  | _ => false
def gj_bad : List Cond := tables_1.filter gj_isB
theorem gj_badW {w : Cond} (h : gj_isB w = true) {s U : State} (hW : s.WarmedH U.vm) (hz : va_Nw w s) : va_Nw w U := by
  unfold gj_isB at h
  split at h
  · exact va_Nw.warmC hW hz
  · exact va_Nw.warmD hW hz
  · cases h
theorem gj_badT {w : Cond} (h : gj_isB w = true) : w.onTables = true := by
  unfold gj_isB at h
  split at h
  · rfl
  · rfl
  · cases h
/-- what lies beside the world, and stays: texts, the JDK's statics; the launch has no stack traces -/
def gj_Z (E : gj_E) (A : Nat → Prop) (U : State) (H : Heap) : Prop :=
  vk_S 7 gj_len gj_byt (fun i => E.2.1 (1000 + i)) (fun i => E.2.1 (1100 + i)) A U H ∧ va_Z "java/lang/String" "COMPACT_STRINGS" "Z" (.int 1) A U H ∧ va_Zq "jdk/internal/util/Preconditions" "SIOOBE_FORMATTER" "Ljava/util/function/BiFunction;" A U H ∧ vx_Zq Bundle.tN "UNASSIGNED_STACK" Bundle.steD A U H ∧ vx_Zq Bundle.tN "SUPPRESSED_SENTINEL" Bundle.listD A U H ∧ (∀ q ∈ gj_strs, vk_R q.1 q.2.1 q.2.2.1 (E.2.1 q.2.2.2) U) ∧ E.1.stackTraces = false ∧ ∀ w ∈ gj_bad, va_Nw w U
theorem gj_Zmove {E : gj_E} {A B : Nat → Prop} {s U : State} {H H1 : Heap} (h : gj_Z E A s H) (hq : ∀ a : Nat, a < H.size → ¬ A a → H1[a]? = H[a]?) (hAB : ∀ q, B q → A q) (hW : s.WarmedH U.vm) : gj_Z E B U H1 := by
  obtain ⟨h1, h2, h3, h4, h5, h6, h7⟩ := h
  exact ⟨vk_S.moved hW.alike ((h1.kept hq).narrow hAB), va_Z.moved hW.alike ((h2.kept hq).narrow hAB), va_Zq.moved hW.alike ((h3.kept hq).narrow hAB), vx_Zq.moved hW.alike ((h4.kept hq).narrow hAB), vx_Zq.moved hW.alike ((h5.kept hq).narrow hAB), fun q hq => vk_R.warm hW (h6 q hq), h7.1, fun w hw => gj_badW (List.mem_filter.mp hw).2 hW (h7.2 w hw)⟩
theorem gj_Zsame {E : gj_E} {A : Nat → Prop} {s U : State} {H : Heap} (hv : U.vm = s.vm) (hH : U.heap = H) (h : gj_Z E A s H) : gj_Z E A U U.heap := by
  obtain ⟨h1, h2, h3, h4, h5, h6, h7⟩ := h
  have ha : s.vm.Alike U.vm := by rw [hv]; exact Vm.Alike.refl s.vm
  rw [hH]
  exact ⟨vk_S.moved ha h1, va_Z.moved ha h2, va_Zq.moved ha h3, vx_Zq.moved ha h4, vx_Zq.moved ha h5, fun q hq => vk_R.same hv (h6 q hq), h7.1, fun w hw => va_Nw.same (gj_badT (List.mem_filter.mp hw).2) hv.symm (h7.2 w hw)⟩
theorem gj_Zcall {E : gj_E} {s U : State} {H : Heap} {locs : List Loc} (h : gj_Z E (gj_A E.2.1 s.heap.size) s s.heap) (hS : va_S (gj_A E.2.1 s.heap.size) s.heap H locs) (hU : U.heap = H) (hW : s.WarmedH U.vm) : gj_Z E (gj_A E.2.1 H.size) U U.heap := by
  rw [hU]
  exact gj_Zmove h hS.2.1 (fun q h => h.elim Or.inl (fun z => Or.inr (Nat.le_trans hS.1 z))) hW
def gj_W (E : gj_E) (σ : gj_S) (H : Heap) : Prop := va_P E.2.2.1 vwCl (gj_ws E.2.2.2 E.2.1 σ) H
def gj_P (E : gj_E) (own : String) (vs : List gj_V) (σ : gj_S) (sz : Nat) : Array Value → State → Prop := va_Pc (vs.map (gj_tv E.2.1)) (fun U => U.heap.size = sz ∧ gj_W E σ U.heap ∧ va_K E.2.2.1 vwCl (gj_tys E.2.2.2) U ∧ gj_I E.2.1 own ∧ gj_Z E (gj_A E.2.1 sz) U U.heap)
def gj_Q (E : gj_E) (r : Option gj_V) (σ : gj_S) (A : Nat → Prop) : Array Value → State → Outcome → State → Prop := fun _ st oc t => (oc = .returned (r.map (gj_tv E.2.1)) ∧ gj_W E σ t.heap) ∧ va_F A st t
def gj_M (E : gj_E) (y : MethodName) (c : ByteArray) (n : Nat) (rt : Option FieldType) (fr lo : Nat) (vs : List gj_V) (σ : gj_S) (r : Option gj_V) (τ : gj_S) : Prop :=
  ∀ sz : Nat, Met E.1 y (.code y c n rt :: gj_gw) { frames := fr, cells := 0, slots := 0, locals := lo } (gj_P E y.cls vs σ sz) (gj_Q E r τ (gj_A E.2.1 sz)) 0 0 (gj_A E.2.1 sz)
abbrev gj_X : Type := Program × Env × Room × State × MethodId × Array Value × List Frame × Method × Code
def gj_L (ad : Nat → Nat) (lv : List (Nat × gj_V)) : List (Nat × Value) := lv.map (fun q => (q.1, gj_tv ad q.2))
/-- from this place on, with ce cells of sl slots made, the machine comes to a state with Q -/
def gj_H (E : gj_E) (X : gj_X) (nL ce sl : Nat) (Q : State → Prop) (pc : Nat) (lv : List (Nat × gj_V)) (st : List gj_V) (σ : gj_S) : Prop :=
  match X with
  | (p, e, R, s, m, args, below, meth, c) => ce ≤ R.cells ∧ sl ≤ R.slots → ∀ (H : Heap) (locs : List Loc) (ls : Array Slot), gj_W E σ H → va_S (gj_A E.2.1 s.heap.size) s.heap H locs → lv_has ls nL (gj_L E.2.1 lv) →
    W p E.1 e R s m args below meth c H locs ce sl Q (F0 m pc ls (st.map (gj_tv E.2.1)))
def gj_MQ (E : gj_E) (X : gj_X) (r : Option gj_V) (τ : gj_S) : State → Prop :=
  match X with
  | (_, _, _, s, _, args, below, _, _) => MQ below (gj_Q E r τ (gj_A E.2.1 s.heap.size)) args s 0 0 (gj_A E.2.1 s.heap.size)
/-- from this place on the method comes to its end with the answer r and the world τ -/
abbrev gj_G (E : gj_E) (X : gj_X) (nL : Nat) (r : Option gj_V) (τ : gj_S) (pc : Nat) (lv : List (Nat × gj_V)) (st : List gj_V) (σ : gj_S) : Prop := gj_H E X nL 0 0 (gj_MQ E X r τ) pc lv st σ
def gj_O (E : gj_E) (X : gj_X) (own : String) (cc : ByteArray) (nL : Nat) (rt : Option FieldType) (fr lo : Nat) : Prop :=
  match X with
  | (p, _, R, s, m, args, _, meth, c) => p.tables.exec = Jvm.exec ∧ c.code = cc ∧ c.maxLocals = nL ∧ s.vm.findClass own = some m.cls ∧ (∀ w ∈ gj_gw, w.before args s = true) ∧ va_K E.2.2.1 vwCl (gj_tys E.2.2.2) s ∧ (gj_I E.2.1 own ∧ gj_Z E (gj_A E.2.1 s.heap.size) s s.heap) ∧ meth.sig.returnType = rt ∧ meth.locks = false ∧ R.frames = fr ∧ R.locals = lo
theorem gj_ofW {l : Launch} {y : MethodName} {ws ws' : List Cond} {rm : Room} {Pc : Array Value → State → Prop} {Qc : Array Value → State → Outcome → State → Prop} {mc ms : Nat} {free : Addr → Prop} {cc : ByteArray} {maxL : Nat} {ret : Option FieldType}
    (hy : plainFor y = true) (hw : ws = Cond.code y cc maxL ret :: ws')
    (body : ∀ p e s m args below meth c s₁, BodyLoose p l y (headSpec ws rm) cc maxL ret e s m args below meth c s₁ → c.maxLocals = maxL → Pc args s →
      W p l e (headSpec ws rm).room s m args below meth c s.heap [] 0 0 (MQ below Qc args s mc ms free) (entryFrame m args maxL)) : Met l y ws rm Pc Qc mc ms free := by
  refine MetFree.of_bodySF (code := cc) (maxLocals := maxL) (ret := ret) hy ?_ ?_
  · intro args s m h hn
    obtain ⟨meth, c, h1, h2, h3, h4, h5, h6, -, -⟩ := Cond.code_spec hn (atoms_spec (ws := ws) h _ (by rw [hw]; exact List.mem_cons_self))
    exact ⟨meth, c, h1, h2, h3, h4, h5, h6⟩
  · intro p e s m args below meth c s₁ B hml hP _
    have hh0 : s₁.heap = s.heap := by rw [B.state]; rfl
    obtain ⟨t, a1, o, b1, b2, b3⟩ := body p e s m args below meth c s₁ B hml hP s₁ hh0 (Stand.of_body B)
    exact ⟨t, o, a1, b1, b2, ⟨b3.1, b3.2⟩⟩
/-- a method's body gives its contract -/
theorem gj_body {E : gj_E} {y : MethodName} {c : ByteArray} {n : Nat} {rt : Option FieldType} {fr lo : Nat} {vs : List gj_V} {σ : gj_S} {r : Option gj_V} {τ : gj_S} {lv : List (Nat × gj_V)} (hy : plainFor y = true) (hlen : (lg_sl (vs.map (gj_tv E.2.1))).length ≤ n) (hlv : lv_args 0 (vs.map (gj_tv E.2.1)) = gj_L E.2.1 lv)
    (h : ∀ X : gj_X, gj_O E X y.cls c n rt fr lo → gj_G E X n r τ 0 lv [] σ) : gj_M E y c n rt fr lo vs σ r τ := by
  intro sz
  refine gj_ofW (cc := c) (maxL := n) (ret := rt) hy rfl ?_
  intro p e s m args below meth cd s₁ B hml hv
  obtain ⟨rfl, hsz, hW, hK, hi⟩ := hv
  subst hsz
  have hts := atoms_spec (ws := .code y c n rt :: gj_gw) B.pre
  have hO : gj_O E (p, e, (headSpec (.code y c n rt :: gj_gw) { frames := fr, cells := 0, slots := 0, locals := lo }).room, s, m, (vs.map (gj_tv E.2.1)).toArray, below, meth, cd) y.cls c n rt fr lo :=
    ⟨B.exec, B.bytes, hml, findClass_of_methodNamed B.named, fun w hw => hts w (List.mem_cons_of_mem _ hw), hK, hi, B.returns, B.notSynchronized, rfl, rfl⟩
  have hl := lv_entry (vs.map (gj_tv E.2.1)) (n := n) hlen
  rw [lg_entry_eq]
  rw [hlv] at hl
  exact h _ hO ⟨Nat.zero_le _, Nat.zero_le _⟩ s.heap [] _ hW va_S.rf hl
