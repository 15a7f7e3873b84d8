theorem wk_1003 : Cond.methodLink RL 7 yX8_dock ∈ gj_gw := gj_good (List.mem_of_getElem? (i := 847) (by decide +kernel)) (by decide +kernel)
theorem wk_1004 : Cond.methodLink RL 15 yX8_way ∈ gj_gw := gj_good (List.mem_of_getElem? (i := 926) (by decide +kernel)) (by decide +kernel)
theorem wk_1005 : Cond.methodLink RL 18 yX8_log ∈ gj_gw := gj_good (List.mem_of_getElem? (i := 936) (by decide +kernel)) (by decide +kernel)
/-- the words of a throw whose class hands its text on by an index of its own -/
def nx_at (own : String) (ic : Nat) (X Y : String) (names : List String) (ix : Nat) (bs : ByteArray) : List Cond :=
  Bundle.throwableAtoms ++ Bundle.throwableSAtoms ++ Bundle.passSAtoms X Y ix bs ++ Bundle.chainSAtoms Y names ++
  [.methodLink own ic (Bundle.initS X), .instantiable X 6, .castable X X, .selects X Bundle.tFill0 Bundle.tFill0, .selects X Bundle.tFill Bundle.tFill,
   .lays X Bundle.tN "cause" "Ljava/lang/Throwable;", .lays X Bundle.tN "stackTrace" Bundle.steD, .lays X Bundle.tN "suppressedExceptions" Bundle.listD, .lays X Bundle.tN "detailMessage" "Ljava/lang/String;",
   .isRef (.static Bundle.tN "UNASSIGNED_STACK" Bundle.steD), .isRef (.static Bundle.tN "SUPPRESSED_SENTINEL" Bundle.listD),
   .fieldLink Bundle.tN 198 Bundle.tN "backtrace" "Ljava/lang/Object;", .lays Bundle.tN Bundle.tN "backtrace" "Ljava/lang/Object;", .lays X Bundle.tN "backtrace" "Ljava/lang/Object;"]
theorem nx_chain {args : Array Value} {s : State} {pl : Platform} (hpl : pl.magicAccessors = ({} : Platform).magicAccessors) {top : MethodId} (htop : s.methodNamed? (Bundle.initS Bundle.tN) = some top) {X Y : String} {names : List String} {ix : Nat} {bs : ByteArray}
    (b0 : decode bs 0 = .ok (.aload_n 0, 1)) (b1 : decode bs 1 = .ok (.aload_n 1, 1)) (b2 : decode bs 2 = .ok (.invokespecial ix, 3)) (b5 : decode bs 5 = .ok (.return_, 1)) (hX : Bundle.fit X = true) (hY : Bundle.fit Y = true) (hn : ∀ n ∈ names, Bundle.fit n = true)
    (h1 : ∀ c ∈ Bundle.passSAtoms X Y ix bs, c.before args s = true) (h2 : ∀ c ∈ Bundle.chainSAtoms Y names, c.before args s = true) :
    ∃ (P1 : PassC) (Ps : List PassC), Ps.length = names.length + 1 ∧ P1.LinksS pl s ∧ (∀ P, P ∈ Ps → P.LinksS pl s) ∧ s.methodNamed? (Bundle.initS X) = some P1.m ∧
      P1.sup = firstOf top (Ps.map (·.toPassT)) ∧ PassesOn top (Ps.map (·.toPassT)) := by
  obtain ⟨P, L, hm, hs⟩ := PassC.ofS_atoms (args := args) (s := s) hpl (X := X) (Y := Y) (Bundle.fit_spec hX).1 (Bundle.fit_spec hY).2 b0 b1 b2 b5 h1
  obtain ⟨P', Ps, hlen, L', hL, hm', hsup, hpass⟩ := Bundle.chainS (args := args) hpl htop names Y hY hn h2
  refine ⟨P, P' :: Ps, by simp [hlen], L, ?_, hm, Option.some.inj (hs.symm.trans hm'), hsup, hpass⟩
  intro Q hQ
  rcases List.mem_cons.mp hQ with rfl | hQ
  · exact L'
  · exact hL Q hQ
section
variable {p : Program} {l : Launch} {e : Env} {R : Room} {s : State} {m₀ : MethodId} {args : Array Value} {below : List Frame} {meth : Method} {c : Code} {W : State} {locs : List Loc} {cells slots : Nat}
set_option maxHeartbeats 1000000 in
theorem gx_made (X : Stand p l e R s m₀ args below meth c W locs cells slots) (hexec : p.tables.exec = Jvm.exec) (htr : e.platform.stackTraces = false) {own cls Y0 : String} {names : List String} {ic ix : Nat} {bs : ByteArray} (b0 : decode bs 0 = .ok (.aload_n 0, 1)) (b1 : decode bs 1 = .ok (.aload_n 1, 1)) (b2 : decode bs 2 = .ok (.invokespecial ix, 3)) (b5 : decode bs 5 = .ok (.return_, 1)) (hY0 : Bundle.fit Y0 = true)
    (hown : s.vm.findClass own = some m₀.cls) (hcls : Bundle.fit cls = true) (hnames : ∀ n ∈ names, Bundle.fit n = true)
    (h : ∀ a ∈ nx_at own ic cls Y0 names ix bs, a.before args s = true)
    (hlocs : ∀ x ∈ locs, ∀ cell, s.heap[x.base]? = some cell → cell.vm.isStatics = false)
    {a : Addr} {cX : ClassId} {kX : Class} (hfoundX : s.vm.findClass cls = some cX) (hkX : s.vm.classes[cX]? = some kX) (hcell : W.heap[a]? = some (freshCell cX kX)) (hnew : s.heap.size ≤ a)
    {msg : Value} (hmsg : msg.isRef = true)
    {g : JFrame} (hg : g.method = m₀) (hsize : g.locals.size = c.maxLocals) {rest : List Value} (hstack : g.stack = msg :: .ref a :: .ref a :: rest)
    (hd6 : decode c.code g.pc = .ok (.invokespecial ic, 3))
    (hRframes : names.length + 4 < R.frames) (hRlocals : 2 * g.monitorRoom + ((Value.ref a :: rest).map fun v => v.category).sum + (13 * (names.length + 2) + 42) ≤ R.locals) :
    ∃ (V : State) (ce : Cell) (L : List Loc), Stand p l e R s m₀ args below meth c (V.setCell a ce) (locs ++ L) cells slots ∧ (∀ y ∈ L, y.base = a) ∧ a < V.heap.size ∧ ce.cls = cX ∧ ce.vm = .none ∧
      ∀ target, Steps p.tables e below ((V.setCell a ce).setTop { g with stack := .ref a :: rest, pc := g.pc + 3 }) target → Steps p.tables e below (W.setTop g) target := by
  have howns : e.platform.frameOwnsMonitors = true := by rw [X.admits.platform]
  have hfin : e.platform.finalization = false := by rw [X.admits.platform]
  have hpl : e.platform.magicAccessors = ({} : Platform).magicAccessors := by rw [X.admits.platform]
  have a' : ∀ x, x ∈ nx_at own ic cls Y0 names ix bs → x.holds args s none s [] = true := fun x hx => h x hx
  obtain ⟨T, Z0, L, -, Y⟩ := ThrowableC.of_atoms (args := args) howns hfin hpl (fun x hx => h x (by simp [nx_at, hx]))
  obtain ⟨Z, M, LZ, LM, hnZ⟩ := Init0T.ofS_atoms (args := args) hpl L Y (fun x hx => h x (by simp [nx_at, hx]))
  obtain ⟨P1, Ps, hlen, L1, hL, hP1m, hlink1, hlink⟩ := nx_chain (args := args) hpl hnZ b0 b1 b2 b5 hcls hY0 hnames (fun x hx => h x (by simp [nx_at, hx])) (fun x hx => h x (by simp [nx_at, hx]))
  have hfound : s.vm.findClass cls = some P1.m.cls := findClass_of_methodNamed hP1m
  cases Option.some.inj (hfoundX.symm.trans hfound)
  obtain ⟨c1, kX', hc1, hk, hord, -, -, hn6⟩ := Cond.instantiable_spec (a' (.instantiable cls 6) (by simp [nx_at]))
  cases Option.some.inj (hc1.symm.trans hfound)
  cases Option.some.inj (hkX.symm.trans hk)
  have hsel0 : selectMethod e.platform s.vm P1.m.cls T.fill0 = .method T.fill0 := by
    obtain ⟨c2, r2, m2, q1, q2, q3, q4, -⟩ := Cond.selects_spec (a' (.selects cls Bundle.tFill0 Bundle.tFill0) (by simp [nx_at]))
    cases Option.some.inj (q1.symm.trans hfound)
    cases Option.some.inj (q2.symm.trans (State.methodFound?_of_named Y.fill0 (by decide)))
    cases Option.some.inj (q3.symm.trans Y.fill0)
    rw [Launch.admits_selectMethod X.admits]; exact q4
  have hselF : selectMethod e.platform s.vm P1.m.cls T.fill = .method T.fill := by
    obtain ⟨c2, r2, m2, q1, q2, q3, q4, -⟩ := Cond.selects_spec (a' (.selects cls Bundle.tFill Bundle.tFill) (by simp [nx_at]))
    cases Option.some.inj (q1.symm.trans hfound)
    cases Option.some.inj (q2.symm.trans (State.methodFound?_of_named Y.fill (by decide)))
    cases Option.some.inj (q3.symm.trans Y.fill)
    rw [Launch.admits_selectMethod X.admits]; exact q4
  obtain ⟨cellS0, hcS0, hiss⟩ := Y.statics
  obtain ⟨u0, hu0⟩ := Cond.staticRefV Y.unassigned L.unassignedStatic L.statics hcS0 hiss (a' (.isRef (.static Bundle.tN "UNASSIGNED_STACK" Bundle.steD)) (by simp [nx_at]))
  obtain ⟨sen, hsen⟩ := Cond.staticRefV Y.sentinel L.sentinelStatic L.statics hcS0 hiss (a' (.isRef (.static Bundle.tN "SUPPRESSED_SENTINEL" Bundle.listD)) (by simp [nx_at]))
  obtain ⟨ci198, i198, fB, hk198, hg198, ha198, hsB, -, hnB, htB, hffB⟩ := Cond.ownField (t := .object "java/lang/Object") Y.found L.cls (by decide +kernel) (a' (.fieldLink Bundle.tN 198 Bundle.tN "backtrace" "Ljava/lang/Object;") (by simp [nx_at])) (a' (.lays Bundle.tN Bundle.tN "backtrace" "Ljava/lang/Object;") (by simp [nx_at])) e.platform hpl
  obtain ⟨cellS, hcS', heS, -, hkeep⟩ := X.same.2.2.2.2.2 T.aS cellS0 hcS0
  have hcellS : W.heap[T.aS]? = some cellS := hcS'
  have hout' : ∀ i, (⟨T.aS, i⟩ : Loc) ∉ locs := fun i hmem => by
    have := hlocs _ hmem cellS0 hcS0
    rw [hiss] at this; cases this
  have hknownS : cellS.vm ≠ .unknown := by
    rw [heS]; intro hu
    rw [show cellS0.vm = .unknown from hu] at hiss
    cases hiss
  have hneS : T.aS ≠ a := Nat.ne_of_lt (Nat.lt_of_lt_of_le (Array.getElem?_eq_some_iff.mp hcS0).1 hnew)
  obtain ⟨iM, hffM⟩ := Y.msg
  obtain ⟨tyC, dC, hdC, hdnC⟩ := Cond.laysAt hfound hk Y.cause (a' (.lays cls Bundle.tN "cause" "Ljava/lang/Throwable;") (by simp [nx_at]))
  obtain ⟨tyS, dS, hdS, hdnS⟩ := Cond.laysAt hfound hk Y.stack (a' (.lays cls Bundle.tN "stackTrace" Bundle.steD) (by simp [nx_at]))
  obtain ⟨tyP, dP, hdP, hdnP⟩ := Cond.laysAt hfound hk Y.supp (a' (.lays cls Bundle.tN "suppressedExceptions" Bundle.listD) (by simp [nx_at]))
  obtain ⟨tyM, dM, hdM, hdnM⟩ := Cond.laysAt hfound hk hffM (a' (.lays cls Bundle.tN "detailMessage" "Ljava/lang/String;") (by simp [nx_at]))
  obtain ⟨tyB, dB, hdB, hdnB⟩ := Cond.laysAt hfound hk hffB (a' (.lays cls Bundle.tN "backtrace" "Ljava/lang/Object;") (by simp [nx_at]))
  have bC := Cond.laysApart hdB hdC hdnB hdnC (by rw [hnB, Y.causeName]; decide)
  have bS := Cond.laysApart hdB hdS hdnB hdnS (by rw [hnB, Y.stackName]; decide)
  have bP := Cond.laysApart hdB hdP hdnB hdnP (by rw [hnB, Y.suppName]; decide)
  have hskip : SkipFacts T e.platform s (fun u => u) u0 ((preparedCellV T.toThrowableT (freshCell P1.m.cls kX) a u0 sen).withEntry W.cur) :=
    ⟨{ ci198 := ci198, i198 := i198, fBack := fB }, ⟨hk198, hg198, ha198, hsB⟩, by
      have := fresh_default (c := P1.m.cls) tyB
      rw [htB] at this
      simpa [preparedCellV, Cell.setSlot, Cell.withEntry, Array.getElem?_setIfInBounds, bC, bS, bP, bC.symm, bS.symm, bP.symm, defaultValue] using this, fun _ _ => rfl⟩
  obtain ⟨tm, methC, cdC, kC, vm₁, hnC, -, -, -, -, -, -, -, hW₁, st1⟩ := Steps.initColdS (tb := p.tables) (e := e) (below := below) (s := s) (U := W) X.here hexec X.warmed hpl hown (t := Bundle.initS cls) rfl rfl (Bundle.fit_spec hcls).2
    (a' (.methodLink own ic (Bundle.initS cls)) (by simp [nx_at])) (h (.instanceMethod (Bundle.initS cls)) (by simp [nx_at, Bundle.passSAtoms])) (bytes := bs) (maxL := 2) (h (.code (Bundle.initS cls) bs 2 none) (by simp [nx_at, Bundle.passSAtoms]))
    (f := g) hg (a := a) (msg := msg) (rest := .ref a :: rest) hstack hd6
  cases Option.some.inj (hnC.symm.trans hP1m)
  have X₁ := X.noted hW₁
  obtain ⟨vm₂, X₂, st2⟩ := X₁.ctorMessageOffV hexec (g := { g with stack := .ref a :: rest }) hg hsize T L Z LZ M LM (P1 :: Ps)
    (fun P hP => by rcases List.mem_cons.mp hP with rfl | hP; exact L1; exact hL P hP) ⟨hlink1, hlink⟩ (u0 := u0) (sen := sen) (self := a) hmsg (cell := freshCell P1.m.cls kX) (cellS := cellS)
    hcell (fun _ => by simp) (by simp) rfl rfl hsel0 hselF hcellS hneS hknownS (by rw [hkeep _ (hout' _)]; exact hu0) (by rw [hkeep _ (hout' _)]; exact hsen)
    (Takes.of_laid hk hord tyC (by rw [Y.causeType]; rfl)) (Takes.of_laid hk hord tyS (by rw [Y.stackType]; exact fits_refV_array _ u0)) (Takes.of_laid hk hord tyP (by rw [Y.suppType]; exact fits_refV_object _ sen))
    (Takes.of_laid hk hord tyM (by rw [Y.msgType]; exact fits_refV_object _ ⟨msg, hmsg⟩)) Y.objLocals hskip htr [] hd6
    (by simp only [List.length_cons, hlen]; omega) (by simp only [List.length_cons, hlen]; omega)
  have hlt : a < ((W.setVm vm₁).setVm vm₂).heap.size := (Array.getElem?_eq_some_iff.mp hcell).1
  refine ⟨(W.setVm vm₁).setVm vm₂, _, _, X₂, fun y hy => ?_, hlt, rfl, rfl, fun target hwalk => st1 _ (fun acts => ?_)⟩
  · simp only [List.mem_cons, List.not_mem_nil, or_false] at hy
    rcases hy with rfl | rfl | rfl | rfl | rfl <;> rfl
  · rw [doInvoke_state]
    exact st2 _ hwalk
end
section
variable {p : Program} {l : Launch} {e : Env} {R : Room} {s : State} {m : MethodId} {args : Array Value} {below : List Frame} {meth : Method} {c : Code} {H : Heap} {locs : List Loc} {cells slots : Nat} {Q : State → Prop}
variable {mc ms : Nat} {free : Addr → Prop} {A0 A1 : Nat → Prop} {H0 : Heap} {a : Array Value} {ls : Array Slot} {st0 rest : List Value}
variable {Qc : Array Value → State → Outcome → State → Prop} {XC : String → State → State → Prop}
theorem gx_throw {cc : ByteArray} {pc : Nat} (hexec : p.tables.exec = Jvm.exec) (hb : c.code = cc) (hl : l.stackTraces = false) {own cls text Y0 : String} {names : List String} {ik is ic mc ms sa ix : Nat} {bs : ByteArray} (b0 : decode bs 0 = .ok (.aload_n 0, 1)) (b1 : decode bs 1 = .ok (.aload_n 1, 1)) (b2 : decode bs 2 = .ok (.invokespecial ix, 3)) (b5 : decode bs 5 = .ok (.return_, 1)) (hY0 : Bundle.fit Y0 = true) {A : Nat → Prop}
    (hown : s.vm.findClass own = some m.cls) (hcls : Bundle.fit cls = true) (hnames : ∀ n ∈ names, Bundle.fit n = true)
    (hk : (Cond.classLink own ik cls).before args s = true) (hini : (Cond.initialized cls).before args s = true) (hstr : vk_R own is text sa s) (hat : ∀ w ∈ (nx_at own ic cls Y0 names ix bs).filter vx_no, w.before args s = true)
    (hgood : ∀ w ∈ Cond.classLink own ik cls :: Cond.initialized cls :: ((nx_at own ic cls Y0 names ix bs).filter vx_no), vx_ot w = true)
    (hU : vx_Zq Bundle.tN "UNASSIGNED_STACK" Bundle.steD A s s.heap) (hN : vx_Zq Bundle.tN "SUPPRESSED_SENTINEL" Bundle.listD A s s.heap) (hS : va_S A s.heap H locs) (hsize : ls.size = c.maxLocals)
    (d0 : decode cc pc = .ok (.new ik, 3)) (d3 : decode cc (pc + 3) = .ok (.dup, 1)) (d4 : decode cc (pc + 4) = .ok (.ldc is, 2)) (d6 : decode cc (pc + 6) = .ok (.invokespecial ic, 3)) (d9 : decode cc (pc + 9) = .ok (.athrow, 1))
    (hout : ∀ x ∈ c.exceptionTable.toList, covers x (pc + 9) = false)
    (hRframes : names.length + 4 < R.frames) (hRlocals : (rest.map fun v => v.category).sum + (13 * (names.length + 2) + 43) ≤ R.locals) (hRcells : cells + 1 ≤ R.cells) (hRslots : slots + 6 ≤ R.slots) (hlocks : meth.locks = false)
    (hx : ∀ t : State, s.vm.Alike t.vm → H.size ≤ t.heap.size → (∀ q : Nat, q < H.size → t.heap[q]? = H[q]?) → XC cls s t)
    (hf : ∀ z ∈ locs, free z.base) (hc : cells + 1 ≤ mc) (hs : slots + 6 ≤ ms) :
    W p l e R s m args below meth c H locs cells slots (vx_MQ below Qc XC args s mc ms free) (F0 m pc ls rest) := by
  intro T hT X
  have htr : e.platform.stackTraces = false := (show e.platform.stackTraces = l.stackTraces by rw [X.admits.platform]).trans hl
  have Y := vx_rebase X (R' := { frames := R.frames, locals := R.locals, cells := 1, slots := 6 }) (Nat.le_refl _) (Nat.le_refl _) hRcells hRslots
  obtain ⟨s', hA⟩ : ∃ z, z = (T.setVm s.vm).setFrames (.invoking m args :: below) := ⟨_, rfl⟩
  rw [← hA] at Y
  have hvm : s'.vm = s.vm := by rw [hA]; rfl
  have hhp : s'.heap = H := by rw [hA]; exact hT
  have hW0 : s.WarmedH s'.vm := by rw [hvm]; exact State.WarmedH.refl s
  have hat' : ∀ w ∈ (nx_at own ic cls Y0 names ix bs).filter vx_no, w.before args s' = true := fun w hw => vx_ot_at hW0 hvm.symm (hgood w (List.mem_cons_of_mem _ (List.mem_cons_of_mem _ hw))) (hat w hw)
  have hk' : (Cond.classLink own ik cls).before args s' = true := vx_ot_at hW0 hvm.symm (hgood _ List.mem_cons_self) hk
  have hini' : (Cond.initialized cls).before args s' = true := vx_ot_at hW0 hvm.symm (hgood _ (List.mem_cons_of_mem _ List.mem_cons_self)) hini
  have hU' : vx_Zq Bundle.tN "UNASSIGNED_STACK" Bundle.steD A s' s'.heap := by rw [hhp]; exact vx_Zq.moved hW0.alike (hU.kept hS.2.1)
  have hN' : vx_Zq Bundle.tN "SUPPRESSED_SENTINEL" Bundle.listD A s' s'.heap := by rw [hhp]; exact vx_Zq.moved hW0.alike (hN.kept hS.2.1)
  have h : ∀ w ∈ nx_at own ic cls Y0 names ix bs, w.before args s' = true := vx_own hat' (vx_isRefq hU'.1) (vx_isRefq hN'.1) hU'.2.word hN'.2.word
  have hown' : s'.vm.findClass own = some m.cls := by rw [hvm]; exact hown
  have hins : (Cond.instantiable cls 6).before args s' = true := h _ (by simp [nx_at])
  obtain ⟨vm₁, cX, kX, hfX, hkX, -, -, X₁, st1⟩ := Y.newCold hexec (own := own) (C := cls) (index := ik) (n := 6) hown' hk' hins hini'
    (g := F0 m pc ls rest) rfl (by rw [hb]; exact d0) (Nat.le_refl _) (Nat.le_refl _)
  generalize hT1 : (T.setVm vm₁).pushCell { cls := cX, slots := kX.instanceTypes.map defaultValue, vm := .none } = T1 at X₁ st1
  have hcat : (Value.ref T.heap.size).category = 1 := rfl
  have hcellA : T1.heap[T.heap.size]? = some (freshCell cX kX) := by rw [← hT1]; exact State.heap_pushCell_size _ _
  have d3' : decode c.code (pc + 3) = .ok (.dup, 1) := by rw [hb]; exact d3
  have d4' : decode c.code (pc + 4) = .ok (.ldc is, 2) := by rw [hb]; exact d4
  have hstr' : vk_R own is text sa s' := vk_R.warm hW0 hstr
  obtain ⟨V, ce, LL, X₂, hLL, hltV, hcecls, hcevm, stm⟩ := gx_made X₁ hexec htr (own := own) (cls := cls) (names := names) (ic := ic) b0 b1 b2 b5 hY0 hown' hcls hnames h (fun x hx => nomatch hx) hfX hkX hcellA (by rw [hhp, hT]; exact Nat.le_refl _) (msg := .ref sa) rfl
    (g := { method := m, pc := pc + 6, locals := ls, stack := .ref sa :: .ref T.heap.size :: .ref T.heap.size :: rest, locked := none }) rfl hsize (rest := rest) rfl
    (by rw [hb]; exact d6) hRframes (by simp only [List.map_cons, List.sum_cons, hcat]; omega)
  obtain ⟨hwalk, hrun, hend, hW, hsame0⟩ := X₂.athrowLeaves hexec (g := { method := m, pc := pc + 9, locals := ls, stack := .ref T.heap.size :: rest, locked := none }) rfl rfl rfl hout (a := T.heap.size) (rest := rest) rfl (by rw [hb]; exact d9)
  have hsteps := stm _ hwalk
  have hce := heapAt_setCell_self (s := V) ce hltV
  generalize hUe : (V.setCell T.heap.size ce).setFrames (.throwing T.heap.size :: below) = U at hsteps hrun hend hW hsame0
  have hce9 : U.heap[T.heap.size]? = some ce := by rw [← hUe]; exact hce
  have hsame : s'.sameButNew ({ U with vm := s'.vm } : State) [] (0 + 1) (0 + 6) := hsame0.weaken (fun y hy hlt' => by
    rcases List.mem_append.mp hy with h1 | h1
    · exact h1
    · exfalso
      rw [hLL y h1, hhp, hT] at hlt'
      exact Nat.lt_irrefl _ hlt') (Nat.le_refl _) (Nat.le_refl _)
  obtain ⟨f1, f2⟩ := vx_frame hsame
  rw [hhp] at f1 f2
  have hWs : s.WarmedH U.vm := State.WarmedH.trans hW0 hW
  have hcl : s.vm.findClass cls = some ce.cls := by
    rw [hcecls, ← hvm]
    exact hfX
  have hall : s.sameButNew ({ U with vm := s.vm } : State) locs mc ms := by
    subst hA
    obtain ⟨e1, e2⟩ := hsame
    rw [State.setFrames_setFrames] at e1
    have h2 : (T.setVm s.vm).sameButNew ({ U with vm := s.vm } : State) [] (0 + 1) (0 + 6) := ⟨e1, e2⟩
    have h3 := X.same.trans h2
    rw [List.append_nil] at h3
    exact h3.mono hc hs
  refine ⟨U, ?_, .threw T.heap.size, hrun, hend, Or.inr ⟨T.heap.size, rfl, cls, ce, locs, hx U hWs.alike f1 (fun q hq => f2 q hq (fun z hz => nomatch hz)), hce9, hcevm, hcl, hWs, hall, hf⟩⟩
  refine st1 _ ?_
  show Steps p.tables e below (T1.setTop { method := m, pc := pc + 3, locals := ls, stack := .ref T.heap.size :: rest, locked := none }) _
  jvm_step X₁.here [X₁.here.top, hexec, d3', Value.category]
  exact X₁.ldcString hexec (own := own) (text := text) (index := is) (a := sa) hown' hstr'.1 hstr'.2
    (g := { method := m, pc := pc + 4, locals := ls, stack := .ref T.heap.size :: .ref T.heap.size :: rest, locked := none }) rfl d4' _ hsteps
end
theorem wx_new : Cond.classLink RX8 107 "java/util/NoSuchElementException" ∈ gj_gw := gj_good (List.mem_of_getElem? (i := 851) (by decide +kernel)) (by decide +kernel)
theorem wx_ini : Cond.initialized "java/util/NoSuchElementException" ∈ gj_gw := gj_good (List.mem_of_getElem? (i := 20) (by decide +kernel)) (by decide +kernel)
theorem wx_cl : Cond.classLink RL 13 "java/util/NoSuchElementException" ∈ gj_gw := gj_good (List.mem_of_getElem? (i := 846) (by decide +kernel)) (by decide +kernel)
theorem wx_bad : ∀ w ∈ ((nx_at RX8 111 "java/util/NoSuchElementException" "java/lang/RuntimeException" ["java/lang/Exception"] 13 prog_25_method_4_code).filter vx_no).filter (fun w => !goodWord w), w ∈ gj_bad := by decide +kernel
theorem wx_good : ∀ w ∈ ((nx_at RX8 111 "java/util/NoSuchElementException" "java/lang/RuntimeException" ["java/lang/Exception"] 13 prog_25_method_4_code).filter vx_no).filter goodWord, w ∈ lw_tbl := by decide +kernel
theorem wx_cast : Cond.castable "java/util/NoSuchElementException" "java/util/NoSuchElementException" ∈ gj_bad := List.mem_filter.mpr ⟨List.mem_of_getElem? (i := 853) (by decide +kernel), rfl⟩
theorem wx_ot : ∀ w ∈ Cond.classLink RX8 107 "java/util/NoSuchElementException" :: Cond.initialized "java/util/NoSuchElementException" :: ((nx_at RX8 111 "java/util/NoSuchElementException" "java/lang/RuntimeException" ["java/lang/Exception"] 13 prog_25_method_4_code).filter vx_no), vx_ot w = true := by decide +kernel
def gj_XC (E : gj_E) (σ : gj_S) (A : Nat → Prop) : String → State → State → Prop := fun cls st t => cls = "java/util/NoSuchElementException" ∧ gj_W E σ t.heap ∧ va_F A st t
def gj_TQ (E : gj_E) (X : gj_X) (σ : gj_S) : State → Prop := match X with | (_, _, _, s, _, args, below, _, _) => vx_MQ below (fun _ _ _ _ => False) (gj_XC E σ (gj_A E.2.1 s.heap.size)) args s 1 6 (gj_A E.2.1 s.heap.size)
def gj_noT (X : gj_X) : Prop := match X with | (_, _, R, _, _, _, _, _, c) => (∀ x ∈ c.exceptionTable.toList, False) ∧ R.cells = 1 ∧ R.slots = 6
def gj_T (E : gj_E) (y : MethodName) (c : ByteArray) (n : Nat) (rt : Option FieldType) (fr lo : Nat) (vs : List gj_V) (σ : gj_S) : Prop :=
  ∀ sz : Nat, vx_Met E.1 y (.code y c n rt :: gj_gw) { frames := fr, cells := 1, slots := 6, locals := lo } (gj_P E y.cls vs σ sz) (fun _ _ _ _ => False) (gj_XC E σ (gj_A E.2.1 sz)) 1 6 (gj_A E.2.1 sz)
theorem gj_bodyT {E : gj_E} {y : MethodName} {c : ByteArray} {n : Nat} {rt : Option FieldType} {fr lo : Nat} {vs : List gj_V} {σ : gj_S} {lv : List (Nat × gj_V)} (hy : plainName y.cls = true) (hlen : (lg_sl (vs.map (gj_tv E.2.1))).length ≤ n) (hlv : lv_args 0 (vs.map (gj_tv E.2.1)) = gj_L E.2.1 lv)
    (h : ∀ X : gj_X, gj_O E X y.cls c n rt fr lo → gj_noT X → gj_H E X n 0 0 (gj_TQ E X σ) 0 lv [] σ) : gj_T E y c n rt fr lo vs σ := by
  intro sz
  refine vx_ofW (cc := c) (maxL := n) (ret := rt) hy rfl ?_
  intro p e s m args below meth cd s₁ B hml ht hv
  obtain ⟨rfl, hsz, hW, hK, hi⟩ := hv
  subst hsz
  have hts := atoms_spec (ws := .code y c n rt :: gj_gw) B.pre
  have hO : gj_O E (p, e, (headSpec (.code y c n rt :: gj_gw) { frames := fr, cells := 1, slots := 6, locals := lo }).room, s, m, (vs.map (gj_tv E.2.1)).toArray, below, meth, cd) y.cls c n rt fr lo :=
    ⟨B.exec, B.bytes, hml, findClass_of_methodNamed B.named, fun w hw => hts w (List.mem_cons_of_mem _ hw), hK, hi, B.returns, B.notSynchronized, rfl, rfl⟩
  have hl := lv_entry (vs.map (gj_tv E.2.1)) (n := n) hlen
  rw [lg_entry_eq]
  rw [hlv] at hl
  exact h _ hO ⟨ht, rfl, rfl⟩ ⟨Nat.zero_le _, Nat.zero_le _⟩ s.heap [] _ hW va_S.rf hl
theorem gj_throw {E : gj_E} {X : gj_X} {cc : ByteArray} {nL : Nat} {rt : Option FieldType} {fr lo : Nat} {pc : Nat} {lv : List (Nat × gj_V)} {st : List gj_V} {σ : gj_S} {idx no : Nat} {tx : String} (hO : gj_O E X RX8 cc nL rt fr lo) (hT : gj_noT X) (hm : (RX8, idx, tx, no) ∈ gj_strs) (hf1 : 6 ≤ fr) (hf2 : 100 ≤ lo) (hcat : ((st.map (gj_tv E.2.1)).map fun v => v.category).sum ≤ 8)
    (d0 : decode cc pc = .ok (.new 107, 3)) (d3 : decode cc (pc + 3) = .ok (.dup, 1)) (d4 : decode cc (pc + 4) = .ok (.ldc idx, 2)) (d6 : decode cc (pc + 6) = .ok (.invokespecial 111, 3)) (d9 : decode cc (pc + 9) = .ok (.athrow, 1)) : gj_H E X nL 0 0 (gj_TQ E X σ) pc lv st σ := by
  obtain ⟨p, e, R, s, m, args, below, meth, c⟩ := X
  obtain ⟨hx, hb, hml, hown, hts, hK, hi, hr, hlk, hfr, hlo⟩ := hO
  intro hcs H locs ls hW hS hl
  refine gx_throw (A := gj_A E.2.1 s.heap.size) (Y0 := "java/lang/RuntimeException") (names := ["java/lang/Exception"]) (ix := 13) (bs := prog_25_method_4_code) hx hb hi.2.2.2.2.2.2.2.1 (by decide +kernel) (by decide +kernel) (by decide +kernel) (by decide +kernel) (by decide +kernel) hown (by decide +kernel) (by decide +kernel) (hts _ wx_new) (hts _ wx_ini) (hi.2.2.2.2.2.2.1 _ hm) (vx_hat (B := gj_bad) (fun w hw => hts w (List.mem_filter.mpr ⟨wx_good w hw, (List.mem_filter.mp hw).2⟩)) wx_bad (fun w hw => va_Nw.use (gj_badT (List.mem_filter.mp hw).2) (hi.2.2.2.2.2.2.2.2 w hw))) wx_ot hi.2.2.2.2.1 hi.2.2.2.2.2.1 hS (hl.1.trans hml.symm) d0 d3 d4 d6 d9 (fun x hx2 => (hT.1 x hx2).elim) (by rw [hfr]; simp; omega) (by rw [hlo]; simp at hcat ⊢; omega) (by rw [hT.2.1]; exact Nat.le_refl _) (by rw [hT.2.2]; exact Nat.le_refl _) hlk (fun t ht hz hk => ⟨rfl, ?_, ?_⟩) hS.2.2 (Nat.le_refl _) (Nat.le_refl _)
  · intro i q hq
    have h1 := hW i q hq
    exact h1.kept (hk _ h1.lt)
  · exact ⟨Nat.le_trans hS.1 hz, fun q h1 h2 => by rw [hk q (Nat.lt_of_lt_of_le h1 hS.1)]; exact hS.2.1 q h1 h2⟩
/-- a body with a table of its own -/
theorem gj_bodyH {E : gj_E} {y : MethodName} {c : ByteArray} {n : Nat} {rt : Option FieldType} {hh : List (Nat × Nat × Nat × Nat)} {fr lo mc ms : Nat} {vs : List gj_V} {σ τ : gj_S} {r : Option gj_V} {lv : List (Nat × gj_V)} (hy : plainName y.cls = true) (hlen : (lg_sl (vs.map (gj_tv E.2.1))).length ≤ n) (hlv : lv_args 0 (vs.map (gj_tv E.2.1)) = gj_L E.2.1 lv)
    (h : ∀ p e s m below meth cd, gj_O E (p, e, ({ frames := fr, cells := mc, slots := ms, locals := lo } : Room), s, m, (vs.map (gj_tv E.2.1)).toArray, below, meth, cd) y.cls c n rt fr lo → cd.exceptionTable.toList = tableOf hh → gj_H E (p, e, ({ frames := fr, cells := mc, slots := ms, locals := lo } : Room), s, m, (vs.map (gj_tv E.2.1)).toArray, below, meth, cd) n 0 0 (MQ below (gj_Q E r τ (gj_A E.2.1 s.heap.size)) (vs.map (gj_tv E.2.1)).toArray s mc ms (gj_A E.2.1 s.heap.size)) 0 lv [] σ) (sz : Nat) :
    Met E.1 y (.codeWith y c n rt hh :: gj_gw) { frames := fr, cells := mc, slots := ms, locals := lo } (gj_P E y.cls vs σ sz) (gj_Q E r τ (gj_A E.2.1 sz)) mc ms (gj_A E.2.1 sz) := by
  refine MetFree.of_bodyS (code := c) (maxLocals := n) (ret := rt) hy ?_ ?_
  · intro args s m h hn
    obtain ⟨m9, meth, cd, hn9, h1, h2, h3, h4, -, h5, h6, -⟩ := Cond.codeWith_spec (atoms_spec (ws := .codeWith y c n rt hh :: gj_gw) h _ List.mem_cons_self)
    cases hn.symm.trans hn9
    exact ⟨meth, cd, h1, h2, h3, h4, h5, h6⟩
  · intro p e s m args below meth cd s₁ B hml hv _
    obtain ⟨rfl, hsz, hW, hK, hi⟩ := hv
    subst hsz
    have hts := atoms_spec (ws := .codeWith y c n rt hh :: gj_gw) B.pre
    have hO : gj_O E (p, e, ({ frames := fr, cells := mc, slots := ms, locals := lo } : Room), s, m, (vs.map (gj_tv E.2.1)).toArray, below, meth, cd) y.cls c n rt fr lo :=
      ⟨B.exec, B.bytes, hml, findClass_of_methodNamed B.named, fun w hw => hts w (List.mem_cons_of_mem _ hw), hK, hi, B.returns, B.notSynchronized, rfl, rfl⟩
    have hl := lv_entry (vs.map (gj_tv E.2.1)) (n := n) hlen
    rw [hlv] at hl
    have hh0 : s₁.heap = s.heap := by rw [B.state]; rfl
    have hw9 := h p e s m below meth cd hO (vx_table (x := y) B (hts _ List.mem_cons_self)) ⟨Nat.zero_le _, Nat.zero_le _⟩ s.heap [] _ hW va_S.rf hl
    obtain ⟨t, a1, o, b1, b2, b3⟩ := (by rw [lg_entry_eq]; exact hw9 : W p E.1 e { frames := fr, cells := mc, slots := ms, locals := lo } s m (vs.map (gj_tv E.2.1)).toArray below meth cd s.heap [] 0 0 _ (entryFrame m (vs.map (gj_tv E.2.1)).toArray n)) s₁ hh0 (Stand.of_body B)
    exact ⟨t, o, a1, b1, b2, ⟨b3.1, b3.2⟩⟩
def g_X8_dock (b1 : Int32) (b2 : Int32) (σ : gj_S) : Option Unit := ((f_X1_hasDock 17 b1 σ).bind fun x1 => (if x1 = 0 then some () else (if b2 = 0 then (if gj_in b1 8 then none else none) else (if b2 = 1 then (if gj_in b1 9 then none else none) else (if b2 = 2 then (if gj_in b1 9 then none else none) else (if b2 = 3 then (if gj_in b1 9 then none else none) else (if b2 = 4 then ((f_X7_countHanging 16 b1 σ).bind fun x6 => none) else (if b2 = 5 then ((f_X1_lackOf 17 b1 σ).bind fun x7 => none) else (if b2 = 6 then ((f_X1_stuckOf 17 b1 σ).bind fun x8 => none) else some ())))))))))
set_option maxHeartbeats 4000000 in
set_option maxRecDepth 100000 in
theorem t_X8_dock {E : gj_E} {σ : gj_S} {b1 b2 : Int32} (hf : g_X8_dock b1 b2 σ = some ()) : gj_T E yX8_dock cX8_dock 3 (some .int) 6 100 [gj_r 0, gj_i b1, gj_i b2] σ := by
  refine gj_bodyT (lv := [(0, gj_r 0), (1, gj_i b1), (2, gj_i b2)]) (by decide +kernel) (Nat.le_of_ble_eq_true rfl) rfl (fun X hO hT => ?_)
  replace hO : gj_O E X RX8 cX8_dock 3 (some .int) 6 100 := hO
  unfold g_X8_dock at hf
  refine gj_aload_n hO 0 dX8_dock_0 rfl rfl ?_
  refine gt_X8_4 hO wk_185 dX8_dock_1 ?_
  refine gt_X7_0 hO kd_16 kl_16 wk_186 dX8_dock_4 ?_
  refine gj_iload_n hO 1 dX8_dock_7 rfl rfl ?_
  obtain ⟨x1, hc1, hf⟩ := gj_b hf
  refine ca_X1_hasDock hO isP_17 hc1 wk_217 (by decide) (by decide) (Nat.le_of_ble_eq_true rfl) dX8_dock_8 ?_
  refine gj_if_ne (tgt := 24) hO dX8_dock_11 (by decide) (fun h => ?_) (fun h => ?_)
  · replace hf := gj_f h hf
    refine gj_iload_n hO 2 dX8_dock_24 rfl rfl ?_
    by_cases hs0 : b2 = 0
    · replace hf := gj_t hs0 hf
      refine gj_tblAt 0 (tgt := 68) hO dX8_dock_25 hs0 (by decide) (by decide) rfl (by decide) ?_
      refine gj_aload_n hO 0 dX8_dock_68 rfl rfl ?_
      refine gt_X8_4 hO wk_185 dX8_dock_69 ?_
      refine gt_X7_0 hO kd_16 kl_16 wk_186 dX8_dock_72 ?_
      refine gt_X1_5 hO kd_17 kl_17 wk_218 dX8_dock_75 ?_
      refine gj_iload_n hO 1 dX8_dock_78 rfl rfl ?_
      obtain ⟨hb2, hf⟩ := gj_c hf
      refine gj_iald hO kl_18 kd_18 hb2 dX8_dock_79 ?_
      cases hf
    · replace hf := gj_f hs0 hf
      by_cases hs1 : b2 = 1
      · replace hf := gj_t hs1 hf
        refine gj_tblAt 1 (tgt := 81) hO dX8_dock_25 hs1 (by decide) (by decide) rfl (by decide) ?_
        refine gj_aload_n hO 0 dX8_dock_81 rfl rfl ?_
        refine gt_X8_4 hO wk_185 dX8_dock_82 ?_
        refine gt_X7_1 hO kd_16 kl_16 wk_219 dX8_dock_85 ?_
        refine gt_X5_3 hO kd_26 kl_26 wk_220 dX8_dock_88 ?_
        refine gj_iload_n hO 1 dX8_dock_91 rfl rfl ?_
        obtain ⟨hb3, hf⟩ := gj_c hf
        refine gj_iald hO kl_30 kd_30 hb3 dX8_dock_92 ?_
        cases hf
      · replace hf := gj_f hs1 hf
        by_cases hs2 : b2 = 2
        · replace hf := gj_t hs2 hf
          refine gj_tblAt 2 (tgt := 94) hO dX8_dock_25 hs2 (by decide) (by decide) rfl (by decide) ?_
          refine gj_aload_n hO 0 dX8_dock_94 rfl rfl ?_
          refine gt_X8_4 hO wk_185 dX8_dock_95 ?_
          refine gt_X7_1 hO kd_16 kl_16 wk_219 dX8_dock_98 ?_
          refine gt_X5_2 hO kd_26 kl_26 wk_221 dX8_dock_101 ?_
          refine gj_iload_n hO 1 dX8_dock_104 rfl rfl ?_
          obtain ⟨hb4, hf⟩ := gj_c hf
          refine gj_iald hO kl_29 kd_29 hb4 dX8_dock_105 ?_
          cases hf
        · replace hf := gj_f hs2 hf
          by_cases hs3 : b2 = 3
          · replace hf := gj_t hs3 hf
            refine gj_tblAt 3 (tgt := 107) hO dX8_dock_25 hs3 (by decide) (by decide) rfl (by decide) ?_
            refine gj_aload_n hO 0 dX8_dock_107 rfl rfl ?_
            refine gt_X8_4 hO wk_185 dX8_dock_108 ?_
            refine gt_X7_1 hO kd_16 kl_16 wk_219 dX8_dock_111 ?_
            refine gt_X5_0 hO kd_26 kl_26 wk_222 dX8_dock_114 ?_
            refine gj_iload_n hO 1 dX8_dock_117 rfl rfl ?_
            obtain ⟨hb5, hf⟩ := gj_c hf
            refine gj_iald hO kl_27 kd_27 hb5 dX8_dock_118 ?_
            cases hf
          · replace hf := gj_f hs3 hf
            by_cases hs4 : b2 = 4
            · replace hf := gj_t hs4 hf
              refine gj_tblAt 4 (tgt := 120) hO dX8_dock_25 hs4 (by decide) (by decide) rfl (by decide) ?_
              refine gj_aload_n hO 0 dX8_dock_120 rfl rfl ?_
              refine gt_X8_4 hO wk_185 dX8_dock_121 ?_
              refine gj_iload_n hO 1 dX8_dock_124 rfl rfl ?_
              obtain ⟨x6, hc6, hf⟩ := gj_b hf
              refine ca_X7_countHanging hO isY_16 hc6 wk_223 (by decide) (by decide) (Nat.le_of_ble_eq_true rfl) dX8_dock_125 ?_
              cases hf
            · replace hf := gj_f hs4 hf
              by_cases hs5 : b2 = 5
              · replace hf := gj_t hs5 hf
                refine gj_tblAt 5 (tgt := 129) hO dX8_dock_25 hs5 (by decide) (by decide) rfl (by decide) ?_
                refine gj_aload_n hO 0 dX8_dock_129 rfl rfl ?_
                refine gt_X8_4 hO wk_185 dX8_dock_130 ?_
                refine gt_X7_0 hO kd_16 kl_16 wk_186 dX8_dock_133 ?_
                refine gj_iload_n hO 1 dX8_dock_136 rfl rfl ?_
                obtain ⟨x7, hc7, hf⟩ := gj_b hf
                refine ca_X1_lackOf hO isP_17 hc7 wk_224 (by decide) (by decide) (Nat.le_of_ble_eq_true rfl) dX8_dock_137 ?_
                cases hf
              · replace hf := gj_f hs5 hf
                by_cases hs6 : b2 = 6
                · replace hf := gj_t hs6 hf
                  refine gj_tblAt 6 (tgt := 141) hO dX8_dock_25 hs6 (by decide) (by decide) rfl (by decide) ?_
                  refine gj_aload_n hO 0 dX8_dock_141 rfl rfl ?_
                  refine gt_X8_4 hO wk_185 dX8_dock_142 ?_
                  refine gt_X7_0 hO kd_16 kl_16 wk_186 dX8_dock_145 ?_
                  refine gj_iload_n hO 1 dX8_dock_148 rfl rfl ?_
                  obtain ⟨x8, hc8, hf⟩ := gj_b hf
                  refine ca_X1_stuckOf hO isP_17 hc8 wk_225 (by decide) (by decide) (Nat.le_of_ble_eq_true rfl) dX8_dock_149 ?_
                  cases hf
                · replace hf := gj_f hs6 hf
                  refine gj_tblOut (tgt := 153) hO dX8_dock_25 (gj_out6 hs0 hs1 hs2 hs3 hs4 hs5 hs6) (by decide) ?_
                  exact gj_throw (tx := "no such number of a dock") hO hT (List.mem_of_getElem? (i := 8) rfl) (by decide) (by decide) (Nat.le_of_ble_eq_true rfl) dX8_dock_153 dX8_dock_156 dX8_dock_157 dX8_dock_159 dX8_dock_162
  · replace hf := gj_t h hf
    exact gj_throw (tx := "no such dock") hO hT (List.mem_of_getElem? (i := 7) rfl) (by decide) (by decide) (Nat.le_of_ble_eq_true rfl) dX8_dock_14 dX8_dock_17 dX8_dock_18 dX8_dock_20 dX8_dock_23
set_option maxHeartbeats 4000000 in
set_option maxRecDepth 100000 in
theorem hn_dock {E : gj_E} {σ : gj_S} {b1 b2 x : Int32} (hf : f_X8_dock b1 b2 σ = some x) (sz : Nat) : Met E.1 yL_dock (.codeWith yL_dock cL_dock 5 (some .int) [(0, 10, 13, 13)] :: gj_gw) { frames := 7, cells := 0, slots := 0, locals := 122 } (gj_P E RL [gj_r 0, gj_i b1, gj_i b2, gj_r 211] σ sz) (gj_Q E (some (gj_i 0)) (gj_sJ σ 211 (vp_updL (σ.2.1 211) (Int32.toNatClampNeg 0) (Int32.toInt64 x))) (gj_A E.2.1 sz)) 0 0 (gj_A E.2.1 sz) := by
  refine gj_bodyH (y := yL_dock) (lv := [(0, gj_r 0), (1, gj_i b1), (2, gj_i b2), (3, gj_r 211)]) (by decide +kernel) (Nat.le_of_ble_eq_true rfl) rfl (fun p e s m below meth cd hO ht => ?_) sz
  replace hO : gj_O E (p, e, ({ frames := 7, cells := 0, slots := 0, locals := 122 } : Room), s, m, ([gj_r 0, gj_i b1, gj_i b2, gj_r 211].map (gj_tv E.2.1)).toArray, below, meth, cd) RL cL_dock 5 (some .int) 7 122 := hO
  refine gj_aload_n hO 3 dL_dock_0 rfl rfl ?_
  refine gj_iconst (v := 0) hO dL_dock_1 (by decide) ?_
  refine gj_aload_n hO 0 dL_dock_2 rfl rfl ?_
  refine gj_iload_n hO 1 dL_dock_3 rfl rfl ?_
  refine gj_iload_n hO 2 dL_dock_4 rfl rfl ?_
  refine ca_X8_dock hO hf wk_1003 (by decide) (by decide) (Nat.le_of_ble_eq_true rfl) dL_dock_5 ?_
  refine gj_i2l hO dL_dock_8 ?_
  refine gj_last hO kl_211 kd_211 (by decide) dL_dock_9 ?_
  refine gj_goto (tgt := 17) hO dL_dock_10 (by decide) ?_
  refine gj_iconst (v := 0) hO dL_dock_17 (by decide) ?_
  exact gj_iret (X := (p, e, ({ frames := 7, cells := 0, slots := 0, locals := 122 } : Room), s, m, ([gj_r 0, gj_i b1, gj_i b2, gj_r 211].map (gj_tv E.2.1)).toArray, below, meth, cd)) hO dL_dock_18
set_option maxHeartbeats 4000000 in
set_option maxRecDepth 100000 in
theorem ht_dock {E : gj_E} {σ : gj_S} {b1 b2 : Int32} (hf : g_X8_dock b1 b2 σ = some ()) (sz : Nat) : Met E.1 yL_dock (.codeWith yL_dock cL_dock 5 (some .int) [(0, 10, 13, 13)] :: gj_gw) { frames := 7, cells := 1, slots := 6, locals := 122 } (gj_P E RL [gj_r 0, gj_i b1, gj_i b2, gj_r 211] σ sz) (gj_Q E (some (gj_i 1)) σ (gj_A E.2.1 sz)) 1 6 (gj_A E.2.1 sz) := by
  refine gj_bodyH (y := yL_dock) (lv := [(0, gj_r 0), (1, gj_i b1), (2, gj_i b2), (3, gj_r 211)]) (by decide +kernel) (Nat.le_of_ble_eq_true rfl) rfl (fun p e s m below meth cd hO ht => ?_) sz
  replace hO : gj_O E (p, e, ({ frames := 7, cells := 1, slots := 6, locals := 122 } : Room), s, m, ([gj_r 0, gj_i b1, gj_i b2, gj_r 211].map (gj_tv E.2.1)).toArray, below, meth, cd) RL cL_dock 5 (some .int) 7 122 := hO
  refine gj_aload_n hO 3 dL_dock_0 rfl rfl ?_
  refine gj_iconst (v := 0) hO dL_dock_1 (by decide) ?_
  refine gj_aload_n hO 0 dL_dock_2 rfl rfl ?_
  refine gj_iload_n hO 1 dL_dock_3 rfl rfl ?_
  refine gj_iload_n hO 2 dL_dock_4 rfl rfl ?_
  obtain ⟨hx, hb, hml, hown, hts, hK, hi, hr, hlk, hfr, hlo⟩ := hO
  intro hcs H locs ls hW hS hl
  have hG : GoodIn gj_gw (wsV RL 7 RX8 yX8_dock (.code yX8_dock cX8_dock 3 (some .int) :: gj_gw)) := gj_GI (fun w hw => by
    rcases List.mem_append.mp hw with h | h
    · simp only [List.mem_cons, List.not_mem_nil, or_false] at h
      rcases h with rfl | rfl | rfl | rfl
      · exact wk_1003
      · exact wk_226
      · exact wk_227
      · exact wk_4
    · rcases List.mem_cons.mp h with rfl | h
      · exact wk_228
      · exact h)
  have hrun := vx_runV (As := [.int b1, .int b2]) (rest := [.int 0, .ref (E.2.1 211)]) (b := E.2.1 0) (g := F0 m 5 ls [.int b2, .int b1, .ref (E.2.1 0), .int 0, .ref (E.2.1 211)]) (H := H) (locs := locs) (cells := 0) (slots := 0) (below := below) (meth := meth) (e := e) (R := ({ frames := 7, cells := 1, slots := 6, locals := 122 } : Room)) ⟨hx, hb, hml, hown, hts⟩ (t_X8_dock (E := E) (σ := σ) hf H.size) (cwV 2 hts hG rfl rfl rfl (by decide +kernel) ⟨by decide, by decide⟩) ⟨gj_blind, va_recv hK hW (ci := 8) (q0 := 0) rfl (by rw [gj_at (gj_ltn hi.1 kl_0), gj_cO kd_0 (by decide)]), fun U hU hWm => ⟨rfl, by rw [hU], by rw [hU]; exact hW, va_K.moved hWm.alike hK, gj_Iany (by decide) hi.1, gj_Zcall hi.2 hS hU hWm⟩⟩ rfl rfl hl.1 rfl (lv_room (Nat.le_of_ble_eq_true rfl)) dL_dock_5 ⟨by decide, by decide⟩
  intro T hT X
  rcases hrun T hT X with ⟨v, st₀, t, T', L, h0, X', hL, e1, e2, hq, stp⟩ | ⟨q, st₀, t, T', L, Ex, ce, h0, X', hL, e1, e2, hxc, hq, hv, hcl, stp⟩
  · exact hq.elim
  · obtain ⟨rfl, hW1, hF⟩ := hxc
    have hS1 : va_S (gj_A E.2.1 s.heap.size) s.heap T'.heap (locs ++ L) := ⟨Nat.le_trans hS.1 (by rw [e1, ← h0]; exact hF.1), fun z h1 h2 => by rw [e1, hF.2 z (by rw [h0]; exact Nat.lt_of_lt_of_le h1 hS.1) (fun k => h2 (gj_F hS z k)), h0]; exact hS.2.1 z h1 h2, fun z hz => by
      rcases List.mem_append.mp hz with h | h
      · exact hS.2.2 z h
      · exact gj_F hS _ (hL z h)⟩
    have kk : W p E.1 e ({ frames := 7, cells := 1, slots := 6, locals := 122 } : Room) s m ([gj_r 0, gj_i b1, gj_i b2, gj_r 211].map (gj_tv E.2.1)).toArray below meth cd T'.heap (locs ++ L) 1 6 (MQ below (gj_Q E (some (gj_i 1)) σ (gj_A E.2.1 s.heap.size)) ([gj_r 0, gj_i b1, gj_i b2, gj_r 211].map (gj_tv E.2.1)).toArray s 1 6 (gj_A E.2.1 s.heap.size)) (F0 m 13 ls [.ref q]) := by
      refine lv_astore (lv' := _) hx hb dL_dock_13 hl (by decide) rfl (fun ls2 hl2 => ?_)
      refine lv_iconst (v := 1) hx hb dL_dock_15 (by decide) ?_
      exact W.iret (v := 1) hx hb hr (fun t2 ht2 hw2 => ⟨⟨rfl, by rw [ht2, e1]; exact hW1⟩, hS1.F ht2⟩) hS1.2.2 dL_dock_16
    obtain ⟨t2, a1, b1'⟩ := vx_catch (name := "java/util/NoSuchElementException") (rest := [.int 0, .ref (E.2.1 211)]) (pc := 5) (ls := ls) hown [] ⟨0, 10, 13, 13⟩ [] ht (fun z hz => by cases hz) (by decide) (by decide) (hts _ wx_cl) (va_Nw.use rfl (hi.2.2.2.2.2.2.2.2 _ wx_cast)) (by rw [e1]; exact hq) hv hcl kk T' rfl X'
    exact ⟨t2, stp.trans a1, b1'⟩
def g_X8_way (b1 : Int32) (b2 : Int32) (σ : gj_S) : Option Unit := ((f_X1_hasWay 17 b1 σ).bind fun x1 => (if x1 = 0 then some () else (if b2 = 0 then (if gj_in b1 24 then (if (σ.1 19 (Int32.toNatClampNeg b1)) = (8 : Int32) then none else (if gj_in b1 24 then none else none)) else none) else (if b2 = 1 then (if gj_in b1 24 then (if (σ.1 20 (Int32.toNatClampNeg b1)) = (8 : Int32) then none else (if gj_in b1 24 then none else none)) else none) else (if b2 = 2 then (if gj_in b1 24 then none else none) else (if b2 = 3 then ((f_X1_hasRoute 17 b1 σ).bind fun x7 => (if x7 = 0 then none else (if gj_in b1 24 then none else none))) else (if b2 = 4 then (if gj_in b1 24 then none else none) else (if b2 = 5 then (if gj_in b1 24 then none else none) else (if b2 = 6 then ((f_X7_gainOf 16 b1 σ).bind fun x11 => none) else some ())))))))))
set_option maxHeartbeats 4000000 in
set_option maxRecDepth 100000 in
theorem t_X8_way {E : gj_E} {σ : gj_S} {b1 b2 : Int32} (hf : g_X8_way b1 b2 σ = some ()) : gj_T E yX8_way cX8_way 4 (some .int) 6 100 [gj_r 0, gj_i b1, gj_i b2] σ := by
  refine gj_bodyT (lv := [(0, gj_r 0), (1, gj_i b1), (2, gj_i b2)]) (by decide +kernel) (Nat.le_of_ble_eq_true rfl) rfl (fun X hO hT => ?_)
  replace hO : gj_O E X RX8 cX8_way 4 (some .int) 6 100 := hO
  unfold g_X8_way at hf
  refine gj_aload_n hO 0 dX8_way_0 rfl rfl ?_
  refine gt_X8_4 hO wk_185 dX8_way_1 ?_
  refine gt_X7_0 hO kd_16 kl_16 wk_186 dX8_way_4 ?_
  refine gj_astore_n (lv2 := [(3, gj_r 17), (0, gj_r 0), (1, gj_i b1), (2, gj_i b2)]) hO dX8_way_7 rfl (by decide) rfl ?_
  refine gj_aload_n hO 0 dX8_way_8 rfl rfl ?_
  refine gj_iload_n hO 2 dX8_way_9 rfl rfl ?_
  obtain ⟨x1, hc1, hf⟩ := gj_b hf
  refine ca_X1_hasWay hO isP_17 hc1 wk_243 (by decide) (by decide) (Nat.le_of_ble_eq_true rfl) dX8_way_10 ?_
  refine gj_if_ne (tgt := 26) hO dX8_way_13 (by decide) (fun h => ?_) (fun h => ?_)
  · replace hf := gj_f h hf
    refine gj_iload_n hO 3 dX8_way_26 rfl rfl ?_
    by_cases hs0 : b2 = 0
    · replace hf := gj_t hs0 hf
      refine gj_tblAt 0 (tgt := 68) hO dX8_way_27 hs0 (by decide) (by decide) rfl (by decide) ?_
      refine gj_aload_n hO 0 dX8_way_68 rfl rfl ?_
      refine gt_X1_6 hO kd_17 kl_17 wk_244 dX8_way_69 ?_
      refine gj_iload_n hO 2 dX8_way_72 rfl rfl ?_
      obtain ⟨hb2, hf⟩ := gj_c hf
      refine gj_iald hO kl_19 kd_19 hb2 dX8_way_73 ?_
      refine gj_bipush (v := 8) hO dX8_way_74 (by decide) ?_
      refine gj_icmp_ne (tgt := 83) hO dX8_way_76 (by decide) (fun h => ?_) (fun h => ?_)
      · replace hf := gj_f h hf
        refine gj_aload_n hO 0 dX8_way_83 rfl rfl ?_
        refine gt_X1_6 hO kd_17 kl_17 wk_244 dX8_way_84 ?_
        refine gj_iload_n hO 2 dX8_way_87 rfl rfl ?_
        obtain ⟨hb3, hf⟩ := gj_c hf
        refine gj_iald hO kl_19 kd_19 hb3 dX8_way_88 ?_
        cases hf
      · replace hf := gj_t h hf
        refine gj_iconst (v := (-1)) hO dX8_way_79 (by decide) ?_
        refine gj_goto (tgt := 89) hO dX8_way_80 (by decide) ?_
        cases hf
    · replace hf := gj_f hs0 hf
      by_cases hs1 : b2 = 1
      · replace hf := gj_t hs1 hf
        refine gj_tblAt 1 (tgt := 90) hO dX8_way_27 hs1 (by decide) (by decide) rfl (by decide) ?_
        refine gj_aload_n hO 0 dX8_way_90 rfl rfl ?_
        refine gt_X1_7 hO kd_17 kl_17 wk_245 dX8_way_91 ?_
        refine gj_iload_n hO 2 dX8_way_94 rfl rfl ?_
        obtain ⟨hb4, hf⟩ := gj_c hf
        refine gj_iald hO kl_20 kd_20 hb4 dX8_way_95 ?_
        refine gj_bipush (v := 8) hO dX8_way_96 (by decide) ?_
        refine gj_icmp_ne (tgt := 105) hO dX8_way_98 (by decide) (fun h => ?_) (fun h => ?_)
        · replace hf := gj_f h hf
          refine gj_aload_n hO 0 dX8_way_105 rfl rfl ?_
          refine gt_X1_7 hO kd_17 kl_17 wk_245 dX8_way_106 ?_
          refine gj_iload_n hO 2 dX8_way_109 rfl rfl ?_
          obtain ⟨hb5, hf⟩ := gj_c hf
          refine gj_iald hO kl_20 kd_20 hb5 dX8_way_110 ?_
          cases hf
        · replace hf := gj_t h hf
          refine gj_iconst (v := (-1)) hO dX8_way_101 (by decide) ?_
          refine gj_goto (tgt := 111) hO dX8_way_102 (by decide) ?_
          cases hf
      · replace hf := gj_f hs1 hf
        by_cases hs2 : b2 = 2
        · replace hf := gj_t hs2 hf
          refine gj_tblAt 2 (tgt := 112) hO dX8_way_27 hs2 (by decide) (by decide) rfl (by decide) ?_
          refine gj_aload_n hO 0 dX8_way_112 rfl rfl ?_
          refine gt_X1_8 hO kd_17 kl_17 wk_246 dX8_way_113 ?_
          refine gj_iload_n hO 2 dX8_way_116 rfl rfl ?_
          obtain ⟨hb6, hf⟩ := gj_c hf
          refine gj_iald hO kl_21 kd_21 hb6 dX8_way_117 ?_
          cases hf
        · replace hf := gj_f hs2 hf
          by_cases hs3 : b2 = 3
          · replace hf := gj_t hs3 hf
            refine gj_tblAt 3 (tgt := 119) hO dX8_way_27 hs3 (by decide) (by decide) rfl (by decide) ?_
            refine gj_aload_n hO 0 dX8_way_119 rfl rfl ?_
            refine gj_iload_n hO 2 dX8_way_120 rfl rfl ?_
            obtain ⟨x7, hc7, hf⟩ := gj_b hf
            refine ca_X1_hasRoute hO isP_17 hc7 wk_247 (by decide) (by decide) (Nat.le_of_ble_eq_true rfl) dX8_way_121 ?_
            refine gj_if_eq (tgt := 136) hO dX8_way_124 (by decide) (fun h => ?_) (fun h => ?_)
            · replace hf := gj_t h hf
              refine gj_iconst (v := (-1)) hO dX8_way_136 (by decide) ?_
              cases hf
            · replace hf := gj_f h hf
              refine gj_aload_n hO 0 dX8_way_127 rfl rfl ?_
              refine gt_X1_9 hO kd_17 kl_17 wk_248 dX8_way_128 ?_
              refine gj_iload_n hO 2 dX8_way_131 rfl rfl ?_
              obtain ⟨hb8, hf⟩ := gj_c hf
              refine gj_iald hO kl_22 kd_22 hb8 dX8_way_132 ?_
              refine gj_goto (tgt := 137) hO dX8_way_133 (by decide) ?_
              cases hf
          · replace hf := gj_f hs3 hf
            by_cases hs4 : b2 = 4
            · replace hf := gj_t hs4 hf
              refine gj_tblAt 4 (tgt := 138) hO dX8_way_27 hs4 (by decide) (by decide) rfl (by decide) ?_
              refine gj_aload_n hO 0 dX8_way_138 rfl rfl ?_
              refine gt_X1_10 hO kd_17 kl_17 wk_249 dX8_way_139 ?_
              refine gj_iload_n hO 2 dX8_way_142 rfl rfl ?_
              obtain ⟨hb9, hf⟩ := gj_c hf
              refine gj_iald hO kl_23 kd_23 hb9 dX8_way_143 ?_
              cases hf
            · replace hf := gj_f hs4 hf
              by_cases hs5 : b2 = 5
              · replace hf := gj_t hs5 hf
                refine gj_tblAt 5 (tgt := 145) hO dX8_way_27 hs5 (by decide) (by decide) rfl (by decide) ?_
                refine gj_aload_n hO 0 dX8_way_145 rfl rfl ?_
                refine gt_X1_11 hO kd_17 kl_17 wk_250 dX8_way_146 ?_
                refine gj_iload_n hO 2 dX8_way_149 rfl rfl ?_
                obtain ⟨hb10, hf⟩ := gj_c hf
                refine gj_iald hO kl_24 kd_24 hb10 dX8_way_150 ?_
                cases hf
              · replace hf := gj_f hs5 hf
                by_cases hs6 : b2 = 6
                · replace hf := gj_t hs6 hf
                  refine gj_tblAt 6 (tgt := 152) hO dX8_way_27 hs6 (by decide) (by decide) rfl (by decide) ?_
                  refine gj_aload_n hO 1 dX8_way_152 rfl rfl ?_
                  refine gt_X8_4 hO wk_185 dX8_way_153 ?_
                  refine gj_iload_n hO 2 dX8_way_156 rfl rfl ?_
                  obtain ⟨x11, hc11, hf⟩ := gj_b hf
                  refine ca_X7_gainOf hO isY_16 hc11 wk_251 (by decide) (by decide) (Nat.le_of_ble_eq_true rfl) dX8_way_157 ?_
                  cases hf
                · replace hf := gj_f hs6 hf
                  refine gj_tblOut (tgt := 161) hO dX8_way_27 (gj_out6 hs0 hs1 hs2 hs3 hs4 hs5 hs6) (by decide) ?_
                  exact gj_throw (tx := "no such number of a way") hO hT (List.mem_of_getElem? (i := 10) rfl) (by decide) (by decide) (Nat.le_of_ble_eq_true rfl) dX8_way_161 dX8_way_164 dX8_way_165 dX8_way_167 dX8_way_170
  · replace hf := gj_t h hf
    exact gj_throw (tx := "no such way") hO hT (List.mem_of_getElem? (i := 9) rfl) (by decide) (by decide) (Nat.le_of_ble_eq_true rfl) dX8_way_16 dX8_way_19 dX8_way_20 dX8_way_22 dX8_way_25
set_option maxHeartbeats 4000000 in
set_option maxRecDepth 100000 in
theorem hn_way {E : gj_E} {σ : gj_S} {b1 b2 x : Int32} (hf : f_X8_way b1 b2 σ = some x) (sz : Nat) : Met E.1 yL_way (.codeWith yL_way cL_way 5 (some .int) [(0, 10, 13, 13)] :: gj_gw) { frames := 7, cells := 0, slots := 0, locals := 123 } (gj_P E RL [gj_r 0, gj_i b1, gj_i b2, gj_r 211] σ sz) (gj_Q E (some (gj_i 0)) (gj_sJ σ 211 (vp_updL (σ.2.1 211) (Int32.toNatClampNeg 0) (Int32.toInt64 x))) (gj_A E.2.1 sz)) 0 0 (gj_A E.2.1 sz) := by
  refine gj_bodyH (y := yL_way) (lv := [(0, gj_r 0), (1, gj_i b1), (2, gj_i b2), (3, gj_r 211)]) (by decide +kernel) (Nat.le_of_ble_eq_true rfl) rfl (fun p e s m below meth cd hO ht => ?_) sz
  replace hO : gj_O E (p, e, ({ frames := 7, cells := 0, slots := 0, locals := 123 } : Room), s, m, ([gj_r 0, gj_i b1, gj_i b2, gj_r 211].map (gj_tv E.2.1)).toArray, below, meth, cd) RL cL_way 5 (some .int) 7 123 := hO
  refine gj_aload_n hO 3 dL_way_0 rfl rfl ?_
  refine gj_iconst (v := 0) hO dL_way_1 (by decide) ?_
  refine gj_aload_n hO 0 dL_way_2 rfl rfl ?_
  refine gj_iload_n hO 1 dL_way_3 rfl rfl ?_
  refine gj_iload_n hO 2 dL_way_4 rfl rfl ?_
  refine ca_X8_way hO hf wk_1004 (by decide) (by decide) (Nat.le_of_ble_eq_true rfl) dL_way_5 ?_
  refine gj_i2l hO dL_way_8 ?_
  refine gj_last hO kl_211 kd_211 (by decide) dL_way_9 ?_
  refine gj_goto (tgt := 17) hO dL_way_10 (by decide) ?_
  refine gj_iconst (v := 0) hO dL_way_17 (by decide) ?_
  exact gj_iret (X := (p, e, ({ frames := 7, cells := 0, slots := 0, locals := 123 } : Room), s, m, ([gj_r 0, gj_i b1, gj_i b2, gj_r 211].map (gj_tv E.2.1)).toArray, below, meth, cd)) hO dL_way_18
set_option maxHeartbeats 4000000 in
set_option maxRecDepth 100000 in
theorem ht_way {E : gj_E} {σ : gj_S} {b1 b2 : Int32} (hf : g_X8_way b1 b2 σ = some ()) (sz : Nat) : Met E.1 yL_way (.codeWith yL_way cL_way 5 (some .int) [(0, 10, 13, 13)] :: gj_gw) { frames := 7, cells := 1, slots := 6, locals := 123 } (gj_P E RL [gj_r 0, gj_i b1, gj_i b2, gj_r 211] σ sz) (gj_Q E (some (gj_i 1)) σ (gj_A E.2.1 sz)) 1 6 (gj_A E.2.1 sz) := by
  refine gj_bodyH (y := yL_way) (lv := [(0, gj_r 0), (1, gj_i b1), (2, gj_i b2), (3, gj_r 211)]) (by decide +kernel) (Nat.le_of_ble_eq_true rfl) rfl (fun p e s m below meth cd hO ht => ?_) sz
  replace hO : gj_O E (p, e, ({ frames := 7, cells := 1, slots := 6, locals := 123 } : Room), s, m, ([gj_r 0, gj_i b1, gj_i b2, gj_r 211].map (gj_tv E.2.1)).toArray, below, meth, cd) RL cL_way 5 (some .int) 7 123 := hO
  refine gj_aload_n hO 3 dL_way_0 rfl rfl ?_
  refine gj_iconst (v := 0) hO dL_way_1 (by decide) ?_
  refine gj_aload_n hO 0 dL_way_2 rfl rfl ?_
  refine gj_iload_n hO 1 dL_way_3 rfl rfl ?_
  refine gj_iload_n hO 2 dL_way_4 rfl rfl ?_
  obtain ⟨hx, hb, hml, hown, hts, hK, hi, hr, hlk, hfr, hlo⟩ := hO
  intro hcs H locs ls hW hS hl
  have hG : GoodIn gj_gw (wsV RL 15 RX8 yX8_way (.code yX8_way cX8_way 4 (some .int) :: gj_gw)) := gj_GI (fun w hw => by
    rcases List.mem_append.mp hw with h | h
    · simp only [List.mem_cons, List.not_mem_nil, or_false] at h
      rcases h with rfl | rfl | rfl | rfl
      · exact wk_1004
      · exact wk_252
      · exact wk_253
      · exact wk_4
    · rcases List.mem_cons.mp h with rfl | h
      · exact wk_254
      · exact h)
  have hrun := vx_runV (As := [.int b1, .int b2]) (rest := [.int 0, .ref (E.2.1 211)]) (b := E.2.1 0) (g := F0 m 5 ls [.int b2, .int b1, .ref (E.2.1 0), .int 0, .ref (E.2.1 211)]) (H := H) (locs := locs) (cells := 0) (slots := 0) (below := below) (meth := meth) (e := e) (R := ({ frames := 7, cells := 1, slots := 6, locals := 123 } : Room)) ⟨hx, hb, hml, hown, hts⟩ (t_X8_way (E := E) (σ := σ) hf H.size) (cwV 2 hts hG rfl rfl rfl (by decide +kernel) ⟨by decide, by decide⟩) ⟨gj_blind, va_recv hK hW (ci := 8) (q0 := 0) rfl (by rw [gj_at (gj_ltn hi.1 kl_0), gj_cO kd_0 (by decide)]), fun U hU hWm => ⟨rfl, by rw [hU], by rw [hU]; exact hW, va_K.moved hWm.alike hK, gj_Iany (by decide) hi.1, gj_Zcall hi.2 hS hU hWm⟩⟩ rfl rfl hl.1 rfl (lv_room (Nat.le_of_ble_eq_true rfl)) dL_way_5 ⟨by decide, by decide⟩
  intro T hT X
  rcases hrun T hT X with ⟨v, st₀, t, T', L, h0, X', hL, e1, e2, hq, stp⟩ | ⟨q, st₀, t, T', L, Ex, ce, h0, X', hL, e1, e2, hxc, hq, hv, hcl, stp⟩
  · exact hq.elim
  · obtain ⟨rfl, hW1, hF⟩ := hxc
    have hS1 : va_S (gj_A E.2.1 s.heap.size) s.heap T'.heap (locs ++ L) := ⟨Nat.le_trans hS.1 (by rw [e1, ← h0]; exact hF.1), fun z h1 h2 => by rw [e1, hF.2 z (by rw [h0]; exact Nat.lt_of_lt_of_le h1 hS.1) (fun k => h2 (gj_F hS z k)), h0]; exact hS.2.1 z h1 h2, fun z hz => by
      rcases List.mem_append.mp hz with h | h
      · exact hS.2.2 z h
      · exact gj_F hS _ (hL z h)⟩
    have kk : W p E.1 e ({ frames := 7, cells := 1, slots := 6, locals := 123 } : Room) s m ([gj_r 0, gj_i b1, gj_i b2, gj_r 211].map (gj_tv E.2.1)).toArray below meth cd T'.heap (locs ++ L) 1 6 (MQ below (gj_Q E (some (gj_i 1)) σ (gj_A E.2.1 s.heap.size)) ([gj_r 0, gj_i b1, gj_i b2, gj_r 211].map (gj_tv E.2.1)).toArray s 1 6 (gj_A E.2.1 s.heap.size)) (F0 m 13 ls [.ref q]) := by
      refine lv_astore (lv' := _) hx hb dL_way_13 hl (by decide) rfl (fun ls2 hl2 => ?_)
      refine lv_iconst (v := 1) hx hb dL_way_15 (by decide) ?_
      exact W.iret (v := 1) hx hb hr (fun t2 ht2 hw2 => ⟨⟨rfl, by rw [ht2, e1]; exact hW1⟩, hS1.F ht2⟩) hS1.2.2 dL_way_16
    obtain ⟨t2, a1, b1'⟩ := vx_catch (name := "java/util/NoSuchElementException") (rest := [.int 0, .ref (E.2.1 211)]) (pc := 5) (ls := ls) hown [] ⟨0, 10, 13, 13⟩ [] ht (fun z hz => by cases hz) (by decide) (by decide) (hts _ wx_cl) (va_Nw.use rfl (hi.2.2.2.2.2.2.2.2 _ wx_cast)) (by rw [e1]; exact hq) hv hcl kk T' rfl X'
    exact ⟨t2, stp.trans a1, b1'⟩
def g_X8_log (b1 : Int32) (b2 : Int32) (σ : gj_S) : Option Unit := (if b1 < 0 then some () else ((f_X1_countLogged 17 σ).bind fun x1 => (if b1 < x1 then (if b2 < 0 then some () else (if b2 < (5 : Int32) then ((f_X1_readLog 17 b1 b2 σ).bind fun x2 => none) else some ())) else some ())))
set_option maxHeartbeats 4000000 in
set_option maxRecDepth 100000 in
theorem t_X8_log {E : gj_E} {σ : gj_S} {b1 b2 : Int32} (hf : g_X8_log b1 b2 σ = some ()) : gj_T E yX8_log cX8_log 3 (some .int) 6 100 [gj_r 0, gj_i b1, gj_i b2] σ := by
  refine gj_bodyT (lv := [(0, gj_r 0), (1, gj_i b1), (2, gj_i b2)]) (by decide +kernel) (Nat.le_of_ble_eq_true rfl) rfl (fun X hO hT => ?_)
  replace hO : gj_O E X RX8 cX8_log 3 (some .int) 6 100 := hO
  unfold g_X8_log at hf
  refine gj_iload_n hO 1 dX8_log_0 rfl rfl ?_
  refine gj_if_lt (tgt := 18) hO dX8_log_1 (by decide) (fun h => ?_) (fun h => ?_)
  · replace hf := gj_t h hf
    exact gj_throw (tx := "no such pivot") hO hT (List.mem_of_getElem? (i := 11) rfl) (by decide) (by decide) (Nat.le_of_ble_eq_true rfl) dX8_log_18 dX8_log_21 dX8_log_22 dX8_log_24 dX8_log_27
  · replace hf := gj_f h hf
    refine gj_iload_n hO 1 dX8_log_4 rfl rfl ?_
    refine gj_aload_n hO 0 dX8_log_5 rfl rfl ?_
    refine gt_X8_4 hO wk_185 dX8_log_6 ?_
    refine gt_X7_0 hO kd_16 kl_16 wk_186 dX8_log_9 ?_
    obtain ⟨x1, hc1, hf⟩ := gj_b hf
    refine ca_X1_countLogged hO isP_17 hc1 wk_419 (by decide) (by decide) (Nat.le_of_ble_eq_true rfl) dX8_log_12 ?_
    refine gj_icmp_lt (tgt := 28) hO dX8_log_15 (by decide) (fun h => ?_) (fun h => ?_)
    · replace hf := gj_t h hf
      refine gj_iload_n hO 2 dX8_log_28 rfl rfl ?_
      refine gj_if_lt (tgt := 37) hO dX8_log_29 (by decide) (fun h => ?_) (fun h => ?_)
      · replace hf := gj_t h hf
        exact gj_throw (tx := "no such number of a pivot") hO hT (List.mem_of_getElem? (i := 12) rfl) (by decide) (by decide) (Nat.le_of_ble_eq_true rfl) dX8_log_37 dX8_log_40 dX8_log_41 dX8_log_43 dX8_log_46
      · replace hf := gj_f h hf
        refine gj_iload_n hO 2 dX8_log_32 rfl rfl ?_
        refine gj_iconst (v := 5) hO dX8_log_33 (by decide) ?_
        refine gj_icmp_lt (tgt := 47) hO dX8_log_34 (by decide) (fun h => ?_) (fun h => ?_)
        · replace hf := gj_t h hf
          refine gj_aload_n hO 0 dX8_log_47 rfl rfl ?_
          refine gt_X8_4 hO wk_185 dX8_log_48 ?_
          refine gt_X7_0 hO kd_16 kl_16 wk_186 dX8_log_51 ?_
          refine gj_iload_n hO 1 dX8_log_54 rfl rfl ?_
          refine gj_iload_n hO 2 dX8_log_55 rfl rfl ?_
          obtain ⟨x2, hc2, hf⟩ := gj_b hf
          refine ca_X1_readLog hO isP_17 hc2 wk_420 (by decide) (by decide) (Nat.le_of_ble_eq_true rfl) dX8_log_56 ?_
          cases hf
        · replace hf := gj_f h hf
          exact gj_throw (tx := "no such number of a pivot") hO hT (List.mem_of_getElem? (i := 12) rfl) (by decide) (by decide) (Nat.le_of_ble_eq_true rfl) dX8_log_37 dX8_log_40 dX8_log_41 dX8_log_43 dX8_log_46
    · replace hf := gj_f h hf
      exact gj_throw (tx := "no such pivot") hO hT (List.mem_of_getElem? (i := 11) rfl) (by decide) (by decide) (Nat.le_of_ble_eq_true rfl) dX8_log_18 dX8_log_21 dX8_log_22 dX8_log_24 dX8_log_27
set_option maxHeartbeats 4000000 in
set_option maxRecDepth 100000 in
theorem hn_log {E : gj_E} {σ : gj_S} {b1 b2 x : Int32} (hf : f_X8_log b1 b2 σ = some x) (sz : Nat) : Met E.1 yL_log (.codeWith yL_log cL_log 5 (some .int) [(0, 10, 13, 13)] :: gj_gw) { frames := 7, cells := 0, slots := 0, locals := 122 } (gj_P E RL [gj_r 0, gj_i b1, gj_i b2, gj_r 211] σ sz) (gj_Q E (some (gj_i 0)) (gj_sJ σ 211 (vp_updL (σ.2.1 211) (Int32.toNatClampNeg 0) (Int32.toInt64 x))) (gj_A E.2.1 sz)) 0 0 (gj_A E.2.1 sz) := by
  refine gj_bodyH (y := yL_log) (lv := [(0, gj_r 0), (1, gj_i b1), (2, gj_i b2), (3, gj_r 211)]) (by decide +kernel) (Nat.le_of_ble_eq_true rfl) rfl (fun p e s m below meth cd hO ht => ?_) sz
  replace hO : gj_O E (p, e, ({ frames := 7, cells := 0, slots := 0, locals := 122 } : Room), s, m, ([gj_r 0, gj_i b1, gj_i b2, gj_r 211].map (gj_tv E.2.1)).toArray, below, meth, cd) RL cL_log 5 (some .int) 7 122 := hO
  refine gj_aload_n hO 3 dL_log_0 rfl rfl ?_
  refine gj_iconst (v := 0) hO dL_log_1 (by decide) ?_
  refine gj_aload_n hO 0 dL_log_2 rfl rfl ?_
  refine gj_iload_n hO 1 dL_log_3 rfl rfl ?_
  refine gj_iload_n hO 2 dL_log_4 rfl rfl ?_
  refine ca_X8_log hO hf wk_1005 (by decide) (by decide) (Nat.le_of_ble_eq_true rfl) dL_log_5 ?_
  refine gj_i2l hO dL_log_8 ?_
  refine gj_last hO kl_211 kd_211 (by decide) dL_log_9 ?_
  refine gj_goto (tgt := 17) hO dL_log_10 (by decide) ?_
  refine gj_iconst (v := 0) hO dL_log_17 (by decide) ?_
  exact gj_iret (X := (p, e, ({ frames := 7, cells := 0, slots := 0, locals := 122 } : Room), s, m, ([gj_r 0, gj_i b1, gj_i b2, gj_r 211].map (gj_tv E.2.1)).toArray, below, meth, cd)) hO dL_log_18
set_option maxHeartbeats 4000000 in
set_option maxRecDepth 100000 in
theorem ht_log {E : gj_E} {σ : gj_S} {b1 b2 : Int32} (hf : g_X8_log b1 b2 σ = some ()) (sz : Nat) : Met E.1 yL_log (.codeWith yL_log cL_log 5 (some .int) [(0, 10, 13, 13)] :: gj_gw) { frames := 7, cells := 1, slots := 6, locals := 122 } (gj_P E RL [gj_r 0, gj_i b1, gj_i b2, gj_r 211] σ sz) (gj_Q E (some (gj_i 1)) σ (gj_A E.2.1 sz)) 1 6 (gj_A E.2.1 sz) := by
  refine gj_bodyH (y := yL_log) (lv := [(0, gj_r 0), (1, gj_i b1), (2, gj_i b2), (3, gj_r 211)]) (by decide +kernel) (Nat.le_of_ble_eq_true rfl) rfl (fun p e s m below meth cd hO ht => ?_) sz
  replace hO : gj_O E (p, e, ({ frames := 7, cells := 1, slots := 6, locals := 122 } : Room), s, m, ([gj_r 0, gj_i b1, gj_i b2, gj_r 211].map (gj_tv E.2.1)).toArray, below, meth, cd) RL cL_log 5 (some .int) 7 122 := hO
  refine gj_aload_n hO 3 dL_log_0 rfl rfl ?_
  refine gj_iconst (v := 0) hO dL_log_1 (by decide) ?_
  refine gj_aload_n hO 0 dL_log_2 rfl rfl ?_
  refine gj_iload_n hO 1 dL_log_3 rfl rfl ?_
  refine gj_iload_n hO 2 dL_log_4 rfl rfl ?_
  obtain ⟨hx, hb, hml, hown, hts, hK, hi, hr, hlk, hfr, hlo⟩ := hO
  intro hcs H locs ls hW hS hl
  have hG : GoodIn gj_gw (wsV RL 18 RX8 yX8_log (.code yX8_log cX8_log 3 (some .int) :: gj_gw)) := gj_GI (fun w hw => by
    rcases List.mem_append.mp hw with h | h
    · simp only [List.mem_cons, List.not_mem_nil, or_false] at h
      rcases h with rfl | rfl | rfl | rfl
      · exact wk_1005
      · exact wk_421
      · exact wk_422
      · exact wk_4
    · rcases List.mem_cons.mp h with rfl | h
      · exact wk_423
      · exact h)
  have hrun := vx_runV (As := [.int b1, .int b2]) (rest := [.int 0, .ref (E.2.1 211)]) (b := E.2.1 0) (g := F0 m 5 ls [.int b2, .int b1, .ref (E.2.1 0), .int 0, .ref (E.2.1 211)]) (H := H) (locs := locs) (cells := 0) (slots := 0) (below := below) (meth := meth) (e := e) (R := ({ frames := 7, cells := 1, slots := 6, locals := 122 } : Room)) ⟨hx, hb, hml, hown, hts⟩ (t_X8_log (E := E) (σ := σ) hf H.size) (cwV 2 hts hG rfl rfl rfl (by decide +kernel) ⟨by decide, by decide⟩) ⟨gj_blind, va_recv hK hW (ci := 8) (q0 := 0) rfl (by rw [gj_at (gj_ltn hi.1 kl_0), gj_cO kd_0 (by decide)]), fun U hU hWm => ⟨rfl, by rw [hU], by rw [hU]; exact hW, va_K.moved hWm.alike hK, gj_Iany (by decide) hi.1, gj_Zcall hi.2 hS hU hWm⟩⟩ rfl rfl hl.1 rfl (lv_room (Nat.le_of_ble_eq_true rfl)) dL_log_5 ⟨by decide, by decide⟩
  intro T hT X
  rcases hrun T hT X with ⟨v, st₀, t, T', L, h0, X', hL, e1, e2, hq, stp⟩ | ⟨q, st₀, t, T', L, Ex, ce, h0, X', hL, e1, e2, hxc, hq, hv, hcl, stp⟩
  · exact hq.elim
  · obtain ⟨rfl, hW1, hF⟩ := hxc
    have hS1 : va_S (gj_A E.2.1 s.heap.size) s.heap T'.heap (locs ++ L) := ⟨Nat.le_trans hS.1 (by rw [e1, ← h0]; exact hF.1), fun z h1 h2 => by rw [e1, hF.2 z (by rw [h0]; exact Nat.lt_of_lt_of_le h1 hS.1) (fun k => h2 (gj_F hS z k)), h0]; exact hS.2.1 z h1 h2, fun z hz => by
      rcases List.mem_append.mp hz with h | h
      · exact hS.2.2 z h
      · exact gj_F hS _ (hL z h)⟩
    have kk : W p E.1 e ({ frames := 7, cells := 1, slots := 6, locals := 122 } : Room) s m ([gj_r 0, gj_i b1, gj_i b2, gj_r 211].map (gj_tv E.2.1)).toArray below meth cd T'.heap (locs ++ L) 1 6 (MQ below (gj_Q E (some (gj_i 1)) σ (gj_A E.2.1 s.heap.size)) ([gj_r 0, gj_i b1, gj_i b2, gj_r 211].map (gj_tv E.2.1)).toArray s 1 6 (gj_A E.2.1 s.heap.size)) (F0 m 13 ls [.ref q]) := by
      refine lv_astore (lv' := _) hx hb dL_log_13 hl (by decide) rfl (fun ls2 hl2 => ?_)
      refine lv_iconst (v := 1) hx hb dL_log_15 (by decide) ?_
      exact W.iret (v := 1) hx hb hr (fun t2 ht2 hw2 => ⟨⟨rfl, by rw [ht2, e1]; exact hW1⟩, hS1.F ht2⟩) hS1.2.2 dL_log_16
    obtain ⟨t2, a1, b1'⟩ := vx_catch (name := "java/util/NoSuchElementException") (rest := [.int 0, .ref (E.2.1 211)]) (pc := 5) (ls := ls) hown [] ⟨0, 10, 13, 13⟩ [] ht (fun z hz => by cases hz) (by decide) (by decide) (hts _ wx_cl) (va_Nw.use rfl (hi.2.2.2.2.2.2.2.2 _ wx_cast)) (by rw [e1]; exact hq) hv hcl kk T' rfl X'
    exact ⟨t2, stp.trans a1, b1'⟩
