/-! ===== a throw by a class whose <init>(String) calls its superclass by another constant than 7 (no stack traces). The road is that of the library's ctorThrowS; its chain is chainSX (JvmDerived/Shelf42/F29a) ===== -/
section ZNS
variable {p : Program} {l : Launch} {e : Env} {R : Room} {s : State} {m₀ : MethodId} {args : Array Value} {below : List Frame} {meth : Method} {c : Code} {V : State} {locs : List Loc} {cells slots : Nat}
set_option maxHeartbeats 1000000 in
theorem zctorX (X : Stand p l e R s m₀ args below meth c V locs cells slots) (hexec : p.tables.exec = Jvm.exec) (htr : e.platform.stackTraces = false) {own cls : String} {names : List String} {ic ix : Nat} {rx : ByteArray}
    (x0 : decode rx 0 = .ok (.aload_n 0, 1)) (x1 : decode rx 1 = .ok (.aload_n 1, 1)) (x2 : decode rx 2 = .ok (.invokespecial ix, 3)) (x5 : decode rx 5 = .ok (.return_, 1))
    (hown : s.vm.findClass own = some m₀.cls) (hcls : Bundle.fit cls = true) (hnames : ∀ n ∈ names, Bundle.fit n = true) (h : ∀ a ∈ Bundle.ownAtomsX own ic cls ix rx names, a.before args s = true)
    (hlocs : ∀ x ∈ locs, ∀ cell, s.heap[x.base]? = some cell → cell.vm.isStatics = false)
    {a : Addr} {cX : ClassId} {kX : Class} (hfX : s.vm.findClass cls = some cX) (hkX : s.vm.classes[cX]? = some kX) (hcell : V.heap[a]? = some (freshCell cX kX)) (hnew : s.heap.size ≤ a) {msg : Value} (hmsg : msg.isRef = true)
    {g : JFrame} (hg : g.method = m₀) (hsize : g.locals.size = c.maxLocals) (hlocked : g.locked = none) (hentered : g.entered = []) {rest : List Value} (hstack : g.stack = msg :: .ref a :: .ref a :: rest)
    (d6 : decode c.code g.pc = .ok (.invokespecial ic, 3)) (d9 : decode c.code (g.pc + 3) = .ok (.athrow, 1)) (hout : ∀ x ∈ c.exceptionTable.toList, covers x (g.pc + 3) = false)
    (hRf : names.length + 3 < R.frames) (hRl : 2 * g.monitorRoom + ((Value.ref a :: rest).map fun v => v.category).sum + (13 * (names.length + 1) + 42) ≤ R.locals) (hlocks : meth.locks = false) :
    ∃ U : State, Steps p.tables e below (V.setTop g) U ∧ U.status = .running ∧ Ended U below (.threw a) ∧ s.WarmedH U.vm ∧ s.sameButNew ({ U with vm := s.vm } : State) locs cells slots ∧ ∃ ce, U.heap[a]? = some ce ∧ s.vm.findClass cls = some ce.cls ∧ ce.vm = .none := by
  have hplat := X.admits.platform
  have hpl : e.platform.magicAccessors = ({} : Platform).magicAccessors := by rw [hplat]
  have at_ : ∀ x, x ∈ Bundle.ownAtomsX own ic cls ix rx names → x.holds args s none s [] = true := fun x hx => h x hx
  obtain ⟨T, Z0, L, -, Y⟩ := ThrowableC.of_atoms (args := args) (by rw [hplat]) (by rw [hplat]) hpl (fun x hx => h x (by simp [Bundle.ownAtomsX, hx]))
  obtain ⟨Z, M, LZ, LM, hnZ⟩ := Init0T.ofS_atoms (args := args) hpl L Y (fun x hx => h x (by simp [Bundle.ownAtomsX, hx]))
  obtain ⟨P1, Ps, hlen, L1, hL, hP1m, hlink1, hlink⟩ := Bundle.chainSX (args := args) hpl hnZ x0 x1 x2 x5 names cls hcls hnames (fun x hx => h x (by simp [Bundle.ownAtomsX, hx]))
  have hf1 : s.vm.findClass cls = some P1.m.cls := findClass_of_methodNamed hP1m
  cases Option.some.inj (hfX.symm.trans hf1)
  obtain ⟨c1, kY, hc1, hk, hord, -, -, hn6⟩ := Cond.instantiable_spec (at_ (.instantiable cls 6) (by simp [Bundle.ownAtomsX]))
  cases Option.some.inj (hc1.symm.trans hf1)
  cases Option.some.inj (hkX.symm.trans hk)
  have hs0 : selectMethod e.platform s.vm P1.m.cls T.fill0 = .method T.fill0 := by
    obtain ⟨c2, r2, m2, q1, q2, q3, q4, -⟩ := Cond.selects_spec (at_ (.selects cls Bundle.tFill0 Bundle.tFill0) (by simp [Bundle.ownAtomsX]))
    cases Option.some.inj (q1.symm.trans hf1)
    cases Option.some.inj (q2.symm.trans (State.methodFound?_of_named Y.fill0 (by decide)))
    cases Option.some.inj (q3.symm.trans Y.fill0)
    rw [Launch.admits_selectMethod X.admits]; exact q4
  have hs1 : selectMethod e.platform s.vm P1.m.cls T.fill = .method T.fill := by
    obtain ⟨c2, r2, m2, q1, q2, q3, q4, -⟩ := Cond.selects_spec (at_ (.selects cls Bundle.tFill Bundle.tFill) (by simp [Bundle.ownAtomsX]))
    cases Option.some.inj (q1.symm.trans hf1)
    cases Option.some.inj (q2.symm.trans (State.methodFound?_of_named Y.fill (by decide)))
    cases Option.some.inj (q3.symm.trans Y.fill)
    rw [Launch.admits_selectMethod X.admits]; exact q4
  obtain ⟨S0, hS0, hiss⟩ := Y.statics
  obtain ⟨u0, hu0⟩ := Cond.staticRefV Y.unassigned L.unassignedStatic L.statics hS0 hiss (at_ (.isRef (.static Bundle.tN "UNASSIGNED_STACK" Bundle.steD)) (by simp [Bundle.ownAtomsX]))
  obtain ⟨sen, hsen⟩ := Cond.staticRefV Y.sentinel L.sentinelStatic L.statics hS0 hiss (at_ (.isRef (.static Bundle.tN "SUPPRESSED_SENTINEL" Bundle.listD)) (by simp [Bundle.ownAtomsX]))
  obtain ⟨ci, i1, fB, k1, g1, a1, sB, -, nB, tB, ffB⟩ := Cond.ownField (t := .object "java/lang/Object") Y.found L.cls (by decide +kernel) (at_ (.fieldLink Bundle.tN 198 Bundle.tN "backtrace" "Ljava/lang/Object;") (by simp [Bundle.ownAtomsX])) (at_ (.lays Bundle.tN Bundle.tN "backtrace" "Ljava/lang/Object;") (by simp [Bundle.ownAtomsX])) e.platform hpl
  obtain ⟨S1, hS1', heS, -, hkeep⟩ := X.same.2.2.2.2.2 T.aS S0 hS0
  have hS1 : V.heap[T.aS]? = some S1 := hS1'
  have hno : ∀ i, (⟨T.aS, i⟩ : Loc) ∉ locs := fun i hm => by
    have := hlocs _ hm S0 hS0
    rw [hiss] at this; cases this
  have hunk : S1.vm ≠ .unknown := by
    rw [heS]; intro hu
    rw [show S0.vm = .unknown from hu] at hiss
    cases hiss
  have hne : T.aS ≠ a := Nat.ne_of_lt (Nat.lt_of_lt_of_le (Array.getElem?_eq_some_iff.mp hS0).1 hnew)
  obtain ⟨iM, ffM⟩ := Y.msg
  obtain ⟨tyC, dC, hdC, hnC⟩ := Cond.laysAt hf1 hk Y.cause (at_ (.lays cls Bundle.tN "cause" "Ljava/lang/Throwable;") (by simp [Bundle.ownAtomsX]))
  obtain ⟨tyS, dS, hdS, hnS⟩ := Cond.laysAt hf1 hk Y.stack (at_ (.lays cls Bundle.tN "stackTrace" Bundle.steD) (by simp [Bundle.ownAtomsX]))
  obtain ⟨tyP, dP, hdP, hnP⟩ := Cond.laysAt hf1 hk Y.supp (at_ (.lays cls Bundle.tN "suppressedExceptions" Bundle.listD) (by simp [Bundle.ownAtomsX]))
  obtain ⟨tyM, dM, hdM, hnM⟩ := Cond.laysAt hf1 hk ffM (at_ (.lays cls Bundle.tN "detailMessage" "Ljava/lang/String;") (by simp [Bundle.ownAtomsX]))
  obtain ⟨tyB, dB, hdB, hnB⟩ := Cond.laysAt hf1 hk ffB (at_ (.lays cls Bundle.tN "backtrace" "Ljava/lang/Object;") (by simp [Bundle.ownAtomsX]))
  have bC := Cond.laysApart hdB hdC hnB hnC (by rw [nB, Y.causeName]; decide)
  have bS := Cond.laysApart hdB hdS hnB hnS (by rw [nB, Y.stackName]; decide)
  have bP := Cond.laysApart hdB hdP hnB hnP (by rw [nB, Y.suppName]; decide)
  have hskip : SkipFacts T e.platform s (fun u => u) u0 ((preparedCellV T.toThrowableT (freshCell P1.m.cls kX) a u0 sen).withEntry V.cur) :=
    ⟨{ ci198 := ci, i198 := i1, fBack := fB }, ⟨k1, g1, a1, sB⟩, by
      have := fresh_default (c := P1.m.cls) tyB
      rw [tB] at this
      simpa [preparedCellV, Cell.setSlot, Cell.withEntry, Array.getElem?_setIfInBounds, bC, bS, bP, bC.symm, bS.symm, bP.symm, defaultValue] using this, fun _ _ => rfl⟩
  obtain ⟨tm, methC, cdC, kC, vm₁, hnC2, -, -, -, -, -, -, -, hW₁, st1⟩ := Steps.initColdS (tb := p.tables) (e := e) (below := below) (s := s) (U := V) X.here hexec X.warmed hpl hown (t := Bundle.initS cls) rfl rfl (Bundle.fit_spec hcls).2
    (at_ (.methodLink own ic (Bundle.initS cls)) (by simp [Bundle.ownAtomsX])) (h (.instanceMethod (Bundle.initS cls)) (by cases names <;> simp [Bundle.ownAtomsX, Bundle.chainSAtomsX, Bundle.passSAtoms])) (bytes := rx) (maxL := 2) (h (.code (Bundle.initS cls) rx 2 none) (by cases names <;> simp [Bundle.ownAtomsX, Bundle.chainSAtomsX, Bundle.passSAtoms]))
    (f := g) hg (a := a) (msg := msg) (rest := .ref a :: rest) hstack d6
  cases Option.some.inj (hnC2.symm.trans hP1m)
  have X₁ := X.noted hW₁
  obtain ⟨vm₂, X₂, st2⟩ := X₁.ctorMessageOffV hexec (g := { g with stack := .ref a :: rest }) hg hsize T L Z LZ M LM (P1 :: Ps)
    (fun P hP => by rcases List.mem_cons.mp hP with rfl | hP; exact L1; exact hL P hP) ⟨hlink1, hlink⟩ (u0 := u0) (sen := sen) (self := a) hmsg (cell := freshCell P1.m.cls kX) (cellS := S1)
    hcell (fun _ => by simp) (by simp) rfl rfl hs0 hs1 hS1 hne hunk (by rw [hkeep _ (hno _)]; exact hu0) (by rw [hkeep _ (hno _)]; exact hsen)
    (Takes.of_laid hk hord tyC (by rw [Y.causeType]; rfl)) (Takes.of_laid hk hord tyS (by rw [Y.stackType]; exact fits_refV_array _ u0)) (Takes.of_laid hk hord tyP (by rw [Y.suppType]; exact fits_refV_object _ sen))
    (Takes.of_laid hk hord tyM (by rw [Y.msgType]; exact fits_refV_object _ ⟨msg, hmsg⟩)) Y.objLocals hskip htr [] d6
    (by simp only [List.length_cons, hlen]; omega) (by simp only [List.length_cons, hlen]; exact hRl)
  obtain ⟨hwalk, hrun, hended, hWU, hsame⟩ := X₂.athrowLeaves hexec (g := { g with stack := .ref a :: rest, pc := g.pc + 3 }) hg hlocked hentered hout (a := a) (rest := rest) rfl d9
  have hlt : a < ((V.setVm vm₁).setVm vm₂).heap.size := (Array.getElem?_eq_some_iff.mp hcell).1
  have hU := heapAt_setCell_self (s := (V.setVm vm₁).setVm vm₂) (plainBareV T.toThrowableT (freshCell P1.m.cls kX) a u0 sen msg) hlt
  refine ⟨_, st1 _ (fun acts => ?_), hrun, hended, hWU, hsame.weaken (fun y hy hlt' => ?_) (Nat.le_refl _) (Nat.le_refl _), _, hU, hf1, rfl⟩
  · rw [doInvoke_state]
    exact st2 _ hwalk
  · rcases List.mem_append.mp hy with h1 | h1
    · exact h1
    · exfalso
      have hb : y.base = a := by
        simp only [List.mem_cons, List.not_mem_nil, or_false] at h1
        rcases h1 with rfl | rfl | rfl | rfl | rfl <;> rfl
      rw [hb] at hlt'
      exact Nat.not_lt.mpr hnew hlt'
end ZNS
def zatX (own : String) (ic : Nat) (X : String) (ix : Nat) (rx : ByteArray) (names : List String) : List Cond := (Bundle.ownAtomsX own ic X ix rx names).filter vx_no
section ZNT
variable {p : Program} {l : Launch} {e : Env} {R : Room} {s : State} {m : MethodId} {args : Array Value} {below : List Frame} {meth : Method} {c : Code} {H : Heap} {locs : List Loc} {cells slots : Nat} {Q : State → Prop}
variable {mc ms : Nat} {free : Addr → Prop} {A0 A1 : Nat → Prop} {H0 : Heap} {a : Array Value} {ls : Array Slot} {st0 rest : List Value}
variable {Qc : Array Value → State → Outcome → State → Prop} {XC : String → State → State → Prop}
/-- vx_throwSW for such a class -/
theorem zthrowX {cc : ByteArray} {pc : Nat} (hexec : p.tables.exec = Jvm.exec) (hb : c.code = cc) (hl : l.stackTraces = false) {own cls text : String} {names : List String} {ik is ic ix mc ms sa : Nat} {rx : ByteArray} {A : Nat → Prop} (x0 : decode rx 0 = .ok (.aload_n 0, 1)) (x1 : decode rx 1 = .ok (.aload_n 1, 1)) (x2 : decode rx 2 = .ok (.invokespecial ix, 3)) (x5 : decode rx 5 = .ok (.return_, 1))
    (hown : s.vm.findClass own = some m.cls) (hcls : Bundle.fit cls = true) (hnames : ∀ n ∈ names, Bundle.fit n = true)
    (hk : (Cond.classLink own ik cls).before args s = true) (hini : (Cond.initialized cls).before args s = true) (hstr : vk_R own is text sa s) (hat : ∀ w ∈ zatX own ic cls ix rx names, w.before args s = true)
    (hgood : ∀ w ∈ Cond.classLink own ik cls :: Cond.initialized cls :: zatX own ic cls ix rx names, vx_ot w = true)
    (hU : vx_Zq Bundle.tN "UNASSIGNED_STACK" Bundle.steD A s s.heap) (hN : vx_Zq Bundle.tN "SUPPRESSED_SENTINEL" Bundle.listD A s s.heap) (hS : va_S A s.heap H locs) (hsize : ls.size = c.maxLocals)
    (d0 : decode cc pc = .ok (.new ik, 3)) (d3 : decode cc (pc + 3) = .ok (.dup, 1)) (d4 : decode cc (pc + 4) = .ok (.ldc_w is, 3)) (d7 : decode cc (pc + 7) = .ok (.invokespecial ic, 3)) (d10 : decode cc (pc + 10) = .ok (.athrow, 1))
    (hout : ∀ x ∈ c.exceptionTable.toList, covers x (pc + 10) = false)
    (hRframes : names.length + 3 < R.frames) (hRlocals : (rest.map fun v => v.category).sum + (13 * (names.length + 1) + 43) ≤ R.locals) (hRcells : cells + 1 ≤ R.cells) (hRslots : slots + 6 ≤ R.slots) (hlocks : meth.locks = false)
    (hx : ∀ t : State, s.vm.Alike t.vm → H.size ≤ t.heap.size → (∀ q : Nat, q < H.size → t.heap[q]? = H[q]?) → XC cls s t)
    (hf : ∀ z ∈ locs, free z.base) (hc : cells + 1 ≤ mc) (hs : slots + 6 ≤ ms) :
    W p l e R s m args below meth c H locs cells slots (vx_MQ below Qc XC args s mc ms free) (F0 m pc ls rest) := by
  intro T hT X
  have htr : e.platform.stackTraces = false := (show e.platform.stackTraces = l.stackTraces by rw [X.admits.platform]).trans hl
  have Y := vx_rebase X (R' := { frames := R.frames, locals := R.locals, cells := 1, slots := 6 }) (Nat.le_refl _) (Nat.le_refl _) hRcells hRslots
  obtain ⟨s', hA⟩ : ∃ z, z = (T.setVm s.vm).setFrames (.invoking m args :: below) := ⟨_, rfl⟩
  rw [← hA] at Y
  have hvm : s'.vm = s.vm := by rw [hA]; rfl
  have hhp : s'.heap = H := by rw [hA]; exact hT
  have hW0 : s.WarmedH s'.vm := by rw [hvm]; exact State.WarmedH.refl s
  have hat' : ∀ w ∈ zatX own ic cls ix rx names, w.before args s' = true := fun w hw => vx_ot_at hW0 hvm.symm (hgood w (List.mem_cons_of_mem _ (List.mem_cons_of_mem _ hw))) (hat w hw)
  have hk' : (Cond.classLink own ik cls).before args s' = true := vx_ot_at hW0 hvm.symm (hgood _ List.mem_cons_self) hk
  have hini' : (Cond.initialized cls).before args s' = true := vx_ot_at hW0 hvm.symm (hgood _ (List.mem_cons_of_mem _ List.mem_cons_self)) hini
  have hU' : vx_Zq Bundle.tN "UNASSIGNED_STACK" Bundle.steD A s' s'.heap := by rw [hhp]; exact vx_Zq.moved hW0.alike (hU.kept hS.2.1)
  have hN' : vx_Zq Bundle.tN "SUPPRESSED_SENTINEL" Bundle.listD A s' s'.heap := by rw [hhp]; exact vx_Zq.moved hW0.alike (hN.kept hS.2.1)
  have h : ∀ w ∈ Bundle.ownAtomsX own ic cls ix rx names, w.before args s' = true := vx_own hat' (vx_isRefq hU'.1) (vx_isRefq hN'.1) hU'.2.word hN'.2.word
  have hown' : s'.vm.findClass own = some m.cls := by rw [hvm]; exact hown
  have hins : (Cond.instantiable cls 6).before args s' = true := h _ (by simp [Bundle.ownAtomsX])
  obtain ⟨vm₁, cX, kX, hfX, hkX, -, -, X₁, st1⟩ := Y.newCold hexec (own := own) (C := cls) (index := ik) (n := 6) hown' hk' hins hini'
    (g := F0 m pc ls rest) rfl (by rw [hb]; exact d0) (Nat.le_refl _) (Nat.le_refl _)
  generalize hT1 : (T.setVm vm₁).pushCell { cls := cX, slots := kX.instanceTypes.map defaultValue, vm := .none } = T1 at X₁ st1
  have hcat : (Value.ref T.heap.size).category = 1 := rfl
  have hcellA : T1.heap[T.heap.size]? = some (freshCell cX kX) := by rw [← hT1]; exact State.heap_pushCell_size _ _
  have d3' : decode c.code (pc + 3) = .ok (.dup, 1) := by rw [hb]; exact d3
  have d4' : decode c.code (pc + 4) = .ok (.ldc_w is, 3) := by rw [hb]; exact d4
  have hstr' : vk_R own is text sa s' := vk_R.warm hW0 hstr
  obtain ⟨U, hsteps, hrun, hend, hW, hsame, ce, hce, hOc, hOv⟩ := zctorX X₁ hexec htr (own := own) (cls := cls) (names := names) (ic := ic) x0 x1 x2 x5 hown' hcls hnames h (fun x hx => nomatch hx) hfX hkX hcellA (by rw [hhp, hT]; exact Nat.le_refl _) (msg := .ref sa) rfl
    (g := { method := m, pc := pc + 7, locals := ls, stack := .ref sa :: .ref T.heap.size :: .ref T.heap.size :: rest, locked := none }) rfl hsize rfl rfl (rest := rest) rfl
    (by rw [hb]; exact d7) (by rw [hb]; exact d10) hout hRframes (by simp only [List.map_cons, List.sum_cons, hcat]; omega) hlocks
  obtain ⟨f1, f2⟩ := vx_frame hsame
  rw [hhp] at f1 f2
  have hWs : s.WarmedH U.vm := State.WarmedH.trans hW0 hW
  have hcl : s.vm.findClass cls = some ce.cls := by
    have h9 := hOc
    rw [hvm] at h9
    exact h9
  have hall : s.sameButNew ({ U with vm := s.vm } : State) locs mc ms := by
    subst hA
    obtain ⟨e1, e2⟩ := hsame
    rw [State.setFrames_setFrames] at e1
    have h2 : (T.setVm s.vm).sameButNew ({ U with vm := s.vm } : State) [] (0 + 1) (0 + 6) := ⟨e1, e2⟩
    have h3 := X.same.trans h2
    rw [List.append_nil] at h3
    exact h3.mono hc hs
  refine ⟨U, ?_, .threw T.heap.size, hrun, hend, Or.inr ⟨T.heap.size, rfl, cls, ce, locs, hx U hWs.alike f1 (fun q hq => f2 q hq (fun z hz => nomatch hz)), hce, hOv, hcl, hWs, hall, hf⟩⟩
  refine st1 _ ?_
  show Steps p.tables e below (T1.setTop { method := m, pc := pc + 3, locals := ls, stack := .ref T.heap.size :: rest, locked := none }) _
  jvm_step X₁.here [X₁.here.top, hexec, d3', Value.category]
  exact X₁.ldcStringW hexec (own := own) (text := text) (index := is) (a := sa) hown' hstr'.1 hstr'.2
    (g := { method := m, pc := pc + 4, locals := ls, stack := .ref T.heap.size :: .ref T.heap.size :: rest, locked := none }) rfl d4' _ hsteps
end ZNT
theorem zatX_all {own : String} {ic e ix : Nat} {rx : ByteArray} {A : Nat → Prop} {s : State} {args : Array Value} (h : (zatX own ic (zEx e) ix rx zNm).all (fun w => decide (w ∈ lw_tbl) && zatW e w) = true) (he : e < 3) (hts : ∀ w ∈ zGd, w.before args s = true) (hF : zFx A s) : ∀ w ∈ zatX own ic (zEx e) ix rx zNm, w.before args s = true := by
  intro w hw
  obtain ⟨h1, h2⟩ := Bool.and_eq_true_iff.mp (List.all_eq_true.mp h w hw)
  have h1 : w ∈ lw_tbl := of_decide_eq_true h1
  rcases zatW_cases h2 with g | ⟨y, rfl⟩ | rfl
  · exact hts w (List.mem_filter.mpr ⟨h1, g⟩)
  · exact va_Nw.use rfl (hF.2.2.2.2.2.2.2 y h1)
  · exact va_Nw.use rfl (hF.2.1 e he)
theorem zatX_ot {own : String} {ic e ix : Nat} {rx : ByteArray} (h : (zatX own ic (zEx e) ix rx zNm).all (fun w => decide (w ∈ lw_tbl) && zatW e w) = true) : ∀ w ∈ zatX own ic (zEx e) ix rx zNm, vx_ot w = true := by
  intro w hw
  obtain ⟨-, h2⟩ := Bool.and_eq_true_iff.mp (List.all_eq_true.mp h w hw)
  unfold vx_ot
  rcases zatW_cases h2 with g | ⟨y, rfl⟩ | rfl
  · rw [g, Bool.or_true]
  · rfl
  · rfl
/-- a place of such a throw -/
def zThrX (own : String) (cc : ByteArray) (pc e : Nat) : Prop := ∃ (ik is ic ix : Nat) (rx : ByteArray) (text : String), (own, is, text) ∈ zStrs ∧ Cond.classLink own ik (zEx e) ∈ zGd ∧ Cond.initialized (zEx e) ∈ zGd ∧ (zatX own ic (zEx e) ix rx zNm).all (fun w => decide (w ∈ lw_tbl) && zatW e w) = true ∧ e < 3 ∧
  (decode rx 0 = .ok (.aload_n 0, 1) ∧ decode rx 1 = .ok (.aload_n 1, 1) ∧ decode rx 2 = .ok (.invokespecial ix, 3) ∧ decode rx 5 = .ok (.return_, 1)) ∧
  decode cc pc = .ok (.new ik, 3) ∧ decode cc (pc + 3) = .ok (.dup, 1) ∧ decode cc (pc + 4) = .ok (.ldc_w is, 3) ∧ decode cc (pc + 7) = .ok (.invokespecial ic, 3) ∧ decode cc (pc + 10) = .ok (.athrow, 1)
section ZN9
variable {p : Program} {l : Launch} {e : Env} {R : Room} {s : State} {m : MethodId} {args : Array Value} {below : List Frame} {meth : Method} {c : Code} {nL : Nat} {D : va_G} {A : Nat → Prop} {b : Nat} {cc : ByteArray} {pc : Nat} {o : Nat × Nat × Nat × List Nat} {rest : List zE} {ls0 : zA} {st0 : List zV} {w : zW} {cw0 : va_W} {r : zR}
theorem zs_throwX (hx : p.tables.exec = Jvm.exec) (hb : c.code = cc) (hml : c.maxLocals = nL) (hfl : l.stackTraces = false) {own : String} (hown : s.vm.findClass own = some m.cls) (hts : ∀ w ∈ zGd, w.before args s = true) (hF : zFx A s) (hlocks : meth.locks = false) (hAe : va_A cw0 s.heap.size = A) (htb : c.exceptionTable.toList = []) {Dp a : Nat} (hRf : Dp ≤ R.frames) (hRl : 39 * Dp + 10 ≤ R.locals) (hcs : r.2.2.2.2.1 ≤ R.cells ∧ r.2.2.2.2.2 ≤ R.slots)
    (hthr : zThrX own cc pc a) (h : zoThrow st0 w Dp a = Sum.inr r) (h9 : r.1 ≠ 9) : zG p l e R s m args below meth c nL D A b (zad cw0) (vx_MQ below (zQ D b s.heap.size cw0 r) (zXC D b s.heap.size cw0 r) args s r.2.2.2.2.1 r.2.2.2.2.2 (va_A cw0 s.heap.size)) ((pc, o) :: rest, ls0, st0, w) := by
  obtain ⟨hD6, h8, rfl⟩ := zthrow_spec h h9
  intro cw tys H locs ls lv st hH hext hl hL hV
  have hH : zHR D A b s w cw tys H locs := hH
  obtain ⟨hK, hP, hDw, hS, hW⟩ := id hH
  have hV : zVR (zad cw) b st0 st := hV
  have h8' : (st.map fun v => v.category).sum ≤ 8 := by rw [zVR_cs hV]; exact h8
  obtain ⟨ik, is, ic, ix, rx, text, hst, hk, hini, hat, ha3, ⟨x0, x1, x2, x5⟩, d0, d3, d4, d7, d10⟩ := hthr
  obtain ⟨sa, hsa⟩ := hF.2.2.2.1 _ hst
  have hfit : ∀ a, a < 3 → Bundle.fit (zEx a) = true := by decide
  have hgood : ∀ w ∈ Cond.classLink own ik (zEx a) :: Cond.initialized (zEx a) :: zatX own ic (zEx a) ix rx zNm, vx_ot w = true := by
    intro w9 hw9
    rcases List.mem_cons.mp hw9 with rfl | hw9
    · unfold vx_ot; rw [zGd_good hk, Bool.or_true]
    · rcases List.mem_cons.mp hw9 with rfl | hw9
      · unfold vx_ot; rw [zGd_good hini, Bool.or_true]
      · exact zatX_ot hat w9 hw9
  have hx9 : ∀ t : State, s.vm.Alike t.vm → H.size ≤ t.heap.size → (∀ q : Nat, q < H.size → t.heap[q]? = H[q]?) → zXC D b s.heap.size cw0 (2, (a, 0, 0), (w.1, w.2.1, w.2.2.1 + 1, w.2.2.2 + 6)) (zEx a) s t := by
    intro t hvm hz hq
    refine ⟨rfl, rfl, ha3, cw, hext, hP.kept (fun k q hk => hq q.1 (hP k q hk).lt), ⟨tys, va_K.moved hvm hK, hW⟩, by rw [hAe]; exact hDw, by rw [hAe]; exact ⟨Nat.le_trans hS.1 hz, fun q h1 h2 => (hq q (Nat.lt_of_lt_of_le h1 hS.1)).trans (hS.2.1 q h1 h2)⟩⟩
  have hfree : ∀ z ∈ locs, va_A cw0 s.heap.size z.base := fun z hz => by rw [hAe]; exact hS.2.2 z hz
  have hRf2 : zNm.length + 3 < R.frames := by show 5 < R.frames; omega
  have hRl2 : (st.map fun v => v.category).sum + (13 * (zNm.length + 1) + 43) ≤ R.locals := by show (st.map fun v => v.category).sum + 82 ≤ R.locals; omega
  exact zthrowX hx hb hfl x0 x1 x2 x5 hown (hfit a ha3) (by decide) (hts _ hk) (hts _ hini) hsa (zatX_all hat ha3 hts hF) hgood hF.2.2.2.2.2.1 hF.2.2.2.2.2.2.1 hS (by rw [hml]; exact hl.1) d0 d3 d4 d7 d10 (fun x hx2 => by rw [htb] at hx2; cases hx2) hRf2 hRl2 hcs.1 hcs.2 hlocks hx9 hfree (Nat.le_refl _) (Nat.le_refl _)
end ZN9
def zP9 (own : String) (cc : ByteArray) (nL : Nat) (ini : Bool) (tb : List ExceptionTableEntry) (ret : Option FieldType) : List zE → Prop
  | [] => True
  | e :: r => ((∃ f, zchk own cc nL ini tb ret f e.1 e.2.1 e.2.2.1 e.2.2.2.1 e.2.2.2.2 (zpc r) = true) ∨ (e.2.1 = 25 ∧ zThrX own cc e.1 e.2.2.1 ∧ tb = [])) ∧ zP9 own cc nL ini tb ret r
section ZU9
variable {own : String} {cc : ByteArray} {nL : Nat} {ini : Bool} {tb : List ExceptionTableEntry} {ret : Option FieldType}
theorem zP9_find {t : Nat} : ∀ {es : List zE}, zP9 own cc nL ini tb ret es → zP9 own cc nL ini tb ret (zfindS es t)
  | [], _ => trivial
  | e :: r, h => by
    have e2 : zfindS (e :: r) t = zb (Nat.beq e.1 t) (e :: r) (zfindS r t) := rfl
    rw [e2]
    cases Nat.beq e.1 t
    · exact zP9_find h.2
    · exact h
theorem zP9_of : ∀ {es : List zE}, zP own cc nL ini tb ret es → zP9 own cc nL ini tb ret es
  | [], _ => trivial
  | e :: r, h => ⟨Or.inl (zP_cons h).1, zP9_of (zP_cons h).2⟩
theorem zP9_chunk {n : Nat} {ys : List zE} : ∀ {xs : List zE} {fs : List zF}, zchkC own cc nL ini tb ret fs xs n = true → zP9 own cc nL ini tb ret ys → zpc ys = n → zP9 own cc nL ini tb ret (xs ++ ys)
  | [], _, _, h, _ => h
  | e :: r, [], h, _, _ => Bool.noConfusion h
  | e :: r, f :: ft, h, hy, hn => by
    obtain ⟨h1, h2⟩ := zb_and (show zb (zchk own cc nL ini tb ret f e.1 e.2.1 e.2.2.1 e.2.2.2.1 e.2.2.2.2 (List.rec (motive := fun _ => Nat) n (fun h _ _ => h.1) r)) (zchkC own cc nL ini tb ret ft r n) false = true from h)
    refine ⟨Or.inl ⟨f, ?_⟩, zP9_chunk h2 hy hn⟩
    have e1 : zpc (r ++ ys) = List.rec (motive := fun _ => Nat) n (fun h _ _ => h.1) r := by
      cases r with
      | nil => exact hn
      | cons h t => rfl
    show zchk own cc nL ini tb ret f e.1 e.2.1 e.2.2.1 e.2.2.2.1 e.2.2.2.2 (zpc (r ++ ys)) = true
    rw [e1]
    exact h1
end ZU9
section ZRUN9
variable {p : Program} {l : Launch} {e : Env} {R : Room} {s : State} {m : MethodId} {args : Array Value} {below : List Frame} {meth : Method} {c : Code} {Q : State → Prop} {nL : Nat} {D : va_G} {A : Nat → Prop} {b : Nat} {ad0 : List Nat} {cc : ByteArray} {own : String} {ini : Bool} {tb : List ExceptionTableEntry} {ret : Option FieldType} {dd : Nat} {rec : Nat → List zV → zW → zR} {full : List zE} {scr : List zV} {cw0 : va_W}
theorem zstep9_1 {S S1 : zS} (X : zCx p l R s m args meth c nL A b cc own ini tb dd rec scr) (hPf : zP9 own cc nL ini tb ret full) (hP : zP9 own cc nL ini tb ret S.1) (h : zstep zobjs rec (dd + 1) full scr S = Sum.inl S1) :
    zP9 own cc nL ini tb ret S1.1 ∧ (S.2.2.2.2.2.1 ≤ S1.2.2.2.2.2.1 ∧ S.2.2.2.2.2.2 ≤ S1.2.2.2.2.2.2) ∧ ((S1.2.2.2.2.2.1 ≤ R.cells ∧ S1.2.2.2.2.2.2 ≤ R.slots) → zG p l e R s m args below meth c nL D A b ad0 Q S1 → zG p l e R s m args below meth c nL D A b ad0 Q S) := by
  obtain ⟨code, ls, st, w⟩ := S
  cases code with
  | nil => exact (zX_inl (show zX = Sum.inl S1 from h)).elim
  | cons en rest =>
    obtain ⟨pc, op, a, bb, lst⟩ := en
    have h : zdo zobjs rec (dd + 1) full scr op a bb lst rest ls st w = Sum.inl S1 := h
    have hP1 := hP.2
    have g := zdo_gd (objs := zobjs) (rec := rec) (D := dd + 1) (full := full) (scr := scr) (op := op) (a := a) (b := bb) (l := lst) (rest := rest) (ls := ls) (st := st) (w := w) (by rw [h]; trivial)
    rw [h] at g
    obtain ⟨g1, g2⟩ := g
    obtain ⟨hx, hb, hml, hown, hts, hF, hA, hRf, hRl, hsc, hnm, htb, hrec⟩ := X
    refine ⟨?_, g2, fun hcs kk => ?_⟩
    rotate_left
    · rcases hP.1 with ⟨f, hc⟩ | ⟨h25, -, -⟩
      · exact zchk_inl hx hb hml hown hts hF hA hRf hRl hsc hnm htb hrec (f := f) hc h hcs kk
      · have h25 : op = 25 := h25
        subst h25
        rw [zdo_25] at h
        exact (zthrow_inl h).elim
    rcases g1 with g1 | ⟨t, g1⟩
    · rw [g1]; exact hP1
    · rw [g1]; exact zP9_find hPf
theorem zit9A {S1 : zS} (X : zCx p l R s m args meth c nL A b cc own ini tb dd rec scr) (hPf : zP9 own cc nL ini tb ret full) : ∀ (k : Nat) {S : zS}, zP9 own cc nL ini tb ret S.1 → zit (zstep zobjs rec (dd + 1) full scr) k S = Sum.inl S1 →
    zP9 own cc nL ini tb ret S1.1 ∧ (S.2.2.2.2.2.1 ≤ S1.2.2.2.2.2.1 ∧ S.2.2.2.2.2.2 ≤ S1.2.2.2.2.2.2) ∧ ((S1.2.2.2.2.2.1 ≤ R.cells ∧ S1.2.2.2.2.2.2 ≤ R.slots) → zG p l e R s m args below meth c nL D A b ad0 Q S1 → zG p l e R s m args below meth c nL D A b ad0 Q S) := by
  intro k
  induction k generalizing S1 with
  | zero => exact fun hP h => zstep9_1 X hPf hP h
  | succ k ih =>
    intro S hP h
    have e1 : zit (zstep zobjs rec (dd + 1) full scr) (k + 1) S = Sum.rec (motive := fun _ => zO) (fun s' => zit (zstep zobjs rec (dd + 1) full scr) k s') (fun r => Sum.inr r) (zit (zstep zobjs rec (dd + 1) full scr) k S) := rfl
    rw [e1] at h
    cases q : zit (zstep zobjs rec (dd + 1) full scr) k S with
    | inr r => rw [q] at h; cases h
    | inl S2 =>
      rw [q] at h
      have h : zit (zstep zobjs rec (dd + 1) full scr) k S2 = Sum.inl S1 := h
      obtain ⟨a1, a2, a3⟩ := ih hP q
      obtain ⟨b1, b2, b3⟩ := ih a1 h
      exact ⟨b1, ⟨Nat.le_trans a2.1 b2.1, Nat.le_trans a2.2 b2.2⟩, fun hcs kk => a3 ⟨Nat.le_trans b2.1 hcs.1, Nat.le_trans b2.2 hcs.2⟩ (b3 hcs kk)⟩
theorem zstep9_2 {S : zS} {r : zR} (X : zCx p l R s m args meth c nL A b cc own ini tb dd rec scr) (hfl : l.stackTraces = false) (hlocks : meth.locks = false) (hr : meth.sig.returnType = ret) (hAe : va_A cw0 s.heap.size = A) (hP : zP9 own cc nL ini tb ret S.1) (h : zstep zobjs rec (dd + 1) full scr S = Sum.inr r) (h9 : r.1 ≠ 9) :
    (S.2.2.2.2.2.1 ≤ r.2.2.2.2.1 ∧ S.2.2.2.2.2.2 ≤ r.2.2.2.2.2) ∧ ((r.2.2.2.2.1 ≤ R.cells ∧ r.2.2.2.2.2 ≤ R.slots) → zG p l e R s m args below meth c nL D A b (zad cw0) (vx_MQ below (zQ D b s.heap.size cw0 r) (zXC D b s.heap.size cw0 r) args s r.2.2.2.2.1 r.2.2.2.2.2 (va_A cw0 s.heap.size)) S) := by
  obtain ⟨code, ls, st, w⟩ := S
  cases code with
  | nil => exact (zX_inr9 (show zX = Sum.inr r from h) h9).elim
  | cons en rest =>
    obtain ⟨pc, op, a, bb, lst⟩ := en
    have h : zdo zobjs rec (dd + 1) full scr op a bb lst rest ls st w = Sum.inr r := h
    have g := zdo_gd (objs := zobjs) (rec := rec) (D := dd + 1) (full := full) (scr := scr) (op := op) (a := a) (b := bb) (l := lst) (rest := rest) (ls := ls) (st := st) (w := w) (by rw [h]; exact h9)
    rw [h] at g
    obtain ⟨hx, hb, hml, hown, hts, hF, hA, hRf, hRl, hsc, hnm, htb, hrec⟩ := X
    refine ⟨g, fun hcs => ?_⟩
    rcases hP.1 with ⟨f, hc⟩ | ⟨h25, hthr, htb0⟩
    · exact zchk_inr hx hb hml hown hts hF hA hRf hRl htb hfl hlocks hr hAe hrec (f := f) hc h h9 hcs
    · have h25 : op = 25 := h25
      subst h25
      rw [zdo_25] at h
      exact zs_throwX hx hb hml hfl hown hts hF hlocks hAe (htb.trans htb0) hRf hRl hcs hthr h h9
theorem zit9B {r : zR} (X : zCx p l R s m args meth c nL A b cc own ini tb dd rec scr) (hfl : l.stackTraces = false) (hlocks : meth.locks = false) (hr : meth.sig.returnType = ret) (hAe : va_A cw0 s.heap.size = A) (hPf : zP9 own cc nL ini tb ret full) (h9 : r.1 ≠ 9) : ∀ (k : Nat) {S : zS}, zP9 own cc nL ini tb ret S.1 → zit (zstep zobjs rec (dd + 1) full scr) k S = Sum.inr r →
    (S.2.2.2.2.2.1 ≤ r.2.2.2.2.1 ∧ S.2.2.2.2.2.2 ≤ r.2.2.2.2.2) ∧ ((r.2.2.2.2.1 ≤ R.cells ∧ r.2.2.2.2.2 ≤ R.slots) → zG p l e R s m args below meth c nL D A b (zad cw0) (vx_MQ below (zQ D b s.heap.size cw0 r) (zXC D b s.heap.size cw0 r) args s r.2.2.2.2.1 r.2.2.2.2.2 (va_A cw0 s.heap.size)) S) := by
  intro k
  induction k with
  | zero => exact fun hP h => zstep9_2 X hfl hlocks hr hAe hP h h9
  | succ k ih =>
    intro S hP h
    have e1 : zit (zstep zobjs rec (dd + 1) full scr) (k + 1) S = Sum.rec (motive := fun _ => zO) (fun s' => zit (zstep zobjs rec (dd + 1) full scr) k s') (fun r => Sum.inr r) (zit (zstep zobjs rec (dd + 1) full scr) k S) := rfl
    rw [e1] at h
    cases q : zit (zstep zobjs rec (dd + 1) full scr) k S with
    | inr r2 =>
      rw [q] at h
      have h : (Sum.inr r2 : zO) = Sum.inr r := h
      cases h
      exact ih hP q
    | inl S2 =>
      rw [q] at h
      have h : zit (zstep zobjs rec (dd + 1) full scr) k S2 = Sum.inr r := h
      obtain ⟨b2, b3⟩ := ih (zit9A (e := e) (below := below) (Q := fun _ => True) (D := D) (ad0 := []) X hPf k hP q).1 h
      obtain ⟨a1, a2, a3⟩ := zit9A (e := e) (below := below) (D := D) (ad0 := zad cw0) (Q := vx_MQ below (zQ D b s.heap.size cw0 r) (zXC D b s.heap.size cw0 r) args s r.2.2.2.2.1 r.2.2.2.2.2 (va_A cw0 s.heap.size)) X hPf k hP q
      exact ⟨⟨Nat.le_trans a2.1 b2.1, Nat.le_trans a2.2 b2.2⟩, fun hcs => a3 ⟨Nat.le_trans b2.1 hcs.1, Nat.le_trans b2.2 hcs.2⟩ (b3 hcs)⟩
end ZRUN9
section ZM9
variable {l : Launch}
theorem zbody9 {p : Program} {e : Env} {s : State} {m : MethodId} {args : Array Value} {below : List Frame} {meth : Method} {c : Code} {s₁ : State} {y : MethodName} {word : Cond} {cc : ByteArray} {maxL d : Nat} {ret : Option FieldType} {tb : List ExceptionTableEntry} {code : List zE} {as : List zV} {w : zW} {r : zR} (hfl : l.stackTraces = false)
    (hih : ∀ (i : Nat) (as : List zV) (w : zW), (zrun zobjs zcodes d i as w).1 ≠ 9 → zMet l (zyOf (zword i)) (zword i) d as w (zrun zobjs zcodes d i as w))
    (hPf : zP9 y.cls cc maxL (decide (y.name = "<init>")) tb ret code) (hpc : zpc code = 0) (hlen : zcs as ≤ maxL) (h9 : r.1 ≠ 9) (hrun : zit (zstep zobjs (zrun zobjs zcodes d) (d + 1) code []) 16 (code, zargs 0 as, [], w) = Sum.inr r)
    {D : va_G} {b sz : Nat} {cw : va_W} {tys : List (ClassId × FieldType)} {av : List Value} (hW : zWR b tys w cw) (hV : zVR (zad cw) b as av)
    (B : BodyLoose p l y (headSpec (word :: zGd) (zRm (d + 1) r)) cc maxL ret e s m args below meth c s₁) (hml : c.maxLocals = maxL) (htb : c.exceptionTable.toList = tb) (hv : va_Pc av (zB D cw tys sz) args s) :
    W p l e (headSpec (word :: zGd) (zRm (d + 1) r)).room s m args below meth c s.heap [] 0 0 (vx_MQ below (zQ D b sz cw r) (zXC D b sz cw r) args s r.2.2.2.2.1 r.2.2.2.2.2 (va_A cw sz)) (entryFrame m args maxL) := by
  obtain ⟨rfl, hsz, hP, hK, hD0, hFx⟩ := hv
  subst hsz
  have hts := atoms_spec (ws := word :: zGd) B.pre
  have hown : s.vm.findClass y.cls = some m.cls := findClass_of_methodNamed B.named
  have hl := lv_entry av (n := maxL) (by rw [zlg_len hV]; exact hlen)
  rw [lg_entry_eq]
  generalize (lg_sl av ++ List.replicate (maxL - (lg_sl av).length) Slot.unset).toArray = ls at hl ⊢
  have X : zCx p l (zRm (d + 1) r) s m av.toArray meth c maxL (va_A cw s.heap.size) b cc y.cls (decide (y.name = "<init>")) tb d (zrun zobjs zcodes d) [] :=
    ⟨B.exec, B.bytes, hml, hown, fun w hw => hts w (List.mem_cons_of_mem _ hw), hFx, fun q hq => Or.inr hq, Nat.le_refl _, Nat.le_refl _, Or.inl rfl, fun z => (name_of_methodNamed B.named B.method).1.trans (of_decide_eq_true z), htb, hih⟩
  obtain ⟨-, hG⟩ := zit9B (e := e) (below := below) (D := D) (cw0 := cw) X hfl B.notSynchronized B.returns rfl hPf h9 16 (S := (code, zargs 0 as, [], w)) hPf hrun
  have k := hG ⟨Nat.le_refl _, Nat.le_refl _⟩ cw tys s.heap [] ls (lv_args 0 av) [] ⟨hK, hP, hD0.self, va_S.rf, hW⟩ ⟨[], (List.append_nil _).symm⟩ hl (zargs_LR hV) trivial
  have k : W p l e (zRm (d + 1) r) s m av.toArray below meth c s.heap [] w.2.2.1 w.2.2.2 (vx_MQ below (zQ D b s.heap.size cw r) (zXC D b s.heap.size cw r) av.toArray s r.2.2.2.2.1 r.2.2.2.2.2 (va_A cw s.heap.size)) (F0 m (zpc code) ls []) := k
  rw [hpc] at k
  exact W.widen (Nat.zero_le _) (Nat.zero_le _) k
def zchk9 (i : Nat) : Prop := ∃ (y : MethodName) (bytes : ByteArray) (maxL : Nat) (ret : Option FieldType) (q : Nat × List zE), zword i = Cond.code y bytes maxL ret ∧ zcodes[i]? = some q ∧ plainName y.cls = true ∧ q.1 = maxL ∧ zpc q.2 = 0 ∧ zP9 y.cls bytes maxL (decide (y.name = "<init>")) [] ret q.2
theorem zrun_ok9 (hfl : l.stackTraces = false) (hck : ∀ i, i < zcodes.length → (∃ fs, zchkM i fs = true) ∨ zchk9 i) : ∀ (d i : Nat) (as : List zV) (w : zW), (zrun zobjs zcodes d i as w).1 ≠ 9 → zMet l (zyOf (zword i)) (zword i) d as w (zrun zobjs zcodes d i as w) := by
  intro d
  induction d with
  | zero => exact fun i as w h9 => absurd rfl h9
  | succ d ih =>
    intro i as w h9
    have hi : i < zcodes.length := by
      refine Nat.lt_of_not_le fun hge => h9 ?_
      have e1 : zrun zobjs zcodes (d + 1) i as w = zselK zcodes i (fun p => zargsK as 0 (fun n ls => zb (Nat.ble n p.1) (zend (zit (zstep zobjs (zrun zobjs zcodes d) (d + 1) p.2 []) 16 (p.2, ls, [], w))) zR0)) := rfl
      rw [e1, zselK_eq, List.getElem?_eq_none hge]
      rfl
    rcases hck i hi with ⟨fs, hc⟩ | ⟨y, bytes, maxL, ret, q, hw, hq, h1, h2, h3, h4⟩
    rotate_left
    · obtain ⟨g1, g2⟩ := zrun_s hq as w h9
      rw [h2] at g1
      rw [hw]
      intro D b sz cw tys av hW hV
      refine vx_ofW (y := y) h1 rfl (fun p e s m args below meth c s₁ B hml htab hv => ?_)
      exact zbody9 (code := q.2) (as := as) (w := w) (tb := []) hfl ih h4 h3 g1 h9 g2 hW hV B hml (List.eq_nil_iff_forall_not_mem.mpr fun x hx => htab x hx) hv
    unfold zchkM at hc
    split at hc
    · rename_i y bytes maxL ret q hw hq
      obtain ⟨h1, hc⟩ := zb_and hc
      obtain ⟨h2, hc⟩ := zb_and hc
      obtain ⟨h3, h4⟩ := zb_and hc
      obtain ⟨g1, g2⟩ := zrun_s hq as w h9
      rw [zbeq h2] at g1
      rw [hw]
      intro D b sz cw tys av hW hV
      refine vx_ofW (y := y) h1 rfl (fun p e s m args below meth c s₁ B hml htab hv => ?_)
      refine zbody (code := q.2) (as := as) (w := w) (tb := []) hfl ih ⟨fs, h4⟩ (zbeq h3) g1 h9 g2 hW hV B hml (List.eq_nil_iff_forall_not_mem.mpr fun x hx => htab x hx) hv
    · rename_i y bytes maxL ret hh q hw hq
      obtain ⟨h1, hc⟩ := zb_and hc
      obtain ⟨h2, hc⟩ := zb_and hc
      obtain ⟨h3, h4⟩ := zb_and hc
      obtain ⟨g1, g2⟩ := zrun_s hq as w h9
      rw [zbeq h2] at g1
      rw [hw]
      intro D b sz cw tys av hW hV
      refine vx_ofWH (y := y) h1 rfl (fun p e s m args below meth c s₁ B hml hv => ?_)
      have hts := atoms_spec (ws := Cond.codeWith y bytes maxL ret hh :: zGd) B.pre
      exact zbody (code := q.2) (as := as) (w := w) (tb := tableOf hh) hfl ih ⟨fs, h4⟩ (zbeq h3) g1 h9 g2 hW hV B hml (vx_table (x := y) B (hts _ List.mem_cons_self)) hv
    · cases hc
end ZM9
