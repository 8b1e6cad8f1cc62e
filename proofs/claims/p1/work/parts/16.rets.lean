/-! ===== a method's ends ===== -/
def zNm : List String := ["java/lang/RuntimeException", "java/lang/Exception"]
def zatW (e : Nat) (w : Cond) : Bool := goodWord w || (match w with
  | .declares _ => true
  | .castable a b => decide (a = zEx e) && decide (b = zEx e)
  | _ => false)
def zatOk (own : String) (ic e : Nat) : Bool := (vx_atS own ic (zEx e) zNm).all (fun w => decide (w ∈ lw_tbl) && zatW e w)
theorem zatW_cases {e : Nat} {w : Cond} (h : zatW e w = true) : goodWord w = true ∨ (∃ y, w = .declares y) ∨ w = .castable (zEx e) (zEx e) := by
  unfold zatW at h
  rcases Bool.or_eq_true_iff.mp h with h | h
  · exact Or.inl h
  · split at h
    · exact Or.inr (Or.inl ⟨_, rfl⟩)
    · obtain ⟨h1, h2⟩ := Bool.and_eq_true_iff.mp h
      rw [of_decide_eq_true h1, of_decide_eq_true h2]
      exact Or.inr (Or.inr rfl)
    · cases h
theorem zat_all {own : String} {ic e : Nat} {A : Nat → Prop} {s : State} {args : Array Value} (h : zatOk own ic e = true) (he : e < 3) (hts : ∀ w ∈ zGd, w.before args s = true) (hF : zFx A s) : ∀ w ∈ vx_atS own ic (zEx e) zNm, w.before args s = true := by
  intro w hw
  obtain ⟨h1, h2⟩ := Bool.and_eq_true_iff.mp (List.all_eq_true.mp h w hw)
  have h1 : w ∈ lw_tbl := of_decide_eq_true h1
  rcases zatW_cases h2 with g | ⟨y, rfl⟩ | rfl
  · exact hts w (List.mem_filter.mpr ⟨h1, g⟩)
  · exact va_Nw.use rfl (hF.2.2.2.2.2.2.2 y h1)
  · exact va_Nw.use rfl (hF.2.1 e he)
theorem zat_ot {own : String} {ic e : Nat} (h : zatOk own ic e = true) : ∀ w ∈ vx_atS own ic (zEx e) zNm, vx_ot w = true := by
  intro w hw
  obtain ⟨-, h2⟩ := Bool.and_eq_true_iff.mp (List.all_eq_true.mp h w hw)
  unfold vx_ot
  rcases zatW_cases h2 with g | ⟨y, rfl⟩ | rfl
  · rw [g, Bool.or_true]
  · rfl
  · rfl
/-- a place of a throw -/
def zThr (own : String) (cc : ByteArray) (pc e : Nat) : Prop := ∃ (ik is ic : Nat) (text : String), (own, is, text) ∈ zStrs ∧ Cond.classLink own ik (zEx e) ∈ zGd ∧ Cond.initialized (zEx e) ∈ zGd ∧ zatOk own ic e = true ∧ e < 3 ∧
  decode cc pc = .ok (.new ik, 3) ∧ decode cc (pc + 3) = .ok (.dup, 1) ∧ ((decode cc (pc + 4) = .ok (.ldc is, 2) ∧ decode cc (pc + 6) = .ok (.invokespecial ic, 3) ∧ decode cc (pc + 9) = .ok (.athrow, 1)) ∨ (decode cc (pc + 4) = .ok (.ldc_w is, 3) ∧ decode cc (pc + 7) = .ok (.invokespecial ic, 3) ∧ decode cc (pc + 10) = .ok (.athrow, 1)))
theorem zb_inr9 {c : Bool} {o : zO} {r : zR} (h : zb c o zX = Sum.inr r) (h9 : r.1 ≠ 9) : c = true ∧ o = Sum.inr r := by
  have hl : zlive (zb c o zX) := by rw [h]; exact h9
  obtain ⟨h1, -⟩ := zb_live hl
  rw [h1, zb_tt] at h
  exact ⟨h1, h⟩
theorem zX_inr9 {r : zR} (h : zX = Sum.inr r) (h9 : r.1 ≠ 9) : False := by
  have hl : zlive zX := by rw [h]; exact h9
  exact zX_live hl
theorem zret_5 {st0 : List zV} {w : zW} {r : zR} (h : zoRet st0 w 5 = Sum.inr r) (h9 : r.1 ≠ 9) : st0 = [] ∧ r = (0, (0, 0, 0), w) := by
  cases st0 with
  | nil => exact ⟨rfl, (Sum.inr.inj h).symm⟩
  | cons v t => exact (zX_inr9 h h9).elim
theorem zret_n {st0 : List zV} {w : zW} {r : zR} {B : Nat} (hB : Nat.beq B 5 = false) (h : zoRet st0 w B = Sum.inr r) (h9 : r.1 ≠ 9) : ∃ v, st0 = [v] ∧ zb (Nat.beq B 6) (zsmall 5 v) (zis B v) = true ∧ r = (1, v, w) := by
  unfold zoRet at h
  rw [hB, zb_ff] at h
  match st0, h with
  | [], h => exact (zX_inr9 h h9).elim
  | [v], h =>
    obtain ⟨h1, h2⟩ := zb_inr9 h h9
    exact ⟨v, rfl, h1, (Sum.inr.inj h2).symm⟩
  | _ :: _ :: _, h => exact (zX_inr9 h h9).elim
theorem zthrow_spec {st0 : List zV} {w : zW} {r : zR} {Dp a : Nat} (h : zoThrow st0 w Dp a = Sum.inr r) (h9 : r.1 ≠ 9) : 6 ≤ Dp ∧ zcs st0 ≤ 8 ∧ r = (2, (a, 0, 0), (w.1, w.2.1, w.2.2.1 + 1, w.2.2.2 + 6)) := by
  unfold zoThrow at h
  obtain ⟨h1, h2⟩ := zb_inr9 h h9
  obtain ⟨h3, h4⟩ := zb_inr9 h2 h9
  rw [zfN_eq, zfN_eq] at h4
  exact ⟨zble h1, zble h3, (Sum.inr.inj h4).symm⟩
section ZN
variable {p : Program} {l : Launch} {e : Env} {R : Room} {s : State} {m : MethodId} {args : Array Value} {below : List Frame} {meth : Method} {c : Code} {nL : Nat} {D : va_G} {A : Nat → Prop} {b : Nat} {cc : ByteArray} {pc : Nat} {o : Nat × Nat × Nat × List Nat} {rest : List zE} {ls0 : zA} {st0 : List zV} {w : zW} {cw0 : va_W} {r : zR}
theorem zaft (hAe : va_A cw0 s.heap.size = A) {cw : va_W} {tys : List (ClassId × FieldType)} {H : Heap} {locs : List Loc} (hH : zHR D A b s w cw tys H locs) (hext : ∃ ext, zad cw = zad cw0 ++ ext) {t : State} (ht : t.heap = H) (hvm : s.vm.Alike t.vm) : zAft D b s.heap.size cw0 w s t cw := by
  subst hAe
  obtain ⟨hK, hP, hD, hS, hW⟩ := hH
  exact ⟨hext, by rw [ht]; exact hP, ⟨tys, va_K.moved hvm hK, hW⟩, hD, hS.F ht⟩
theorem zs_vret (hx : p.tables.exec = Jvm.exec) (hb : c.code = cc) (hr : meth.sig.returnType = none) (hlocks : meth.locks = false) (hAe : va_A cw0 s.heap.size = A) (hdg : decode cc pc = .ok (.return_, 1)) (h : zoRet st0 w 5 = Sum.inr r) (h9 : r.1 ≠ 9) : zG p l e R s m args below meth c nL D A b (zad cw0) (vx_MQ below (zQ D b s.heap.size cw0 r) (zXC D b s.heap.size cw0 r) args s r.2.2.2.2.1 r.2.2.2.2.2 (va_A cw0 s.heap.size)) ((pc, o) :: rest, ls0, st0, w) := by
  obtain ⟨rfl, rfl⟩ := zret_5 h h9
  intro cw tys H locs ls lv st hH hext hl hL hV
  have hH : zHR D A b s w cw tys H locs := hH
  have hV : zVR (zad cw) b [] st := hV
  rw [zVR_nil hV]
  have hS := hH.2.2.2.1
  refine vx_ret (W.vret hx hb hr (fun t ht hW => ⟨none, cw, rfl, Or.inl ⟨rfl, rfl⟩, zaft hAe hH hext ht hW.alike⟩) (fun q hq => ?_) hdg hlocks)
  rw [hAe]
  exact hS.2.2 q hq
theorem zs_iret (hx : p.tables.exec = Jvm.exec) (hb : c.code = cc) (hr : meth.sig.returnType = some .int) (hlocks : meth.locks = false) (hAe : va_A cw0 s.heap.size = A) (hdg : decode cc pc = .ok (.ireturn, 1)) (h : zoRet st0 w 0 = Sum.inr r) (h9 : r.1 ≠ 9) : zG p l e R s m args below meth c nL D A b (zad cw0) (vx_MQ below (zQ D b s.heap.size cw0 r) (zXC D b s.heap.size cw0 r) args s r.2.2.2.2.1 r.2.2.2.2.2 (va_A cw0 s.heap.size)) ((pc, o) :: rest, ls0, st0, w) := by
  obtain ⟨v, rfl, hv, rfl⟩ := zret_n rfl h h9
  intro cw tys H locs ls lv st hH hext hl hL hV
  have hH : zHR D A b s w cw tys H locs := hH
  obtain ⟨v1, st1, rfl, hr1, hV1⟩ := zVR_cons (h := v) (t := []) hV
  rw [zVR_nil hV1]
  obtain ⟨x, rfl, -⟩ := zRV_int (show zis 0 v = true from hv) hr1
  have hS := hH.2.2.2.1
  refine vx_ret (W.iret hx hb hr (fun t ht hW => ⟨_, cw, rfl, Or.inr ⟨rfl, _, rfl, hr1⟩, zaft hAe hH hext ht hW.alike⟩) (fun q hq => ?_) hdg hlocks)
  rw [hAe]
  exact hS.2.2 q hq
theorem zs_zret (hx : p.tables.exec = Jvm.exec) (hb : c.code = cc) (hr : meth.sig.returnType = some .boolean) (hlocks : meth.locks = false) (hAe : va_A cw0 s.heap.size = A) (hdg : decode cc pc = .ok (.ireturn, 1)) (h : zoRet st0 w 6 = Sum.inr r) (h9 : r.1 ≠ 9) : zG p l e R s m args below meth c nL D A b (zad cw0) (vx_MQ below (zQ D b s.heap.size cw0 r) (zXC D b s.heap.size cw0 r) args s r.2.2.2.2.1 r.2.2.2.2.2 (va_A cw0 s.heap.size)) ((pc, o) :: rest, ls0, st0, w) := by
  obtain ⟨v, rfl, hv, rfl⟩ := zret_n rfl h h9
  intro cw tys H locs ls lv st hH hext hl hL hV
  have hH : zHR D A b s w cw tys H locs := hH
  obtain ⟨v1, st1, rfl, hr1, hV1⟩ := zVR_cons (h := v) (t := []) hV
  rw [zVR_nil hV1]
  obtain ⟨-, h01⟩ := zsmall_spec (show zsmall 5 v = true from hv) hr1
  have hS := hH.2.2.2.1
  have hfin : ∀ x : Int32, v1 = .int x → narrow .boolean (.int x) = .int x → W p l e R s m args below meth c H locs w.2.2.1 w.2.2.2 (vx_MQ below (zQ D b s.heap.size cw0 (1, v, w)) (zXC D b s.heap.size cw0 (1, v, w)) args s w.2.2.1 w.2.2.2 (va_A cw0 s.heap.size)) (F0 m pc ls [v1]) := by
    intro x hx1 hn
    subst hx1
    refine vx_ret (W.zret hx hb hr hn (fun t ht hW => ⟨_, cw, rfl, Or.inr ⟨rfl, _, rfl, hr1⟩, zaft hAe hH hext ht hW.alike⟩) (fun q hq => ?_) hdg hlocks)
    rw [hAe]
    exact hS.2.2 q hq
  rcases h01 with h0 | h1
  · exact hfin 0 h0 rfl
  · exact hfin 1 h1 rfl
theorem zs_lret (hx : p.tables.exec = Jvm.exec) (hb : c.code = cc) (hr : meth.sig.returnType = some .long) (hlocks : meth.locks = false) (hAe : va_A cw0 s.heap.size = A) (hdg : decode cc pc = .ok (.lreturn, 1)) (h : zoRet st0 w 1 = Sum.inr r) (h9 : r.1 ≠ 9) : zG p l e R s m args below meth c nL D A b (zad cw0) (vx_MQ below (zQ D b s.heap.size cw0 r) (zXC D b s.heap.size cw0 r) args s r.2.2.2.2.1 r.2.2.2.2.2 (va_A cw0 s.heap.size)) ((pc, o) :: rest, ls0, st0, w) := by
  obtain ⟨v, rfl, hv, rfl⟩ := zret_n rfl h h9
  intro cw tys H locs ls lv st hH hext hl hL hV
  have hH : zHR D A b s w cw tys H locs := hH
  obtain ⟨v1, st1, rfl, hr1, hV1⟩ := zVR_cons (h := v) (t := []) hV
  rw [zVR_nil hV1]
  obtain ⟨x, rfl, -⟩ := zRV_long (show zis 1 v = true from hv) hr1
  have hS := hH.2.2.2.1
  refine vx_ret (W.lret hx hb hr (fun t ht hW => ⟨_, cw, rfl, Or.inr ⟨rfl, _, rfl, hr1⟩, zaft hAe hH hext ht hW.alike⟩) (fun q hq => ?_) hdg hlocks)
  rw [hAe]
  exact hS.2.2 q hq
theorem zs_fret (hx : p.tables.exec = Jvm.exec) (hb : c.code = cc) (hr : meth.sig.returnType = some .float) (hlocks : meth.locks = false) (hAe : va_A cw0 s.heap.size = A) (hdg : decode cc pc = .ok (.freturn, 1)) (h : zoRet st0 w 2 = Sum.inr r) (h9 : r.1 ≠ 9) : zG p l e R s m args below meth c nL D A b (zad cw0) (vx_MQ below (zQ D b s.heap.size cw0 r) (zXC D b s.heap.size cw0 r) args s r.2.2.2.2.1 r.2.2.2.2.2 (va_A cw0 s.heap.size)) ((pc, o) :: rest, ls0, st0, w) := by
  obtain ⟨v, rfl, hv, rfl⟩ := zret_n rfl h h9
  intro cw tys H locs ls lv st hH hext hl hL hV
  have hH : zHR D A b s w cw tys H locs := hH
  obtain ⟨v1, st1, rfl, hr1, hV1⟩ := zVR_cons (h := v) (t := []) hV
  rw [zVR_nil hV1]
  obtain ⟨x, rfl⟩ := zRV_float (show zis 2 v = true from hv) hr1
  have hS := hH.2.2.2.1
  refine vx_ret (W.fret hx hb hr (fun t ht hW => ⟨_, cw, rfl, Or.inr ⟨rfl, _, rfl, hr1⟩, zaft hAe hH hext ht hW.alike⟩) (fun q hq => ?_) hdg hlocks)
  rw [hAe]
  exact hS.2.2 q hq
theorem zs_dret (hx : p.tables.exec = Jvm.exec) (hb : c.code = cc) (hr : meth.sig.returnType = some .double) (hlocks : meth.locks = false) (hAe : va_A cw0 s.heap.size = A) (hdg : decode cc pc = .ok (.dreturn, 1)) (h : zoRet st0 w 3 = Sum.inr r) (h9 : r.1 ≠ 9) : zG p l e R s m args below meth c nL D A b (zad cw0) (vx_MQ below (zQ D b s.heap.size cw0 r) (zXC D b s.heap.size cw0 r) args s r.2.2.2.2.1 r.2.2.2.2.2 (va_A cw0 s.heap.size)) ((pc, o) :: rest, ls0, st0, w) := by
  obtain ⟨v, rfl, hv, rfl⟩ := zret_n rfl h h9
  intro cw tys H locs ls lv st hH hext hl hL hV
  have hH : zHR D A b s w cw tys H locs := hH
  obtain ⟨v1, st1, rfl, hr1, hV1⟩ := zVR_cons (h := v) (t := []) hV
  rw [zVR_nil hV1]
  obtain ⟨x, rfl⟩ := zRV_double (show zis 3 v = true from hv) hr1
  have hS := hH.2.2.2.1
  refine vx_ret (W.dret hx hb hr (fun t ht hW => ⟨_, cw, rfl, Or.inr ⟨rfl, _, rfl, hr1⟩, zaft hAe hH hext ht hW.alike⟩) (fun q hq => ?_) hdg hlocks)
  rw [hAe]
  exact hS.2.2 q hq
theorem zs_aret (hx : p.tables.exec = Jvm.exec) (hb : c.code = cc) {rt : FieldType} (hr : meth.sig.returnType = some rt) (hrt : (∃ n, rt = .object n) ∨ ∃ t, rt = .array t) (hlocks : meth.locks = false) (hAe : va_A cw0 s.heap.size = A) (hdg : decode cc pc = .ok (.areturn, 1)) (h : zoRet st0 w 4 = Sum.inr r) (h9 : r.1 ≠ 9) : zG p l e R s m args below meth c nL D A b (zad cw0) (vx_MQ below (zQ D b s.heap.size cw0 r) (zXC D b s.heap.size cw0 r) args s r.2.2.2.2.1 r.2.2.2.2.2 (va_A cw0 s.heap.size)) ((pc, o) :: rest, ls0, st0, w) := by
  obtain ⟨v, rfl, hv, rfl⟩ := zret_n rfl h h9
  intro cw tys H locs ls lv st hH hext hl hL hV
  have hH : zHR D A b s w cw tys H locs := hH
  obtain ⟨v1, st1, rfl, hr1, hV1⟩ := zVR_cons (h := v) (t := []) hV
  rw [zVR_nil hV1]
  have hq := zRV_ref (show zis 4 v = true from hv) hr1
  have hS := hH.2.2.2.1
  refine vx_ret (W.aret hx hb hr hrt (hq.symm) (fun t ht hW => ⟨_, cw, rfl, Or.inr ⟨rfl, _, rfl, hr1⟩, zaft hAe hH hext ht hW.alike⟩) (fun q hq => ?_) hdg hlocks)
  rw [hAe]
  exact hS.2.2 q hq
theorem zs_throw (hx : p.tables.exec = Jvm.exec) (hb : c.code = cc) (hml : c.maxLocals = nL) (hfl : l.stackTraces = false) {own : String} (hown : s.vm.findClass own = some m.cls) (hts : ∀ w ∈ zGd, w.before args s = true) (hF : zFx A s) (hlocks : meth.locks = false) (hAe : va_A cw0 s.heap.size = A) (htb : c.exceptionTable.toList = []) {Dp a : Nat} (hRf : Dp ≤ R.frames) (hRl : 39 * Dp + 10 ≤ R.locals) (hcs : r.2.2.2.2.1 ≤ R.cells ∧ r.2.2.2.2.2 ≤ R.slots)
    (hthr : zThr own cc pc a) (h : zoThrow st0 w Dp a = Sum.inr r) (h9 : r.1 ≠ 9) : zG p l e R s m args below meth c nL D A b (zad cw0) (vx_MQ below (zQ D b s.heap.size cw0 r) (zXC D b s.heap.size cw0 r) args s r.2.2.2.2.1 r.2.2.2.2.2 (va_A cw0 s.heap.size)) ((pc, o) :: rest, ls0, st0, w) := by
  obtain ⟨hD6, h8, rfl⟩ := zthrow_spec h h9
  intro cw tys H locs ls lv st hH hext hl hL hV
  have hH : zHR D A b s w cw tys H locs := hH
  obtain ⟨hK, hP, hDw, hS, hW⟩ := id hH
  have hV : zVR (zad cw) b st0 st := hV
  have h8' : (st.map fun v => v.category).sum ≤ 8 := by rw [zVR_cs hV]; exact h8
  obtain ⟨ik, is, ic, text, hst, hk, hini, hat, ha3, d0, d3, hd⟩ := hthr
  obtain ⟨sa, hsa⟩ := hF.2.2.2.1 _ hst
  have hfit : ∀ a, a < 3 → Bundle.fit (zEx a) = true := by decide
  have hgood : ∀ w ∈ Cond.classLink own ik (zEx a) :: Cond.initialized (zEx a) :: vx_atS own ic (zEx a) zNm, vx_ot w = true := by
    intro w9 hw9
    rcases List.mem_cons.mp hw9 with rfl | hw9
    · unfold vx_ot; rw [zGd_good hk, Bool.or_true]
    · rcases List.mem_cons.mp hw9 with rfl | hw9
      · unfold vx_ot; rw [zGd_good hini, Bool.or_true]
      · exact zat_ot hat w9 hw9
  have hx9 : ∀ t : State, s.vm.Alike t.vm → H.size ≤ t.heap.size → (∀ q : Nat, q < H.size → t.heap[q]? = H[q]?) → zXC D b s.heap.size cw0 (2, (a, 0, 0), (w.1, w.2.1, w.2.2.1 + 1, w.2.2.2 + 6)) (zEx a) s t := by
    intro t hvm hz hq
    refine ⟨rfl, rfl, ha3, cw, hext, hP.kept (fun k q hk => hq q.1 (hP k q hk).lt), ⟨tys, va_K.moved hvm hK, hW⟩, by rw [hAe]; exact hDw, by rw [hAe]; exact ⟨Nat.le_trans hS.1 hz, fun q h1 h2 => (hq q (Nat.lt_of_lt_of_le h1 hS.1)).trans (hS.2.1 q h1 h2)⟩⟩
  have hfree : ∀ z ∈ locs, va_A cw0 s.heap.size z.base := fun z hz => by rw [hAe]; exact hS.2.2 z hz
  have hRf2 : zNm.length + 3 < R.frames := by show 5 < R.frames; omega
  have hRl2 : (st.map fun v => v.category).sum + (13 * (zNm.length + 1) + 43) ≤ R.locals := by show (st.map fun v => v.category).sum + 82 ≤ R.locals; omega
  rcases hd with ⟨d4, d6, d9⟩ | ⟨d4, d7, d10⟩
  · exact vx_throwS hx hb hfl hown (hfit a ha3) (by decide) (hts _ hk) (hts _ hini) hsa (zat_all hat ha3 hts hF) hgood hF.2.2.2.2.2.1 hF.2.2.2.2.2.2.1 hS (by rw [hml]; exact hl.1) d0 d3 d4 d6 d9 (fun x hx2 => by rw [htb] at hx2; cases hx2) hRf2 hRl2 hcs.1 hcs.2 hlocks hx9 hfree (Nat.le_refl _) (Nat.le_refl _)
  · exact vx_throwSW hx hb hfl hown (hfit a ha3) (by decide) (hts _ hk) (hts _ hini) hsa (zat_all hat ha3 hts hF) hgood hF.2.2.2.2.2.1 hF.2.2.2.2.2.2.1 hS (by rw [hml]; exact hl.1) d0 d3 d4 d7 d10 (fun x hx2 => by rw [htb] at hx2; cases hx2) hRf2 hRl2 hcs.1 hcs.2 hlocks hx9 hfree (Nat.le_refl _) (Nat.le_refl _)
/-- a callee's throw goes on to the caller's caller -/
theorem zs_inv_out (hx : p.tables.exec = Jvm.exec) (hb : c.code = cc) (hml : c.maxLocals = nL) {own : String} (hown : s.vm.findClass own = some m.cls) (hts : ∀ w ∈ zGd, w.before args s = true) (hF : zFx A s) (hA : ∀ q, s.heap.size ≤ q → A q) (hlocks : meth.locks = false) (hAe : va_A cw0 s.heap.size = A)
    {kd rc n d a : Nat} {hs : List Nat} {y : MethodName} {word : Cond} {rec : Nat → List zV → zW → zR} {full : List zE} (hsite : zSite own cc pc kd rc n y word) (hRf : d + 1 ≤ R.frames) (hRl : 39 * (d + 1) + 10 ≤ R.locals)
    (hrec : ∀ (as : List zV) (w : zW), (rec a as w).1 ≠ 9 → zMet l y word d as w (rec a as w)) (hhd : zHd own c.exceptionTable.toList pc hs)
    (h : zoInvoke rest ls0 st0 w rec full a n (kd :: rc :: hs) = Sum.inr r) (h9 : r.1 ≠ 9) (hcs : r.2.2.2.2.1 ≤ R.cells ∧ r.2.2.2.2.2 ≤ R.slots) : zG p l e R s m args below meth c nL D A b (zad cw0) (vx_MQ below (zQ D b s.heap.size cw0 r) (zXC D b s.heap.size cw0 r) args s r.2.2.2.2.1 r.2.2.2.2.2 (va_A cw0 s.heap.size)) ((pc, o) :: rest, ls0, st0, w) := by
  have hlive : zlive (Sum.inr r : zO) := h9
  obtain ⟨xs, st1, rfl, hxs, h8, hrc, heq⟩ := zinv_spec (h := by rw [h]; exact hlive)
  rw [h] at heq
  have hr9 : (rec a xs.reverse (w.1, w.2.1, 0, 0)).1 ≠ 9 := by
    rcases zR_kind heq.symm hlive with ⟨z, -⟩ | ⟨z, -⟩ | ⟨z, -⟩ <;> rw [z] <;> decide
  have hM := hrec _ _ hr9
  generalize hR' : rec a xs.reverse (w.1, w.2.1, 0, 0) = r1 at heq hM hr9
  rcases zR_kind heq.symm hlive with ⟨-, z⟩ | ⟨-, z⟩ | ⟨zk, z⟩
  · cases z
  · cases z
  have hfin : hs = [] ∧ c.exceptionTable.toList = [] ∧ r = (2, r1.2.1, (r1.2.2.1, r1.2.2.2.1, w.2.2.1 + r1.2.2.2.2.1, w.2.2.2 + r1.2.2.2.2.2)) := by
    have hgo : ∀ {t : Nat}, zgo full t ls0 [(9, 0, 0)] (r1.2.2.1, r1.2.2.2.1, w.2.2.1 + r1.2.2.2.2.1, w.2.2.2 + r1.2.2.2.2.2) = Sum.inr r → False := by
      intro t ht
      unfold zgo at ht
      rw [zfindK_eq] at ht
      split at ht
      · exact zX_inr9 ht h9
      · cases ht
    rcases hhd with ⟨rfl, htb⟩ | ⟨e1, t1, x, suf, rfl, -, -⟩ | ⟨e1, t1, e2, t2, x, x2, suf, rfl, -, -, -⟩
    · exact ⟨rfl, htb, (Sum.inr.inj z).symm⟩
    · have z : zb (Nat.beq e1 r1.2.1.1) (zgo full t1 ls0 [(9, 0, 0)] (r1.2.2.1, r1.2.2.2.1, w.2.2.1 + r1.2.2.2.2.1, w.2.2.2 + r1.2.2.2.2.2)) zX = Sum.inr r := z
      obtain ⟨-, z⟩ := zb_inr9 z h9
      exact (hgo z).elim
    · have z : zb (Nat.beq e1 r1.2.1.1) (zgo full t1 ls0 [(9, 0, 0)] (r1.2.2.1, r1.2.2.2.1, w.2.2.1 + r1.2.2.2.2.1, w.2.2.2 + r1.2.2.2.2.2)) (zb (Nat.beq e2 r1.2.1.1) (zgo full t2 ls0 [(9, 0, 0)] (r1.2.2.1, r1.2.2.2.1, w.2.2.1 + r1.2.2.2.2.1, w.2.2.2 + r1.2.2.2.2.2)) zX) = Sum.inr r := z
      cases q : Nat.beq e1 r1.2.1.1
      · rw [q, zb_ff] at z
        obtain ⟨-, z⟩ := zb_inr9 z h9
        exact (hgo z).elim
      · rw [q, zb_tt] at z
        exact (hgo z).elim
  obtain ⟨rfl, htb, rfl⟩ := hfin
  intro cw tys H locs ls lv st hH hext hl hL hV
  have hH : zHR D A b s w cw tys H locs := hH
  obtain ⟨vs, st2, rfl, hv1, hv2⟩ := zVR_app (xs := xs) (ys := st1) hV
  have hst : (st2.map fun v => v.category).sum ≤ 8 := by rw [zVR_cs hv2]; exact h8
  have hrun := zrunof (e := e) (below := below) (meth := meth) hx hb hml hown hts hF hA hsite hRf hRl hM hH hxs hrc hv1 hst hl.1 (cells := w.2.2.1) (slots := w.2.2.2) hcs
  obtain ⟨hK, hP, hDw, hS, hW⟩ := id hH
  show W p l e R s m args below meth c H locs w.2.2.1 w.2.2.2 _ (F0 m pc ls (vs ++ st2))
  refine zcall hrun hA hDw hS (fun q9 ce cw' tys' H1 locs1 hr2 hr3 hH1 hext1 hce hcv hcl => ?_) (fun vo cw' tys' H1 locs1 hvo hH1 hext1 => ?_)
  · refine vx_out (fun x hx2 => by rw [htb] at hx2; cases hx2) hlocks hce hcv hcl (fun t ht hvm => ⟨rfl, rfl, hr3, cw', zaft hAe hH1 (zext hext hext1) ht hvm⟩) (fun z9 hz9 => ?_) (Nat.le_refl _) (Nat.le_refl _)
    rw [hAe]
    exact hH1.2.2.2.1.2.2 z9 hz9
  · rcases hvo with ⟨z0, -⟩ | ⟨z1, -⟩
    · rw [zk] at z0; cases z0
    · rw [zk] at z1; cases z1
end ZN
