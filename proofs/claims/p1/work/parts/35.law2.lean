/-! ===== the law: what holds throughout, and its end ===== -/
theorem zlaw_end {p : Program} {l : Launch} {e : Env} {s : State} {m : MethodId} {below : List Frame} {meth : Method} {c : Code} {b : Nat} {D : va_G} {A : Nat → Prop} {ad0 : List Nat} {rec : Nat → List zV → zW → zR} {d : Nat} {full : List zE} {scr : List zV} (hx : p.tables.exec = Jvm.exec) (hb : c.code = code) (hr : meth.sig.returnType = ret) (hlocks : meth.locks = false) (hA : ∀ q, A q → s.heap.size ≤ q)
    {S' : zS} {r : zR} (hP : zP "SpeechKeeperLaw" code 9 false [] (some .boolean) S'.1) (h : zstep zobjs rec d full scr S' = Sum.inr r) (h1 : r.1 = 1) (hv : r.2.1 = (0, 1, 0)) (hc : r.2.2.2.2.1 ≤ 600002 ∧ r.2.2.2.2.2 ≤ 7302231) :
    zG p l e room_1 s m #[Value.ref b] below meth c 9 D A b ad0 (lw_Z below #[Value.ref b] s) S' := by
  have h9 : r.1 ≠ 9 := by rw [h1]; decide
  obtain ⟨codeL, ls0, st0, w⟩ := S'
  cases codeL with
  | nil => exact (zX_inr9 (show zX = Sum.inr r from h) h9).elim
  | cons en rest =>
    obtain ⟨pc, op, a, bb, lst⟩ := en
    have h : zdo zobjs rec d full scr op a bb lst rest ls0 st0 w = Sum.inr r := h
    have h16 : op = 16 := zdo_16of (objs := zobjs) (rec := rec) (D := d) (full := full) (scr := scr) (a := a) (b := bb) (l := lst) (rest := rest) (ls := ls0) (st := st0) (w := w) (by rw [h]; exact fun z => z h1)
    subst h16
    obtain ⟨⟨f, hc0⟩, -⟩ := zP_cons hP
    obtain ⟨hdg, h6⟩ := zchk_16 hc0
    have hdg : decode code pc = .ok (.ireturn, 1) := hdg
    have h6 : bb = 6 := h6
    subst h6
    rw [zdo_16] at h
    obtain ⟨v, rfl, -, rfl⟩ := zret_n rfl h h9
    have hv : v = (0, 1, 0) := hv
    subst hv
    intro cw tys H locs ls lv st hH hext hl hL hV
    have hH : zHR D A b s w cw tys H locs := hH
    obtain ⟨v1, st1, rfl, hr1, hV1⟩ := zVR_cons (h := (0, 1, 0)) (t := []) hV
    rw [zVR_nil hV1]
    have hr1 := zRV_0 hr1
    subst hr1
    have hS := hH.2.2.2.1
    exact va_forget (fun q hq => hA _ (hS.2.2 q hq)) (W.widen hc.1 hc.2 (W.base (lw_ret (Drawn.sameBut.refl s.drawn lw_cs) hx hb hr hlocks hdg)))
