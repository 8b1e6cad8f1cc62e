/-! ===== a run of the abstract machine and what it says of the machine ===== -/
noncomputable def zchkT (own : String) (cc : ByteArray) (nL : Nat) (ini : Bool) (tb : List ExceptionTableEntry) (ret : Option FieldType) (fs : List zF) (es : List zE) : Bool :=
  List.rec (motive := fun _ => List zF → Bool) (fun fs => List.rec (motive := fun _ => Bool) true (fun _ _ _ => false) fs)
    (fun e r ih fs => List.rec (motive := fun _ => Bool) false (fun f ft _ => zb (zchk own cc nL ini tb ret f e.1 e.2.1 e.2.2.1 e.2.2.2.1 e.2.2.2.2 (zpc r)) (ih ft) false) fs) es fs
def zP (own : String) (cc : ByteArray) (nL : Nat) (ini : Bool) (tb : List ExceptionTableEntry) (ret : Option FieldType) (es : List zE) : Prop := ∃ fs, zchkT own cc nL ini tb ret fs es = true
section ZU
variable {own : String} {cc : ByteArray} {nL : Nat} {ini : Bool} {tb : List ExceptionTableEntry} {ret : Option FieldType}
theorem zP_nil : zP own cc nL ini tb ret [] := ⟨[], rfl⟩
theorem zP_cons {e : zE} {r : List zE} (h : zP own cc nL ini tb ret (e :: r)) : (∃ f, zchk own cc nL ini tb ret f e.1 e.2.1 e.2.2.1 e.2.2.2.1 e.2.2.2.2 (zpc r) = true) ∧ zP own cc nL ini tb ret r := by
  obtain ⟨fs, h⟩ := h
  cases fs with
  | nil => exact Bool.noConfusion h
  | cons f ft =>
    obtain ⟨h1, h2⟩ := zb_and (show zb (zchk own cc nL ini tb ret f e.1 e.2.1 e.2.2.1 e.2.2.2.1 e.2.2.2.2 (zpc r)) (zchkT own cc nL ini tb ret ft r) false = true from h)
    exact ⟨⟨f, h1⟩, ft, h2⟩
theorem zP_find {t : Nat} : ∀ {es : List zE}, zP own cc nL ini tb ret es → zP own cc nL ini tb ret (zfindS es t)
  | [], _ => zP_nil
  | e :: r, h => by
    have e2 : zfindS (e :: r) t = zb (Nat.beq e.1 t) (e :: r) (zfindS r t) := rfl
    rw [e2]
    cases Nat.beq e.1 t
    · exact zP_find (zP_cons h).2
    · exact h
end ZU
section ZGL
variable {rest full : List zE} {w : zW} {ls : zA} {st : List zV} {scr : List zV} {objs : List (Nat × zA)} {a b D : Nat} {l : List Nat} {rec : Nat → List zV → zW → zR}
theorem zgd_16 : zlive (zoRet st w b) → zgd2 rest full w (zoRet st w b) := by
  unfold zoRet
  refine zgd2_b ?_ ?_
  · split
    · exact fun _ => ⟨Nat.le_refl _, Nat.le_refl _⟩
    · exact zgd2_X
  · split
    · exact zgd2_b (fun _ => ⟨Nat.le_refl _, Nat.le_refl _⟩) zgd2_X
    · exact zgd2_X
theorem zgd_25 : zlive (zoThrow st w D a) → zgd2 rest full w (zoThrow st w D a) := by
  unfold zoThrow
  refine zgd2_b (zgd2_b ?_ zgd2_X) zgd2_X
  rw [zfN_eq, zfN_eq]
  exact fun _ => ⟨Nat.le_succ _, Nat.le_add_right _ _⟩
theorem zdo_gd {op : Nat} : zlive (zdo objs rec D full scr op a b l rest ls st w) → zgd2 rest full w (zdo objs rec D full scr op a b l rest ls st w) := by
  unfold zdo
  exact zgd2_b (zgd2_b (zgd2_b (zgd2_b (zgd_2of zgd_0) (zgd_2of zgd_1)) (zgd2_b (zgd_2of zgd_2) (zgd_2of zgd_3)))
      (zgd2_b (zgd2_b (zgd_2of zgd_4) (zgd_2of zgd_5)) (zgd2_b (zgd_2of zgd_6) (zgd_2of zgd_7))))
    (zgd2_b (zgd2_b (zgd2_b (zgd2_b (zgd_2of zgd_8) (zgd_2of zgd_9)) (zgd2_b (zgd_2of zgd_10) (zgd_2of zgd_11)))
        (zgd2_b (zgd2_b (zgd_2of zgd_12) (zgd_2of zgd_13)) (zgd2_b (zgd_2of zgd_14) zgd_15)))
      (zgd2_b (zgd2_b (zgd2_b zgd_16 (zgd2_b (zgd_2of zgd_17) (zgd_2of zgd_18))) (zgd2_b (zgd_2of zgd_19) (zgd2_b (zgd_2of zgd_20) (zgd_2of zgd_21))))
        (zgd2_b (zgd2_b (zgd_2of zgd_22) (zgd2_b (zgd_2of zgd_23) (zgd_2of zgd_24)))
          (zgd2_b (zgd2_b zgd_25 (zgd_2of zgd_26)) (zgd2_b (zgd_2of zgd_27) (zgd2_b (zgd_2of zgd_28) zgd2_X))))))
end ZGL
section ZRUN
variable {p : Program} {l : Launch} {e : Env} {R : Room} {s : State} {m : MethodId} {args : Array Value} {below : List Frame} {meth : Method} {c : Code} {Q : State → Prop} {nL : Nat} {D : va_G} {A : Nat → Prop} {b : Nat} {ad0 : List Nat} {cc : ByteArray} {own : String} {ini : Bool} {tb : List ExceptionTableEntry} {ret : Option FieldType} {dd : Nat} {rec : Nat → List zV → zW → zR} {full : List zE} {scr : List zV} {cw0 : va_W}
/-- what holds of an invocation throughout -/
def zCx (p : Program) (l : Launch) (R : Room) (s : State) (m : MethodId) (args : Array Value) (meth : Method) (c : Code) (nL : Nat) (A : Nat → Prop) (b : Nat) (cc : ByteArray) (own : String) (ini : Bool) (tb : List ExceptionTableEntry) (dd : Nat) (rec : Nat → List zV → zW → zR) (scr : List zV) : Prop :=
  p.tables.exec = Jvm.exec ∧ c.code = cc ∧ c.maxLocals = nL ∧ s.vm.findClass own = some m.cls ∧ (∀ w ∈ zGd, w.before args s = true) ∧ zFx A s ∧ (∀ q, s.heap.size ≤ q → A q) ∧ dd + 1 ≤ R.frames ∧ 39 * (dd + 1) + 10 ≤ R.locals ∧ zSc A b s scr ∧ (ini = true → meth.name = "<init>") ∧ c.exceptionTable.toList = tb ∧
    (∀ (i : Nat) (as : List zV) (w : zW), (rec i as w).1 ≠ 9 → zMet l (zyOf (zword i)) (zword i) dd as w (rec i as w))
theorem zstep_1 {S S1 : zS} (X : zCx p l R s m args meth c nL A b cc own ini tb dd rec scr) (hPf : zP own cc nL ini tb ret full) (hP : zP own cc nL ini tb ret S.1) (h : zstep zobjs rec (dd + 1) full scr S = Sum.inl S1) :
    zP own cc nL ini tb ret S1.1 ∧ (S.2.2.2.2.2.1 ≤ S1.2.2.2.2.2.1 ∧ S.2.2.2.2.2.2 ≤ S1.2.2.2.2.2.2) ∧ ((S1.2.2.2.2.2.1 ≤ R.cells ∧ S1.2.2.2.2.2.2 ≤ R.slots) → zG p l e R s m args below meth c nL D A b ad0 Q S1 → zG p l e R s m args below meth c nL D A b ad0 Q S) := by
  obtain ⟨code, ls, st, w⟩ := S
  cases code with
  | nil => exact (zX_inl (show zX = Sum.inl S1 from h)).elim
  | cons en rest =>
    obtain ⟨pc, op, a, bb, lst⟩ := en
    have h : zdo zobjs rec (dd + 1) full scr op a bb lst rest ls st w = Sum.inl S1 := h
    obtain ⟨⟨f, hc⟩, hP1⟩ := zP_cons hP
    have hc : zchk own cc nL ini tb ret f pc op a bb lst (zpc rest) = true := hc
    have g := zdo_gd (objs := zobjs) (rec := rec) (D := dd + 1) (full := full) (scr := scr) (op := op) (a := a) (b := bb) (l := lst) (rest := rest) (ls := ls) (st := st) (w := w) (by rw [h]; trivial)
    rw [h] at g
    obtain ⟨g1, g2⟩ := g
    obtain ⟨hx, hb, hml, hown, hts, hF, hA, hRf, hRl, hsc, hnm, htb, hrec⟩ := X
    refine ⟨?_, g2, fun hcs kk => zchk_inl hx hb hml hown hts hF hA hRf hRl hsc hnm htb hrec hc h hcs kk⟩
    rcases g1 with g1 | ⟨t, g1⟩
    · rw [g1]; exact hP1
    · rw [g1]; exact zP_find hPf
theorem zitA {S1 : zS} (X : zCx p l R s m args meth c nL A b cc own ini tb dd rec scr) (hPf : zP own cc nL ini tb ret full) : ∀ (k : Nat) {S : zS}, zP own cc nL ini tb ret S.1 → zit (zstep zobjs rec (dd + 1) full scr) k S = Sum.inl S1 →
    zP own cc nL ini tb ret S1.1 ∧ (S.2.2.2.2.2.1 ≤ S1.2.2.2.2.2.1 ∧ S.2.2.2.2.2.2 ≤ S1.2.2.2.2.2.2) ∧ ((S1.2.2.2.2.2.1 ≤ R.cells ∧ S1.2.2.2.2.2.2 ≤ R.slots) → zG p l e R s m args below meth c nL D A b ad0 Q S1 → zG p l e R s m args below meth c nL D A b ad0 Q S) := by
  intro k
  induction k generalizing S1 with
  | zero => exact fun hP h => zstep_1 X hPf hP h
  | succ k ih =>
    intro S hP h
    have e1 : zit (zstep zobjs rec (dd + 1) full scr) (k + 1) S = Sum.rec (motive := fun _ => zO) (fun s' => zit (zstep zobjs rec (dd + 1) full scr) k s') (fun r => Sum.inr r) (zit (zstep zobjs rec (dd + 1) full scr) k S) := rfl
    rw [e1] at h
    cases q : zit (zstep zobjs rec (dd + 1) full scr) k S with
    | inr r => rw [q] at h; cases h
    | inl S2 =>
      rw [q] at h
      have h : zit (zstep zobjs rec (dd + 1) full scr) k S2 = Sum.inl S1 := h
      obtain ⟨a1, a2, a3⟩ := ih hP q
      obtain ⟨b1, b2, b3⟩ := ih a1 h
      exact ⟨b1, ⟨Nat.le_trans a2.1 b2.1, Nat.le_trans a2.2 b2.2⟩, fun hcs kk => a3 ⟨Nat.le_trans b2.1 hcs.1, Nat.le_trans b2.2 hcs.2⟩ (b3 hcs kk)⟩
theorem zstep_2 {S : zS} {r : zR} (X : zCx p l R s m args meth c nL A b cc own ini tb dd rec scr) (hfl : l.stackTraces = false) (hlocks : meth.locks = false) (hr : meth.sig.returnType = ret) (hAe : va_A cw0 s.heap.size = A) (hP : zP own cc nL ini tb ret S.1) (h : zstep zobjs rec (dd + 1) full scr S = Sum.inr r) (h9 : r.1 ≠ 9) :
    (S.2.2.2.2.2.1 ≤ r.2.2.2.2.1 ∧ S.2.2.2.2.2.2 ≤ r.2.2.2.2.2) ∧ ((r.2.2.2.2.1 ≤ R.cells ∧ r.2.2.2.2.2 ≤ R.slots) → zG p l e R s m args below meth c nL D A b (zad cw0) (vx_MQ below (zQ D b s.heap.size cw0 r) (zXC D b s.heap.size cw0 r) args s r.2.2.2.2.1 r.2.2.2.2.2 (va_A cw0 s.heap.size)) S) := by
  obtain ⟨code, ls, st, w⟩ := S
  cases code with
  | nil => exact (zX_inr9 (show zX = Sum.inr r from h) h9).elim
  | cons en rest =>
    obtain ⟨pc, op, a, bb, lst⟩ := en
    have h : zdo zobjs rec (dd + 1) full scr op a bb lst rest ls st w = Sum.inr r := h
    obtain ⟨⟨f, hc⟩, hP1⟩ := zP_cons hP
    have hc : zchk own cc nL ini tb ret f pc op a bb lst (zpc rest) = true := hc
    have g := zdo_gd (objs := zobjs) (rec := rec) (D := dd + 1) (full := full) (scr := scr) (op := op) (a := a) (b := bb) (l := lst) (rest := rest) (ls := ls) (st := st) (w := w) (by rw [h]; exact h9)
    rw [h] at g
    obtain ⟨hx, hb, hml, hown, hts, hF, hA, hRf, hRl, hsc, hnm, htb, hrec⟩ := X
    exact ⟨g, fun hcs => zchk_inr hx hb hml hown hts hF hA hRf hRl htb hfl hlocks hr hAe hrec hc h h9 hcs⟩
theorem zitB {r : zR} (X : zCx p l R s m args meth c nL A b cc own ini tb dd rec scr) (hfl : l.stackTraces = false) (hlocks : meth.locks = false) (hr : meth.sig.returnType = ret) (hAe : va_A cw0 s.heap.size = A) (hPf : zP own cc nL ini tb ret full) (h9 : r.1 ≠ 9) : ∀ (k : Nat) {S : zS}, zP own cc nL ini tb ret S.1 → zit (zstep zobjs rec (dd + 1) full scr) k S = Sum.inr r →
    (S.2.2.2.2.2.1 ≤ r.2.2.2.2.1 ∧ S.2.2.2.2.2.2 ≤ r.2.2.2.2.2) ∧ ((r.2.2.2.2.1 ≤ R.cells ∧ r.2.2.2.2.2 ≤ R.slots) → zG p l e R s m args below meth c nL D A b (zad cw0) (vx_MQ below (zQ D b s.heap.size cw0 r) (zXC D b s.heap.size cw0 r) args s r.2.2.2.2.1 r.2.2.2.2.2 (va_A cw0 s.heap.size)) S) := by
  intro k
  induction k with
  | zero => exact fun hP h => zstep_2 X hfl hlocks hr hAe hP h h9
  | succ k ih =>
    intro S hP h
    have e1 : zit (zstep zobjs rec (dd + 1) full scr) (k + 1) S = Sum.rec (motive := fun _ => zO) (fun s' => zit (zstep zobjs rec (dd + 1) full scr) k s') (fun r => Sum.inr r) (zit (zstep zobjs rec (dd + 1) full scr) k S) := rfl
    rw [e1] at h
    cases q : zit (zstep zobjs rec (dd + 1) full scr) k S with
    | inr r2 =>
      rw [q] at h
      have h : (Sum.inr r2 : zO) = Sum.inr r := h
      cases h
      exact ih hP q
    | inl S2 =>
      rw [q] at h
      have h : zit (zstep zobjs rec (dd + 1) full scr) k S2 = Sum.inr r := h
      obtain ⟨b2, b3⟩ := ih (zitA (e := e) (below := below) (Q := fun _ => True) (D := D) (ad0 := []) X hPf k hP q).1 h
      obtain ⟨a1, a2, a3⟩ := zitA (e := e) (below := below) (D := D) (ad0 := zad cw0) (Q := vx_MQ below (zQ D b s.heap.size cw0 r) (zXC D b s.heap.size cw0 r) args s r.2.2.2.2.1 r.2.2.2.2.2 (va_A cw0 s.heap.size)) X hPf k hP q
      exact ⟨⟨Nat.le_trans a2.1 b2.1, Nat.le_trans a2.2 b2.2⟩, fun hcs => a3 ⟨Nat.le_trans b2.1 hcs.1, Nat.le_trans b2.2 hcs.2⟩ (b3 hcs)⟩
end ZRUN
/-! ===== the arguments as locals ===== -/
noncomputable def zargs : Nat → List zV → zA
  | _, [] => []
  | i, v :: vs => (i, v) :: zargs (zb (zcat2 v) (i + 2) (i + 1)) vs
theorem zargsK_eq : ∀ (vs : List zV) (i : Nat) (k : Nat → zA → zR), zargsK vs i k = k (i + zcs vs) (zargs i vs)
  | [], _, _ => rfl
  | v :: vs, i, k => by
    have e1 : zargsK (v :: vs) i k = zb (zcat2 v) (zfN (i + 2) (fun j => zargsK vs j (fun n r => k n ((i, v) :: r)))) (zfN (i + 1) (fun j => zargsK vs j (fun n r => k n ((i, v) :: r)))) := rfl
    rw [e1, zfN_eq, zfN_eq, zargsK_eq vs, zargsK_eq vs, zcs_cons]
    show _ = k (i + (zcs vs + zb (zcat2 v) 2 1)) ((i, v) :: zargs (zb (zcat2 v) (i + 2) (i + 1)) vs)
    cases zcat2 v
    · simp only [zb_ff]
      rw [show i + 1 + zcs vs = i + (zcs vs + 1) by omega]
    · simp only [zb_tt]
      rw [show i + 2 + zcs vs = i + (zcs vs + 2) by omega]
theorem zargs_LR {ad : List Nat} {b : Nat} : ∀ {as : List zV} {av : List Value} {i : Nat}, zVR ad b as av → zLR ad b (zargs i as) (lv_args i av)
  | [], av, _, h => by rw [zVR_nil h]; trivial
  | a :: as, av, i, h => by
    obtain ⟨v, vs, rfl, h1, h2⟩ := zVR_cons h
    have e2 : (if v.category = 2 then i + 2 else i + 1) = zb (zcat2 a) (i + 2) (i + 1) := by
      rw [zRV_cat h1]
      cases zcat2 a <;> rfl
    show zLR ad b ((i, a) :: zargs (zb (zcat2 a) (i + 2) (i + 1)) as) ((i, v) :: lv_args (if v.category = 2 then i + 2 else i + 1) vs)
    rw [e2]
    exact ⟨rfl, h1, zargs_LR h2⟩
theorem zlg_len {ad : List Nat} {b : Nat} : ∀ {as : List zV} {av : List Value}, zVR ad b as av → (lg_sl av).length = zcs as
  | [], av, h => by rw [zVR_nil h]; rfl
  | a :: as, av, h => by
    obtain ⟨v, vs, rfl, h1, h2⟩ := zVR_cons h
    have e1 : lg_sl (v :: vs) = (if v.category = 2 then [Slot.val v, .second] else [Slot.val v]) ++ lg_sl vs := by
      unfold lg_sl
      rw [List.flatMap_cons]
    rw [e1, List.length_append, zlg_len h2, zcs_cons, zRV_cat h1]
    cases zcat2 a
    · show 1 + zcs as = zcs as + 1; omega
    · show 2 + zcs as = zcs as + 2; omega
/-- a method's table holds -/
noncomputable def zchkM (i : Nat) (fs : List zF) : Bool := match zword i, zcodes[i]? with
  | .code y bytes maxL ret, some q => zb (plainName y.cls) (zb (Nat.beq q.1 maxL) (zb (Nat.beq (zpc q.2) 0) (zchkT y.cls bytes maxL (decide (y.name = "<init>")) [] ret fs q.2) false) false) false
  | .codeWith y bytes maxL ret hh, some q => zb (plainName y.cls) (zb (Nat.beq q.1 maxL) (zb (Nat.beq (zpc q.2) 0) (zchkT y.cls bytes maxL (decide (y.name = "<init>")) (tableOf hh) ret fs q.2) false) false) false
  | _, _ => false
section ZM
variable {l : Launch}
theorem zbody {p : Program} {e : Env} {s : State} {m : MethodId} {args : Array Value} {below : List Frame} {meth : Method} {c : Code} {s₁ : State} {y : MethodName} {word : Cond} {cc : ByteArray} {maxL d : Nat} {ret : Option FieldType} {tb : List ExceptionTableEntry} {code : List zE} {as : List zV} {w : zW} {r : zR} (hfl : l.stackTraces = false)
    (hih : ∀ (i : Nat) (as : List zV) (w : zW), (zrun zobjs zcodes d i as w).1 ≠ 9 → zMet l (zyOf (zword i)) (zword i) d as w (zrun zobjs zcodes d i as w))
    (hPf : zP y.cls cc maxL (decide (y.name = "<init>")) tb ret code) (hpc : zpc code = 0) (hlen : zcs as ≤ maxL) (h9 : r.1 ≠ 9) (hrun : zit (zstep zobjs (zrun zobjs zcodes d) (d + 1) code []) 16 (code, zargs 0 as, [], w) = Sum.inr r)
    {D : va_G} {b sz : Nat} {cw : va_W} {tys : List (ClassId × FieldType)} {av : List Value} (hW : zWR b tys w cw) (hV : zVR (zad cw) b as av)
    (B : BodyLoose p l y (headSpec (word :: zGd) (zRm (d + 1) r)) cc maxL ret e s m args below meth c s₁) (hml : c.maxLocals = maxL) (htb : c.exceptionTable.toList = tb) (hv : va_Pc av (zB D cw tys sz) args s) :
    W p l e (headSpec (word :: zGd) (zRm (d + 1) r)).room s m args below meth c s.heap [] 0 0 (vx_MQ below (zQ D b sz cw r) (zXC D b sz cw r) args s r.2.2.2.2.1 r.2.2.2.2.2 (va_A cw sz)) (entryFrame m args maxL) := by
  obtain ⟨rfl, hsz, hP, hK, hD0, hFx⟩ := hv
  subst hsz
  have hts := atoms_spec (ws := word :: zGd) B.pre
  have hown : s.vm.findClass y.cls = some m.cls := findClass_of_methodNamed B.named
  have hl := lv_entry av (n := maxL) (by rw [zlg_len hV]; exact hlen)
  rw [lg_entry_eq]
  generalize (lg_sl av ++ List.replicate (maxL - (lg_sl av).length) Slot.unset).toArray = ls at hl ⊢
  have X : zCx p l (zRm (d + 1) r) s m av.toArray meth c maxL (va_A cw s.heap.size) b cc y.cls (decide (y.name = "<init>")) tb d (zrun zobjs zcodes d) [] :=
    ⟨B.exec, B.bytes, hml, hown, fun w hw => hts w (List.mem_cons_of_mem _ hw), hFx, fun q hq => Or.inr hq, Nat.le_refl _, Nat.le_refl _, Or.inl rfl, fun z => (name_of_methodNamed B.named B.method).1.trans (of_decide_eq_true z), htb, hih⟩
  obtain ⟨-, hG⟩ := zitB (e := e) (below := below) (D := D) (cw0 := cw) X hfl B.notSynchronized B.returns rfl hPf h9 16 (S := (code, zargs 0 as, [], w)) hPf hrun
  have k := hG ⟨Nat.le_refl _, Nat.le_refl _⟩ cw tys s.heap [] ls (lv_args 0 av) [] ⟨hK, hP, hD0.self, va_S.rf, hW⟩ ⟨[], (List.append_nil _).symm⟩ hl (zargs_LR hV) trivial
  have k : W p l e (zRm (d + 1) r) s m av.toArray below meth c s.heap [] w.2.2.1 w.2.2.2 (vx_MQ below (zQ D b s.heap.size cw r) (zXC D b s.heap.size cw r) av.toArray s r.2.2.2.2.1 r.2.2.2.2.2 (va_A cw s.heap.size)) (F0 m (zpc code) ls []) := k
  rw [hpc] at k
  exact W.widen (Nat.zero_le _) (Nat.zero_le _) k
theorem zrun_s {d i : Nat} {q : Nat × List zE} (hq : zcodes[i]? = some q) (as : List zV) (w : zW) (h9 : (zrun zobjs zcodes (d + 1) i as w).1 ≠ 9) : zcs as ≤ q.1 ∧ zit (zstep zobjs (zrun zobjs zcodes d) (d + 1) q.2 []) 16 (q.2, zargs 0 as, [], w) = Sum.inr (zrun zobjs zcodes (d + 1) i as w) := by
  have e1 : zrun zobjs zcodes (d + 1) i as w = zselK zcodes i (fun p => zargsK as 0 (fun n ls => zb (Nat.ble n p.1) (zend (zit (zstep zobjs (zrun zobjs zcodes d) (d + 1) p.2 []) 16 (p.2, ls, [], w))) zR0)) := rfl
  rw [zselK_eq, hq] at e1
  have e1 : zrun zobjs zcodes (d + 1) i as w = zargsK as 0 (fun n ls => zb (Nat.ble n q.1) (zend (zit (zstep zobjs (zrun zobjs zcodes d) (d + 1) q.2 []) 16 (q.2, ls, [], w))) zR0) := e1
  rw [zargsK_eq, Nat.zero_add] at e1
  cases z : Nat.ble (zcs as) q.1
  · rw [z, zb_ff] at e1
    exact absurd (by rw [e1]; rfl) h9
  · rw [z, zb_tt] at e1
    refine ⟨zble z, ?_⟩
    cases z2 : zit (zstep zobjs (zrun zobjs zcodes d) (d + 1) q.2 []) 16 (q.2, zargs 0 as, [], w) with
    | inl S => rw [z2] at e1; exact absurd (by rw [e1]; rfl) h9
    | inr r =>
      rw [z2] at e1
      rw [e1]; rfl
theorem zrun_ok (hfl : l.stackTraces = false) (hck : ∀ i, i < zcodes.length → ∃ fs, zchkM i fs = true) : ∀ (d i : Nat) (as : List zV) (w : zW), (zrun zobjs zcodes d i as w).1 ≠ 9 → zMet l (zyOf (zword i)) (zword i) d as w (zrun zobjs zcodes d i as w) := by
  intro d
  induction d with
  | zero => exact fun i as w h9 => absurd rfl h9
  | succ d ih =>
    intro i as w h9
    have hi : i < zcodes.length := by
      refine Nat.lt_of_not_le fun hge => h9 ?_
      have e1 : zrun zobjs zcodes (d + 1) i as w = zselK zcodes i (fun p => zargsK as 0 (fun n ls => zb (Nat.ble n p.1) (zend (zit (zstep zobjs (zrun zobjs zcodes d) (d + 1) p.2 []) 16 (p.2, ls, [], w))) zR0)) := rfl
      rw [e1, zselK_eq, List.getElem?_eq_none hge]
      rfl
    obtain ⟨fs, hc⟩ := hck i hi
    unfold zchkM at hc
    split at hc
    · rename_i y bytes maxL ret q hw hq
      obtain ⟨h1, hc⟩ := zb_and hc
      obtain ⟨h2, hc⟩ := zb_and hc
      obtain ⟨h3, h4⟩ := zb_and hc
      obtain ⟨g1, g2⟩ := zrun_s hq as w h9
      rw [zbeq h2] at g1
      rw [hw]
      intro D b sz cw tys av hW hV
      refine vx_ofW (y := y) h1 rfl (fun p e s m args below meth c s₁ B hml htab hv => ?_)
      refine zbody (code := q.2) (as := as) (w := w) (tb := []) hfl ih ⟨fs, h4⟩ (zbeq h3) g1 h9 g2 hW hV B hml (List.eq_nil_iff_forall_not_mem.mpr fun x hx => htab x hx) hv
    · rename_i y bytes maxL ret hh q hw hq
      obtain ⟨h1, hc⟩ := zb_and hc
      obtain ⟨h2, hc⟩ := zb_and hc
      obtain ⟨h3, h4⟩ := zb_and hc
      obtain ⟨g1, g2⟩ := zrun_s hq as w h9
      rw [zbeq h2] at g1
      rw [hw]
      intro D b sz cw tys av hW hV
      refine vx_ofWH (y := y) h1 rfl (fun p e s m args below meth c s₁ B hml hv => ?_)
      have hts := atoms_spec (ws := Cond.codeWith y bytes maxL ret hh :: zGd) B.pre
      exact zbody (code := q.2) (as := as) (w := w) (tb := tableOf hh) hfl ih ⟨fs, h4⟩ (zbeq h3) g1 h9 g2 hW hV B hml (vx_table (x := y) B (hts _ List.mem_cons_self)) hv
    · cases hc
end ZM
