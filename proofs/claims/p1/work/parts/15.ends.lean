/-! ===== after a call, and a method's ends ===== -/
def zRow (own : String) (x : ExceptionTableEntry) (pc e1 t1 : Nat) : Prop := covers x pc = true ∧ x.catchType ≠ 0 ∧ Cond.classLink own x.catchType (zEx e1) ∈ zGd ∧ x.handlerPc = t1 ∧ e1 < 3
def zHd (own : String) (tb : List ExceptionTableEntry) (pc : Nat) (hs : List Nat) : Prop := (hs = [] ∧ tb = []) ∨ (∃ e1 t1 x suf, hs = [e1, t1] ∧ tb = x :: suf ∧ zRow own x pc e1 t1) ∨ (∃ e1 t1 e2 t2 x x2 suf, hs = [e1, t1, e2, t2] ∧ tb = x :: x2 :: suf ∧ zRow own x pc e1 t1 ∧ zRow own x2 pc e2 t2)
theorem zR_kind {r : zR} {a b c : zO} {o : zO} (h : zb (Nat.beq r.1 0) a (zb (Nat.beq r.1 1) b (zb (Nat.beq r.1 2) c zX)) = o) (ho : zlive o) : (r.1 = 0 ∧ a = o) ∨ (r.1 = 1 ∧ b = o) ∨ (r.1 = 2 ∧ c = o) := by
  cases q : Nat.beq r.1 0
  · rw [q, zb_ff] at h
    cases q1 : Nat.beq r.1 1
    · rw [q1, zb_ff] at h
      rw [← h] at ho
      obtain ⟨g1, -⟩ := zb_live ho
      rw [g1, zb_tt] at h
      exact Or.inr (Or.inr ⟨zbeq g1, h⟩)
    · rw [q1, zb_tt] at h
      exact Or.inr (Or.inl ⟨zbeq q1, h⟩)
  · rw [q, zb_tt] at h
    exact Or.inl ⟨zbeq q, h⟩
section ZE
variable {p : Program} {l : Launch} {e : Env} {R : Room} {s : State} {m : MethodId} {args : Array Value} {below : List Frame} {meth : Method} {c : Code} {Q : State → Prop} {nL : Nat} {D : va_G} {A : Nat → Prop} {b : Nat} {ad0 : List Nat} {cc : ByteArray} {pc : Nat} {o : Nat × Nat × Nat × List Nat} {rest : List zE} {ls0 : zA} {st0 : List zV} {w : zW} {S1 : zS}
theorem zext {ad0 : List Nat} {cw cw' : va_W} (h1 : ∃ ext, zad cw = ad0 ++ ext) (h2 : ∃ ext, zad cw' = zad cw ++ ext) : ∃ ext, zad cw' = ad0 ++ ext := by
  obtain ⟨e1, h1⟩ := h1
  obtain ⟨e2, h2⟩ := h2
  exact ⟨e1 ++ e2, by rw [h2, h1, List.append_assoc]⟩
theorem zs_inv (hx : p.tables.exec = Jvm.exec) (hb : c.code = cc) (hml : c.maxLocals = nL) {own : String} (hown : s.vm.findClass own = some m.cls) (hts : ∀ w ∈ zGd, w.before args s = true) (hF : zFx A s) (hA : ∀ q, s.heap.size ≤ q → A q)
    {kd rc n d a : Nat} {hs : List Nat} {y : MethodName} {word : Cond} {rec : Nat → List zV → zW → zR} {full : List zE} (hsite : zSite own cc pc kd rc n y word) (hRf : d + 1 ≤ R.frames) (hRl : 39 * (d + 1) + 10 ≤ R.locals)
    (hrec : ∀ (as : List zV) (w : zW), (rec a as w).1 ≠ 9 → zMet l y word d as w (rec a as w)) (hhd : zHd own c.exceptionTable.toList pc hs)
    (hn : zpc rest = pc + 3) (h : zoInvoke rest ls0 st0 w rec full a n (kd :: rc :: hs) = Sum.inl S1) (hcs : S1.2.2.2.2.2.1 ≤ R.cells ∧ S1.2.2.2.2.2.2 ≤ R.slots) (kk : zG p l e R s m args below meth c nL D A b ad0 Q S1) : zG p l e R s m args below meth c nL D A b ad0 Q ((pc, o) :: rest, ls0, st0, w) := by
  obtain ⟨xs, st1, rfl, hxs, h8, hrc, heq⟩ := zinv_spec (h := by rw [h]; trivial)
  rw [h] at heq
  have hr9 : (rec a xs.reverse (w.1, w.2.1, 0, 0)).1 ≠ 9 := by
    rcases zR_kind heq.symm trivial with ⟨z, -⟩ | ⟨z, -⟩ | ⟨z, -⟩ <;> rw [z] <;> decide
  have hM := hrec _ _ hr9
  generalize hR' : rec a xs.reverse (w.1, w.2.1, 0, 0) = r at heq hM hr9
  intro cw tys H locs ls lv st hH hext hl hL hV
  have hH : zHR D A b s w cw tys H locs := hH
  obtain ⟨vs, st2, rfl, hv1, hv2⟩ := zVR_app (xs := xs) (ys := st1) hV
  have hL : zLR (zad cw) b ls0 lv := hL
  have hst : (st2.map fun v => v.category).sum ≤ 8 := by rw [zVR_cs hv2]; exact h8
  have hfit : w.2.2.1 + r.2.2.2.2.1 ≤ R.cells ∧ w.2.2.2 + r.2.2.2.2.2 ≤ R.slots := by
    rcases zR_kind heq.symm trivial with ⟨-, z⟩ | ⟨-, z⟩ | ⟨-, z⟩
    · rw [← Sum.inl.inj z] at hcs; exact hcs
    · rw [← Sum.inl.inj z] at hcs; exact hcs
    · have hw : S1.2.2.2 = (r.2.2.1, r.2.2.2.1, w.2.2.1 + r.2.2.2.2.1, w.2.2.2 + r.2.2.2.2.2) := by
        rcases hhd with ⟨rfl, -⟩ | ⟨e1, t1, x, suf, rfl, -, -⟩ | ⟨e1, t1, e2, t2, x, x2, suf, rfl, -, -, -⟩
        · cases z
        · have z : zb (Nat.beq e1 r.2.1.1) (zgo full t1 ls0 [(9, 0, 0)] (r.2.2.1, r.2.2.2.1, w.2.2.1 + r.2.2.2.2.1, w.2.2.2 + r.2.2.2.2.2)) zX = Sum.inl S1 := z
          obtain ⟨-, z⟩ := zb_inl z
          obtain ⟨rfl, -⟩ := zgo_inl z
          rfl
        · have z : zb (Nat.beq e1 r.2.1.1) (zgo full t1 ls0 [(9, 0, 0)] (r.2.2.1, r.2.2.2.1, w.2.2.1 + r.2.2.2.2.1, w.2.2.2 + r.2.2.2.2.2)) (zb (Nat.beq e2 r.2.1.1) (zgo full t2 ls0 [(9, 0, 0)] (r.2.2.1, r.2.2.2.1, w.2.2.1 + r.2.2.2.2.1, w.2.2.2 + r.2.2.2.2.2)) zX) = Sum.inl S1 := z
          cases q : Nat.beq e1 r.2.1.1
          · rw [q, zb_ff] at z
            obtain ⟨-, z⟩ := zb_inl z
            obtain ⟨rfl, -⟩ := zgo_inl z
            rfl
          · rw [q, zb_tt] at z
            obtain ⟨rfl, -⟩ := zgo_inl z
            rfl
      rw [hw] at hcs
      exact hcs
  have hrun := zrunof (e := e) (below := below) (meth := meth) hx hb hml hown hts hF hA hsite hRf hRl hM hH hxs hrc hv1 hst hl.1 hfit
  obtain ⟨hK, hP, hDw, hS, hW⟩ := id hH
  show W p l e R s m args below meth c H locs w.2.2.1 w.2.2.2 Q (F0 m pc ls (vs ++ st2))
  refine zcall hrun hA hDw hS (fun q9 ce cw' tys' H1 locs1 hr2 hr3 hH1 hext1 hce hcv hcl => ?_) (fun vo cw' tys' H1 locs1 hvo hH1 hext1 => ?_)
  · rcases zR_kind heq.symm trivial with ⟨z, -⟩ | ⟨z, -⟩ | ⟨-, z⟩
    · rw [z] at hr2; cases hr2
    · rw [z] at hr2; cases hr2
    · have hgo : ∀ {t : Nat}, zgo full t ls0 [(9, 0, 0)] (r.2.2.1, r.2.2.2.1, w.2.2.1 + r.2.2.2.2.1, w.2.2.2 + r.2.2.2.2.2) = Sum.inl S1 → W p l e R s m args below meth c H1 locs1 (w.2.2.1 + r.2.2.2.2.1) (w.2.2.2 + r.2.2.2.2.2) Q (F0 m t ls [.ref q9]) := by
        intro t ht
        obtain ⟨hS1, g⟩ := zgo_inl ht
        subst hS1
        have k := kk cw' tys' H1 locs1 ls lv [.ref q9] hH1 (zext hext hext1) hl (by obtain ⟨x, hx1⟩ := hext1; rw [hx1]; exact zLR_mono hL) (zVc ⟨q9, rfl⟩ trivial)
        rw [← g]
        exact k
      rcases hhd with ⟨rfl, -⟩ | ⟨e1, t1, x, suf, rfl, htb, h1, h2, h3, h4, h5⟩ | ⟨e1, t1, e2, t2, x, x2, suf, rfl, htb, ⟨h1, h2, h3, h4, h5⟩, ⟨i1, i2, i3, i4, i5⟩⟩
      · cases z
      · have z : zb (Nat.beq e1 r.2.1.1) (zgo full t1 ls0 [(9, 0, 0)] (r.2.2.1, r.2.2.2.1, w.2.2.1 + r.2.2.2.2.1, w.2.2.2 + r.2.2.2.2.2)) zX = Sum.inl S1 := z
        obtain ⟨z1, z⟩ := zb_inl z
        have z1 : e1 = r.2.1.1 := zbeq z1
        rw [← z1] at hcl
        refine vx_catch hown [] x suf htb (fun z hz => by cases hz) h1 h2 (hts _ h3) (va_Nw.use rfl (hF.2.1 e1 h5)) hce hcv hcl ?_
        rw [h4]
        exact hgo z
      · have z : zb (Nat.beq e1 r.2.1.1) (zgo full t1 ls0 [(9, 0, 0)] (r.2.2.1, r.2.2.2.1, w.2.2.1 + r.2.2.2.2.1, w.2.2.2 + r.2.2.2.2.2)) (zb (Nat.beq e2 r.2.1.1) (zgo full t2 ls0 [(9, 0, 0)] (r.2.2.1, r.2.2.2.1, w.2.2.1 + r.2.2.2.2.1, w.2.2.2 + r.2.2.2.2.2)) zX) = Sum.inl S1 := z
        cases q : Nat.beq e1 r.2.1.1
        · rw [q, zb_ff] at z
          obtain ⟨z1, z⟩ := zb_inl z
          have z1 : e2 = r.2.1.1 := zbeq z1
          have hne : e2 ≠ e1 := fun q2 => by rw [← z1, q2, Nat.beq_refl] at q; cases q
          rw [← z1] at hcl
          refine vx_catch hown [x] x2 suf htb (fun z hz => ?_) i1 i2 (hts _ i3) (va_Nw.use rfl (hF.2.1 e2 i5)) hce hcv hcl ?_
          · rw [List.mem_singleton.mp hz]
            exact Or.inr ⟨h2, zEx e1, hts _ h3, hF.2.2.1 e2 e1 i5 h5 hne⟩
          · rw [i4]
            exact hgo z
        · rw [q, zb_tt] at z
          have z1 : e1 = r.2.1.1 := zbeq q
          rw [← z1] at hcl
          refine vx_catch hown [] x (x2 :: suf) htb (fun z hz => by cases hz) h1 h2 (hts _ h3) (va_Nw.use rfl (hF.2.1 e1 h5)) hce hcv hcl ?_
          rw [h4]
          exact hgo z
  · have hL1 : zLR (zad cw') b ls0 lv := by obtain ⟨x, hx1⟩ := hext1; rw [hx1]; exact zLR_mono hL
    have hV1 : zVR (zad cw') b st1 st2 := by obtain ⟨x, hx1⟩ := hext1; rw [hx1]; exact zVR_mono hv2
    rcases hvo with ⟨z0, rfl⟩ | ⟨z1, v, rfl, hv⟩
    · rcases zR_kind heq.symm trivial with ⟨z, z2⟩ | ⟨z, -⟩ | ⟨z, -⟩
      · obtain rfl := Sum.inl.inj z2
        have k := kk cw' tys' H1 locs1 ls lv st2 hH1 (zext hext hext1) hl hL1 hV1
        rw [← hn]
        exact k
      · rw [z0] at z; cases z
      · rw [z0] at z; cases z
    · rcases zR_kind heq.symm trivial with ⟨z, -⟩ | ⟨z, z2⟩ | ⟨z, -⟩
      · rw [z1] at z; cases z
      · obtain rfl := Sum.inl.inj z2
        have k := kk cw' tys' H1 locs1 ls lv (v :: st2) hH1 (zext hext hext1) hl hL1 (zVc hv hV1)
        rw [← hn]
        exact k
      · rw [z1] at z; cases z
end ZE
