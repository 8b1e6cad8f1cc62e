/-! ===== instructions, part four: stores into arrays, lengths, new things, the library's ===== -/
section ZI
variable {p : Program} {l : Launch} {e : Env} {R : Room} {s : State} {m : MethodId} {args : Array Value} {below : List Frame} {meth : Method} {c : Code} {Q : State → Prop} {nL : Nat} {D : va_G} {A : Nat → Prop} {b : Nat} {ad0 : List Nat} {cc : ByteArray} {pc : Nat} {o : Nat × Nat × Nat × List Nat} {rest : List zE} {ls0 : zA} {st0 : List zV} {w : zW} {S1 : zS}
theorem zastore_inl {B : Nat} (h : zoAstore rest ls0 st0 w B = Sum.inl S1) :
    ∃ (u : zV) (n n2 x x2 : Nat) (st1 : List zV), st0 = u :: (0, n, n2) :: (4, x, x2) :: st1 ∧ zkind B (znth w.2.1 (w.1 - (x + 1))).1 = true ∧ n < (znth w.2.1 (w.1 - (x + 1))).2.1 ∧ zelem (znth w.2.1 (w.1 - (x + 1))).1 u = true ∧
      ((znth w.2.1 (w.1 - (x + 1))).1 = 105 → u.1 = 4 ∧ (znth w.2.1 (w.1 - (u.2.1 + 1))).1 = 6) ∧
      (w.2.1[w.1 - (x + 1)]? = some (znth w.2.1 (w.1 - (x + 1))) → ∃ as' : zA, (∀ j, zget as' j (znth w.2.1 (w.1 - (x + 1))).2.2.1 = if j = n then u else zget (znth w.2.1 (w.1 - (x + 1))).2.2.2 j (znth w.2.1 (w.1 - (x + 1))).2.2.1) ∧
        S1 = (rest, ls0, st1, (w.1, w.2.1.set (w.1 - (x + 1)) ((znth w.2.1 (w.1 - (x + 1))).1, (znth w.2.1 (w.1 - (x + 1))).2.1, (znth w.2.1 (w.1 - (x + 1))).2.2.1, as'), w.2.2.1, w.2.2.2))) := by
  cases st0 with
  | nil => exact (zX_inl h).elim
  | cons u st1 =>
    cases st1 with
    | nil => exact (zX_inl h).elim
    | cons i0 st1 =>
      cases st1 with
      | nil => exact (zX_inl h).elim
      | cons v0 st1 =>
        unfold zoAstore at h
        simp only [] at h
        obtain ⟨t1, h1⟩ := zb_inl h
        obtain ⟨t2, h2⟩ := zcellK_inl h1
        obtain ⟨t3, h3⟩ := zb_inl h2
        obtain ⟨t4, h4⟩ := zb_inl h3
        obtain ⟨t5, h5⟩ := zb_inl h4
        obtain ⟨it, n, n2⟩ := i0
        obtain ⟨vt, x, x2⟩ := v0
        have e1 : it = 0 := zbeq t1
        have e2 : vt = 4 := t2
        subst e1
        subst e2
        have h6 : ∀ {k : zO}, (zb (Nat.beq (znth w.2.1 (w.1 - (x + 1))).1 105) (zisState w u k) k = Sum.inl S1) → ((znth w.2.1 (w.1 - (x + 1))).1 = 105 → u.1 = 4 ∧ (znth w.2.1 (w.1 - (u.2.1 + 1))).1 = 6) ∧ k = Sum.inl S1 := by
          intro k hk
          cases q : Nat.beq (znth w.2.1 (w.1 - (x + 1))).1 105
          · rw [q, zb_ff] at hk
            exact ⟨fun z => absurd (show Nat.beq (znth w.2.1 (w.1 - (x + 1))).1 105 = true by rw [z]; rfl) (by rw [q]; decide), hk⟩
          · rw [q, zb_tt] at hk
            obtain ⟨g1, g2⟩ := zcellK_inl hk
            obtain ⟨g3, g4⟩ := zb_inl g2
            exact ⟨fun _ => ⟨g1, zbeq g3⟩, g4⟩
        obtain ⟨h7, h8⟩ := h6 h5
        refine ⟨u, n, n2, x, x2, st1, rfl, t3, zble t4, t5, h7, fun hg => ?_⟩
        rw [zfV_eq] at h8
        cases q : zeq (zget (znth w.2.1 (w.1 - (x + 1))).2.2.2 n (znth w.2.1 (w.1 - (x + 1))).2.2.1) u
        · have h9 := h8
          simp only [] at h9
          rw [q, zb_ff, zsetK_eq, zputK_eq] at h9
          exact ⟨_, fun j => zget_set n j u _ _, (Sum.inl.inj h9).symm⟩
        · have h9 := h8
          simp only [] at h9
          rw [q, zb_tt] at h9
          refine ⟨(znth w.2.1 (w.1 - (x + 1))).2.2.2, fun j => ?_, ?_⟩
          · by_cases hj : j = n
            · subst hj
              rw [if_pos rfl]
              exact zeq_spec q
            · rw [if_neg hj]
          · have hs : w.2.1.set (w.1 - (x + 1)) (znth w.2.1 (w.1 - (x + 1))) = w.2.1 := zset_self hg
            have h10 := (Sum.inl.inj h9).symm
            rw [h10]
            show (rest, ls0, st1, w) = (rest, ls0, st1, (w.1, w.2.1.set (w.1 - (x + 1)) (znth w.2.1 (w.1 - (x + 1))), w.2.2.1, w.2.2.2))
            rw [hs]
theorem zel_set {α : Type} {ad : List Nat} {b n i : Nat} {d u : zV} {as as' : zA} (mk : α → Value) {f f' : Nat → α} {x : α} (hg : ∀ j, zget as' j d = if j = i then u else zget as j d) (hf : ∀ j, f' j = if j = i then x else f j) (h3 : ∀ k, k < n → zRV ad b (zget as k d) (mk (f k))) (hu : zRV ad b u (mk x)) : ∀ k, k < n → zRV ad b (zget as' k d) (mk (f' k)) := by
  intro k hk
  rw [hg, hf]
  by_cases hj : k = i
  · rw [if_pos hj, if_pos hj]; exact hu
  · rw [if_neg hj, if_neg hj]; exact h3 k hk
theorem zelem_100 {u : zV} (h : zelem 100 u = true) : zis 0 u = true := h
theorem zelem_101 {u : zV} (h : zelem 101 u = true) : zsmall 6 u = true := h
theorem zelem_102 {u : zV} (h : zelem 102 u = true) : zsmall 5 u = true := h
theorem zelem_103 {u : zV} (h : zelem 103 u = true) : zis 1 u = true := h
theorem zelem_104 {u : zV} (h : zelem 104 u = true) : zis 3 u = true := h
theorem zs_iastore (hx : p.tables.exec = Jvm.exec) (hb : c.code = cc) (hdg : decode cc pc = .ok (.iastore, 1)) (hn : zpc rest = pc + 1) (h : zoAstore rest ls0 st0 w 100 = Sum.inl S1) (kk : zG p l e R s m args below meth c nL D A b ad0 Q S1) : zG p l e R s m args below meth c nL D A b ad0 Q ((pc, o) :: rest, ls0, st0, w) := by
  obtain ⟨u, i1, i2, v1, v2, st1, rfl, t3, t4, t5, -, hS1⟩ := zastore_inl h
  intro cw tys H locs ls lv st hH hext hl hL hV
  have hH : zHR D A b s w cw tys H locs := hH
  obtain ⟨vu, st4, rfl, hru, hV2⟩ := zVR_cons hV
  obtain ⟨vi, st3, rfl, hri, hV0⟩ := zVR_cons hV2
  obtain ⟨v, st2, rfl, hr, hV1⟩ := zVR_cons hV0
  have hri := zRV_0 hri
  subst hri
  obtain ⟨hK, hP, hDw, hS, hW⟩ := id hH
  obtain ⟨q0, e0, rfl, g1, g2, g3, g4⟩ := zcell_at hW hr
  have k1 := zkind_1 (by decide) t3
  obtain ⟨as', a1, rfl⟩ := hS1 g3
  obtain ⟨z0, cA, f, r1, r2, r3⟩ := zER_int g4 (Or.inl k1)
  subst r1
  have r2 : (cA, FieldType.int) ∈ tys := by
    rcases r2 with ⟨-, r2⟩ | ⟨r0, -⟩ | ⟨r0, -⟩
    · exact r2
    · rw [k1] at r0; cases r0
    · rw [k1] at r0; cases r0
  rw [k1] at t5
  obtain ⟨x, rfl, -⟩ := zRV_int (zelem_100 t5) hru
  obtain ⟨t0, ht0⟩ := List.getElem?_of_mem r2
  refine va_iast hx hb hK hP hDw hS v1 t0 g1 ht0 (vp_in_nI t4 (by omega)) hdg (fun H1 locs1 hP1 hD1 hS1' => ?_)
  refine zG_set kk hK hP1 hD1 hS1' hW g1 ?_ hext hl hL hV1 hn
  refine Or.inr (Or.inl ⟨z0, cA, _, rfl, Or.inl ⟨k1, r2⟩, ?_⟩)
  rw [nI_clamp (by omega)]
  exact zel_set Value.int a1 (fun j => rfl) r3 hru
theorem zs_bastore (hx : p.tables.exec = Jvm.exec) (hb : c.code = cc) (hdg : decode cc pc = .ok (.bastore, 1)) (hn : zpc rest = pc + 1) (h : zoAstore rest ls0 st0 w 101 = Sum.inl S1) (kk : zG p l e R s m args below meth c nL D A b ad0 Q S1) : zG p l e R s m args below meth c nL D A b ad0 Q ((pc, o) :: rest, ls0, st0, w) := by
  obtain ⟨u, i1, i2, v1, v2, st1, rfl, t3, t4, t5, -, hS1⟩ := zastore_inl h
  intro cw tys H locs ls lv st hH hext hl hL hV
  have hH : zHR D A b s w cw tys H locs := hH
  obtain ⟨vu, st4, rfl, hru, hV2⟩ := zVR_cons hV
  obtain ⟨vi, st3, rfl, hri, hV0⟩ := zVR_cons hV2
  obtain ⟨v, st2, rfl, hr, hV1⟩ := zVR_cons hV0
  have hri := zRV_0 hri
  subst hri
  obtain ⟨hK, hP, hDw, hS, hW⟩ := id hH
  obtain ⟨q0, e0, rfl, g1, g2, g3, g4⟩ := zcell_at hW hr
  obtain ⟨as', a1, rfl⟩ := hS1 g3
  have k1 : (znth w.2.1 (w.1 - (v1 + 1))).1 = 101 ∨ (znth w.2.1 (w.1 - (v1 + 1))).1 = 102 := by
    rcases zkind_spec t3 with k1 | ⟨-, k1⟩
    · exact Or.inl k1
    · exact Or.inr k1
  obtain ⟨z0, cA, f, r1, r2, r3⟩ := zER_int g4 (Or.inr k1)
  subst r1
  rcases r2 with ⟨r0, -⟩ | ⟨r0, r2⟩ | ⟨r0, r2⟩
  · omega
  · rw [r0] at t5
    obtain ⟨x, rfl, hx8⟩ := zsmall6_spec (zelem_101 t5) hru
    obtain ⟨t0, ht0⟩ := List.getElem?_of_mem r2
    refine va_bast hx hb hK hP hDw hS v1 t0 g1 ht0 (vp_in_nI t4 (by omega)) hdg (fun H1 locs1 hP1 hD1 hS1' => ?_)
    refine zG_set kk hK hP1 hD1 hS1' hW g1 ?_ hext hl hL hV1 hn
    refine Or.inr (Or.inl ⟨z0, cA, _, rfl, Or.inr (Or.inl ⟨r0, r2⟩), ?_⟩)
    rw [nI_clamp (by omega), show vp_nar .byte x = x from hx8]
    exact zel_set Value.int a1 (fun j => rfl) r3 hru
  · rw [r0] at t5
    obtain ⟨-, hx8⟩ := zsmall_spec (zelem_102 t5) hru
    obtain ⟨t0, ht0⟩ := List.getElem?_of_mem r2
    have hbo : ∃ x : Int32, vu = .int x ∧ vp_nar .boolean x = x := by
      rcases hx8 with rfl | rfl
      · exact ⟨0, rfl, by decide⟩
      · exact ⟨1, rfl, by decide⟩
    obtain ⟨x, rfl, hxb⟩ := hbo
    refine va_zast hx hb hK hP hDw hS v1 t0 g1 ht0 (vp_in_nI t4 (by omega)) hdg (fun H1 locs1 hP1 hD1 hS1' => ?_)
    refine zG_set kk hK hP1 hD1 hS1' hW g1 ?_ hext hl hL hV1 hn
    refine Or.inr (Or.inl ⟨z0, cA, _, rfl, Or.inr (Or.inr ⟨r0, r2⟩), ?_⟩)
    rw [nI_clamp (by omega), hxb]
    exact zel_set Value.int a1 (fun j => rfl) r3 hru
theorem zs_lastore (hx : p.tables.exec = Jvm.exec) (hb : c.code = cc) (hdg : decode cc pc = .ok (.lastore, 1)) (hn : zpc rest = pc + 1) (h : zoAstore rest ls0 st0 w 103 = Sum.inl S1) (kk : zG p l e R s m args below meth c nL D A b ad0 Q S1) : zG p l e R s m args below meth c nL D A b ad0 Q ((pc, o) :: rest, ls0, st0, w) := by
  obtain ⟨u, i1, i2, v1, v2, st1, rfl, t3, t4, t5, -, hS1⟩ := zastore_inl h
  intro cw tys H locs ls lv st hH hext hl hL hV
  have hH : zHR D A b s w cw tys H locs := hH
  obtain ⟨vu, st4, rfl, hru, hV2⟩ := zVR_cons hV
  obtain ⟨vi, st3, rfl, hri, hV0⟩ := zVR_cons hV2
  obtain ⟨v, st2, rfl, hr, hV1⟩ := zVR_cons hV0
  have hri := zRV_0 hri
  subst hri
  obtain ⟨hK, hP, hDw, hS, hW⟩ := id hH
  obtain ⟨q0, e0, rfl, g1, g2, g3, g4⟩ := zcell_at hW hr
  have k1 := zkind_1 (by decide) t3
  obtain ⟨as', a1, rfl⟩ := hS1 g3
  obtain ⟨z0, cA, f, r1, r2, r3⟩ := zER_long g4 k1
  subst r1
  rw [k1] at t5
  obtain ⟨x, rfl, -⟩ := zRV_long (zelem_103 t5) hru
  obtain ⟨t0, ht0⟩ := List.getElem?_of_mem r2
  refine va_last hx hb hK hP hDw hS v1 t0 g1 ht0 (vp_in_nI t4 (by omega)) hdg (fun H1 locs1 hP1 hD1 hS1' => ?_)
  refine zG_set kk hK hP1 hD1 hS1' hW g1 ?_ hext hl hL hV1 hn
  refine Or.inr (Or.inr (Or.inl ⟨z0, k1, cA, _, rfl, r2, ?_⟩))
  rw [nI_clamp (by omega)]
  exact zel_set Value.long a1 (fun j => rfl) r3 hru
theorem zs_dastore (hx : p.tables.exec = Jvm.exec) (hb : c.code = cc) (hdg : decode cc pc = .ok (.dastore, 1)) (hn : zpc rest = pc + 1) (h : zoAstore rest ls0 st0 w 104 = Sum.inl S1) (kk : zG p l e R s m args below meth c nL D A b ad0 Q S1) : zG p l e R s m args below meth c nL D A b ad0 Q ((pc, o) :: rest, ls0, st0, w) := by
  obtain ⟨u, i1, i2, v1, v2, st1, rfl, t3, t4, t5, -, hS1⟩ := zastore_inl h
  intro cw tys H locs ls lv st hH hext hl hL hV
  have hH : zHR D A b s w cw tys H locs := hH
  obtain ⟨vu, st4, rfl, hru, hV2⟩ := zVR_cons hV
  obtain ⟨vi, st3, rfl, hri, hV0⟩ := zVR_cons hV2
  obtain ⟨v, st2, rfl, hr, hV1⟩ := zVR_cons hV0
  have hri := zRV_0 hri
  subst hri
  obtain ⟨hK, hP, hDw, hS, hW⟩ := id hH
  obtain ⟨q0, e0, rfl, g1, g2, g3, g4⟩ := zcell_at hW hr
  have k1 := zkind_1 (by decide) t3
  obtain ⟨as', a1, rfl⟩ := hS1 g3
  obtain ⟨z0, cA, f, r1, r2, r3⟩ := zER_double g4 k1
  subst r1
  rw [k1] at t5
  obtain ⟨x, rfl⟩ := zRV_double (zelem_104 t5) hru
  obtain ⟨t0, ht0⟩ := List.getElem?_of_mem r2
  refine va_dast hx hb hK hP hDw hS v1 t0 g1 ht0 (vp_in_nI t4 (by omega)) hdg (fun H1 locs1 hP1 hD1 hS1' => ?_)
  refine zG_set kk hK hP1 hD1 hS1' hW g1 ?_ hext hl hL hV1 hn
  refine Or.inr (Or.inr (Or.inr (Or.inl ⟨z0, k1, cA, _, rfl, r2, ?_⟩)))
  rw [nI_clamp (by omega)]
  exact zel_set Value.double a1 (fun j => rfl) r3 hru
theorem zs_aastore (hx : p.tables.exec = Jvm.exec) (hb : c.code = cc) {r : vw_C} (hcl : vwCl[6]? = some r) (hr6 : r.1 = RX6) (hdg : decode cc pc = .ok (.aastore, 1)) (hn : zpc rest = pc + 1) (h : zoAstore rest ls0 st0 w 105 = Sum.inl S1) (kk : zG p l e R s m args below meth c nL D A b ad0 Q S1) : zG p l e R s m args below meth c nL D A b ad0 Q ((pc, o) :: rest, ls0, st0, w) := by
  obtain ⟨u, i1, i2, v1, v2, st1, rfl, t3, t4, t5, t6, hS1⟩ := zastore_inl h
  intro cw tys H locs ls lv st hH hext hl hL hV
  have hH : zHR D A b s w cw tys H locs := hH
  obtain ⟨vu, st4, rfl, hru, hV2⟩ := zVR_cons hV
  obtain ⟨vi, st3, rfl, hri, hV0⟩ := zVR_cons hV2
  obtain ⟨v, st2, rfl, hr, hV1⟩ := zVR_cons hV0
  have hri := zRV_0 hri
  subst hri
  obtain ⟨hK, hP, hDw, hS, hW⟩ := id hH
  obtain ⟨q0, e0, rfl, g1, g2, g3, g4⟩ := zcell_at hW hr
  have k1 := zkind_1 (by decide) t3
  obtain ⟨as', a1, rfl⟩ := hS1 g3
  obtain ⟨z0, cA, f, r1, r2, r3⟩ := zER_refs g4 k1
  subst r1
  obtain ⟨u1, u2⟩ := t6 k1
  obtain ⟨ut, ux, uy⟩ := u
  have u1 : ut = 4 := u1
  subst u1
  have hru' := hru
  obtain ⟨q1, e1, rfl, j1, j2, j3, j4⟩ := zcell_at hW hru
  have u2 : (znth w.2.1 (w.1 - (ux + 1))).1 = 6 := u2
  obtain ⟨fs, q, y1, y2, y3, y4, y5⟩ := zER_obj j4 (by rw [u2]; decide)
  rw [u2] at y1 y2
  obtain rfl := Option.some.inj (hcl.symm.trans y2)
  subst y1
  obtain ⟨t0, ht0⟩ := List.getElem?_of_mem r2
  refine va_astq hx hb hK hP hDw hS v1 t0 ux 6 g1 (by rw [hr6]; exact ht0) j1 hcl (vp_in_nI t4 (by omega)) hdg (fun H1 locs1 hP1 hD1 hS1' => ?_)
  refine zG_set kk hK hP1 hD1 hS1' hW g1 ?_ hext hl hL hV1 hn
  refine Or.inr (Or.inr (Or.inr (Or.inr ⟨z0, k1, cA, _, rfl, r2, ?_⟩)))
  rw [nI_clamp (by omega)]
  exact zel_set va_rf a1 (fun j => rfl) r3 hru'
theorem zs_alen (hx : p.tables.exec = Jvm.exec) (hb : c.code = cc) {scr : List zV} (hsc : zSc A b s scr) (hdg : decode cc pc = .ok (.arraylength, 1)) (hn : zpc rest = pc + 1) (h : zoLen rest ls0 st0 w scr = Sum.inl S1) (kk : zG p l e R s m args below meth c nL D A b ad0 Q S1) : zG p l e R s m args below meth c nL D A b ad0 Q ((pc, o) :: rest, ls0, st0, w) := by
  cases st0 with
  | nil => exact (zX_inl h).elim
  | cons v0 st1 =>
    obtain ⟨vt, v1, v2⟩ := v0
    replace h : zb (Nat.beq vt 8) (zfN scr.length (fun n => zb (Nat.beq n 0) zX (Sum.inl (rest, ls0, (0, n, 0) :: st1, w)))) (zcellK w (vt, v1, v2) (fun _ kd sz _ _ => zb (Nat.ble 100 kd) (zfN sz (fun n => Sum.inl (rest, ls0, (0, n, 0) :: st1, w))) zX)) = Sum.inl S1 := h
    intro cw tys H locs ls lv st hH hext hl hL hV
    have hH : zHR D A b s w cw tys H locs := hH
    obtain ⟨v, st2, rfl, hr, hV1⟩ := zVR_cons hV
    obtain ⟨hK, hP, hDw, hS, hW⟩ := id hH
    show W p l e R s m args below meth c H locs w.2.2.1 w.2.2.2 Q (F0 m pc ls _)
    cases q : Nat.beq vt 8
    · rw [q, zb_ff] at h
      obtain ⟨t2, h2⟩ := zcellK_inl h
      obtain ⟨t3, h3⟩ := zb_inl h2
      rw [zfN_eq] at h3
      obtain rfl := Sum.inl.inj h3
      have t2 : vt = 4 := t2
      subst t2
      obtain ⟨q0, e0, rfl, g1, g2, g3, g4⟩ := zcell_at hW hr
      have t3 : 100 ≤ (znth w.2.1 (w.1 - (v1 + 1))).1 := zble t3
      have fin : ∀ (cA : ClassId) (f) (ty : FieldType), e0 = .inl (cA, (znth w.2.1 (w.1 - (v1 + 1))).2.1, f) → (cA, ty) ∈ tys → W p l e R s m args below meth c H locs w.2.2.1 w.2.2.2 Q (F0 m pc ls (.ref q0 :: st2)) := by
        intro cA f ty he hm
        subst he
        obtain ⟨t0, ht0⟩ := List.getElem?_of_mem hm
        exact va_alen hx hb hK hP v1 t0 g1 ht0 rfl hdg (zG_st kk hH hext hl hL (zVc (show zRV (zad cw) b (0, _, 0) _ from rfl) hV1) hn)
      rcases g4 with ⟨h0, -⟩ | ⟨-, cA, f, h1, h2, -⟩ | ⟨-, -, cA, f, h1, h2, -⟩ | ⟨-, -, cA, f, h1, h2, -⟩ | ⟨-, -, cA, f, h1, h2, -⟩
      · omega
      · rcases h2 with ⟨-, h2⟩ | ⟨-, h2⟩ | ⟨-, h2⟩ <;> exact fin _ _ _ h1 h2
      · exact fin _ _ _ h1 h2
      · exact fin _ _ _ h1 h2
      · exact fin _ _ _ h1 h2
    · rw [q, zb_tt, zfN_eq] at h
      have q := zbeq q
      subst q
      obtain ⟨t1, h1⟩ := zb_inr h
      obtain rfl := Sum.inl.inj h1
      have hr : v = .ref b := hr
      subst hr
      rcases hsc with rfl | ⟨xs, s1, s2, s3, s4, s5⟩
      · cases t1
      · exact va_slen hx hb s1 s2 s3 hS hdg (zG_st kk hH hext hl hL (zVc (show zRV (zad cw) b (0, _, 0) _ from rfl) hV1) hn)
theorem zs_new (hx : p.tables.exec = Jvm.exec) (hb : c.code = cc) {objs : List (Nat × zA)} {own C : String} {T : u_T} {N ci index : Nat} {fs : zA} {Ts : List Cond} (hts : ∀ w ∈ Ts, w.before args s = true) (hin : ∀ w ∈ u_ws C T N, w ∈ Ts) (ty : Nat → FieldType) (hty : ∀ k, k < N → parseFieldDescriptor (T k).2.2.1 = some (ty k)) (hown : s.vm.findClass own = some m.cls) (hcl : (Cond.classLink own index C).before args s = true) (hinst : (Cond.instantiable C N).before args s = true) (hini : (Cond.initialized C).before args s = true)
    (hc : vwCl[ci]? = some (C, T, N)) (hci : ci < 100) (hob : objs[ci]? = some (N, fs)) (hdf : ∀ (ad : List Nat) (b k : Nat), k < N → zRV ad b (zget fs k (5, 0, 0)) (defaultValue (ty k))) (hA : ∀ q, s.heap.size ≤ q → A q)
    (hdg : decode cc pc = .ok (.new index, 3)) (hn : zpc rest = pc + 3) (h : zoNew rest ls0 st0 w objs ci = Sum.inl S1) (hcs : S1.2.2.2.2.2.1 ≤ R.cells ∧ S1.2.2.2.2.2.2 ≤ R.slots) (kk : zG p l e R s m args below meth c nL D A b ad0 Q S1) : zG p l e R s m args below meth c nL D A b ad0 Q ((pc, o) :: rest, ls0, st0, w) := by
  unfold zoNew at h
  rw [zobjK_eq, hob] at h
  simp only [Option.map_some, Option.getD_some, zfN_eq] at h
  obtain rfl := Sum.inl.inj h
  intro cw tys H locs ls lv st hH hext hl hL hV
  obtain ⟨hK, hP, hDw, hS, hW⟩ := hH
  have hlen : ((List.range N).map (fun j => defaultValue (ty j))).length = N := by rw [List.length_map, List.length_range]
  have hat : ∀ j, j < N → ((List.range N).map (fun j => defaultValue (ty j)))[j]? = some (defaultValue (ty j)) := fun j hj => by rw [List.getElem?_map, List.getElem?_range hj]; rfl
  refine va_new hx hb hts hin ty hty hown hcl hinst hini hK hP hDw hS hA hc (fs := (List.range N).map (fun j => defaultValue (ty j))) (fun j hj => ?_) hcs.1 hcs.2 hdg (fun q H1 hP1 hD1 hS1 => ?_)
  · show _ = List.getD _ _ _
    rw [List.getD_eq_getElem?_getD, hat j hj]; rfl
  · exact zG_push kk (fun t z => z) hK hP1 hD1 hS1 hW (Or.inl ⟨hci, _, (C, T, N), rfl, hc, rfl, hlen, fun k hk => ⟨_, hat k hk, hdf _ _ k hk⟩⟩) hext hl hL hV hn
theorem znewarr_inl {a : Nat} (h : zoNewarr rest ls0 st0 w a = Sum.inl S1) : ∃ (n n2 : Nat) (st1 : List zV), st0 = (0, n, n2) :: st1 ∧ n ≤ 60000 ∧ S1 = (rest, ls0, (4, w.1, 0) :: st1, (w.1 + 1, (a, n, zdf a, []) :: w.2.1, w.2.2.1 + 1, w.2.2.2 + n)) := by
  cases st0 with
  | nil => exact (zX_inl h).elim
  | cons v0 st1 =>
    obtain ⟨vt, n, n2⟩ := v0
    unfold zoNewarr at h
    simp only [] at h
    obtain ⟨t1, h1⟩ := zb_inl h
    obtain ⟨t2, h2⟩ := zb_inl h1
    rw [zfV_eq, zfN_eq, zfN_eq, zfN_eq] at h2
    have e1 : vt = 0 := zbeq t1
    subst e1
    exact ⟨n, n2, st1, rfl, zble t2, (Sum.inl.inj h2).symm⟩
theorem znI_nn {n : Nat} (h : n ≤ 60000) : ¬ nI n < 0 := by
  intro z
  have h1 := Int32.lt_iff_toInt_lt.mp z
  rw [nI_toInt (by omega)] at h1
  have h2 : ((0 : Int32).toInt) = 0 := rfl
  omega
theorem zmem_app {α : Type} {l : List α} {x : α} : ∀ t ∈ l, t ∈ l ++ [x] := fun _ z => List.mem_append_left _ z
theorem zmem_last {α : Type} {l : List α} {x : α} : x ∈ l ++ [x] := List.mem_append_right _ List.mem_cons_self
theorem zs_newI (hx : p.tables.exec = Jvm.exec) (hb : c.code = cc) (harr : (Cond.arrayClass (newarray.typeOf .int)).before args s = true) (hA : ∀ q, s.heap.size ≤ q → A q) (hdg : decode cc pc = .ok (.newarray .int, 2)) (hn : zpc rest = pc + 2) (h : zoNewarr rest ls0 st0 w 100 = Sum.inl S1) (hcs : S1.2.2.2.2.2.1 ≤ R.cells ∧ S1.2.2.2.2.2.2 ≤ R.slots) (kk : zG p l e R s m args below meth c nL D A b ad0 Q S1) : zG p l e R s m args below meth c nL D A b ad0 Q ((pc, o) :: rest, ls0, st0, w) := by
  obtain ⟨n, n2, st1, rfl, h60, rfl⟩ := znewarr_inl h
  intro cw tys H locs ls lv st hH hext hl hL hV
  obtain ⟨hK, hP, hDw, hS, hW⟩ := hH
  obtain ⟨v, st2, rfl, hr, hV1⟩ := zVR_cons hV
  have hr := zRV_0 hr
  subst hr
  refine va_newa (atype := .int) (ty := .int) (N' := n) (a0 := (n, .inl (fun _ => 0))) hx hb harr rfl hK hP hDw hS hA (fun cA => rfl) (znI_nn h60) (nI_clamp (by omega)) (by show n * 4 ≤ _; omega) hcs.1 hcs.2 hdg (fun q cA H1 hK1 hP1 hD1 hS1 => ?_)
  exact zG_push kk zmem_app hK1 hP1 hD1 hS1 hW (Or.inr (Or.inl ⟨h60, cA, fun _ => 0, rfl, Or.inl ⟨rfl, zmem_last⟩, fun k _ => rfl⟩)) hext hl hL hV1 hn
theorem zs_newB (hx : p.tables.exec = Jvm.exec) (hb : c.code = cc) (harr : (Cond.arrayClass (newarray.typeOf .byte)).before args s = true) (hA : ∀ q, s.heap.size ≤ q → A q) (hdg : decode cc pc = .ok (.newarray .byte, 2)) (hn : zpc rest = pc + 2) (h : zoNewarr rest ls0 st0 w 101 = Sum.inl S1) (hcs : S1.2.2.2.2.2.1 ≤ R.cells ∧ S1.2.2.2.2.2.2 ≤ R.slots) (kk : zG p l e R s m args below meth c nL D A b ad0 Q S1) : zG p l e R s m args below meth c nL D A b ad0 Q ((pc, o) :: rest, ls0, st0, w) := by
  obtain ⟨n, n2, st1, rfl, h60, rfl⟩ := znewarr_inl h
  intro cw tys H locs ls lv st hH hext hl hL hV
  obtain ⟨hK, hP, hDw, hS, hW⟩ := hH
  obtain ⟨v, st2, rfl, hr, hV1⟩ := zVR_cons hV
  have hr := zRV_0 hr
  subst hr
  refine va_newa (atype := .byte) (ty := .byte) (N' := n) (a0 := (n, .inl (fun _ => 0))) hx hb harr rfl hK hP hDw hS hA (fun cA => rfl) (znI_nn h60) (nI_clamp (by omega)) (by show n * 1 ≤ _; omega) hcs.1 hcs.2 hdg (fun q cA H1 hK1 hP1 hD1 hS1 => ?_)
  exact zG_push kk zmem_app hK1 hP1 hD1 hS1 hW (Or.inr (Or.inl ⟨h60, cA, fun _ => 0, rfl, Or.inr (Or.inl ⟨rfl, zmem_last⟩), fun k _ => rfl⟩)) hext hl hL hV1 hn
theorem zs_newZ (hx : p.tables.exec = Jvm.exec) (hb : c.code = cc) (harr : (Cond.arrayClass (newarray.typeOf .boolean)).before args s = true) (hA : ∀ q, s.heap.size ≤ q → A q) (hdg : decode cc pc = .ok (.newarray .boolean, 2)) (hn : zpc rest = pc + 2) (h : zoNewarr rest ls0 st0 w 102 = Sum.inl S1) (hcs : S1.2.2.2.2.2.1 ≤ R.cells ∧ S1.2.2.2.2.2.2 ≤ R.slots) (kk : zG p l e R s m args below meth c nL D A b ad0 Q S1) : zG p l e R s m args below meth c nL D A b ad0 Q ((pc, o) :: rest, ls0, st0, w) := by
  obtain ⟨n, n2, st1, rfl, h60, rfl⟩ := znewarr_inl h
  intro cw tys H locs ls lv st hH hext hl hL hV
  obtain ⟨hK, hP, hDw, hS, hW⟩ := hH
  obtain ⟨v, st2, rfl, hr, hV1⟩ := zVR_cons hV
  have hr := zRV_0 hr
  subst hr
  refine va_newa (atype := .boolean) (ty := .boolean) (N' := n) (a0 := (n, .inl (fun _ => 0))) hx hb harr rfl hK hP hDw hS hA (fun cA => rfl) (znI_nn h60) (nI_clamp (by omega)) (by show n * 1 ≤ _; omega) hcs.1 hcs.2 hdg (fun q cA H1 hK1 hP1 hD1 hS1 => ?_)
  exact zG_push kk zmem_app hK1 hP1 hD1 hS1 hW (Or.inr (Or.inl ⟨h60, cA, fun _ => 0, rfl, Or.inr (Or.inr ⟨rfl, zmem_last⟩), fun k _ => rfl⟩)) hext hl hL hV1 hn
theorem zs_newJ (hx : p.tables.exec = Jvm.exec) (hb : c.code = cc) (harr : (Cond.arrayClass (newarray.typeOf .long)).before args s = true) (hA : ∀ q, s.heap.size ≤ q → A q) (hdg : decode cc pc = .ok (.newarray .long, 2)) (hn : zpc rest = pc + 2) (h : zoNewarr rest ls0 st0 w 103 = Sum.inl S1) (hcs : S1.2.2.2.2.2.1 ≤ R.cells ∧ S1.2.2.2.2.2.2 ≤ R.slots) (kk : zG p l e R s m args below meth c nL D A b ad0 Q S1) : zG p l e R s m args below meth c nL D A b ad0 Q ((pc, o) :: rest, ls0, st0, w) := by
  obtain ⟨n, n2, st1, rfl, h60, rfl⟩ := znewarr_inl h
  intro cw tys H locs ls lv st hH hext hl hL hV
  obtain ⟨hK, hP, hDw, hS, hW⟩ := hH
  obtain ⟨v, st2, rfl, hr, hV1⟩ := zVR_cons hV
  have hr := zRV_0 hr
  subst hr
  refine va_newa (atype := .long) (ty := .long) (N' := n) (a0 := (n, .inr (.inl (fun _ => 0)))) hx hb harr rfl hK hP hDw hS hA (fun cA => rfl) (znI_nn h60) (nI_clamp (by omega)) (by show n * 8 ≤ _; omega) hcs.1 hcs.2 hdg (fun q cA H1 hK1 hP1 hD1 hS1 => ?_)
  exact zG_push kk zmem_app hK1 hP1 hD1 hS1 hW (Or.inr (Or.inr (Or.inl ⟨h60, rfl, cA, fun _ => 0, rfl, zmem_last, fun k _ => rfl⟩))) hext hl hL hV1 hn
theorem zs_newD (hx : p.tables.exec = Jvm.exec) (hb : c.code = cc) (harr : (Cond.arrayClass (newarray.typeOf .double)).before args s = true) (hA : ∀ q, s.heap.size ≤ q → A q) (hdg : decode cc pc = .ok (.newarray .double, 2)) (hn : zpc rest = pc + 2) (h : zoNewarr rest ls0 st0 w 104 = Sum.inl S1) (hcs : S1.2.2.2.2.2.1 ≤ R.cells ∧ S1.2.2.2.2.2.2 ≤ R.slots) (kk : zG p l e R s m args below meth c nL D A b ad0 Q S1) : zG p l e R s m args below meth c nL D A b ad0 Q ((pc, o) :: rest, ls0, st0, w) := by
  obtain ⟨n, n2, st1, rfl, h60, rfl⟩ := znewarr_inl h
  intro cw tys H locs ls lv st hH hext hl hL hV
  obtain ⟨hK, hP, hDw, hS, hW⟩ := hH
  obtain ⟨v, st2, rfl, hr, hV1⟩ := zVR_cons hV
  have hr := zRV_0 hr
  subst hr
  refine va_newa (atype := .double) (ty := .double) (N' := n) (a0 := (n, .inr (.inr (.inr (.inl (fun _ => 0)))))) hx hb harr rfl hK hP hDw hS hA (fun cA => rfl) (znI_nn h60) (nI_clamp (by omega)) (by show n * 8 ≤ _; omega) hcs.1 hcs.2 hdg (fun q cA H1 hK1 hP1 hD1 hS1 => ?_)
  exact zG_push kk zmem_app hK1 hP1 hD1 hS1 hW (Or.inr (Or.inr (Or.inr (Or.inl ⟨h60, rfl, cA, fun _ => 0, rfl, zmem_last, fun k _ => rfl⟩)))) hext hl hL hV1 hn
theorem zs_newq (hx : p.tables.exec = Jvm.exec) (hb : c.code = cc) {own : String} {index : Nat} (hown : s.vm.findClass own = some m.cls) (hlink : (Cond.classLink own index RX6).before args s = true) (hao : va_AO RX6 s) (hA : ∀ q, s.heap.size ≤ q → A q) (hdg : decode cc pc = .ok (.anewarray index, 3)) (hn : zpc rest = pc + 3) (h : zoNewarr rest ls0 st0 w 105 = Sum.inl S1) (hcs : S1.2.2.2.2.2.1 ≤ R.cells ∧ S1.2.2.2.2.2.2 ≤ R.slots) (kk : zG p l e R s m args below meth c nL D A b ad0 Q S1) : zG p l e R s m args below meth c nL D A b ad0 Q ((pc, o) :: rest, ls0, st0, w) := by
  obtain ⟨n, n2, st1, rfl, h60, rfl⟩ := znewarr_inl h
  intro cw tys H locs ls lv st hH hext hl hL hV
  obtain ⟨hK, hP, hDw, hS, hW⟩ := hH
  obtain ⟨v, st2, rfl, hr, hV1⟩ := zVR_cons hV
  have hr := zRV_0 hr
  subst hr
  refine va_newq (N' := n) hx hb hown hlink hao hK hP hDw hS hA (znI_nn h60) (nI_clamp (by omega)) (by omega) hcs.1 hcs.2 hdg (fun q cA H1 hK1 hP1 hD1 hS1 => ?_)
  exact zG_push kk zmem_app hK1 hP1 hD1 hS1 hW (Or.inr (Or.inr (Or.inr (Or.inr ⟨h60, rfl, cA, fun _ => none, rfl, zmem_last, fun k _ => rfl⟩)))) hext hl hL hV1 hn
theorem zs_init (hx : p.tables.exec = Jvm.exec) (hb : c.code = cc) (hml : c.maxLocals = nL) {own : String} {index : Nat} (hown : s.vm.findClass own = some m.cls) (hlink : (Cond.methodLink own index Lib.objectInit).before args s = true) (hinst : (Cond.instanceMethod Lib.objectInit).before args s = true) (hcode : (Cond.code Lib.objectInit ⟨#[0xb1]⟩ 1 none).before args s = true) (hRf : 1 ≤ R.frames) (hRl : 30 ≤ R.locals)
    (hdg : decode cc pc = .ok (.invokespecial index, 3)) (hn : zpc rest = pc + 3) (h : zoInit rest ls0 st0 w = Sum.inl S1) (kk : zG p l e R s m args below meth c nL D A b ad0 Q S1) : zG p l e R s m args below meth c nL D A b ad0 Q ((pc, o) :: rest, ls0, st0, w) := by
  cases st0 with
  | nil => exact (zX_inl h).elim
  | cons v0 st1 =>
    unfold zoInit at h
    simp only [] at h
    obtain ⟨t1, h1⟩ := zb_inl h
    obtain ⟨t2, h2⟩ := zb_inl h1
    obtain rfl := Sum.inl.inj h2
    obtain ⟨vt, v1, v2⟩ := v0
    have e1 : vt = 4 := zbeq t1
    subst e1
    intro cw tys H locs ls lv st hH hext hl hL hV
    have hH : zHR D A b s w cw tys H locs := hH
    obtain ⟨v, st2, rfl, hr, hV1⟩ := zVR_cons hV
    obtain ⟨q, -, rfl⟩ := hr
    have h8 := zble t2
    rw [← zVR_cs hV1] at h8
    exact W.objInit hx hb hown hlink hinst hcode (g := F0 m pc ls (.ref q :: st2)) rfl (by rw [hml]; exact hl.1) rfl hdg hRf (by show 2 * 0 + _ + 12 ≤ _; omega) (zG_st kk hH hext hl hL hV1 hn)
theorem zs_mmax (hx : p.tables.exec = Jvm.exec) (hb : c.code = cc) (hml : c.maxLocals = nL) {own : String} {index : Nat} (hown : s.vm.findClass own = some m.cls) (hlink : (Cond.methodLink own index Lib.Math.max.name).before args s = true) (hstat : (Cond.static Lib.Math.max.name).before args s = true) (hini : (Cond.initialized "java/lang/Math").before args s = true) (hcode : (Cond.code Lib.Math.max.name Lib.Math.max.code 2 (some .int)).before args s = true) (hRf : 1 ≤ R.frames) (hRl : 30 ≤ R.locals)
    (hdg : decode cc pc = .ok (.invokestatic index, 3)) (hn : zpc rest = pc + 3) (h : zoMath rest ls0 st0 w 0 = Sum.inl S1) (hcs : S1.2.2.2.2.2.1 ≤ R.cells ∧ S1.2.2.2.2.2.2 ≤ R.slots) (kk : zG p l e R s m args below meth c nL D A b ad0 Q S1) : zG p l e R s m args below meth c nL D A b ad0 Q ((pc, o) :: rest, ls0, st0, w) := by
  cases st0 with
  | nil => exact (zX_inl h).elim
  | cons y0 st1 =>
    cases st1 with
    | nil => exact (zX_inl h).elim
    | cons x0 st1 =>
      obtain ⟨xt, x1, x2⟩ := x0
      obtain ⟨yt, y1, y2⟩ := y0
      replace h : zb (Nat.beq xt 0) (zb (Nat.beq yt 0) (zb (Nat.ble (zcs st1) 8) (zcmpB 2 (zlo (xt, x1, x2)) (zhi (xt, x1, x2)) (zlo (yt, y1, y2)) (zhi (yt, y1, y2)) (fun t => zb t (Sum.inl (rest, ls0, (yt, y1, y2) :: st1, w)) (Sum.inl (rest, ls0, (xt, x1, x2) :: st1, w)))) zX) zX) zX = Sum.inl S1 := h
      obtain ⟨t1, h1⟩ := zb_inl h
      obtain ⟨t2, h2⟩ := zb_inl h1
      obtain ⟨t3, h3⟩ := zb_inl h2
      have e1 := zbeq t1
      have e2 := zbeq t2
      subst e1
      subst e2
      intro cw tys H locs ls lv st hH hext hl hL hV
      obtain ⟨v, st3, rfl, hr, hV1⟩ := zVR_cons hV
      obtain ⟨v2, st2, rfl, hr2, hV2⟩ := zVR_cons hV1
      obtain ⟨x, rfl, a1, a2⟩ := zRV_int (ad := zad cw) (b := b) (a := (0, x1, x2)) rfl hr2
      obtain ⟨y, rfl, b1, b2⟩ := zRV_int (ad := zad cw) (b := b) (a := (0, y1, y2)) rfl hr
      obtain ⟨t, g1, g2⟩ := zcmpB2 h3 a1 a2 b1 b2
      rw [← zlt_iff] at g1
      have h8 := zble t3
      rw [← zVR_cs hV2] at h8
      have hc2 : w.2.2.1 ≤ R.cells ∧ w.2.2.2 ≤ R.slots := by
        cases t
        · rw [zb_ff] at g2; rw [← Sum.inl.inj g2] at hcs; exact hcs
        · rw [zb_tt] at g2; rw [← Sum.inl.inj g2] at hcs; exact hcs
      refine va_mmax hx hb (by rw [hml]; exact hl.1.symm) hown hlink hstat hini hcode hRf (by omega) hc2.1 hc2.2 hdg ?_
      by_cases hxy : x < y
      · rw [g1.mpr hxy, zb_tt] at g2
        obtain rfl := Sum.inl.inj g2
        rw [if_pos hxy]
        exact zG_st kk hH hext hl hL (zVc hr hV2) hn
      · rw [zfalse (fun z => hxy (g1.mp z)), zb_ff] at g2
        obtain rfl := Sum.inl.inj g2
        rw [if_neg hxy]
        exact zG_st kk hH hext hl hL (zVc hr2 hV2) hn
theorem zs_mmin (hx : p.tables.exec = Jvm.exec) (hb : c.code = cc) (hml : c.maxLocals = nL) {own : String} {index : Nat} (hown : s.vm.findClass own = some m.cls) (hlink : (Cond.methodLink own index Lib.Math.min.name).before args s = true) (hstat : (Cond.static Lib.Math.min.name).before args s = true) (hini : (Cond.initialized "java/lang/Math").before args s = true) (hcode : (Cond.code Lib.Math.min.name Lib.Math.min.code 2 (some .int)).before args s = true) (hRf : 1 ≤ R.frames) (hRl : 30 ≤ R.locals)
    (hdg : decode cc pc = .ok (.invokestatic index, 3)) (hn : zpc rest = pc + 3) (h : zoMath rest ls0 st0 w 1 = Sum.inl S1) (hcs : S1.2.2.2.2.2.1 ≤ R.cells ∧ S1.2.2.2.2.2.2 ≤ R.slots) (kk : zG p l e R s m args below meth c nL D A b ad0 Q S1) : zG p l e R s m args below meth c nL D A b ad0 Q ((pc, o) :: rest, ls0, st0, w) := by
  cases st0 with
  | nil => exact (zX_inl h).elim
  | cons y0 st1 =>
    cases st1 with
    | nil => exact (zX_inl h).elim
    | cons x0 st1 =>
      obtain ⟨xt, x1, x2⟩ := x0
      obtain ⟨yt, y1, y2⟩ := y0
      replace h : zb (Nat.beq xt 0) (zb (Nat.beq yt 0) (zb (Nat.ble (zcs st1) 8) (zcmpB 2 (zlo (yt, y1, y2)) (zhi (yt, y1, y2)) (zlo (xt, x1, x2)) (zhi (xt, x1, x2)) (fun t => zb t (Sum.inl (rest, ls0, (yt, y1, y2) :: st1, w)) (Sum.inl (rest, ls0, (xt, x1, x2) :: st1, w)))) zX) zX) zX = Sum.inl S1 := h
      obtain ⟨t1, h1⟩ := zb_inl h
      obtain ⟨t2, h2⟩ := zb_inl h1
      obtain ⟨t3, h3⟩ := zb_inl h2
      have e1 := zbeq t1
      have e2 := zbeq t2
      subst e1
      subst e2
      intro cw tys H locs ls lv st hH hext hl hL hV
      obtain ⟨v, st3, rfl, hr, hV1⟩ := zVR_cons hV
      obtain ⟨v2, st2, rfl, hr2, hV2⟩ := zVR_cons hV1
      obtain ⟨x, rfl, a1, a2⟩ := zRV_int (ad := zad cw) (b := b) (a := (0, x1, x2)) rfl hr2
      obtain ⟨y, rfl, b1, b2⟩ := zRV_int (ad := zad cw) (b := b) (a := (0, y1, y2)) rfl hr
      obtain ⟨t, g1, g2⟩ := zcmpB2 h3 b1 b2 a1 a2
      rw [← zlt_iff] at g1
      have h8 := zble t3
      rw [← zVR_cs hV2] at h8
      have hc2 : w.2.2.1 ≤ R.cells ∧ w.2.2.2 ≤ R.slots := by
        cases t
        · rw [zb_ff] at g2; rw [← Sum.inl.inj g2] at hcs; exact hcs
        · rw [zb_tt] at g2; rw [← Sum.inl.inj g2] at hcs; exact hcs
      refine va_mmin hx hb (by rw [hml]; exact hl.1.symm) hown hlink hstat hini hcode hRf (by omega) hc2.1 hc2.2 hdg ?_
      by_cases hxy : y < x
      · rw [g1.mpr hxy, zb_tt] at g2
        obtain rfl := Sum.inl.inj g2
        rw [if_pos hxy]
        exact zG_st kk hH hext hl hL (zVc hr hV2) hn
      · rw [zfalse (fun z => hxy (g1.mp z)), zb_ff] at g2
        obtain rfl := Sum.inl.inj g2
        rw [if_neg hxy]
        exact zG_st kk hH hext hl hL (zVc hr2 hV2) hn
theorem znil_eq {l : zA} (h : znil l = true) : l = [] := by
  cases l with
  | nil => rfl
  | cons h t => cases h
theorem zcopy_inl (h : zoCopy rest ls0 st0 w = Sum.inl S1) :
    ∃ (n n2 dp dp2 x1 y1 sp sp2 x0 y0 : Nat) (st1 : List zV), st0 = (0, n, n2) :: (0, dp, dp2) :: (4, x1, y1) :: (0, sp, sp2) :: (4, x0, y0) :: st1 ∧ zcs st1 ≤ 8 ∧ (znth w.2.1 (w.1 - (x0 + 1))).1 = (znth w.2.1 (w.1 - (x1 + 1))).1 ∧ ((znth w.2.1 (w.1 - (x0 + 1))).1 = 100 ∨ (znth w.2.1 (w.1 - (x0 + 1))).1 = 103) ∧ sp + n ≤ (znth w.2.1 (w.1 - (x0 + 1))).2.1 ∧ dp + n ≤ (znth w.2.1 (w.1 - (x1 + 1))).2.1 ∧
      (n = 0 ∨ ((znth w.2.1 (w.1 - (x0 + 1))).2.2.2 = [] ∧ (znth w.2.1 (w.1 - (x1 + 1))).2.2.2 = [] ∧ (znth w.2.1 (w.1 - (x0 + 1))).2.2.1 = (znth w.2.1 (w.1 - (x1 + 1))).2.2.1)) ∧ S1 = (rest, ls0, st1, w) := by
  cases st0 with
  | nil => exact (zX_inl h).elim
  | cons n0 st0 =>
    cases st0 with
    | nil => exact (zX_inl h).elim
    | cons dp0 st0 =>
      cases st0 with
      | nil => exact (zX_inl h).elim
      | cons d0 st0 =>
        cases st0 with
        | nil => exact (zX_inl h).elim
        | cons sp0 st0 =>
          cases st0 with
          | nil => exact (zX_inl h).elim
          | cons s0 st1 =>
            unfold zoCopy at h
            simp only [] at h
            obtain ⟨t1, h1⟩ := zb_inl h
            obtain ⟨t2, h2⟩ := zb_inl h1
            obtain ⟨t3, h3⟩ := zb_inl h2
            obtain ⟨t4, h4⟩ := zb_inl h3
            obtain ⟨t5, h5⟩ := zcellK_inl h4
            obtain ⟨t6, h6⟩ := zcellK_inl h5
            obtain ⟨t7, h7⟩ := zb_inl h6
            obtain ⟨t8, h8⟩ := zb_inl h7
            obtain ⟨t9, h9⟩ := zb_inl h8
            obtain ⟨t10, h10⟩ := zb_inl h9
            obtain ⟨t11, h11⟩ := zb_inl h10
            obtain ⟨nt, n, n2⟩ := n0
            obtain ⟨dt, dp, dp2⟩ := dp0
            obtain ⟨st, sp, sp2⟩ := sp0
            obtain ⟨at0, x0, y0⟩ := s0
            obtain ⟨at1, x1, y1⟩ := d0
            have e1 : nt = 0 := zbeq t1
            have e2 : dt = 0 := zbeq t2
            have e3 : st = 0 := zbeq t3
            have e4 : at0 = 4 := t5
            have e5 : at1 = 4 := t6
            subst e1
            subst e2
            subst e3
            subst e4
            subst e5
            refine ⟨n, n2, dp, dp2, x1, y1, sp, sp2, x0, y0, st1, rfl, zble t4, zbeq t7, ?_, zble t9, zble t10, ?_, (Sum.inl.inj h11).symm⟩
            · cases q : Nat.beq (znth w.2.1 (w.1 - (x0 + 1))).1 100
              · have t8' : zb (Nat.beq (znth w.2.1 (w.1 - (x0 + 1))).1 100) true (Nat.beq (znth w.2.1 (w.1 - (x0 + 1))).1 103) = true := t8
                rw [q, zb_ff] at t8'
                exact Or.inr (zbeq t8')
              · exact Or.inl (zbeq q)
            · have t11' : zb (Nat.beq n 0) true (zb (znil (znth w.2.1 (w.1 - (x0 + 1))).2.2.2) (zb (znil (znth w.2.1 (w.1 - (x1 + 1))).2.2.2) (zeq (znth w.2.1 (w.1 - (x0 + 1))).2.2.1 (znth w.2.1 (w.1 - (x1 + 1))).2.2.1) false) false) = true := t11
              cases q : Nat.beq n 0
              · rw [q, zb_ff] at t11'
                obtain ⟨g1, g2⟩ := zb_and t11'
                obtain ⟨g3, g4⟩ := zb_and g2
                exact Or.inr ⟨znil_eq g1, znil_eq g3, zeq_spec g4⟩
              · exact Or.inl (zbeq q)
theorem zcpy_el {α : Type} {ad : List Nat} {b n n0 n1 sp dp : Nat} {d0 d1 : zV} {as0 as1 : zA} (mk : α → Value) {f g : Nat → α} (h4 : sp + n ≤ n0) (h5 : dp + n ≤ n1) (hz : n = 0 ∨ (as0 = [] ∧ as1 = [] ∧ d0 = d1)) (h0 : ∀ k, k < n0 → zRV ad b (zget as0 k d0) (mk (f k))) (h1 : ∀ k, k < n1 → zRV ad b (zget as1 k d1) (mk (g k))) : ∀ k, k < n1 → zRV ad b (zget as1 k d1) (mk (va_cpy f g sp dp n k)) := by
  intro k hk
  unfold va_cpy
  by_cases hj : dp ≤ k ∧ k < dp + n
  · rw [if_pos hj]
    rcases hz with z | ⟨rfl, rfl, rfl⟩
    · omega
    · exact h0 (sp + (k - dp)) (by omega)
  · rw [if_neg hj]; exact h1 k hk
theorem zs_copy (hx : p.tables.exec = Jvm.exec) (hb : c.code = cc) (hml : c.maxLocals = nL) {own : String} {index : Nat} (hown : s.vm.findClass own = some m.cls) (hlink : (Cond.methodLink own index arraycopyName).before args s = true) (hnat : (Cond.native arraycopyName).before args s = true) (hstat : (Cond.static arraycopyName).before args s = true) (hini : (Cond.initialized "java/lang/System").before args s = true) (hRf : 1 ≤ R.frames) (hRl : 30 ≤ R.locals)
    (hdg : decode cc pc = .ok (.invokestatic index, 3)) (hn : zpc rest = pc + 3) (h : zoCopy rest ls0 st0 w = Sum.inl S1) (kk : zG p l e R s m args below meth c nL D A b ad0 Q S1) : zG p l e R s m args below meth c nL D A b ad0 Q ((pc, o) :: rest, ls0, st0, w) := by
  obtain ⟨n, n2, dp, dp2, x1, y1, sp, sp2, x0, y0, st1, rfl, h8, ek, hk, h4, h5, hz, rfl⟩ := zcopy_inl h
  intro cw tys H locs ls lv st hH hext hl hL hV
  have hH : zHR D A b s w cw tys H locs := hH
  obtain ⟨hK, hP, hDw, hS, hW⟩ := hH
  obtain ⟨w1, u1, rfl, r1, V1⟩ := zVR_cons hV
  obtain ⟨w2, u2, rfl, r2, V2⟩ := zVR_cons V1
  obtain ⟨w3, u3, rfl, r3, V3⟩ := zVR_cons V2
  obtain ⟨w4, u4, rfl, r4, V4⟩ := zVR_cons V3
  obtain ⟨w5, u5, rfl, r5, V5⟩ := zVR_cons V4
  have r1 := zRV_0 r1
  have r2 := zRV_0 r2
  have r4 := zRV_0 r4
  subst r1
  subst r2
  subst r4
  rw [← zVR_cs V5] at h8
  obtain ⟨qd, ed, rfl, d1, d2, d3, d4⟩ := zcell_at hW r3
  obtain ⟨qs, es, rfl, s1, s2, s3, s4⟩ := zcell_at hW r5
  have hnw : nativeFrameWords "java/lang/System" "arraycopy" 5 = 7 := by decide
  have hset : ∀ {cA : zC}, w.2.1[w.1 - (x1 + 1)]? = some cA → zG p l e R s m args below meth c nL D A b ad0 Q (rest, ls0, st1, (w.1, w.2.1.set (w.1 - (x1 + 1)) cA, w.2.2.1, w.2.2.2)) := by
    intro cA hc
    rw [zset_self hc]
    exact kk
  rcases hk with hk | hk
  · obtain ⟨z0, c0, f, f1, f2, f3⟩ := zER_int s4 (Or.inl hk)
    obtain ⟨z1, c1, g, g1, g2, g3⟩ := zER_int d4 (Or.inl (ek.symm.trans hk))
    subst f1
    subst g1
    have f2 : (c0, FieldType.int) ∈ tys := by
      rcases f2 with ⟨-, f2⟩ | ⟨f0, -⟩ | ⟨f0, -⟩
      · exact f2
      · rw [hk] at f0; cases f0
      · rw [hk] at f0; cases f0
    have g2 : (c1, FieldType.int) ∈ tys := by
      rcases g2 with ⟨-, g2⟩ | ⟨g0, -⟩ | ⟨g0, -⟩
      · exact g2
      · rw [← ek, hk] at g0; cases g0
      · rw [← ek, hk] at g0; cases g0
    obtain ⟨t0, ht0⟩ := List.getElem?_of_mem f2
    obtain ⟨t1, ht1⟩ := List.getElem?_of_mem g2
    have q1 : (nI sp).toNatClampNeg = sp := nI_clamp (by omega)
    have q2 : (nI dp).toNatClampNeg = dp := nI_clamp (by omega)
    have q3 : (nI n).toNatClampNeg = n := nI_clamp (by omega)
    refine va_copyi hx hb (by rw [hml]; exact hl.1.symm) hown hlink hnat hstat hini hK hP hDw hS x0 x1 t0 t1 s1 d1 ht0 ht1 rfl (znI_nn (by omega)) (znI_nn (by omega)) (znI_nn (by omega)) (by rw [q1, q3]; exact h4) (by rw [q2, q3]; exact h5) (fun i _ => rfl) hRf (by rw [hnw]; omega) hdg (fun H1 locs1 hP1 hD1 hS1 => ?_)
    refine zG_set (hset d3) hK hP1 hD1 hS1 hW d1 ?_ hext hl hL V5 hn
    refine Or.inr (Or.inl ⟨z1, c1, _, rfl, Or.inl ⟨ek.symm.trans hk, g2⟩, ?_⟩)
    rw [q1, q2, q3]
    exact zcpy_el Value.int h4 h5 hz f3 g3
  · obtain ⟨z0, c0, f, f1, f2, f3⟩ := zER_long s4 hk
    obtain ⟨z1, c1, g, g1, g2, g3⟩ := zER_long d4 (ek.symm.trans hk)
    subst f1
    subst g1
    obtain ⟨t0, ht0⟩ := List.getElem?_of_mem f2
    obtain ⟨t1, ht1⟩ := List.getElem?_of_mem g2
    have q1 : (nI sp).toNatClampNeg = sp := nI_clamp (by omega)
    have q2 : (nI dp).toNatClampNeg = dp := nI_clamp (by omega)
    have q3 : (nI n).toNatClampNeg = n := nI_clamp (by omega)
    refine va_copyl hx hb (by rw [hml]; exact hl.1.symm) hown hlink hnat hstat hini hK hP hDw hS x0 x1 t0 t1 s1 d1 ht0 ht1 rfl (znI_nn (by omega)) (znI_nn (by omega)) (znI_nn (by omega)) (by rw [q1, q3]; exact h4) (by rw [q2, q3]; exact h5) (fun i _ => rfl) hRf (by rw [hnw]; omega) hdg (fun H1 locs1 hP1 hD1 hS1 => ?_)
    refine zG_set (hset d3) hK hP1 hD1 hS1 hW d1 ?_ hext hl hL V5 hn
    refine Or.inr (Or.inr (Or.inl ⟨z1, ek.symm.trans hk, c1, _, rfl, g2, ?_⟩))
    rw [q1, q2, q3]
    exact zcpy_el Value.long h4 h5 hz f3 g3
end ZI
