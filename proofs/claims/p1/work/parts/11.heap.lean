/-! ===== instructions, part three: objects and arrays ===== -/
theorem zset_self {α : Type} {l : List α} {p : Nat} {c : α} (h : l[p]? = some c) : l.set p c = l := by
  refine List.ext_getElem? fun i => ?_
  rw [List.getElem?_set]
  by_cases hi : p = i
  · subst hi
    have hl : p < l.length := (List.getElem?_eq_some_iff.mp h).1
    rw [if_pos rfl, if_pos hl, h]
  · rw [if_neg hi]
theorem zkind_spec {b kd : Nat} (h : zkind b kd = true) : kd = b ∨ (b = 101 ∧ kd = 102) := by
  have h : zb (Nat.beq kd b) true (zb (Nat.beq b 101) (Nat.beq kd 102) false) = true := h
  cases q : Nat.beq kd b
  · rw [q, zb_ff] at h
    obtain ⟨h1, h2⟩ := zb_and h
    exact Or.inr ⟨zbeq h1, zbeq h2⟩
  · exact Or.inl (zbeq q)
theorem zER_obj {ad : List Nat} {b : Nat} {tys : List (ClassId × FieldType)} {c : zC} {e : va_E} (h : zER ad b tys c e) (h0 : c.1 < 100) : ∃ (fs : List Value) (q : vw_C), e = .inr (c.1, fs) ∧ vwCl[c.1]? = some q ∧ q.2.2 = c.2.1 ∧ fs.length = c.2.1 ∧ ∀ k, k < c.2.1 → ∃ v, fs[k]? = some v ∧ zRV ad b (zget c.2.2.2 k c.2.2.1) v := by
  rcases h with ⟨-, h⟩ | ⟨-, cA, f, -, h, -⟩ | ⟨-, h, -⟩ | ⟨-, h, -⟩ | ⟨-, h, -⟩
  · exact h
  · omega
  · omega
  · omega
  · omega
theorem zER_int {ad : List Nat} {b : Nat} {tys : List (ClassId × FieldType)} {c : zC} {e : va_E} (h : zER ad b tys c e) (h0 : c.1 = 100 ∨ c.1 = 101 ∨ c.1 = 102) : c.2.1 ≤ 60000 ∧ ∃ (cA : ClassId) (f : Nat → Int32), e = .inl (cA, c.2.1, .inl f) ∧ ((c.1 = 100 ∧ (cA, FieldType.int) ∈ tys) ∨ (c.1 = 101 ∧ (cA, FieldType.byte) ∈ tys) ∨ (c.1 = 102 ∧ (cA, FieldType.boolean) ∈ tys)) ∧ ∀ k, k < c.2.1 → zRV ad b (zget c.2.2.2 k c.2.2.1) (.int (f k)) := by
  rcases h with ⟨h1, -⟩ | h | ⟨-, h, -⟩ | ⟨-, h, -⟩ | ⟨-, h, -⟩
  · omega
  · exact h
  · omega
  · omega
  · omega
theorem zER_long {ad : List Nat} {b : Nat} {tys : List (ClassId × FieldType)} {c : zC} {e : va_E} (h : zER ad b tys c e) (h0 : c.1 = 103) : c.2.1 ≤ 60000 ∧ ∃ (cA : ClassId) (f : Nat → Int64), e = .inl (cA, c.2.1, .inr (.inl f)) ∧ (cA, FieldType.long) ∈ tys ∧ ∀ k, k < c.2.1 → zRV ad b (zget c.2.2.2 k c.2.2.1) (.long (f k)) := by
  rcases h with ⟨h1, -⟩ | ⟨-, cA, f, -, h, -⟩ | ⟨g, h, h2⟩ | ⟨-, h, -⟩ | ⟨-, h, -⟩
  · omega
  · omega
  · exact ⟨g, h2⟩
  · omega
  · omega
theorem zER_double {ad : List Nat} {b : Nat} {tys : List (ClassId × FieldType)} {c : zC} {e : va_E} (h : zER ad b tys c e) (h0 : c.1 = 104) : c.2.1 ≤ 60000 ∧ ∃ (cA : ClassId) (f : Nat → UInt64), e = .inl (cA, c.2.1, .inr (.inr (.inr (.inl f)))) ∧ (cA, FieldType.double) ∈ tys ∧ ∀ k, k < c.2.1 → zRV ad b (zget c.2.2.2 k c.2.2.1) (.double (f k)) := by
  rcases h with ⟨h1, -⟩ | ⟨-, cA, f, -, h, -⟩ | ⟨g, h, h2⟩ | ⟨g, h, h2⟩ | ⟨-, h, -⟩
  · omega
  · omega
  · omega
  · exact ⟨g, h2⟩
  · omega
theorem zER_refs {ad : List Nat} {b : Nat} {tys : List (ClassId × FieldType)} {c : zC} {e : va_E} (h : zER ad b tys c e) (h0 : c.1 = 105) : c.2.1 ≤ 60000 ∧ ∃ (cA : ClassId) (f : Nat → Option Nat), e = .inl (cA, c.2.1, .inr (.inr (.inr (.inr f)))) ∧ (cA, FieldType.object RX6) ∈ tys ∧ ∀ k, k < c.2.1 → zRV ad b (zget c.2.2.2 k c.2.2.1) (va_rf (f k)) := by
  rcases h with ⟨h1, -⟩ | ⟨-, cA, f, -, h, -⟩ | ⟨g, h, h2⟩ | ⟨g, h, h2⟩ | ⟨g, h, h2⟩
  · omega
  · omega
  · omega
  · omega
  · exact ⟨g, h2⟩
/-- which of the field's types -/
def zft (ft : Nat) (ty : FieldType) : Prop := (ft = 0 ∧ ty = .int) ∨ (ft = 1 ∧ ty = .long) ∨ (ft = 5 ∧ ty = .boolean) ∨ (ft = 4 ∧ ∃ C, ty = .object C) ∨ (ft = 4 ∧ ∃ t, ty = .array t)
theorem zfit_spec {ad : List Nat} {b ft : Nat} {ty : FieldType} {u : zV} {v : Value} (h : zfit ft u = true) (ht : zft ft ty) (hv : zRV ad b u v) : narrow ty v = v ∧ fits ty v = true := by
  rcases ht with ⟨rfl, rfl⟩ | ⟨rfl, rfl⟩ | ⟨rfl, rfl⟩ | ⟨rfl, C, rfl⟩ | ⟨rfl, t, rfl⟩
  · obtain ⟨x, rfl, -⟩ := zRV_int (show zis 0 u = true from h) hv
    exact ⟨rfl, rfl⟩
  · obtain ⟨x, rfl, -⟩ := zRV_long (show zis 1 u = true from h) hv
    exact ⟨rfl, rfl⟩
  · obtain ⟨-, rfl | rfl⟩ := zsmall_spec (show zsmall 5 u = true from h) hv
    · exact ⟨rfl, rfl⟩
    · exact ⟨rfl, rfl⟩
  · rcases zRV_ref (show zis 4 u = true from h) hv with ⟨q, rfl⟩ | rfl
    · exact ⟨rfl, rfl⟩
    · exact ⟨rfl, rfl⟩
  · rcases zRV_ref (show zis 4 u = true from h) hv with ⟨q, rfl⟩ | rfl
    · exact ⟨rfl, rfl⟩
    · exact ⟨rfl, rfl⟩
section ZH
variable {p : Program} {l : Launch} {e : Env} {R : Room} {s : State} {m : MethodId} {args : Array Value} {below : List Frame} {meth : Method} {c : Code} {Q : State → Prop} {nL : Nat} {D : va_G} {A : Nat → Prop} {b : Nat} {ad0 : List Nat} {cc : ByteArray} {pc : Nat} {o : Nat × Nat × Nat × List Nat} {rest : List zE} {ls0 : zA} {st0 : List zV} {w : zW} {S1 : zS}
theorem zG_set {st1 : List zV} {x q n : Nat} {e0 e1 : va_E} {c1 : zC} (k : zG p l e R s m args below meth c nL D A b ad0 Q (rest, ls0, st1, (w.1, w.2.1.set (w.1 - (x + 1)) c1, w.2.2.1, w.2.2.2))) {cw : va_W} {tys : List (ClassId × FieldType)} {H1 : Heap} {locs1 : List Loc} {ls : Array Slot} {lv : List (Nat × Value)} {st : List Value}
    (hK : va_K D vwCl tys s) (hP : va_P D vwCl (cw.set x (q, e1)) H1) (hD : va_D A (cw.set x (q, e1))) (hS : va_S A s.heap H1 locs1) (hW : zWR b tys w cw) (hx0 : cw[x]? = some (q, e0)) (he : zER (zad cw) b tys c1 e1)
    (hext : ∃ ext, zad cw = ad0 ++ ext) (hl : lv_has ls nL lv) (hL : zLR (zad cw) b ls0 lv) (hV : zVR (zad cw) b st1 st) (hn : zpc rest = n) :
    W p l e R s m args below meth c H1 locs1 w.2.2.1 w.2.2.2 Q (F0 m n ls st) := by
  subst hn
  have ha : zad (cw.set x (q, e1)) = zad cw := zad_set hx0
  exact k (cw.set x (q, e1)) tys H1 locs1 ls lv st ⟨hK, hP, hD, hS, zWR_set hW hx0 he⟩ (by rw [ha]; exact hext) hl (by rw [ha]; exact hL) (by rw [ha]; exact hV)
theorem zG_push {st1 : List zV} {n q mc ms : Nat} {e1 : va_E} {c1 : zC} (k : zG p l e R s m args below meth c nL D A b ad0 Q (rest, ls0, (4, w.1, 0) :: st1, (w.1 + 1, c1 :: w.2.1, mc, ms))) {cw : va_W} {tys tys' : List (ClassId × FieldType)} {H1 : Heap} {locs1 : List Loc} {ls : Array Slot} {lv : List (Nat × Value)} {st : List Value}
    (ht : ∀ t ∈ tys, t ∈ tys') (hK : va_K D vwCl tys' s) (hP : va_P D vwCl (cw ++ [(q, e1)]) H1) (hD : va_D A (cw ++ [(q, e1)])) (hS : va_S A s.heap H1 locs1) (hW : zWR b tys w cw) (he : zER (zad cw ++ [q]) b tys' c1 e1)
    (hext : ∃ ext, zad cw = ad0 ++ ext) (hl : lv_has ls nL lv) (hL : zLR (zad cw) b ls0 lv) (hV : zVR (zad cw) b st1 st) (hn : zpc rest = n) :
    W p l e R s m args below meth c H1 locs1 mc ms Q (F0 m n ls (.ref q :: st)) := by
  subst hn
  have ha : zad (cw ++ [(q, e1)]) = zad cw ++ [q] := by
    show List.map Prod.fst (cw ++ [(q, e1)]) = _
    rw [List.map_append]; rfl
  obtain ⟨ext, hext⟩ := hext
  refine k (cw ++ [(q, e1)]) tys' H1 locs1 ls lv (.ref q :: st) ⟨hK, hP, hD, hS, zWR_push ht hW he⟩ ⟨ext ++ [q], by rw [ha, hext, List.append_assoc]⟩ hl (by rw [ha]; exact zLR_mono hL) (by
    rw [ha]
    refine zVc ⟨q, ?_, rfl⟩ (zVR_mono hV)
    show (zad cw ++ [q])[w.1]? = some q
    rw [hW.1, List.getElem?_append_right (by rw [List.length_map]; exact Nat.le_refl _), List.length_map, Nat.sub_self]; rfl)
theorem zs_getf (hx : p.tables.exec = Jvm.exec) (hb : c.code = cc) {own C : String} {T : u_T} {N ci k index : Nat} {Ts : List Cond} (hts : ∀ w ∈ Ts, w.before args s = true) (hci : ci < 100) (hcl : vwCl[ci]? = some (C, T, N)) (hin : ∀ w ∈ u_ws C T N, w ∈ Ts) (hown : s.vm.findClass own = some m.cls) (hk : k < N) (hlink : (Cond.fieldLink own index (T k).1 (T k).2.1 (T k).2.2.1).before args s = true)
    (hdg : decode cc pc = .ok (.getfield index, 3)) (hn : zpc rest = pc + 3) (h : zoGetf rest ls0 st0 w ci k = Sum.inl S1) (kk : zG p l e R s m args below meth c nL D A b ad0 Q S1) : zG p l e R s m args below meth c nL D A b ad0 Q ((pc, o) :: rest, ls0, st0, w) := by
  cases st0 with
  | nil => exact (zX_inl h).elim
  | cons v0 st1 =>
    unfold zoGetf at h
    simp only [] at h
    obtain ⟨t1, h1⟩ := zcellK_inl h
    obtain ⟨t2, h2⟩ := zb_inl h1
    rw [zfV_eq] at h2
    obtain rfl := Sum.inl.inj h2
    obtain ⟨xt, x1, x2⟩ := v0
    have t1 : xt = 4 := t1
    subst t1
    have e2 := zbeq t2
    intro cw tys H locs ls lv st hH hext hl hL hV
    have hH : zHR D A b s w cw tys H locs := hH
    obtain ⟨v, st2, rfl, hr, hV1⟩ := zVR_cons hV
    obtain ⟨hK, hP, hDw, hS, hW⟩ := id hH
    obtain ⟨q0, e0, rfl, g1, g2, g3, g4⟩ := zcell_at hW hr
    obtain ⟨fs, q, r1, r2, r3, r4, r5⟩ := zER_obj g4 (by rw [e2]; exact hci)
    rw [e2] at r1 r2
    obtain rfl := Option.some.inj (hcl.symm.trans r2)
    subst r1
    obtain ⟨v, r6, r7⟩ := r5 k (by rw [← r3]; exact hk)
    exact va_get hx hb hts hin hown hK hP x1 g1 hcl k hk hlink (fun _ z => z) r6 hdg (zG_st kk hH hext hl hL (zVc r7 hV1) hn)
theorem zs_putf (hx : p.tables.exec = Jvm.exec) (hb : c.code = cc) {own C : String} {T : u_T} {N ci k index ft : Nat} {Ts : List Cond} (hts : ∀ w ∈ Ts, w.before args s = true) (hci : ci < 100) (hcl : vwCl[ci]? = some (C, T, N)) (hin : ∀ w ∈ u_ws C T N, w ∈ Ts) (hown : s.vm.findClass own = some m.cls) (hk : k < N) (hlink : (Cond.fieldLink own index (T k).1 (T k).2.1 (T k).2.2.1).before args s = true)
    (ty0 : Nat → FieldType) (hty : ∀ k, k < N → parseFieldDescriptor (T k).2.2.1 = some (ty0 k)) (hnm : ∀ a, a < N → ∀ b, b < N → a ≠ b → (T a).2.1 ≠ (T b).2.1) (hft : zft ft (ty0 k)) (hfin : (T k).2.2.2 = false ∨ ((T k).2.2.2 = true ∧ meth.name = "<init>" ∧ (T k).1 = own))
    (hdg : decode cc pc = .ok (.putfield index, 3)) (hn : zpc rest = pc + 3) (h : zoPutf rest ls0 st0 w ci k [ft] = Sum.inl S1) (kk : zG p l e R s m args below meth c nL D A b ad0 Q S1) : zG p l e R s m args below meth c nL D A b ad0 Q ((pc, o) :: rest, ls0, st0, w) := by
  cases st0 with
  | nil => exact (zX_inl h).elim
  | cons u st1 =>
    cases st1 with
    | nil => exact (zX_inl h).elim
    | cons v0 st1 =>
      unfold zoPutf at h
      simp only [] at h
      obtain ⟨t1, h1⟩ := zcellK_inl h
      obtain ⟨t2, h2⟩ := zb_inl h1
      obtain ⟨t3, h3⟩ := zb_inl h2
      rw [zsetK_eq, zputK_eq] at h3
      obtain rfl := Sum.inl.inj h3
      obtain ⟨xt, x1, x2⟩ := v0
      have t1 : xt = 4 := t1
      subst t1
      have e2 := zbeq t2
      intro cw tys H locs ls lv st hH hext hl hL hV
      have hH : zHR D A b s w cw tys H locs := hH
      obtain ⟨v1, st3, rfl, hr1, hV0⟩ := zVR_cons hV
      obtain ⟨v, st2, rfl, hr, hV1⟩ := zVR_cons hV0
      obtain ⟨hK, hP, hDw, hS, hW⟩ := id hH
      obtain ⟨q0, e0, rfl, g1, g2, g3, g4⟩ := zcell_at hW hr
      obtain ⟨fs, q, r1, r2, r3, r4, r5⟩ := zER_obj g4 (by rw [e2]; exact hci)
      have r9 := r1
      rw [e2] at r1 r2
      obtain rfl := Option.some.inj (hcl.symm.trans r2)
      subst r1
      obtain ⟨f1, f2⟩ := zfit_spec t3 hft hr1
      have hkl : k < fs.length := by rw [r4, ← r3]; exact hk
      have he : zER (zad cw) b tys ((znth w.2.1 (w.1 - (x1 + 1))).1, (znth w.2.1 (w.1 - (x1 + 1))).2.1, (znth w.2.1 (w.1 - (x1 + 1))).2.2.1, zset (znth w.2.1 (w.1 - (x1 + 1))).2.2.2 k u) (.inr (ci, fs.set k v1)) := by
        refine Or.inl ⟨by show (znth w.2.1 (w.1 - (x1 + 1))).1 < 100; rw [e2]; exact hci, fs.set k v1, (C, T, N), by show _ = Sum.inr ((znth w.2.1 (w.1 - (x1 + 1))).1, _); rw [e2], by show vwCl[(znth w.2.1 (w.1 - (x1 + 1))).1]? = _; rw [e2]; exact hcl, r3, by rw [List.length_set]; exact r4, fun j hj => ?_⟩
        show ∃ z, (fs.set k v1)[j]? = some z ∧ zRV (zad cw) b (zget (zset (znth w.2.1 (w.1 - (x1 + 1))).2.2.2 k u) j (znth w.2.1 (w.1 - (x1 + 1))).2.2.1) z
        rw [zget_set]
        by_cases hjk : j = k
        · subst hjk
          exact ⟨v1, by rw [List.getElem?_set_self hkl], by rw [if_pos rfl]; exact hr1⟩
        · obtain ⟨z, z1, z2⟩ := r5 j hj
          exact ⟨z, by rw [List.getElem?_set_ne (fun q => hjk q.symm)]; exact z1, by rw [if_neg hjk]; exact z2⟩
      rcases hfin with hf | ⟨hf, hin2, hdecl⟩
      · exact va_put hx hb hts hin ty0 hty hnm hown hK hP hDw hS x1 g1 hcl k hk hlink (fun _ z => z) hf (hty k hk) f1 f2 hkl hdg (fun H1 locs1 hP1 hD1 hS1 => zG_set kk hK hP1 hD1 hS1 hW g1 he hext hl hL hV1 hn)
      · exact va_putF hx hb hts hin ty0 hty hnm hown hK hP hDw hS x1 g1 hcl k hk hlink (fun _ z => z) hf hin2 hdecl (hty k hk) f1 f2 hkl hdg (fun H1 locs1 hP1 hD1 hS1 => zG_set kk hK hP1 hD1 hS1 hW g1 he hext hl hL hV1 hn)
theorem zaload_inl {scr : List zV} {B : Nat} {i v : zV} {st1 : List zV} (h : zoAload rest ls0 (i :: v :: st1) w scr B = Sum.inl S1) :
    i.1 = 0 ∧ ((v.1 = 8 ∧ B = 100 ∧ zis 0 (zscr scr i.2.1) = true ∧ S1 = (rest, ls0, zscr scr i.2.1 :: st1, w)) ∨
      (v.1 = 4 ∧ zkind B (znth w.2.1 (w.1 - (v.2.1 + 1))).1 = true ∧ i.2.1 < (znth w.2.1 (w.1 - (v.2.1 + 1))).2.1 ∧ S1 = (rest, ls0, zget (znth w.2.1 (w.1 - (v.2.1 + 1))).2.2.2 i.2.1 (znth w.2.1 (w.1 - (v.2.1 + 1))).2.2.1 :: st1, w))) := by
  unfold zoAload at h
  simp only [] at h
  obtain ⟨t1, h1⟩ := zb_inl h
  refine ⟨zbeq t1, ?_⟩
  cases q : Nat.beq v.1 8
  · rw [q, zb_ff] at h1
    obtain ⟨t2, h2⟩ := zcellK_inl h1
    obtain ⟨t3, h3⟩ := zb_inl h2
    obtain ⟨t4, h4⟩ := zb_inl h3
    rw [zfV_eq] at h4
    exact Or.inr ⟨t2, t3, zble t4, (Sum.inl.inj h4).symm⟩
  · rw [q, zb_tt] at h1
    obtain ⟨t2, h2⟩ := zb_inl h1
    rw [zfV_eq] at h2
    obtain ⟨t3, h3⟩ := zb_inl h2
    exact Or.inl ⟨zbeq q, zbeq t2, t3, (Sum.inl.inj h3).symm⟩
/-- the script, where the law's own method reads it -/
def zSc (A : Nat → Prop) (b : Nat) (s : State) (scr : List zV) : Prop := scr = [] ∨ ∃ xs : Nat → Int32, va_X b scr.length xs s s.heap ∧ b < s.heap.size ∧ ¬ A b ∧ scr.length ≤ 6 ∧ ∀ (j : Nat) (u : zV), scr[j]? = some u → zRV [] b u (.int (xs j))
theorem zs_iaload (hx : p.tables.exec = Jvm.exec) (hb : c.code = cc) {scr : List zV} (hsc : zSc A b s scr) (hdg : decode cc pc = .ok (.iaload, 1)) (hn : zpc rest = pc + 1) (h : zoAload rest ls0 st0 w scr 100 = Sum.inl S1) (kk : zG p l e R s m args below meth c nL D A b ad0 Q S1) : zG p l e R s m args below meth c nL D A b ad0 Q ((pc, o) :: rest, ls0, st0, w) := by
  cases st0 with
  | nil => exact (zX_inl h).elim
  | cons i0 st1 =>
    cases st1 with
    | nil => exact (zX_inl h).elim
    | cons v0 st1 =>
      obtain ⟨t1, h1⟩ := zaload_inl h
      obtain ⟨it, i1, i2⟩ := i0
      obtain ⟨vt, v1, v2⟩ := v0
      have t1 : it = 0 := t1
      subst t1
      intro cw tys H locs ls lv st hH hext hl hL hV
      have hH : zHR D A b s w cw tys H locs := hH
      obtain ⟨vi, st3, rfl, hri, hV0⟩ := zVR_cons hV
      obtain ⟨v, st2, rfl, hr, hV1⟩ := zVR_cons hV0
      have hri := zRV_0 hri
      subst hri
      obtain ⟨hK, hP, hDw, hS, hW⟩ := id hH
      rcases h1 with ⟨t2, -, t3, rfl⟩ | ⟨t2, t3, t4, rfl⟩
      · have t2 : vt = 8 := t2
        subst t2
        have hr : v = .ref b := hr
        subst hr
        rcases hsc with rfl | ⟨xs, s1, s2, s3, s4, s5⟩
        · cases t3
        · rw [zscr_eq] at t3 kk
          cases hj : scr[i1]? with
          | none => rw [hj] at t3; cases t3
          | some u =>
            rw [hj] at t3 kk
            have hlt : i1 < scr.length := (List.getElem?_eq_some_iff.mp hj).1
            refine va_sld hx hb s1 s2 s3 hS (vp_in_nI hlt (by omega)) hdg ?_
            rw [nI_clamp (by omega)]
            refine zG_st kk hH hext hl hL (zVc ?_ hV1) hn
            have z := s5 i1 u hj
            have z2 := zRV_mono (ext := zad cw) z
            rwa [List.nil_append] at z2
      · have t2 : vt = 4 := t2
        subst t2
        obtain ⟨q0, e0, rfl, g1, g2, g3, g4⟩ := zcell_at hW hr
        rcases zkind_spec t3 with k1 | ⟨k1, -⟩
        · obtain ⟨z0, cA, f, r1, r2, r3⟩ := zER_int g4 (Or.inl k1)
          subst r1
          have r2 : (cA, FieldType.int) ∈ tys := by
            rcases r2 with ⟨-, r2⟩ | ⟨r0, -⟩ | ⟨r0, -⟩
            · exact r2
            · rw [k1] at r0; cases r0
            · rw [k1] at r0; cases r0
          obtain ⟨t0, ht0⟩ := List.getElem?_of_mem r2
          have t4 : i1 < (znth w.2.1 (w.1 - (v1 + 1))).2.1 := t4
          refine va_iald hx hb hK hP v1 t0 g1 ht0 (vp_in_nI t4 (by omega)) hdg ?_
          rw [nI_clamp (by omega)]
          exact zG_st kk hH hext hl hL (zVc (r3 i1 t4) hV1) hn
        · cases k1
theorem zs_baload (hx : p.tables.exec = Jvm.exec) (hb : c.code = cc) {scr : List zV} (hdg : decode cc pc = .ok (.baload, 1)) (hn : zpc rest = pc + 1) (h : zoAload rest ls0 st0 w scr 101 = Sum.inl S1) (kk : zG p l e R s m args below meth c nL D A b ad0 Q S1) : zG p l e R s m args below meth c nL D A b ad0 Q ((pc, o) :: rest, ls0, st0, w) := by
  cases st0 with
  | nil => exact (zX_inl h).elim
  | cons i0 st1 =>
    cases st1 with
    | nil => exact (zX_inl h).elim
    | cons v0 st1 =>
      obtain ⟨t1, h1⟩ := zaload_inl h
      obtain ⟨it, i1, i2⟩ := i0
      obtain ⟨vt, v1, v2⟩ := v0
      have t1 : it = 0 := t1
      subst t1
      intro cw tys H locs ls lv st hH hext hl hL hV
      have hH : zHR D A b s w cw tys H locs := hH
      obtain ⟨vi, st3, rfl, hri, hV0⟩ := zVR_cons hV
      obtain ⟨v, st2, rfl, hr, hV1⟩ := zVR_cons hV0
      have hri := zRV_0 hri
      subst hri
      obtain ⟨hK, hP, hDw, hS, hW⟩ := id hH
      rcases h1 with ⟨-, t2, -⟩ | ⟨t2, t3, t4, rfl⟩
      · cases t2
      · have t2 : vt = 4 := t2
        subst t2
        obtain ⟨q0, e0, rfl, g1, g2, g3, g4⟩ := zcell_at hW hr
        have t4 : i1 < (znth w.2.1 (w.1 - (v1 + 1))).2.1 := t4
        have k1 : (znth w.2.1 (w.1 - (v1 + 1))).1 = 101 ∨ (znth w.2.1 (w.1 - (v1 + 1))).1 = 102 := by
          rcases zkind_spec t3 with k1 | ⟨-, k1⟩
          · exact Or.inl k1
          · exact Or.inr k1
        obtain ⟨z0, cA, f, r1, r2, r3⟩ := zER_int g4 (Or.inr k1)
        subst r1
        rcases r2 with ⟨r0, -⟩ | ⟨-, r2⟩ | ⟨-, r2⟩
        · omega
        · obtain ⟨t0, ht0⟩ := List.getElem?_of_mem r2
          refine va_bald hx hb hK hP v1 t0 g1 ht0 (vp_in_nI t4 (by omega)) hdg ?_
          rw [nI_clamp (by omega)]
          exact zG_st kk hH hext hl hL (zVc (r3 i1 t4) hV1) hn
        · obtain ⟨t0, ht0⟩ := List.getElem?_of_mem r2
          refine va_zald hx hb hK hP v1 t0 g1 ht0 (vp_in_nI t4 (by omega)) hdg ?_
          rw [nI_clamp (by omega)]
          exact zG_st kk hH hext hl hL (zVc (r3 i1 t4) hV1) hn
theorem zkind_1 {B kd : Nat} (hB : B ≠ 101) (h : zkind B kd = true) : kd = B := by
  rcases zkind_spec h with k1 | ⟨k1, -⟩
  · exact k1
  · exact absurd k1 hB
theorem zs_laload (hx : p.tables.exec = Jvm.exec) (hb : c.code = cc) {scr : List zV} (hdg : decode cc pc = .ok (.laload, 1)) (hn : zpc rest = pc + 1) (h : zoAload rest ls0 st0 w scr 103 = Sum.inl S1) (kk : zG p l e R s m args below meth c nL D A b ad0 Q S1) : zG p l e R s m args below meth c nL D A b ad0 Q ((pc, o) :: rest, ls0, st0, w) := by
  cases st0 with
  | nil => exact (zX_inl h).elim
  | cons i0 st1 =>
    cases st1 with
    | nil => exact (zX_inl h).elim
    | cons v0 st1 =>
      obtain ⟨t1, h1⟩ := zaload_inl h
      obtain ⟨it, i1, i2⟩ := i0
      obtain ⟨vt, v1, v2⟩ := v0
      have t1 : it = 0 := t1
      subst t1
      intro cw tys H locs ls lv st hH hext hl hL hV
      have hH : zHR D A b s w cw tys H locs := hH
      obtain ⟨vi, st3, rfl, hri, hV0⟩ := zVR_cons hV
      obtain ⟨v, st2, rfl, hr, hV1⟩ := zVR_cons hV0
      have hri := zRV_0 hri
      subst hri
      obtain ⟨hK, hP, hDw, hS, hW⟩ := id hH
      rcases h1 with ⟨-, t2, -⟩ | ⟨t2, t3, t4, rfl⟩
      · cases t2
      · have t2 : vt = 4 := t2
        subst t2
        obtain ⟨q0, e0, rfl, g1, g2, g3, g4⟩ := zcell_at hW hr
        have t4 : i1 < (znth w.2.1 (w.1 - (v1 + 1))).2.1 := t4
        obtain ⟨z0, cA, f, r1, r2, r3⟩ := zER_long g4 (zkind_1 (by decide) t3)
        subst r1
        obtain ⟨t0, ht0⟩ := List.getElem?_of_mem r2
        refine va_lald hx hb hK hP v1 t0 g1 ht0 (vp_in_nI t4 (by omega)) hdg ?_
        rw [nI_clamp (by omega)]
        exact zG_st kk hH hext hl hL (zVc (r3 i1 t4) hV1) hn
theorem zs_daload (hx : p.tables.exec = Jvm.exec) (hb : c.code = cc) {scr : List zV} (hdg : decode cc pc = .ok (.daload, 1)) (hn : zpc rest = pc + 1) (h : zoAload rest ls0 st0 w scr 104 = Sum.inl S1) (kk : zG p l e R s m args below meth c nL D A b ad0 Q S1) : zG p l e R s m args below meth c nL D A b ad0 Q ((pc, o) :: rest, ls0, st0, w) := by
  cases st0 with
  | nil => exact (zX_inl h).elim
  | cons i0 st1 =>
    cases st1 with
    | nil => exact (zX_inl h).elim
    | cons v0 st1 =>
      obtain ⟨t1, h1⟩ := zaload_inl h
      obtain ⟨it, i1, i2⟩ := i0
      obtain ⟨vt, v1, v2⟩ := v0
      have t1 : it = 0 := t1
      subst t1
      intro cw tys H locs ls lv st hH hext hl hL hV
      have hH : zHR D A b s w cw tys H locs := hH
      obtain ⟨vi, st3, rfl, hri, hV0⟩ := zVR_cons hV
      obtain ⟨v, st2, rfl, hr, hV1⟩ := zVR_cons hV0
      have hri := zRV_0 hri
      subst hri
      obtain ⟨hK, hP, hDw, hS, hW⟩ := id hH
      rcases h1 with ⟨-, t2, -⟩ | ⟨t2, t3, t4, rfl⟩
      · cases t2
      · have t2 : vt = 4 := t2
        subst t2
        obtain ⟨q0, e0, rfl, g1, g2, g3, g4⟩ := zcell_at hW hr
        have t4 : i1 < (znth w.2.1 (w.1 - (v1 + 1))).2.1 := t4
        obtain ⟨z0, cA, f, r1, r2, r3⟩ := zER_double g4 (zkind_1 (by decide) t3)
        subst r1
        obtain ⟨t0, ht0⟩ := List.getElem?_of_mem r2
        refine va_dald hx hb hK hP v1 t0 g1 ht0 (vp_in_nI t4 (by omega)) hdg ?_
        rw [nI_clamp (by omega)]
        exact zG_st kk hH hext hl hL (zVc (r3 i1 t4) hV1) hn
theorem zs_aaload (hx : p.tables.exec = Jvm.exec) (hb : c.code = cc) {scr : List zV} (hdg : decode cc pc = .ok (.aaload, 1)) (hn : zpc rest = pc + 1) (h : zoAload rest ls0 st0 w scr 105 = Sum.inl S1) (kk : zG p l e R s m args below meth c nL D A b ad0 Q S1) : zG p l e R s m args below meth c nL D A b ad0 Q ((pc, o) :: rest, ls0, st0, w) := by
  cases st0 with
  | nil => exact (zX_inl h).elim
  | cons i0 st1 =>
    cases st1 with
    | nil => exact (zX_inl h).elim
    | cons v0 st1 =>
      obtain ⟨t1, h1⟩ := zaload_inl h
      obtain ⟨it, i1, i2⟩ := i0
      obtain ⟨vt, v1, v2⟩ := v0
      have t1 : it = 0 := t1
      subst t1
      intro cw tys H locs ls lv st hH hext hl hL hV
      have hH : zHR D A b s w cw tys H locs := hH
      obtain ⟨vi, st3, rfl, hri, hV0⟩ := zVR_cons hV
      obtain ⟨v, st2, rfl, hr, hV1⟩ := zVR_cons hV0
      have hri := zRV_0 hri
      subst hri
      obtain ⟨hK, hP, hDw, hS, hW⟩ := id hH
      rcases h1 with ⟨-, t2, -⟩ | ⟨t2, t3, t4, rfl⟩
      · cases t2
      · have t2 : vt = 4 := t2
        subst t2
        obtain ⟨q0, e0, rfl, g1, g2, g3, g4⟩ := zcell_at hW hr
        have t4 : i1 < (znth w.2.1 (w.1 - (v1 + 1))).2.1 := t4
        obtain ⟨z0, cA, f, r1, r2, r3⟩ := zER_refs g4 (zkind_1 (by decide) t3)
        subst r1
        obtain ⟨t0, ht0⟩ := List.getElem?_of_mem r2
        refine va_aldq hx hb hK hP v1 t0 g1 ht0 (vp_in_nI t4 (by omega)) hdg ?_
        rw [nI_clamp (by omega)]
        exact zG_st kk hH hext hl hL (zVc (r3 i1 t4) hV1) hn
end ZH
