/-! ===== instructions, part two: small numbers, conversions, switches ===== -/
theorem zcellK_inl {w : zW} {v : zV} {K : Nat → Nat → Nat → zV → zA → zO} {S : zS} (h : zcellK w v K = Sum.inl S) : v.1 = 4 ∧ K (w.1 - (v.2.1 + 1)) (znth w.2.1 (w.1 - (v.2.1 + 1))).1 (znth w.2.1 (w.1 - (v.2.1 + 1))).2.1 (znth w.2.1 (w.1 - (v.2.1 + 1))).2.2.1 (znth w.2.1 (w.1 - (v.2.1 + 1))).2.2.2 = Sum.inl S := by
  unfold zcellK at h
  obtain ⟨h1, h2⟩ := zb_inl h
  rw [zfN_eq, zfC_eq] at h2
  exact ⟨zbeq h1, h2⟩
theorem zbyteE {x : Int32} (h1 : -128 ≤ x.toInt) (h2 : x.toInt ≤ 127) : x.toInt8.toInt32 = x := by
  apply Int32.toInt_inj.mp
  rw [Int8.toInt_toInt32, Int32.toInt_toInt8]
  exact Int.bmod_eq_of_le (by omega) (by omega)
theorem zbyteR (x : Int32) : 2147483520 ≤ zbias x.toInt8.toInt32 ∧ zbias x.toInt8.toInt32 ≤ 2147483775 := by
  have h1 := zbias_toInt x.toInt8.toInt32
  rw [Int8.toInt_toInt32] at h1
  have h2 := Int8.le_toInt x.toInt8
  have h3 := Int8.toInt_lt x.toInt8
  omega
theorem zsmall_spec {ad : List Nat} {b : Nat} {u : zV} {v : Value} (h : zsmall 5 u = true) (hv : zRV ad b u v) : u.1 = 0 ∧ (v = .int 0 ∨ v = .int 1) := by
  obtain ⟨t, x, y⟩ := u
  replace h : zb (Nat.beq t 0) (Nat.ble x 1) false = true := h
  obtain ⟨h1, h2⟩ := zb_and h
  have h1 := zbeq h1
  subst h1
  have h3 := zble h2
  have hv := zRV_0 hv
  subst hv
  refine ⟨rfl, ?_⟩
  rcases Nat.le_one_iff_eq_zero_or_eq_one.mp h3 with rfl | rfl
  · exact Or.inl rfl
  · exact Or.inr rfl
theorem zsmall6_spec {ad : List Nat} {b : Nat} {u : zV} {v : Value} (h : zsmall 6 u = true) (hv : zRV ad b u v) : ∃ x : Int32, v = .int x ∧ x.toInt8.toInt32 = x := by
  obtain ⟨t, n, y⟩ := u
  replace h : zb (Nat.beq t 0) (zb (Nat.ble n 127) true (zb (Nat.ble 4294967168 n) (Nat.ble n 4294967295) false)) (zb (Nat.beq t 1) (zb (Nat.ble 2147483520 n) (Nat.ble y 2147483775) false) false) = true := h
  cases q : Nat.beq t 0
  · rw [q, zb_ff] at h
    obtain ⟨h1, h2⟩ := zb_and h
    obtain ⟨h3, h4⟩ := zb_and h2
    have h1 := zbeq h1
    subst h1
    obtain ⟨x, g1, g2, g3⟩ := zRV_1 hv
    have := zble h3
    have := zble h4
    have := zbias_toInt x
    exact ⟨x, g1, zbyteE (by omega) (by omega)⟩
  · rw [q, zb_tt] at h
    have q := zbeq q
    subst q
    refine ⟨nI n, zRV_0 hv, ?_⟩
    have e1 := zbias_toInt (nI n)
    rw [zbias_nI] at e1
    cases q2 : Nat.ble n 127
    · rw [q2, zb_ff] at h
      obtain ⟨h1, h2⟩ := zb_and h
      have := zble h1
      have := zble h2
      exact zbyteE (by omega) (by omega)
    · have := zble q2
      exact zbyteE (by omega) (by omega)
theorem zwide_neg {n : Nat} (h1 : ¬ n ≤ 2147483647) (h2 : n ≤ 4294967295) : (nI n).toInt64 = lN (n + 18446744069414584320) := by
  rw [zeqL_iff, zbias64_wide, zbias_nI, zbias64_lN]
  omega
section ZT
variable {p : Program} {l : Launch} {e : Env} {R : Room} {s : State} {m : MethodId} {args : Array Value} {below : List Frame} {meth : Method} {c : Code} {Q : State → Prop} {nL : Nat} {D : va_G} {A : Nat → Prop} {b : Nat} {ad0 : List Nat} {cc : ByteArray} {pc : Nat} {o : Nat × Nat × Nat × List Nat} {rest : List zE} {ls0 : zA} {st0 : List zV} {w : zW} {S1 : zS}
theorem zVc {ad : List Nat} {b : Nat} {u : zV} {t : List zV} {v : Value} {vs : List Value} (h1 : zRV ad b u v) (h2 : zVR ad b t vs) : zVR ad b (u :: t) (v :: vs) := ⟨h1, h2⟩
/-- what a row without a change of the world or the locals owes -/
theorem zG_st {st1 : List zV} (k : zG p l e R s m args below meth c nL D A b ad0 Q (rest, ls0, st1, w)) {cw : va_W} {tys : List (ClassId × FieldType)} {H : Heap} {locs : List Loc} {ls : Array Slot} {lv : List (Nat × Value)} {st : List Value}
    (hH : zHR D A b s w cw tys H locs) (hext : ∃ ext, zad cw = ad0 ++ ext) (hl : lv_has ls nL lv) (hL : zLR (zad cw) b ls0 lv) (hV : zVR (zad cw) b st1 st) {n : Nat} (hn : zpc rest = n) :
    W p l e R s m args below meth c H locs w.2.2.1 w.2.2.2 Q (F0 m n ls st) := by
  subst hn
  exact k cw tys H locs ls lv st hH hext hl hL hV
theorem zs_iand (hx : p.tables.exec = Jvm.exec) (hb : c.code = cc) (hdg : decode cc pc = .ok (.iand, 1)) (hn : zpc rest = pc + 1) (h : zoArith rest ls0 st0 w 5 = Sum.inl S1) (k : zG p l e R s m args below meth c nL D A b ad0 Q S1) : zG p l e R s m args below meth c nL D A b ad0 Q ((pc, o) :: rest, ls0, st0, w) := by
  cases st0 with
  | nil => exact (zX_inl h).elim
  | cons y0 st1 =>
    cases st1 with
    | nil => exact (zX_inl h).elim
    | cons x0 st1 =>
      obtain ⟨xt, x1, x2⟩ := x0
      obtain ⟨yt, y1, y2⟩ := y0
      replace h : zb (Nat.beq xt 0) (zb (Nat.beq yt 0) (zfN (x1 &&& y1) (fun r => Sum.inl (rest, ls0, (0, r, 0) :: st1, w)))
          (zb (zis 0 (yt, y1, y2)) (Sum.inl (rest, ls0, (1, 0, 4294967295) :: st1, w)) zX))
        (zb (Nat.beq xt 2) (zb (Nat.beq yt 2) zX zX)
        (zb (zis 0 (xt, x1, x2)) (zb (zis 0 (yt, y1, y2)) (Sum.inl (rest, ls0, (1, 0, 4294967295) :: st1, w)) zX) zX)) = Sum.inl S1 := h
      intro cw tys H locs ls lv st hH hext hl hL hV
      obtain ⟨v, st3, rfl, hr, hV1⟩ := zVR_cons hV
      obtain ⟨v2, st2, rfl, hr2, hV2⟩ := zVR_cons hV1
      have hL : zLR (zad cw) b ls0 lv := hL
      show W p l e R s m args below meth c H locs w.2.2.1 w.2.2.2 Q (F0 m pc ls _)
      have tops : zis 0 (xt, x1, x2) = true → zis 0 (yt, y1, y2) = true → S1 = (rest, ls0, (1, 0, 4294967295) :: st1, w) → W p l e R s m args below meth c H locs w.2.2.1 w.2.2.2 Q (F0 m pc ls (v :: v2 :: st2)) := by
        intro g1 g2 g3
        subst g3
        obtain ⟨x, rfl, -, -⟩ := zRV_int g1 hr2
        obtain ⟨y, rfl, -, -⟩ := zRV_int g2 hr
        exact lv_iand hx hb hdg (zG_st k hH hext hl hL (zVc (zRV_top _) hV2) hn)
      cases q : Nat.beq xt 0
      · rw [q, zb_ff] at h
        cases q2 : Nat.beq xt 2
        · rw [q2, zb_ff] at h
          obtain ⟨t1, h1⟩ := zb_inl h
          obtain ⟨t2, h2⟩ := zb_inl h1
          exact tops t1 t2 (Sum.inl.inj h2).symm
        · rw [q2, zb_tt] at h
          cases q3 : Nat.beq yt 2 <;> rw [q3] at h <;> exact (zX_inl h).elim
      · rw [q, zb_tt] at h
        have e1 := zbeq q
        subst e1
        cases q2 : Nat.beq yt 0
        · rw [q2, zb_ff] at h
          obtain ⟨t2, h2⟩ := zb_inl h
          exact tops rfl t2 (Sum.inl.inj h2).symm
        · rw [q2, zb_tt, zfN_eq] at h
          have e2 := zbeq q2
          subst e2
          obtain rfl := Sum.inl.inj h
          have hr := zRV_0 hr
          have hr2 := zRV_0 hr2
          subst hr
          subst hr2
          refine lv_iand hx hb hdg ?_
          rw [zand]
          exact zG_st k hH hext hl hL (zVc (rfl) hV2) hn
theorem zs_ishr (hx : p.tables.exec = Jvm.exec) (hb : c.code = cc) (hdg : decode cc pc = .ok (.ishr, 1)) (hn : zpc rest = pc + 1) (h : zoArith rest ls0 st0 w 7 = Sum.inl S1) (k : zG p l e R s m args below meth c nL D A b ad0 Q S1) : zG p l e R s m args below meth c nL D A b ad0 Q ((pc, o) :: rest, ls0, st0, w) := by
  cases st0 with
  | nil => exact (zX_inl h).elim
  | cons y0 st1 =>
    cases st1 with
    | nil => exact (zX_inl h).elim
    | cons x0 st1 =>
      replace h : zb (Nat.beq x0.1 0) (zb (Nat.beq y0.1 0) zX (zb (zis 0 y0) zX zX))
        (zb (Nat.beq x0.1 2) (zb (Nat.beq y0.1 2) zX zX)
        (zb (zis 0 x0) (zb (zis 0 y0) (Sum.inl (rest, ls0, (1, 0, 4294967295) :: st1, w)) zX) zX)) = Sum.inl S1 := h
      cases q : Nat.beq x0.1 0
      · rw [q, zb_ff] at h
        cases q2 : Nat.beq x0.1 2
        · rw [q2, zb_ff] at h
          obtain ⟨t1, h1⟩ := zb_inl h
          obtain ⟨t2, h2⟩ := zb_inl h1
          obtain rfl := Sum.inl.inj h2
          intro cw tys H locs ls lv st hH hext hl hL hV
          obtain ⟨v, st3, rfl, hr, hV1⟩ := zVR_cons hV
          obtain ⟨v2, st2, rfl, hr2, hV2⟩ := zVR_cons hV1
          obtain ⟨x, rfl, -, -⟩ := zRV_int t1 hr2
          obtain ⟨y, rfl, -, -⟩ := zRV_int t2 hr
          exact lv_ishr hx hb hdg (zG_st k hH hext hl hL (zVc (zRV_top _) hV2) hn)
        · rw [q2, zb_tt] at h
          cases q3 : Nat.beq y0.1 2 <;> rw [q3] at h <;> exact (zX_inl h).elim
      · rw [q, zb_tt] at h
        cases q2 : Nat.beq y0.1 0
        · rw [q2, zb_ff] at h
          cases q3 : zis 0 y0 <;> rw [q3] at h <;> exact (zX_inl h).elim
        · rw [q2] at h; exact (zX_inl h).elim
theorem zs_ishl (hx : p.tables.exec = Jvm.exec) (hb : c.code = cc) (hdg : decode cc pc = .ok (.ishl, 1)) (hn : zpc rest = pc + 1) (h : zoArith rest ls0 st0 w 6 = Sum.inl S1) (k : zG p l e R s m args below meth c nL D A b ad0 Q S1) : zG p l e R s m args below meth c nL D A b ad0 Q ((pc, o) :: rest, ls0, st0, w) := by
  cases st0 with
  | nil => exact (zX_inl h).elim
  | cons y0 st1 =>
    cases st1 with
    | nil => exact (zX_inl h).elim
    | cons x0 st1 =>
      obtain ⟨xt, x1, x2⟩ := x0
      obtain ⟨yt, y1, y2⟩ := y0
      replace h : zb (Nat.beq xt 0) (zb (Nat.beq yt 0) (zb (Nat.beq y1 0) (Sum.inl (rest, ls0, (0, x1, 0) :: st1, w)) zX) (zb (zis 0 (yt, y1, y2)) zX zX))
        (zb (Nat.beq xt 2) (zb (Nat.beq yt 2) zX zX)
        (zb (zis 0 (xt, x1, x2)) (zb (zis 0 (yt, y1, y2)) zX zX) zX)) = Sum.inl S1 := h
      cases q : Nat.beq xt 0
      · rw [q, zb_ff] at h
        cases q2 : Nat.beq xt 2
        · rw [q2, zb_ff] at h
          obtain ⟨t1, h1⟩ := zb_inl h
          cases q3 : zis 0 (yt, y1, y2) <;> rw [q3] at h1 <;> exact (zX_inl h1).elim
        · rw [q2, zb_tt] at h
          cases q3 : Nat.beq yt 2 <;> rw [q3] at h <;> exact (zX_inl h).elim
      · rw [q, zb_tt] at h
        cases q2 : Nat.beq yt 0
        · rw [q2, zb_ff] at h
          cases q3 : zis 0 (yt, y1, y2) <;> rw [q3] at h <;> exact (zX_inl h).elim
        · rw [q2, zb_tt] at h
          obtain ⟨t1, h1⟩ := zb_inl h
          obtain rfl := Sum.inl.inj h1
          have e1 := zbeq q
          have e2 := zbeq q2
          have e3 := zbeq t1
          subst e1
          subst e2
          subst e3
          intro cw tys H locs ls lv st hH hext hl hL hV
          obtain ⟨v, st3, rfl, hr, hV1⟩ := zVR_cons hV
          obtain ⟨v2, st2, rfl, hr2, hV2⟩ := zVR_cons hV1
          have hr := zRV_0 hr
          have hr2 := zRV_0 hr2
          subst hr
          subst hr2
          refine lv_ishl hx hb hdg ?_
          rw [show nI x1 <<< (nI 0 &&& 31) = nI x1 from sb_shl0 _]
          exact zG_st k hH hext hl hL (zVc (rfl) hV2) hn
theorem zarith_l {rest : List zE} {ls0 : zA} {st1 : List zV} {w : zW} {S : zS} {a xt x1 x2 yt y1 y2 r : Nat} (ha : (a = 10 ∧ r = (x1 + y1) % 18446744073709551616) ∨ (a = 11 ∧ r = (x1 * y1) % 18446744073709551616)) (h : zoArith rest ls0 ((yt, y1, y2) :: (xt, x1, x2) :: st1) w a = Sum.inl S) :
    xt = 2 ∧ yt = 2 ∧ S = (rest, ls0, (2, r, 0) :: st1, w) := by
  replace h : zb (Nat.beq xt 0) (zb (Nat.beq yt 0) (zar a x1 y1 (fun r => Sum.inl (rest, ls0, (0, r, 0) :: st1, w)))
      (zb (zis 0 (yt, y1, y2)) (zb (Nat.beq a 5) (Sum.inl (rest, ls0, (1, 0, 4294967295) :: st1, w)) zX) zX))
    (zb (Nat.beq xt 2) (zb (Nat.beq yt 2) (zb (Nat.beq a 10) (zfN ((x1 + y1) % 18446744073709551616) (fun r => Sum.inl (rest, ls0, (2, r, 0) :: st1, w)))
      (zb (Nat.beq a 11) (zfN ((x1 * y1) % 18446744073709551616) (fun r => Sum.inl (rest, ls0, (2, r, 0) :: st1, w))) zX)) zX)
    (zb (zis 0 (xt, x1, x2)) (zb (zis 0 (yt, y1, y2)) (zb (Nat.beq a 5) (Sum.inl (rest, ls0, (1, 0, 4294967295) :: st1, w)) (zb (Nat.beq a 7) (Sum.inl (rest, ls0, (1, 0, 4294967295) :: st1, w)) zX)) zX) zX)) = Sum.inl S := h
  have hz : zar a x1 y1 (fun r => Sum.inl (rest, ls0, (0, r, 0) :: st1, w)) = zX := by
    rcases ha with ⟨rfl, -⟩ | ⟨rfl, -⟩ <;> rfl
  have h5 : Nat.beq a 5 = false := by rcases ha with ⟨rfl, -⟩ | ⟨rfl, -⟩ <;> rfl
  have h7 : Nat.beq a 7 = false := by rcases ha with ⟨rfl, -⟩ | ⟨rfl, -⟩ <;> rfl
  rw [hz, h5, h7] at h
  simp only [zb_ff] at h
  cases q : Nat.beq xt 0
  · rw [q, zb_ff] at h
    cases q2 : Nat.beq xt 2
    · rw [q2, zb_ff] at h
      obtain ⟨-, h1⟩ := zb_inl h
      obtain ⟨-, h2⟩ := zb_inl h1
      exact (zX_inl h2).elim
    · rw [q2, zb_tt] at h
      obtain ⟨t1, h1⟩ := zb_inl h
      refine ⟨zbeq q2, zbeq t1, ?_⟩
      rcases ha with ⟨rfl, rfl⟩ | ⟨rfl, rfl⟩
      · have h2 : zfN ((x1 + y1) % 18446744073709551616) (fun r => Sum.inl (rest, ls0, (2, r, 0) :: st1, w)) = (Sum.inl S : zO) := h1
        rw [zfN_eq] at h2
        exact (Sum.inl.inj h2).symm
      · have h2 : zfN ((x1 * y1) % 18446744073709551616) (fun r => Sum.inl (rest, ls0, (2, r, 0) :: st1, w)) = (Sum.inl S : zO) := h1
        rw [zfN_eq] at h2
        exact (Sum.inl.inj h2).symm
  · rw [q, zb_tt] at h
    cases q2 : Nat.beq yt 0
    · rw [q2, zb_ff] at h
      obtain ⟨-, h1⟩ := zb_inl h
      exact (zX_inl h1).elim
    · rw [q2] at h; exact (zX_inl h).elim
theorem zs_ladd (hx : p.tables.exec = Jvm.exec) (hb : c.code = cc) (hdg : decode cc pc = .ok (.ladd, 1)) (hn : zpc rest = pc + 1) (h : zoArith rest ls0 st0 w 10 = Sum.inl S1) (k : zG p l e R s m args below meth c nL D A b ad0 Q S1) : zG p l e R s m args below meth c nL D A b ad0 Q ((pc, o) :: rest, ls0, st0, w) := by
  cases st0 with
  | nil => exact (zX_inl h).elim
  | cons y0 st1 =>
    cases st1 with
    | nil => exact (zX_inl h).elim
    | cons x0 st1 =>
      obtain ⟨xt, x1, x2⟩ := x0
      obtain ⟨yt, y1, y2⟩ := y0
      obtain ⟨e1, e2, e3⟩ := zarith_l (Or.inl ⟨rfl, rfl⟩) h
      subst e1
      subst e2
      subst e3
      intro cw tys H locs ls lv st hH hext hl hL hV
      obtain ⟨v, st3, rfl, hr, hV1⟩ := zVR_cons hV
      obtain ⟨v2, st2, rfl, hr2, hV2⟩ := zVR_cons hV1
      have hr := zRV_2 hr
      have hr2 := zRV_2 hr2
      subst hr
      subst hr2
      refine lv_ladd hx hb hdg ?_
      rw [lN_add, ← zmodL]
      exact zG_st k hH hext hl hL (zVc (rfl) hV2) hn
theorem zs_lmul (hx : p.tables.exec = Jvm.exec) (hb : c.code = cc) (hdg : decode cc pc = .ok (.lmul, 1)) (hn : zpc rest = pc + 1) (h : zoArith rest ls0 st0 w 11 = Sum.inl S1) (k : zG p l e R s m args below meth c nL D A b ad0 Q S1) : zG p l e R s m args below meth c nL D A b ad0 Q ((pc, o) :: rest, ls0, st0, w) := by
  cases st0 with
  | nil => exact (zX_inl h).elim
  | cons y0 st1 =>
    cases st1 with
    | nil => exact (zX_inl h).elim
    | cons x0 st1 =>
      obtain ⟨xt, x1, x2⟩ := x0
      obtain ⟨yt, y1, y2⟩ := y0
      obtain ⟨e1, e2, e3⟩ := zarith_l (Or.inr ⟨rfl, rfl⟩) h
      subst e1
      subst e2
      subst e3
      intro cw tys H locs ls lv st hH hext hl hL hV
      obtain ⟨v, st3, rfl, hr, hV1⟩ := zVR_cons hV
      obtain ⟨v2, st2, rfl, hr2, hV2⟩ := zVR_cons hV1
      have hr := zRV_2 hr
      have hr2 := zRV_2 hr2
      subst hr
      subst hr2
      refine lv_lmul hx hb hdg ?_
      rw [lN_mul, ← zmodL]
      exact zG_st k hH hext hl hL (zVc (rfl) hV2) hn
theorem zs_i2l (hx : p.tables.exec = Jvm.exec) (hb : c.code = cc) (hdg : decode cc pc = .ok (.i2l, 1)) (hn : zpc rest = pc + 1) (h : zoConv rest ls0 st0 w 0 = Sum.inl S1) (k : zG p l e R s m args below meth c nL D A b ad0 Q S1) : zG p l e R s m args below meth c nL D A b ad0 Q ((pc, o) :: rest, ls0, st0, w) := by
  cases st0 with
  | nil => exact (zX_inl h).elim
  | cons x0 st1 =>
    obtain ⟨xt, x1, x2⟩ := x0
    replace h : zb (Nat.beq xt 0) (zb (Nat.ble x1 2147483647) (Sum.inl (rest, ls0, (2, x1, 0) :: st1, w)) (zb (Nat.ble x1 4294967295) (zfN (x1 + 18446744069414584320) (fun n => Sum.inl (rest, ls0, (2, n, 0) :: st1, w))) zX))
      (zb (Nat.beq xt 1) (Sum.inl (rest, ls0, (3, x1, x2) :: st1, w)) zX) = Sum.inl S1 := h
    intro cw tys H locs ls lv st hH hext hl hL hV
    obtain ⟨v, st2, rfl, hr, hV1⟩ := zVR_cons hV
    show W p l e R s m args below meth c H locs w.2.2.1 w.2.2.2 Q (F0 m pc ls _)
    cases q : Nat.beq xt 0
    · rw [q, zb_ff] at h
      obtain ⟨t1, h1⟩ := zb_inl h
      have e1 := zbeq t1
      subst e1
      obtain rfl := Sum.inl.inj h1
      obtain ⟨x, rfl, g1, g2⟩ := zRV_1 hr
      exact lv_i2l hx hb hdg rfl (zG_st k hH hext hl hL (zVc (⟨x, rfl, g1, g2⟩) hV1) hn)
    · rw [q, zb_tt] at h
      have e1 := zbeq q
      subst e1
      have hr := zRV_0 hr
      subst hr
      cases q2 : Nat.ble x1 2147483647
      · rw [q2, zb_ff] at h
        obtain ⟨t1, h1⟩ := zb_inl h
        rw [zfN_eq] at h1
        obtain rfl := Sum.inl.inj h1
        have hb1 : ¬ x1 ≤ 2147483647 := fun z => by rw [Nat.ble_eq_true_of_le z] at q2; cases q2
        exact lv_i2l hx hb hdg (zwide_neg hb1 (zble t1)) (zG_st k hH hext hl hL (zVc (rfl) hV1) hn)
      · rw [q2, zb_tt] at h
        obtain rfl := Sum.inl.inj h
        have := zble q2
        exact lv_i2l hx hb hdg (nI_l (by omega)) (zG_st k hH hext hl hL (zVc (rfl) hV1) hn)
theorem zs_l2i (hx : p.tables.exec = Jvm.exec) (hb : c.code = cc) (hdg : decode cc pc = .ok (.l2i, 1)) (hn : zpc rest = pc + 1) (h : zoConv rest ls0 st0 w 1 = Sum.inl S1) (k : zG p l e R s m args below meth c nL D A b ad0 Q S1) : zG p l e R s m args below meth c nL D A b ad0 Q ((pc, o) :: rest, ls0, st0, w) := by
  cases st0 with
  | nil => exact (zX_inl h).elim
  | cons x0 st1 =>
    obtain ⟨xt, x1, x2⟩ := x0
    replace h : zb (Nat.beq xt 2) (zfN (x1 % 4294967296) (fun n => Sum.inl (rest, ls0, (0, n, 0) :: st1, w))) zX = Sum.inl S1 := h
    obtain ⟨t1, h1⟩ := zb_inl h
    rw [zfN_eq] at h1
    have e1 := zbeq t1
    subst e1
    obtain rfl := Sum.inl.inj h1
    intro cw tys H locs ls lv st hH hext hl hL hV
    obtain ⟨v, st2, rfl, hr, hV1⟩ := zVR_cons hV
    have hr := zRV_2 hr
    subst hr
    exact lv_l2i hx hb hdg (by rw [lN_i, ← zmod]) (zG_st k hH hext hl hL (zVc (rfl) hV1) hn)
theorem zs_i2b (hx : p.tables.exec = Jvm.exec) (hb : c.code = cc) (hdg : decode cc pc = .ok (.i2b, 1)) (hn : zpc rest = pc + 1) (h : zoConv rest ls0 st0 w 2 = Sum.inl S1) (k : zG p l e R s m args below meth c nL D A b ad0 Q S1) : zG p l e R s m args below meth c nL D A b ad0 Q ((pc, o) :: rest, ls0, st0, w) := by
  cases st0 with
  | nil => exact (zX_inl h).elim
  | cons x0 st1 =>
    obtain ⟨xt, x1, x2⟩ := x0
    replace h : zb (Nat.beq xt 1) (Sum.inl (rest, ls0, (1, 2147483520, 2147483775) :: st1, w)) zX = Sum.inl S1 := h
    obtain ⟨t1, h1⟩ := zb_inl h
    have e1 := zbeq t1
    subst e1
    obtain rfl := Sum.inl.inj h1
    intro cw tys H locs ls lv st hH hext hl hL hV
    obtain ⟨v, st2, rfl, hr, hV1⟩ := zVR_cons hV
    obtain ⟨x, rfl, -, -⟩ := zRV_1 hr
    exact lv_i2b hx hb hdg rfl (zG_st k hH hext hl hL (zVc (⟨_, rfl, (zbyteR x).1, (zbyteR x).2⟩) hV1) hn)
theorem zeq_spec {u v : zV} (h : zeq u v = true) : u = v := by
  obtain ⟨a, b, c⟩ := u
  obtain ⟨a', b', c'⟩ := v
  obtain ⟨h1, h2⟩ := zb_and (show zb (Nat.beq a a') (zb (Nat.beq b b') (Nat.beq c c') false) false = true from h)
  obtain ⟨h3, h4⟩ := zb_and h2
  rw [zbeq h1, zbeq h3, zbeq h4]
theorem zf2d0 : FP.f2d (UInt32.ofNat 0) = UInt64.ofNat 0 := by decide +kernel
theorem zf2dN : vf_n64 (FP.f2d (UInt32.ofNat 0)) := by rw [zf2d0]; unfold vf_n64; decide +kernel
theorem zdcmp0 (op : CmpOp) : Op.cmpValue (FP.dcmp (UInt64.ofNat 0) (UInt64.ofNat 0)) op = nI 0 := by cases op <;> decide +kernel
theorem zfcmp0 (op : CmpOp) : Op.cmpValue (FP.fcmp (UInt32.ofNat 0) (UInt32.ofNat 0)) op = nI 0 := by cases op <;> decide +kernel
theorem zs_f2d (hx : p.tables.exec = Jvm.exec) (hb : c.code = cc) (hdg : decode cc pc = .ok (.f2d, 1)) (hn : zpc rest = pc + 1) (h : zoConv rest ls0 st0 w 3 = Sum.inl S1) (k : zG p l e R s m args below meth c nL D A b ad0 Q S1) : zG p l e R s m args below meth c nL D A b ad0 Q ((pc, o) :: rest, ls0, st0, w) := by
  cases st0 with
  | nil => exact (zX_inl h).elim
  | cons x0 st1 =>
    replace h : zb (zeq x0 (6, 0, 0)) (Sum.inl (rest, ls0, (7, 0, 0) :: st1, w)) zX = Sum.inl S1 := h
    obtain ⟨t1, h1⟩ := zb_inl h
    have e1 := zeq_spec t1
    subst e1
    obtain rfl := Sum.inl.inj h1
    intro cw tys H locs ls lv st hH hext hl hL hV
    obtain ⟨v, st2, rfl, hr, hV1⟩ := zVR_cons hV
    have hr : v = .float (UInt32.ofNat 0) := hr
    subst hr
    refine lv_f2d hx hb hdg zf2dN ?_
    rw [zf2d0]
    exact zG_st k hH hext hl hL (zVc (rfl) hV1) hn
theorem zs_dcmp (hx : p.tables.exec = Jvm.exec) (hb : c.code = cc) {op : CmpOp} (hdg : decode cc pc = .ok (.dcmp op, 1)) (hn : zpc rest = pc + 1) (h : zoFcmp rest ls0 st0 w 3 = Sum.inl S1) (k : zG p l e R s m args below meth c nL D A b ad0 Q S1) : zG p l e R s m args below meth c nL D A b ad0 Q ((pc, o) :: rest, ls0, st0, w) := by
  cases st0 with
  | nil => exact (zX_inl h).elim
  | cons y0 st1 =>
    cases st1 with
    | nil => exact (zX_inl h).elim
    | cons x0 st1 =>
      replace h : zb (zb (zeq x0 (7, 0, 0)) (zeq y0 (7, 0, 0)) false) (Sum.inl (rest, ls0, (0, 0, 0) :: st1, w)) zX = Sum.inl S1 := h
      obtain ⟨t1, h1⟩ := zb_inl h
      obtain ⟨t2, t3⟩ := zb_and t1
      have e1 := zeq_spec t2
      have e2 := zeq_spec t3
      subst e1
      subst e2
      obtain rfl := Sum.inl.inj h1
      intro cw tys H locs ls lv st hH hext hl hL hV
      obtain ⟨v, st3, rfl, hr, hV1⟩ := zVR_cons hV
      obtain ⟨v2, st2, rfl, hr2, hV2⟩ := zVR_cons hV1
      have hr : v = .double (UInt64.ofNat 0) := hr
      have hr2 : v2 = .double (UInt64.ofNat 0) := hr2
      subst hr
      subst hr2
      refine lv_dcmp hx hb hdg ?_
      rw [zdcmp0]
      exact zG_st k hH hext hl hL (zVc (rfl) hV2) hn
theorem zlcB_spec {a1 a2 b1 b2 : Nat} {x y : Int64} {K : zV → zO} {S : zS} {ad : List Nat} {b : Nat} (h : zlcB a1 a2 b1 b2 K = Sum.inl S) (h1 : a1 ≤ zbias64 x) (h2 : zbias64 x ≤ a2) (h3 : b1 ≤ zbias64 y) (h4 : zbias64 y ≤ b2) : ∃ u : zV, zRV ad b u (.int (lg_cmp x y)) ∧ K u = Sum.inl S := by
  have c1 : x < y → lg_cmp x y = -1 := fun g => by
    have g2 : ¬ y < x := by rw [zltL_iff] at g ⊢; omega
    have g3 : ¬ x = y := by rw [zltL_iff] at g; rw [zeqL_iff]; omega
    unfold lg_cmp
    rw [if_neg (by simpa using g2), if_neg g3]
  have c2 : y < x → lg_cmp x y = 1 := fun g => by
    unfold lg_cmp
    rw [if_pos (by simpa using g)]
  have c3 : x = y → lg_cmp x y = 0 := fun g => by
    have g2 : ¬ y < x := by rw [zeqL_iff] at g; rw [zltL_iff]; omega
    unfold lg_cmp
    rw [if_neg (by simpa using g2), if_pos g]
  have m1 : zbias (-1 : Int32) = 2147483647 := by decide +kernel
  have m2 : zbias (1 : Int32) = 2147483649 := by decide +kernel
  have m3 : zbias (0 : Int32) = 2147483648 := by decide +kernel
  unfold zlcB at h
  cases q1 : Nat.ble (Nat.succ a2) b1
  · rw [q1, zb_ff] at h
    cases q2 : Nat.ble (Nat.succ b2) a1
    · rw [q2, zb_ff] at h
      cases q3 : zb (Nat.beq a1 a2) (zb (Nat.beq b1 b2) (Nat.beq a1 b1) false) false
      · rw [q3, zb_ff] at h
        cases q4 : Nat.ble b2 a1
        · rw [q4, zb_ff] at h
          obtain ⟨t5, h5⟩ := zb_inl h
          have := zble t5
          refine ⟨_, ?_, h5⟩
          rcases Nat.lt_or_ge (zbias64 x) (zbias64 y) with g | g
          · rw [c1 (zltL_iff.mpr g)]; exact ⟨-1, rfl, by rw [m1]; exact Nat.le_refl _, by rw [m1]; exact Nat.le_of_ble_eq_true rfl⟩
          · rw [c3 (zeqL_iff.mpr (by omega))]; exact ⟨0, rfl, by rw [m3]; exact Nat.le_of_ble_eq_true rfl, by rw [m3]; exact Nat.le_refl _⟩
        · rw [q4, zb_tt] at h
          have := zble q4
          refine ⟨_, ?_, h⟩
          rcases Nat.lt_or_ge (zbias64 y) (zbias64 x) with g | g
          · rw [c2 (zltL_iff.mpr g)]; exact ⟨1, rfl, by rw [m2]; exact Nat.le_of_ble_eq_true rfl, by rw [m2]; exact Nat.le_refl _⟩
          · rw [c3 (zeqL_iff.mpr (by omega))]; exact ⟨0, rfl, by rw [m3]; exact Nat.le_refl _, by rw [m3]; exact Nat.le_of_ble_eq_true rfl⟩
      · rw [q3, zb_tt] at h
        obtain ⟨t1, t2⟩ := zb_and q3
        obtain ⟨t3, t4⟩ := zb_and t2
        have := zbeq t1
        have := zbeq t3
        have := zbeq t4
        refine ⟨_, ?_, h⟩
        rw [c3 (zeqL_iff.mpr (by omega))]
        rfl
    · rw [q2, zb_tt] at h
      have : b2 + 1 ≤ a1 := zble q2
      refine ⟨_, ?_, h⟩
      rw [c2 (zltL_iff.mpr (by omega))]
      rfl
  · rw [q1, zb_tt] at h
    have : a2 + 1 ≤ b1 := zble q1
    refine ⟨_, ?_, h⟩
    rw [c1 (zltL_iff.mpr (by omega))]
    rfl
theorem zs_lcmp (hx : p.tables.exec = Jvm.exec) (hb : c.code = cc) (hdg : decode cc pc = .ok (.lcmp, 1)) (hn : zpc rest = pc + 1) (h : zoLcmp rest ls0 st0 w = Sum.inl S1) (k : zG p l e R s m args below meth c nL D A b ad0 Q S1) : zG p l e R s m args below meth c nL D A b ad0 Q ((pc, o) :: rest, ls0, st0, w) := by
  cases st0 with
  | nil => exact (zX_inl h).elim
  | cons y0 st1 =>
    cases st1 with
    | nil => exact (zX_inl h).elim
    | cons x0 st1 =>
      unfold zoLcmp at h
      simp only [] at h
      obtain ⟨t1, h1⟩ := zb_inl h
      obtain ⟨t2, h2⟩ := zb_inl h1
      intro cw tys H locs ls lv st hH hext hl hL hV
      obtain ⟨v, st3, rfl, hr, hV1⟩ := zVR_cons hV
      obtain ⟨v2, st2, rfl, hr2, hV2⟩ := zVR_cons hV1
      obtain ⟨x, rfl, a1, a2⟩ := zRV_long t1 hr2
      obtain ⟨y, rfl, b1, b2⟩ := zRV_long t2 hr
      obtain ⟨u, g1, g2⟩ := zlcB_spec (ad := zad cw) (b := b) h2 a1 a2 b1 b2
      obtain rfl := Sum.inl.inj g2
      exact W.lcmp hx hb hdg (zG_st k hH hext hl hL (zVc (g1) hV2) hn)
theorem zcat1 {ad : List Nat} {b : Nat} {u : zV} {v : Value} (h : zcat2 u = false) (hv : zRV ad b u v) : v.category = 1 := by rw [zRV_cat hv, h]; rfl
theorem zb_inr {cnd : Bool} {o : zO} {S : zS} (h : zb cnd zX o = Sum.inl S) : cnd = false ∧ o = Sum.inl S := by
  cases cnd
  · exact ⟨rfl, h⟩
  · exact (zX_inl h).elim
theorem zs_dup (hx : p.tables.exec = Jvm.exec) (hb : c.code = cc) (hdg : decode cc pc = .ok (.dup, 1)) (hn : zpc rest = pc + 1) (h : zoDup rest ls0 st0 w = Sum.inl S1) (k : zG p l e R s m args below meth c nL D A b ad0 Q S1) : zG p l e R s m args below meth c nL D A b ad0 Q ((pc, o) :: rest, ls0, st0, w) := by
  cases st0 with
  | nil => exact (zX_inl h).elim
  | cons x0 st1 =>
    unfold zoDup at h
    simp only [] at h
    obtain ⟨t1, h1⟩ := zb_inr h
    obtain rfl := Sum.inl.inj h1
    intro cw tys H locs ls lv st hH hext hl hL hV
    obtain ⟨v, st2, rfl, hr, hV1⟩ := zVR_cons hV
    exact lv_dup hx hb hdg (zcat1 t1 hr) (zG_st k hH hext hl hL (zVc hr (zVc hr hV1)) hn)
theorem zs_pop (hx : p.tables.exec = Jvm.exec) (hb : c.code = cc) (hdg : decode cc pc = .ok (.pop, 1)) (hn : zpc rest = pc + 1) (h : zoPop rest ls0 st0 w = Sum.inl S1) (k : zG p l e R s m args below meth c nL D A b ad0 Q S1) : zG p l e R s m args below meth c nL D A b ad0 Q ((pc, o) :: rest, ls0, st0, w) := by
  cases st0 with
  | nil => exact (zX_inl h).elim
  | cons x0 st1 =>
    unfold zoPop at h
    simp only [] at h
    obtain ⟨t1, h1⟩ := zb_inr h
    obtain rfl := Sum.inl.inj h1
    intro cw tys H locs ls lv st hH hext hl hL hV
    obtain ⟨v, st2, rfl, hr, hV1⟩ := zVR_cons hV
    exact lv_pop hx hb hdg (zcat1 t1 hr) (zG_st k hH hext hl hL hV1 hn)
theorem zs_dup2 (hx : p.tables.exec = Jvm.exec) (hb : c.code = cc) (hdg : decode cc pc = .ok (.dup2, 1)) (hn : zpc rest = pc + 1) (h : zoDup2 rest ls0 st0 w = Sum.inl S1) (k : zG p l e R s m args below meth c nL D A b ad0 Q S1) : zG p l e R s m args below meth c nL D A b ad0 Q ((pc, o) :: rest, ls0, st0, w) := by
  cases st0 with
  | nil => exact (zX_inl h).elim
  | cons y0 st1 =>
    cases st1 with
    | nil => exact (zX_inl h).elim
    | cons x0 st1 =>
      unfold zoDup2 at h
      simp only [] at h
      obtain ⟨t1, h1⟩ := zb_inr h
      obtain ⟨t2, h2⟩ := zb_inr h1
      obtain rfl := Sum.inl.inj h2
      intro cw tys H locs ls lv st hH hext hl hL hV
      obtain ⟨v, st3, rfl, hr, hV1⟩ := zVR_cons hV
      obtain ⟨v2, st2, rfl, hr2, hV2⟩ := zVR_cons hV1
      exact lv_dup2_11 hx hb hdg (zcat1 t1 hr) (zcat1 t2 hr2) (zG_st k hH hext hl hL (zVc hr (zVc hr2 (zVc hr (zVc hr2 hV2)))) hn)
theorem zs_ifnull (hx : p.tables.exec = Jvm.exec) (hb : c.code = cc) {off : Int} {tgt : Nat} {full : List zE} (hoff : (pc : Int) + off = (tgt : Int)) (hdg : decode cc pc = .ok (.ifnull off, 3)) (hn : zpc rest = pc + 3) (h : zoNull rest ls0 st0 w full tgt = Sum.inl S1) (k : zG p l e R s m args below meth c nL D A b ad0 Q S1) : zG p l e R s m args below meth c nL D A b ad0 Q ((pc, o) :: rest, ls0, st0, w) := by
  cases st0 with
  | nil => exact (zX_inl h).elim
  | cons x0 st1 =>
    obtain ⟨xt, x1, x2⟩ := x0
    replace h : zb (Nat.beq xt 5) (zgo full tgt ls0 st1 w) (zb (Nat.beq xt 4) (Sum.inl (rest, ls0, st1, w)) zX) = Sum.inl S1 := h
    intro cw tys H locs ls lv st hH hext hl hL hV
    obtain ⟨v, st2, rfl, hr, hV1⟩ := zVR_cons hV
    show W p l e R s m args below meth c H locs w.2.2.1 w.2.2.2 Q (F0 m pc ls _)
    cases q : Nat.beq xt 5
    · rw [q, zb_ff] at h
      obtain ⟨t1, h1⟩ := zb_inl h
      have e1 := zbeq t1
      subst e1
      obtain rfl := Sum.inl.inj h1
      obtain ⟨z, -, rfl⟩ := hr
      exact lv_ifnull hx hb hdg (zG_st k hH hext hl hL hV1 hn)
    · rw [q, zb_tt] at h
      have e1 := zbeq q
      subst e1
      obtain ⟨rfl, g⟩ := zgo_inl h
      have hr : v = .null := hr
      subst hr
      exact lv_ifnullN hx hb hdg hoff (zG_st k hH hext hl hL hV1 g)
theorem zs_switch (hx : p.tables.exec = Jvm.exec) (hb : c.code = cc) {dflt lo hi : Int} {offs : Array Int} {len a d : Nat} {ts : List Nat} {full : List zE} (hlo : lo = (a : Int)) (hhi : hi = (a : Int) + ts.length - 1) (hd : (pc : Int) + dflt = (d : Int)) (hts : ∀ (j t : Nat), ts[j]? = some t → ∃ off, offs[j]? = some off ∧ (pc : Int) + off = (t : Int)) (hdg : decode cc pc = .ok (.tableswitch dflt lo hi offs, len)) (h : zoSwitch ls0 st0 w full a d ts = Sum.inl S1) (k : zG p l e R s m args below meth c nL D A b ad0 Q S1) : zG p l e R s m args below meth c nL D A b ad0 Q ((pc, o) :: rest, ls0, st0, w) := by
  cases st0 with
  | nil => exact (zX_inl h).elim
  | cons x0 st1 =>
    obtain ⟨xt, n, x2⟩ := x0
    replace h : zb (Nat.beq xt 0) (zb (Nat.ble n 2147483647) (zb (Nat.ble a n) (zfN (ztgt ts (n - a) d) (fun t => zgo full t ls0 st1 w)) (zgo full d ls0 st1 w)) zX) zX = Sum.inl S1 := h
    obtain ⟨t1, h1⟩ := zb_inl h
    obtain ⟨t2, h2⟩ := zb_inl h1
    have e1 := zbeq t1
    subst e1
    have hN := zble t2
    intro cw tys H locs ls lv st hH hext hl hL hV
    obtain ⟨v, st2, rfl, hr, hV1⟩ := zVR_cons hV
    have hr := zRV_0 hr
    subst hr
    have hi1 : (nI n).toInt = (n : Int) := nI_toInt (by omega)
    subst hlo
    subst hhi
    show W p l e R s m args below meth c H locs w.2.2.1 w.2.2.2 Q (F0 m pc ls _)
    cases q : Nat.ble a n
    · rw [q, zb_ff] at h2
      have hna : ¬ a ≤ n := fun z => by rw [Nat.ble_eq_true_of_le z] at q; cases q
      obtain ⟨rfl, g⟩ := zgo_inl h2
      exact lv_tableOut hx hb hdg (Or.inl (by rw [hi1]; omega)) hd (zG_st k hH hext hl hL hV1 g)
    · rw [q, zb_tt, zfN_eq, ztgt_eq] at h2
      have han := zble q
      cases hj : ts[n - a]? with
      | none =>
        rw [hj] at h2
        obtain ⟨rfl, g⟩ := zgo_inl h2
        have hlen : ts.length ≤ n - a := by simpa using hj
        exact lv_tableOut hx hb hdg (Or.inr (by rw [hi1]; omega)) hd (zG_st k hH hext hl hL hV1 g)
      | some t =>
        rw [hj] at h2
        obtain ⟨rfl, g⟩ := zgo_inl h2
        have hlen : n - a < ts.length := (List.getElem?_eq_some_iff.mp hj).1
        obtain ⟨off, o1, o2⟩ := hts _ _ hj
        exact lv_tableIn hx hb hdg (by rw [hi1]; omega) (by rw [hi1]; omega) (by rw [hi1, show ((n : Int) - (a : Int)).toNat = n - a by omega]; exact o1) o2 (zG_st k hH hext hl hL hV1 g)
theorem zs_ldcSW (hx : p.tables.exec = Jvm.exec) (hb : c.code = cc) {own tx : String} {index q : Nat} (hown : s.vm.findClass own = some m.cls) (hZ : vk_R own index tx q s) (hdg : decode cc pc = .ok (.ldc_w index, 3)) (hn : zpc rest = pc + 3) (h : zoConst rest ls0 st0 w [9, 0, 0] = Sum.inl S1) (k : zG p l e R s m args below meth c nL D A b ad0 Q S1) : zG p l e R s m args below meth c nL D A b ad0 Q ((pc, o) :: rest, ls0, st0, w) := by
  obtain rfl := Sum.inl.inj h
  intro cw tys H locs ls lv st hH hext hl hL hV
  have K : W p l e R s m args below meth c H locs w.2.2.1 w.2.2.2 Q (F0 m (pc + 3) ls (.ref q :: st)) := zG_st k hH hext hl hL (zVc (⟨q, rfl⟩) hV) hn
  intro T hT X
  obtain ⟨t, a1, b1⟩ := K T hT X
  exact ⟨t, X.ldcStringW hx hown (text := tx) (a := q) hZ.1 hZ.2 (g := F0 m pc ls st) rfl (by rw [hb]; exact hdg) t a1, b1⟩
end ZT
