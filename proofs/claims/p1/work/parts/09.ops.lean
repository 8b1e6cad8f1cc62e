/-! ===== comparisons and arithmetic of the abstract machine ===== -/
theorem zcmpB2 {a1 a2 b1 b2 x y : Nat} {k : Bool → zO} {S : zS} (h : zcmpB 2 a1 a2 b1 b2 k = Sum.inl S) (h1 : a1 ≤ x) (h2 : x ≤ a2) (h3 : b1 ≤ y) (h4 : y ≤ b2) : ∃ t : Bool, (t = true ↔ x < y) ∧ k t = Sum.inl S := by
  have h : zb (Nat.ble (Nat.succ a2) b1) (k true) (zb (Nat.ble b2 a1) (k false) zX) = Sum.inl S := h
  cases q : Nat.ble (Nat.succ a2) b1
  · rw [q, zb_ff] at h
    cases q2 : Nat.ble b2 a1
    · rw [q2, zb_ff] at h; exact (zX_inl h).elim
    · rw [q2, zb_tt] at h
      have := zble q2
      exact ⟨false, ⟨fun z => (by cases z), fun z => absurd z (by omega)⟩, h⟩
  · rw [q, zb_tt] at h
    have : a2 + 1 ≤ b1 := zble q
    exact ⟨true, ⟨fun _ => by omega, fun _ => rfl⟩, h⟩
theorem zcmpB0 {a1 a2 b1 b2 x y : Nat} {k : Bool → zO} {S : zS} (h : zcmpB 0 a1 a2 b1 b2 k = Sum.inl S) (h1 : a1 ≤ x) (h2 : x ≤ a2) (h3 : b1 ≤ y) (h4 : y ≤ b2) : ∃ t : Bool, (t = true ↔ x = y) ∧ k t = Sum.inl S := by
  have h : zb (Nat.ble (Nat.succ a2) b1) (k false) (zb (Nat.ble (Nat.succ b2) a1) (k false) (zb (Nat.beq a1 a2) (zb (Nat.beq b1 b2) (zb (Nat.beq a1 b1) (k true) zX) zX) zX)) = Sum.inl S := h
  cases q : Nat.ble (Nat.succ a2) b1
  · rw [q, zb_ff] at h
    cases q2 : Nat.ble (Nat.succ b2) a1
    · rw [q2, zb_ff] at h
      obtain ⟨e1, h⟩ := zb_inl h
      obtain ⟨e2, h⟩ := zb_inl h
      obtain ⟨e3, h⟩ := zb_inl h
      have := zbeq e1
      have := zbeq e2
      have := zbeq e3
      exact ⟨true, ⟨fun _ => by omega, fun _ => rfl⟩, h⟩
    · rw [q2, zb_tt] at h
      have : b2 + 1 ≤ a1 := zble q2
      exact ⟨false, ⟨fun z => (by cases z), fun z => absurd z (by omega)⟩, h⟩
  · rw [q, zb_tt] at h
    have : a2 + 1 ≤ b1 := zble q
    exact ⟨false, ⟨fun z => (by cases z), fun z => absurd z (by omega)⟩, h⟩
theorem zfalse {t : Bool} (h : ¬ t = true) : t = false := by
  cases t
  · rfl
  · exact absurd rfl h
def zrel (c : Nat) (x y : Int32) : Prop := match c with
  | 0 => x = y
  | 1 => ¬ x = y
  | 2 => x < y
  | 3 => y ≤ x
  | 4 => y < x
  | _ => x ≤ y
theorem znot_t {t : Bool} : (not t = true ↔ ¬ t = true) := by cases t <;> simp
theorem zcmp_spec {ad : List Nat} {b : Nat} {u1 u2 : zV} {v1 v2 : Value} {k : Bool → zO} {S : zS} {c : Nat} (hv1 : zRV ad b u1 v1) (hv2 : zRV ad b u2 v2) (h : zcmp c u1 u2 k = Sum.inl S) : ∃ x y : Int32, v1 = .int x ∧ v2 = .int y ∧ ∃ t : Bool, (t = true ↔ zrel c x y) ∧ k t = Sum.inl S := by
  unfold zcmp at h
  obtain ⟨t1, g0⟩ := zb_inl h
  obtain ⟨t2, g⟩ := zb_inl g0
  clear h g0
  obtain ⟨x, rfl, a1, a2⟩ := zRV_int t1 hv1
  obtain ⟨y, rfl, b1, b2⟩ := zRV_int t2 hv2
  refine ⟨x, y, rfl, rfl, ?_⟩
  cases q0 : Nat.beq c 0
  · rw [q0, zb_ff] at g
    cases q1 : Nat.beq c 1
    · rw [q1, zb_ff] at g
      cases q2 : Nat.beq c 2
      · rw [q2, zb_ff] at g
        cases q3 : Nat.beq c 3
        · rw [q3, zb_ff] at g
          cases q4 : Nat.beq c 4
          · rw [q4, zb_ff] at g
            obtain ⟨q5, g6⟩ := zb_inl g
            clear g
            obtain rfl := zbeq q5
            obtain ⟨t, ht, hk⟩ := zcmpB2 g6 b1 b2 a1 a2
            refine ⟨not t, ?_, hk⟩
            show _ ↔ x ≤ y
            rw [znot_t, ht, zle_iff]; omega
          · rw [q4, zb_tt] at g
            obtain rfl := zbeq q4
            obtain ⟨t, ht, hk⟩ := zcmpB2 g b1 b2 a1 a2
            refine ⟨t, ?_, hk⟩
            show _ ↔ y < x
            rw [ht, zlt_iff]
        · rw [q3, zb_tt] at g
          obtain rfl := zbeq q3
          obtain ⟨t, ht, hk⟩ := zcmpB2 g a1 a2 b1 b2
          refine ⟨not t, ?_, hk⟩
          show _ ↔ y ≤ x
          rw [znot_t, ht, zle_iff]; omega
      · rw [q2, zb_tt] at g
        obtain rfl := zbeq q2
        obtain ⟨t, ht, hk⟩ := zcmpB2 g a1 a2 b1 b2
        refine ⟨t, ?_, hk⟩
        show _ ↔ x < y
        rw [ht, zlt_iff]
    · rw [q1, zb_tt] at g
      obtain rfl := zbeq q1
      obtain ⟨t, ht, hk⟩ := zcmpB0 g a1 a2 b1 b2
      refine ⟨not t, ?_, hk⟩
      show _ ↔ ¬ x = y
      rw [znot_t, ht, zeq_iff]
  · rw [q0, zb_tt] at g
    obtain rfl := zbeq q0
    obtain ⟨t, ht, hk⟩ := zcmpB0 g a1 a2 b1 b2
    refine ⟨t, ?_, hk⟩
    show _ ↔ x = y
    rw [ht, zeq_iff]
theorem zarith_k {rest : List zE} {ls0 : zA} {st1 : List zV} {w : zW} {S : zS} {a xt x1 x2 yt y1 y2 : Nat} (h5 : Nat.ble a 4 = true) (hL : Nat.beq a 5 = false) (h : zoArith rest ls0 ((yt, y1, y2) :: (xt, x1, x2) :: st1) w a = Sum.inl S) :
    xt = 0 ∧ yt = 0 ∧ zar a x1 y1 (fun r => Sum.inl (rest, ls0, (0, r, 0) :: st1, w)) = Sum.inl S := by
  have ha : a ≤ 4 := zble h5
  have h : zb (Nat.beq xt 0) (zb (Nat.beq yt 0) (zar a x1 y1 (fun r => Sum.inl (rest, ls0, (0, r, 0) :: st1, w)))
      (zb (zis 0 (yt, y1, y2)) (zb (Nat.beq a 5) (Sum.inl (rest, ls0, (1, 0, 4294967295) :: st1, w)) zX) zX))
    (zb (Nat.beq xt 2) (zb (Nat.beq yt 2) (zb (Nat.beq a 10) (zfN ((x1 + y1) % 18446744073709551616) (fun r => Sum.inl (rest, ls0, (2, r, 0) :: st1, w)))
      (zb (Nat.beq a 11) (zfN ((x1 * y1) % 18446744073709551616) (fun r => Sum.inl (rest, ls0, (2, r, 0) :: st1, w))) zX)) zX)
    (zb (zis 0 (xt, x1, x2)) (zb (zis 0 (yt, y1, y2)) (zb (Nat.beq a 5) (Sum.inl (rest, ls0, (1, 0, 4294967295) :: st1, w)) (zb (Nat.beq a 7) (Sum.inl (rest, ls0, (1, 0, 4294967295) :: st1, w)) zX)) zX) zX)) = Sum.inl S := h
  have n10 : Nat.beq a 10 = false := zbeq_ne (by omega)
  have n11 : Nat.beq a 11 = false := zbeq_ne (by omega)
  have n7 : Nat.beq a 7 = false := zbeq_ne (by omega)
  rw [n10, n11, n7, hL] at h
  simp only [zb_ff] at h
  cases q : Nat.beq xt 0
  · rw [q, zb_ff] at h
    cases q2 : Nat.beq xt 2
    · rw [q2, zb_ff] at h
      obtain ⟨-, h⟩ := zb_inl h
      obtain ⟨-, h⟩ := zb_inl h
      exact (zX_inl h).elim
    · rw [q2, zb_tt] at h
      obtain ⟨-, h⟩ := zb_inl h
      exact (zX_inl h).elim
  · rw [q, zb_tt] at h
    cases q2 : Nat.beq yt 0
    · rw [q2, zb_ff] at h
      obtain ⟨-, h⟩ := zb_inl h
      exact (zX_inl h).elim
    · rw [q2, zb_tt] at h
      exact ⟨zbeq q, zbeq q2, h⟩
theorem zar_iadd {x y : Nat} {k : Nat → zO} {S : zS} (h : zar 0 x y k = Sum.inl S) : k ((x + y) % 4294967296) = Sum.inl S := by
  have h : zfN ((x + y) % 4294967296) k = Sum.inl S := h
  rwa [zfN_eq] at h
theorem zar_isub {x y : Nat} {k : Nat → zO} {S : zS} (h : zar 1 x y k = Sum.inl S) : k ((x + (4294967296 - y % 4294967296)) % 4294967296) = Sum.inl S := by
  have h : zfN ((x + (4294967296 - y % 4294967296)) % 4294967296) k = Sum.inl S := h
  rwa [zfN_eq] at h
theorem zar_imul {x y : Nat} {k : Nat → zO} {S : zS} (h : zar 2 x y k = Sum.inl S) : k ((x * y) % 4294967296) = Sum.inl S := by
  have h : zfN ((x * y) % 4294967296) k = Sum.inl S := h
  rwa [zfN_eq] at h
theorem zar_idiv {x y : Nat} {k : Nat → zO} {S : zS} (h : zar 3 x y k = Sum.inl S) : x ≤ 2147483647 ∧ 1 ≤ y ∧ y ≤ 2147483647 ∧ k (x / y) = Sum.inl S := by
  have h : zb (Nat.ble x 2147483647) (zb (Nat.ble 1 y) (zb (Nat.ble y 2147483647) (zfN (x / y) k) zX) zX) zX = Sum.inl S := h
  obtain ⟨q1, h⟩ := zb_inl h
  obtain ⟨q2, h⟩ := zb_inl h
  obtain ⟨q3, h⟩ := zb_inl h
  rw [zfN_eq] at h
  exact ⟨zble q1, zble q2, zble q3, h⟩
theorem zar_irem {x y : Nat} {k : Nat → zO} {S : zS} (h : zar 4 x y k = Sum.inl S) : x ≤ 2147483647 ∧ 1 ≤ y ∧ y ≤ 2147483647 ∧ k (x % y) = Sum.inl S := by
  have h : zb (Nat.ble x 2147483647) (zb (Nat.ble 1 y) (zb (Nat.ble y 2147483647) (zfN (x % y) k) zX) zX) zX = Sum.inl S := h
  obtain ⟨q1, h⟩ := zb_inl h
  obtain ⟨q2, h⟩ := zb_inl h
  obtain ⟨q3, h⟩ := zb_inl h
  rw [zfN_eq] at h
  exact ⟨zble q1, zble q2, zble q3, h⟩
/-! ===== an instruction, a row (laid by program) ===== -/
section ZS
variable {p : Program} {l : Launch} {e : Env} {R : Room} {s : State} {m : MethodId} {args : Array Value} {below : List Frame} {meth : Method} {c : Code} {Q : State → Prop} {nL : Nat} {D : va_G} {A : Nat → Prop} {b : Nat} {ad0 : List Nat} {cc : ByteArray} {pc : Nat} {o : Nat × Nat × Nat × List Nat} {rest : List zE} {ls0 : zA} {st0 : List zV} {w : zW} {S1 : zS}
theorem zs_iload (hx : p.tables.exec = Jvm.exec) (hb : c.code = cc) {i : Nat} (hdg : decode cc pc = .ok (.iload i, 2)) (hn : zpc rest = pc + 2) (h : zoLoad rest ls0 st0 w i 0 = Sum.inl S1) (k : zG p l e R s m args below meth c nL D A b ad0 Q S1) : zG p l e R s m args below meth c nL D A b ad0 Q ((pc, o) :: rest, ls0, st0, w) := by
  unfold zoLoad at h
  rw [zfV_eq] at h
  obtain ⟨ht, h⟩ := zb_inl h
  obtain rfl := Sum.inl.inj h
  intro cw tys H locs ls lv st hH hext hl hL hV
  show W p l e R s m args below meth c H locs w.2.2.1 w.2.2.2 Q (F0 m pc ls st)
  have hL : zLR (zad cw) b ls0 lv := hL
  obtain ⟨v, hv, hr⟩ := zLR_at hL hl ht rfl
  obtain ⟨x, rfl, -, -⟩ := zRV_int ht hr
  refine lv_iload hx hb hdg hv ?_
  rw [← hn]
  exact k cw tys H locs ls lv (_ :: st) hH hext hl hL ⟨hr, hV⟩
theorem zs_iload_n (hx : p.tables.exec = Jvm.exec) (hb : c.code = cc) {i : Fin 4} (hdg : decode cc pc = .ok (.iload_n i, 1)) (hn : zpc rest = pc + 1) (h : zoLoad rest ls0 st0 w i.val 0 = Sum.inl S1) (k : zG p l e R s m args below meth c nL D A b ad0 Q S1) : zG p l e R s m args below meth c nL D A b ad0 Q ((pc, o) :: rest, ls0, st0, w) := by
  unfold zoLoad at h
  rw [zfV_eq] at h
  obtain ⟨ht, h⟩ := zb_inl h
  obtain rfl := Sum.inl.inj h
  intro cw tys H locs ls lv st hH hext hl hL hV
  show W p l e R s m args below meth c H locs w.2.2.1 w.2.2.2 Q (F0 m pc ls st)
  have hL : zLR (zad cw) b ls0 lv := hL
  obtain ⟨v, hv, hr⟩ := zLR_at hL hl ht rfl
  obtain ⟨x, rfl, -, -⟩ := zRV_int ht hr
  refine lv_iload_n hx hb hdg rfl hv ?_
  rw [← hn]
  exact k cw tys H locs ls lv (_ :: st) hH hext hl hL ⟨hr, hV⟩
theorem zs_lload (hx : p.tables.exec = Jvm.exec) (hb : c.code = cc) {i : Nat} (hdg : decode cc pc = .ok (.lload i, 2)) (hn : zpc rest = pc + 2) (h : zoLoad rest ls0 st0 w i 1 = Sum.inl S1) (k : zG p l e R s m args below meth c nL D A b ad0 Q S1) : zG p l e R s m args below meth c nL D A b ad0 Q ((pc, o) :: rest, ls0, st0, w) := by
  unfold zoLoad at h
  rw [zfV_eq] at h
  obtain ⟨ht, h⟩ := zb_inl h
  obtain rfl := Sum.inl.inj h
  intro cw tys H locs ls lv st hH hext hl hL hV
  show W p l e R s m args below meth c H locs w.2.2.1 w.2.2.2 Q (F0 m pc ls st)
  have hL : zLR (zad cw) b ls0 lv := hL
  obtain ⟨v, hv, hr⟩ := zLR_at hL hl ht rfl
  obtain ⟨x, rfl, -, -⟩ := zRV_long ht hr
  refine lv_lload hx hb hdg hv ?_
  rw [← hn]
  exact k cw tys H locs ls lv (_ :: st) hH hext hl hL ⟨hr, hV⟩
theorem zs_lload_n (hx : p.tables.exec = Jvm.exec) (hb : c.code = cc) {i : Fin 4} (hdg : decode cc pc = .ok (.lload_n i, 1)) (hn : zpc rest = pc + 1) (h : zoLoad rest ls0 st0 w i.val 1 = Sum.inl S1) (k : zG p l e R s m args below meth c nL D A b ad0 Q S1) : zG p l e R s m args below meth c nL D A b ad0 Q ((pc, o) :: rest, ls0, st0, w) := by
  unfold zoLoad at h
  rw [zfV_eq] at h
  obtain ⟨ht, h⟩ := zb_inl h
  obtain rfl := Sum.inl.inj h
  intro cw tys H locs ls lv st hH hext hl hL hV
  show W p l e R s m args below meth c H locs w.2.2.1 w.2.2.2 Q (F0 m pc ls st)
  have hL : zLR (zad cw) b ls0 lv := hL
  obtain ⟨v, hv, hr⟩ := zLR_at hL hl ht rfl
  obtain ⟨x, rfl, -, -⟩ := zRV_long ht hr
  refine lv_lload_n hx hb hdg rfl hv ?_
  rw [← hn]
  exact k cw tys H locs ls lv (_ :: st) hH hext hl hL ⟨hr, hV⟩
theorem zs_fload (hx : p.tables.exec = Jvm.exec) (hb : c.code = cc) {i : Nat} (hdg : decode cc pc = .ok (.fload i, 2)) (hn : zpc rest = pc + 2) (h : zoLoad rest ls0 st0 w i 2 = Sum.inl S1) (k : zG p l e R s m args below meth c nL D A b ad0 Q S1) : zG p l e R s m args below meth c nL D A b ad0 Q ((pc, o) :: rest, ls0, st0, w) := by
  unfold zoLoad at h
  rw [zfV_eq] at h
  obtain ⟨ht, h⟩ := zb_inl h
  obtain rfl := Sum.inl.inj h
  intro cw tys H locs ls lv st hH hext hl hL hV
  show W p l e R s m args below meth c H locs w.2.2.1 w.2.2.2 Q (F0 m pc ls st)
  have hL : zLR (zad cw) b ls0 lv := hL
  obtain ⟨v, hv, hr⟩ := zLR_at hL hl ht rfl
  obtain ⟨x, rfl⟩ := zRV_float ht hr
  refine lv_fload hx hb hdg hv ?_
  rw [← hn]
  exact k cw tys H locs ls lv (_ :: st) hH hext hl hL ⟨hr, hV⟩
theorem zs_fload_n (hx : p.tables.exec = Jvm.exec) (hb : c.code = cc) {i : Fin 4} (hdg : decode cc pc = .ok (.fload_n i, 1)) (hn : zpc rest = pc + 1) (h : zoLoad rest ls0 st0 w i.val 2 = Sum.inl S1) (k : zG p l e R s m args below meth c nL D A b ad0 Q S1) : zG p l e R s m args below meth c nL D A b ad0 Q ((pc, o) :: rest, ls0, st0, w) := by
  unfold zoLoad at h
  rw [zfV_eq] at h
  obtain ⟨ht, h⟩ := zb_inl h
  obtain rfl := Sum.inl.inj h
  intro cw tys H locs ls lv st hH hext hl hL hV
  show W p l e R s m args below meth c H locs w.2.2.1 w.2.2.2 Q (F0 m pc ls st)
  have hL : zLR (zad cw) b ls0 lv := hL
  obtain ⟨v, hv, hr⟩ := zLR_at hL hl ht rfl
  obtain ⟨x, rfl⟩ := zRV_float ht hr
  refine lv_fload_n hx hb hdg rfl hv ?_
  rw [← hn]
  exact k cw tys H locs ls lv (_ :: st) hH hext hl hL ⟨hr, hV⟩
theorem zs_dload (hx : p.tables.exec = Jvm.exec) (hb : c.code = cc) {i : Nat} (hdg : decode cc pc = .ok (.dload i, 2)) (hn : zpc rest = pc + 2) (h : zoLoad rest ls0 st0 w i 3 = Sum.inl S1) (k : zG p l e R s m args below meth c nL D A b ad0 Q S1) : zG p l e R s m args below meth c nL D A b ad0 Q ((pc, o) :: rest, ls0, st0, w) := by
  unfold zoLoad at h
  rw [zfV_eq] at h
  obtain ⟨ht, h⟩ := zb_inl h
  obtain rfl := Sum.inl.inj h
  intro cw tys H locs ls lv st hH hext hl hL hV
  show W p l e R s m args below meth c H locs w.2.2.1 w.2.2.2 Q (F0 m pc ls st)
  have hL : zLR (zad cw) b ls0 lv := hL
  obtain ⟨v, hv, hr⟩ := zLR_at hL hl ht rfl
  obtain ⟨x, rfl⟩ := zRV_double ht hr
  refine lv_dload hx hb hdg hv ?_
  rw [← hn]
  exact k cw tys H locs ls lv (_ :: st) hH hext hl hL ⟨hr, hV⟩
theorem zs_dload_n (hx : p.tables.exec = Jvm.exec) (hb : c.code = cc) {i : Fin 4} (hdg : decode cc pc = .ok (.dload_n i, 1)) (hn : zpc rest = pc + 1) (h : zoLoad rest ls0 st0 w i.val 3 = Sum.inl S1) (k : zG p l e R s m args below meth c nL D A b ad0 Q S1) : zG p l e R s m args below meth c nL D A b ad0 Q ((pc, o) :: rest, ls0, st0, w) := by
  unfold zoLoad at h
  rw [zfV_eq] at h
  obtain ⟨ht, h⟩ := zb_inl h
  obtain rfl := Sum.inl.inj h
  intro cw tys H locs ls lv st hH hext hl hL hV
  show W p l e R s m args below meth c H locs w.2.2.1 w.2.2.2 Q (F0 m pc ls st)
  have hL : zLR (zad cw) b ls0 lv := hL
  obtain ⟨v, hv, hr⟩ := zLR_at hL hl ht rfl
  obtain ⟨x, rfl⟩ := zRV_double ht hr
  refine lv_dload_n hx hb hdg rfl hv ?_
  rw [← hn]
  exact k cw tys H locs ls lv (_ :: st) hH hext hl hL ⟨hr, hV⟩
theorem zs_aload (hx : p.tables.exec = Jvm.exec) (hb : c.code = cc) {i : Nat} (hdg : decode cc pc = .ok (.aload i, 2)) (hn : zpc rest = pc + 2) (h : zoLoad rest ls0 st0 w i 4 = Sum.inl S1) (k : zG p l e R s m args below meth c nL D A b ad0 Q S1) : zG p l e R s m args below meth c nL D A b ad0 Q ((pc, o) :: rest, ls0, st0, w) := by
  unfold zoLoad at h
  rw [zfV_eq] at h
  obtain ⟨ht, h⟩ := zb_inl h
  obtain rfl := Sum.inl.inj h
  intro cw tys H locs ls lv st hH hext hl hL hV
  show W p l e R s m args below meth c H locs w.2.2.1 w.2.2.2 Q (F0 m pc ls st)
  have hL : zLR (zad cw) b ls0 lv := hL
  obtain ⟨v, hv, hr⟩ := zLR_at hL hl ht rfl
  have K := k cw tys H locs ls lv (v :: st) hH hext hl hL ⟨hr, hV⟩
  rcases zRV_ref ht hr with ⟨x, rfl⟩ | rfl
  · refine lv_aload hx hb hdg hv ?_
    rw [← hn]
    exact K
  · refine lv_aloadN hx hb hdg hv ?_
    rw [← hn]
    exact K
theorem zs_aload_n (hx : p.tables.exec = Jvm.exec) (hb : c.code = cc) {i : Fin 4} (hdg : decode cc pc = .ok (.aload_n i, 1)) (hn : zpc rest = pc + 1) (h : zoLoad rest ls0 st0 w i.val 4 = Sum.inl S1) (k : zG p l e R s m args below meth c nL D A b ad0 Q S1) : zG p l e R s m args below meth c nL D A b ad0 Q ((pc, o) :: rest, ls0, st0, w) := by
  unfold zoLoad at h
  rw [zfV_eq] at h
  obtain ⟨ht, h⟩ := zb_inl h
  obtain rfl := Sum.inl.inj h
  intro cw tys H locs ls lv st hH hext hl hL hV
  show W p l e R s m args below meth c H locs w.2.2.1 w.2.2.2 Q (F0 m pc ls st)
  have hL : zLR (zad cw) b ls0 lv := hL
  obtain ⟨v, hv, hr⟩ := zLR_at hL hl ht rfl
  have K := k cw tys H locs ls lv (v :: st) hH hext hl hL ⟨hr, hV⟩
  rcases zRV_ref ht hr with ⟨x, rfl⟩ | rfl
  · refine lv_aload_n hx hb hdg rfl hv ?_
    rw [← hn]
    exact K
  · refine lv_aload_nN hx hb hdg rfl hv ?_
    rw [← hn]
    exact K
theorem zs_istore (hx : p.tables.exec = Jvm.exec) (hb : c.code = cc) {i : Nat} (hi : i < nL) (hdg : decode cc pc = .ok (.istore i, 2)) (hn : zpc rest = pc + 2) (h : zoStore rest ls0 st0 w i 0 = Sum.inl S1) (k : zG p l e R s m args below meth c nL D A b ad0 Q S1) : zG p l e R s m args below meth c nL D A b ad0 Q ((pc, o) :: rest, ls0, st0, w) := by
  cases st0 with
  | nil => exact (zX_inl h).elim
  | cons v0 st1 =>
    unfold zoStore at h
    simp only [] at h
    obtain ⟨ht, h⟩ := zb_inl h
    rw [zremK_eq] at h
    obtain rfl := Sum.inl.inj h
    intro cw tys H locs ls lv st hH hext hl hL hV
    show W p l e R s m args below meth c H locs w.2.2.1 w.2.2.2 Q (F0 m pc ls st)
    have hL : zLR (zad cw) b ls0 lv := hL
    obtain ⟨v, st2, rfl, hr, hV2⟩ := zVR_cons hV
    obtain ⟨x, rfl, -, -⟩ := zRV_int ht hr
    refine lv_istore hx hb hdg hl hi rfl (fun ls1 hl1 => ?_)
    rw [← hn]
    exact k cw tys H locs ls1 _ st2 hH hext hl1 ⟨rfl, hr, zLR_rem1 hL⟩ hV2
theorem zs_istore_n (hx : p.tables.exec = Jvm.exec) (hb : c.code = cc) {i : Fin 4} (hi : i.val < nL) (hdg : decode cc pc = .ok (.istore_n i, 1)) (hn : zpc rest = pc + 1) (h : zoStore rest ls0 st0 w i.val 0 = Sum.inl S1) (k : zG p l e R s m args below meth c nL D A b ad0 Q S1) : zG p l e R s m args below meth c nL D A b ad0 Q ((pc, o) :: rest, ls0, st0, w) := by
  cases st0 with
  | nil => exact (zX_inl h).elim
  | cons v0 st1 =>
    unfold zoStore at h
    simp only [] at h
    obtain ⟨ht, h⟩ := zb_inl h
    rw [zremK_eq] at h
    obtain rfl := Sum.inl.inj h
    intro cw tys H locs ls lv st hH hext hl hL hV
    show W p l e R s m args below meth c H locs w.2.2.1 w.2.2.2 Q (F0 m pc ls st)
    have hL : zLR (zad cw) b ls0 lv := hL
    obtain ⟨v, st2, rfl, hr, hV2⟩ := zVR_cons hV
    obtain ⟨x, rfl, -, -⟩ := zRV_int ht hr
    refine lv_istore_n hx hb hdg rfl hl hi rfl (fun ls1 hl1 => ?_)
    rw [← hn]
    exact k cw tys H locs ls1 _ st2 hH hext hl1 ⟨rfl, hr, zLR_rem1 hL⟩ hV2
theorem zs_lstore (hx : p.tables.exec = Jvm.exec) (hb : c.code = cc) {i : Nat} (hi : i + 1 < nL) (hdg : decode cc pc = .ok (.lstore i, 2)) (hn : zpc rest = pc + 2) (h : zoStore rest ls0 st0 w i 1 = Sum.inl S1) (k : zG p l e R s m args below meth c nL D A b ad0 Q S1) : zG p l e R s m args below meth c nL D A b ad0 Q ((pc, o) :: rest, ls0, st0, w) := by
  cases st0 with
  | nil => exact (zX_inl h).elim
  | cons v0 st1 =>
    unfold zoStore at h
    simp only [] at h
    obtain ⟨ht, h⟩ := zb_inl h
    rw [zremK_eq] at h
    obtain rfl := Sum.inl.inj h
    intro cw tys H locs ls lv st hH hext hl hL hV
    show W p l e R s m args below meth c H locs w.2.2.1 w.2.2.2 Q (F0 m pc ls st)
    have hL : zLR (zad cw) b ls0 lv := hL
    obtain ⟨v, st2, rfl, hr, hV2⟩ := zVR_cons hV
    obtain ⟨x, rfl, -, -⟩ := zRV_long ht hr
    refine lv_lstore hx hb hdg hl hi rfl (fun ls1 hl1 => ?_)
    rw [← hn]
    exact k cw tys H locs ls1 _ st2 hH hext hl1 ⟨rfl, hr, zLR_rem2 hL⟩ hV2
theorem zs_lstore_n (hx : p.tables.exec = Jvm.exec) (hb : c.code = cc) {i : Fin 4} (hi : i.val + 1 < nL) (hdg : decode cc pc = .ok (.lstore_n i, 1)) (hn : zpc rest = pc + 1) (h : zoStore rest ls0 st0 w i.val 1 = Sum.inl S1) (k : zG p l e R s m args below meth c nL D A b ad0 Q S1) : zG p l e R s m args below meth c nL D A b ad0 Q ((pc, o) :: rest, ls0, st0, w) := by
  cases st0 with
  | nil => exact (zX_inl h).elim
  | cons v0 st1 =>
    unfold zoStore at h
    simp only [] at h
    obtain ⟨ht, h⟩ := zb_inl h
    rw [zremK_eq] at h
    obtain rfl := Sum.inl.inj h
    intro cw tys H locs ls lv st hH hext hl hL hV
    show W p l e R s m args below meth c H locs w.2.2.1 w.2.2.2 Q (F0 m pc ls st)
    have hL : zLR (zad cw) b ls0 lv := hL
    obtain ⟨v, st2, rfl, hr, hV2⟩ := zVR_cons hV
    obtain ⟨x, rfl, -, -⟩ := zRV_long ht hr
    refine lv_lstore_n hx hb hdg rfl hl hi rfl (fun ls1 hl1 => ?_)
    rw [← hn]
    exact k cw tys H locs ls1 _ st2 hH hext hl1 ⟨rfl, hr, zLR_rem2 hL⟩ hV2
theorem zs_fstore (hx : p.tables.exec = Jvm.exec) (hb : c.code = cc) {i : Nat} (hi : i < nL) (hdg : decode cc pc = .ok (.fstore i, 2)) (hn : zpc rest = pc + 2) (h : zoStore rest ls0 st0 w i 2 = Sum.inl S1) (k : zG p l e R s m args below meth c nL D A b ad0 Q S1) : zG p l e R s m args below meth c nL D A b ad0 Q ((pc, o) :: rest, ls0, st0, w) := by
  cases st0 with
  | nil => exact (zX_inl h).elim
  | cons v0 st1 =>
    unfold zoStore at h
    simp only [] at h
    obtain ⟨ht, h⟩ := zb_inl h
    rw [zremK_eq] at h
    obtain rfl := Sum.inl.inj h
    intro cw tys H locs ls lv st hH hext hl hL hV
    show W p l e R s m args below meth c H locs w.2.2.1 w.2.2.2 Q (F0 m pc ls st)
    have hL : zLR (zad cw) b ls0 lv := hL
    obtain ⟨v, st2, rfl, hr, hV2⟩ := zVR_cons hV
    obtain ⟨x, rfl⟩ := zRV_float ht hr
    refine lv_fstore hx hb hdg hl hi rfl (fun ls1 hl1 => ?_)
    rw [← hn]
    exact k cw tys H locs ls1 _ st2 hH hext hl1 ⟨rfl, hr, zLR_rem1 hL⟩ hV2
theorem zs_fstore_n (hx : p.tables.exec = Jvm.exec) (hb : c.code = cc) {i : Fin 4} (hi : i.val < nL) (hdg : decode cc pc = .ok (.fstore_n i, 1)) (hn : zpc rest = pc + 1) (h : zoStore rest ls0 st0 w i.val 2 = Sum.inl S1) (k : zG p l e R s m args below meth c nL D A b ad0 Q S1) : zG p l e R s m args below meth c nL D A b ad0 Q ((pc, o) :: rest, ls0, st0, w) := by
  cases st0 with
  | nil => exact (zX_inl h).elim
  | cons v0 st1 =>
    unfold zoStore at h
    simp only [] at h
    obtain ⟨ht, h⟩ := zb_inl h
    rw [zremK_eq] at h
    obtain rfl := Sum.inl.inj h
    intro cw tys H locs ls lv st hH hext hl hL hV
    show W p l e R s m args below meth c H locs w.2.2.1 w.2.2.2 Q (F0 m pc ls st)
    have hL : zLR (zad cw) b ls0 lv := hL
    obtain ⟨v, st2, rfl, hr, hV2⟩ := zVR_cons hV
    obtain ⟨x, rfl⟩ := zRV_float ht hr
    refine lv_fstore_n hx hb hdg rfl hl hi rfl (fun ls1 hl1 => ?_)
    rw [← hn]
    exact k cw tys H locs ls1 _ st2 hH hext hl1 ⟨rfl, hr, zLR_rem1 hL⟩ hV2
theorem zs_dstore (hx : p.tables.exec = Jvm.exec) (hb : c.code = cc) {i : Nat} (hi : i + 1 < nL) (hdg : decode cc pc = .ok (.dstore i, 2)) (hn : zpc rest = pc + 2) (h : zoStore rest ls0 st0 w i 3 = Sum.inl S1) (k : zG p l e R s m args below meth c nL D A b ad0 Q S1) : zG p l e R s m args below meth c nL D A b ad0 Q ((pc, o) :: rest, ls0, st0, w) := by
  cases st0 with
  | nil => exact (zX_inl h).elim
  | cons v0 st1 =>
    unfold zoStore at h
    simp only [] at h
    obtain ⟨ht, h⟩ := zb_inl h
    rw [zremK_eq] at h
    obtain rfl := Sum.inl.inj h
    intro cw tys H locs ls lv st hH hext hl hL hV
    show W p l e R s m args below meth c H locs w.2.2.1 w.2.2.2 Q (F0 m pc ls st)
    have hL : zLR (zad cw) b ls0 lv := hL
    obtain ⟨v, st2, rfl, hr, hV2⟩ := zVR_cons hV
    obtain ⟨x, rfl⟩ := zRV_double ht hr
    refine lv_dstore hx hb hdg hl hi rfl (fun ls1 hl1 => ?_)
    rw [← hn]
    exact k cw tys H locs ls1 _ st2 hH hext hl1 ⟨rfl, hr, zLR_rem2 hL⟩ hV2
theorem zs_dstore_n (hx : p.tables.exec = Jvm.exec) (hb : c.code = cc) {i : Fin 4} (hi : i.val + 1 < nL) (hdg : decode cc pc = .ok (.dstore_n i, 1)) (hn : zpc rest = pc + 1) (h : zoStore rest ls0 st0 w i.val 3 = Sum.inl S1) (k : zG p l e R s m args below meth c nL D A b ad0 Q S1) : zG p l e R s m args below meth c nL D A b ad0 Q ((pc, o) :: rest, ls0, st0, w) := by
  cases st0 with
  | nil => exact (zX_inl h).elim
  | cons v0 st1 =>
    unfold zoStore at h
    simp only [] at h
    obtain ⟨ht, h⟩ := zb_inl h
    rw [zremK_eq] at h
    obtain rfl := Sum.inl.inj h
    intro cw tys H locs ls lv st hH hext hl hL hV
    show W p l e R s m args below meth c H locs w.2.2.1 w.2.2.2 Q (F0 m pc ls st)
    have hL : zLR (zad cw) b ls0 lv := hL
    obtain ⟨v, st2, rfl, hr, hV2⟩ := zVR_cons hV
    obtain ⟨x, rfl⟩ := zRV_double ht hr
    refine lv_dstore_n hx hb hdg rfl hl hi rfl (fun ls1 hl1 => ?_)
    rw [← hn]
    exact k cw tys H locs ls1 _ st2 hH hext hl1 ⟨rfl, hr, zLR_rem2 hL⟩ hV2
theorem zs_astore (hx : p.tables.exec = Jvm.exec) (hb : c.code = cc) {i : Nat} (hi : i < nL) (hdg : decode cc pc = .ok (.astore i, 2)) (hn : zpc rest = pc + 2) (h : zoStore rest ls0 st0 w i 4 = Sum.inl S1) (k : zG p l e R s m args below meth c nL D A b ad0 Q S1) : zG p l e R s m args below meth c nL D A b ad0 Q ((pc, o) :: rest, ls0, st0, w) := by
  cases st0 with
  | nil => exact (zX_inl h).elim
  | cons v0 st1 =>
    unfold zoStore at h
    simp only [] at h
    obtain ⟨ht, h⟩ := zb_inl h
    rw [zremK_eq] at h
    obtain rfl := Sum.inl.inj h
    intro cw tys H locs ls lv st hH hext hl hL hV
    show W p l e R s m args below meth c H locs w.2.2.1 w.2.2.2 Q (F0 m pc ls st)
    have hL : zLR (zad cw) b ls0 lv := hL
    obtain ⟨v, st2, rfl, hr, hV2⟩ := zVR_cons hV
    rcases zRV_ref ht hr with ⟨x, rfl⟩ | rfl
    · refine lv_astore hx hb hdg hl hi rfl (fun ls1 hl1 => ?_)
      rw [← hn]
      exact k cw tys H locs ls1 _ st2 hH hext hl1 ⟨rfl, hr, zLR_rem1 hL⟩ hV2
    · refine lv_astoreN hx hb hdg hl hi rfl (fun ls1 hl1 => ?_)
      rw [← hn]
      exact k cw tys H locs ls1 _ st2 hH hext hl1 ⟨rfl, hr, zLR_rem1 hL⟩ hV2
theorem zs_astore_n (hx : p.tables.exec = Jvm.exec) (hb : c.code = cc) {i : Fin 4} (hi : i.val < nL) (hdg : decode cc pc = .ok (.astore_n i, 1)) (hn : zpc rest = pc + 1) (h : zoStore rest ls0 st0 w i.val 4 = Sum.inl S1) (k : zG p l e R s m args below meth c nL D A b ad0 Q S1) : zG p l e R s m args below meth c nL D A b ad0 Q ((pc, o) :: rest, ls0, st0, w) := by
  cases st0 with
  | nil => exact (zX_inl h).elim
  | cons v0 st1 =>
    unfold zoStore at h
    simp only [] at h
    obtain ⟨ht, h⟩ := zb_inl h
    rw [zremK_eq] at h
    obtain rfl := Sum.inl.inj h
    intro cw tys H locs ls lv st hH hext hl hL hV
    show W p l e R s m args below meth c H locs w.2.2.1 w.2.2.2 Q (F0 m pc ls st)
    have hL : zLR (zad cw) b ls0 lv := hL
    obtain ⟨v, st2, rfl, hr, hV2⟩ := zVR_cons hV
    rcases zRV_ref ht hr with ⟨x, rfl⟩ | rfl
    · refine lv_astore_n hx hb hdg rfl hl hi rfl (fun ls1 hl1 => ?_)
      rw [← hn]
      exact k cw tys H locs ls1 _ st2 hH hext hl1 ⟨rfl, hr, zLR_rem1 hL⟩ hV2
    · refine lv_astore_nN hx hb hdg rfl hl hi rfl (fun ls1 hl1 => ?_)
      rw [← hn]
      exact k cw tys H locs ls1 _ st2 hH hext hl1 ⟨rfl, hr, zLR_rem1 hL⟩ hV2
theorem zs_iinc (hx : p.tables.exec = Jvm.exec) (hb : c.code = cc) {i : Nat} {n : Int} {x : Nat} (hi : i < nL) (hx2 : Int32.ofInt n = nI x) (hdg : decode cc pc = .ok (.iinc i n, 3)) (hn : zpc rest = pc + 3) (h : zoInc rest ls0 st0 w i [x] = Sum.inl S1) (k : zG p l e R s m args below meth c nL D A b ad0 Q S1) : zG p l e R s m args below meth c nL D A b ad0 Q ((pc, o) :: rest, ls0, st0, w) := by
  unfold zoInc at h
  simp only [] at h
  rw [zfV_eq] at h
  obtain ⟨ht, h⟩ := zb_inl h
  rw [zfN_eq, zremK_eq] at h
  obtain rfl := Sum.inl.inj h
  intro cw tys H locs ls lv st hH hext hl hL hV
  show W p l e R s m args below meth c H locs w.2.2.1 w.2.2.2 Q (F0 m pc ls st)
  have hL : zLR (zad cw) b ls0 lv := hL
  rcases zLR_get (d := (99, 0, 0)) (i := i) hL with g | ⟨v, g1, g2⟩
  · rw [g] at ht; cases ht
  · obtain ⟨j, hj⟩ := List.getElem?_of_mem g1
    generalize zget ls0 i (99, 0, 0) = q at ht g2 k
    obtain ⟨t, x1, y1⟩ := q
    have ht : t = 0 := zbeq ht
    subst ht
    have g2 := zRV_0 g2
    subst g2
    refine lv_iinc (k := j) hx hb hdg hl hj (by rw [hx2, nI_add, ← zmod]) hi rfl (fun ls1 hl1 => ?_)
    rw [← hn]
    exact k cw tys H locs ls1 _ st hH hext hl1 ⟨rfl, rfl, zLR_rem1 hL⟩ hV
theorem zs_iconst (hx : p.tables.exec = Jvm.exec) (hb : c.code = cc) {n : Int} {x : Nat} (hv : Int32.ofInt n = nI x) (hdg : decode cc pc = .ok (.iconst n, 1)) (hn : zpc rest = pc + 1) (h : zoConst rest ls0 st0 w [0, x, 0] = Sum.inl S1) (k : zG p l e R s m args below meth c nL D A b ad0 Q S1) : zG p l e R s m args below meth c nL D A b ad0 Q ((pc, o) :: rest, ls0, st0, w) := by
  obtain rfl := Sum.inl.inj h
  intro cw tys H locs ls lv st hH hext hl hL hV
  show W p l e R s m args below meth c H locs w.2.2.1 w.2.2.2 Q (F0 m pc ls st)
  have hL : zLR (zad cw) b ls0 lv := hL
  refine lv_iconst hx hb hdg hv ?_
  rw [← hn]
  exact k cw tys H locs ls lv (_ :: st) hH hext hl hL ⟨rfl, hV⟩
theorem zs_bipush (hx : p.tables.exec = Jvm.exec) (hb : c.code = cc) {n : Int} {x : Nat} (hv : (Int8.ofInt n).toInt32 = nI x) (hdg : decode cc pc = .ok (.bipush n, 2)) (hn : zpc rest = pc + 2) (h : zoConst rest ls0 st0 w [0, x, 0] = Sum.inl S1) (k : zG p l e R s m args below meth c nL D A b ad0 Q S1) : zG p l e R s m args below meth c nL D A b ad0 Q ((pc, o) :: rest, ls0, st0, w) := by
  obtain rfl := Sum.inl.inj h
  intro cw tys H locs ls lv st hH hext hl hL hV
  show W p l e R s m args below meth c H locs w.2.2.1 w.2.2.2 Q (F0 m pc ls st)
  have hL : zLR (zad cw) b ls0 lv := hL
  refine lv_bipush hx hb hdg hv ?_
  rw [← hn]
  exact k cw tys H locs ls lv (_ :: st) hH hext hl hL ⟨rfl, hV⟩
theorem zs_sipush (hx : p.tables.exec = Jvm.exec) (hb : c.code = cc) {n : Int} {x : Nat} (hv : (Int16.ofInt n).toInt32 = nI x) (hdg : decode cc pc = .ok (.sipush n, 3)) (hn : zpc rest = pc + 3) (h : zoConst rest ls0 st0 w [0, x, 0] = Sum.inl S1) (k : zG p l e R s m args below meth c nL D A b ad0 Q S1) : zG p l e R s m args below meth c nL D A b ad0 Q ((pc, o) :: rest, ls0, st0, w) := by
  obtain rfl := Sum.inl.inj h
  intro cw tys H locs ls lv st hH hext hl hL hV
  show W p l e R s m args below meth c H locs w.2.2.1 w.2.2.2 Q (F0 m pc ls st)
  have hL : zLR (zad cw) b ls0 lv := hL
  refine lv_sipush hx hb hdg hv ?_
  rw [← hn]
  exact k cw tys H locs ls lv (_ :: st) hH hext hl hL ⟨rfl, hV⟩
theorem zs_lconst (hx : p.tables.exec = Jvm.exec) (hb : c.code = cc) {n : Fin 2} {x : Nat} (hv : Int64.ofNat (n : Nat) = lN x) (hdg : decode cc pc = .ok (.lconst n, 1)) (hn : zpc rest = pc + 1) (h : zoConst rest ls0 st0 w [2, x, 0] = Sum.inl S1) (k : zG p l e R s m args below meth c nL D A b ad0 Q S1) : zG p l e R s m args below meth c nL D A b ad0 Q ((pc, o) :: rest, ls0, st0, w) := by
  obtain rfl := Sum.inl.inj h
  intro cw tys H locs ls lv st hH hext hl hL hV
  show W p l e R s m args below meth c H locs w.2.2.1 w.2.2.2 Q (F0 m pc ls st)
  have hL : zLR (zad cw) b ls0 lv := hL
  refine lv_lconst hx hb hdg hv ?_
  rw [← hn]
  exact k cw tys H locs ls lv (_ :: st) hH hext hl hL ⟨rfl, hV⟩
theorem zs_fconst0 (hx : p.tables.exec = Jvm.exec) (hb : c.code = cc) (hdg : decode cc pc = .ok (.fconst 0, 1)) (hn : zpc rest = pc + 1) (h : zoConst rest ls0 st0 w [6, 0, 0] = Sum.inl S1) (k : zG p l e R s m args below meth c nL D A b ad0 Q S1) : zG p l e R s m args below meth c nL D A b ad0 Q ((pc, o) :: rest, ls0, st0, w) := by
  obtain rfl := Sum.inl.inj h
  intro cw tys H locs ls lv st hH hext hl hL hV
  show W p l e R s m args below meth c H locs w.2.2.1 w.2.2.2 Q (F0 m pc ls st)
  have hL : zLR (zad cw) b ls0 lv := hL
  refine lv_fconst0 hx hb hdg ?_
  rw [← hn]
  exact k cw tys H locs ls lv (_ :: st) hH hext hl hL ⟨rfl, hV⟩
theorem zs_dconst0 (hx : p.tables.exec = Jvm.exec) (hb : c.code = cc) (hdg : decode cc pc = .ok (.dconst 0, 1)) (hn : zpc rest = pc + 1) (h : zoConst rest ls0 st0 w [7, 0, 0] = Sum.inl S1) (k : zG p l e R s m args below meth c nL D A b ad0 Q S1) : zG p l e R s m args below meth c nL D A b ad0 Q ((pc, o) :: rest, ls0, st0, w) := by
  obtain rfl := Sum.inl.inj h
  intro cw tys H locs ls lv st hH hext hl hL hV
  show W p l e R s m args below meth c H locs w.2.2.1 w.2.2.2 Q (F0 m pc ls st)
  have hL : zLR (zad cw) b ls0 lv := hL
  refine lv_dconst0 hx hb hdg ?_
  rw [← hn]
  exact k cw tys H locs ls lv (_ :: st) hH hext hl hL ⟨rfl, hV⟩
theorem zs_ldc2 (hx : p.tables.exec = Jvm.exec) (hb : c.code = cc) {own : String} {index x : Nat} (hown : s.vm.findClass own = some m.cls) (hc : (Jvm.Cond.constantLong own index (lN x)).before args s = true) (hdg : decode cc pc = .ok (.ldc2_w index, 3)) (hn : zpc rest = pc + 3) (h : zoConst rest ls0 st0 w [2, x, 0] = Sum.inl S1) (k : zG p l e R s m args below meth c nL D A b ad0 Q S1) : zG p l e R s m args below meth c nL D A b ad0 Q ((pc, o) :: rest, ls0, st0, w) := by
  obtain rfl := Sum.inl.inj h
  intro cw tys H locs ls lv st hH hext hl hL hV
  show W p l e R s m args below meth c H locs w.2.2.1 w.2.2.2 Q (F0 m pc ls st)
  have hL : zLR (zad cw) b ls0 lv := hL
  refine lv_ldc2 hx hb hown hc hdg ?_
  rw [← hn]
  exact k cw tys H locs ls lv (_ :: st) hH hext hl hL ⟨rfl, hV⟩
theorem zs_ldcS (hx : p.tables.exec = Jvm.exec) (hb : c.code = cc) {own tx : String} {index q : Nat} (hown : s.vm.findClass own = some m.cls) (hZ : vk_R own index tx q s) (hdg : decode cc pc = .ok (.ldc index, 2)) (hn : zpc rest = pc + 2) (h : zoConst rest ls0 st0 w [9, 0, 0] = Sum.inl S1) (k : zG p l e R s m args below meth c nL D A b ad0 Q S1) : zG p l e R s m args below meth c nL D A b ad0 Q ((pc, o) :: rest, ls0, st0, w) := by
  obtain rfl := Sum.inl.inj h
  intro cw tys H locs ls lv st hH hext hl hL hV
  show W p l e R s m args below meth c H locs w.2.2.1 w.2.2.2 Q (F0 m pc ls st)
  have hL : zLR (zad cw) b ls0 lv := hL
  refine va_ldcS hx hb hown hZ hdg ?_
  rw [← hn]
  exact k cw tys H locs ls lv (_ :: st) hH hext hl hL ⟨⟨q, rfl⟩, hV⟩
theorem zs_iadd (hx : p.tables.exec = Jvm.exec) (hb : c.code = cc) (hdg : decode cc pc = .ok (.iadd, 1)) (hn : zpc rest = pc + 1) (h : zoArith rest ls0 st0 w 0 = Sum.inl S1) (k : zG p l e R s m args below meth c nL D A b ad0 Q S1) : zG p l e R s m args below meth c nL D A b ad0 Q ((pc, o) :: rest, ls0, st0, w) := by
  cases st0 with
  | nil => exact (zX_inl h).elim
  | cons y0 st1 =>
    cases st1 with
    | nil => exact (zX_inl h).elim
    | cons x0 st1 =>
      obtain ⟨xt, x1, x2⟩ := x0
      obtain ⟨yt, y1, y2⟩ := y0
      obtain ⟨e1, e2, g⟩ := zarith_k (by decide) (by decide) h
      subst e1
      subst e2
      have g2 := zar_iadd g
      obtain rfl := Sum.inl.inj g2
      intro cw tys H locs ls lv st hH hext hl hL hV
      show W p l e R s m args below meth c H locs w.2.2.1 w.2.2.2 Q (F0 m pc ls st)
      have hL : zLR (zad cw) b ls0 lv := hL
      obtain ⟨v, st3, rfl, hr, hV1⟩ := zVR_cons hV
      obtain ⟨v2, st2, rfl, hr2, hV2⟩ := zVR_cons hV1
      have hr := zRV_0 hr
      have hr2 := zRV_0 hr2
      subst hr
      subst hr2
      refine lv_iadd hx hb hdg ?_
      rw [nI_add, ← zmod, ← hn]
      exact k cw tys H locs ls lv (_ :: st2) hH hext hl hL ⟨rfl, hV2⟩
theorem zs_isub (hx : p.tables.exec = Jvm.exec) (hb : c.code = cc) (hdg : decode cc pc = .ok (.isub, 1)) (hn : zpc rest = pc + 1) (h : zoArith rest ls0 st0 w 1 = Sum.inl S1) (k : zG p l e R s m args below meth c nL D A b ad0 Q S1) : zG p l e R s m args below meth c nL D A b ad0 Q ((pc, o) :: rest, ls0, st0, w) := by
  cases st0 with
  | nil => exact (zX_inl h).elim
  | cons y0 st1 =>
    cases st1 with
    | nil => exact (zX_inl h).elim
    | cons x0 st1 =>
      obtain ⟨xt, x1, x2⟩ := x0
      obtain ⟨yt, y1, y2⟩ := y0
      obtain ⟨e1, e2, g⟩ := zarith_k (by decide) (by decide) h
      subst e1
      subst e2
      have g2 := zar_isub g
      obtain rfl := Sum.inl.inj g2
      intro cw tys H locs ls lv st hH hext hl hL hV
      show W p l e R s m args below meth c H locs w.2.2.1 w.2.2.2 Q (F0 m pc ls st)
      have hL : zLR (zad cw) b ls0 lv := hL
      obtain ⟨v, st3, rfl, hr, hV1⟩ := zVR_cons hV
      obtain ⟨v2, st2, rfl, hr2, hV2⟩ := zVR_cons hV1
      have hr := zRV_0 hr
      have hr2 := zRV_0 hr2
      subst hr
      subst hr2
      refine lv_isub hx hb hdg ?_
      rw [← zsub, ← zmod, ← hn]
      exact k cw tys H locs ls lv (_ :: st2) hH hext hl hL ⟨rfl, hV2⟩
theorem zs_imul (hx : p.tables.exec = Jvm.exec) (hb : c.code = cc) (hdg : decode cc pc = .ok (.imul, 1)) (hn : zpc rest = pc + 1) (h : zoArith rest ls0 st0 w 2 = Sum.inl S1) (k : zG p l e R s m args below meth c nL D A b ad0 Q S1) : zG p l e R s m args below meth c nL D A b ad0 Q ((pc, o) :: rest, ls0, st0, w) := by
  cases st0 with
  | nil => exact (zX_inl h).elim
  | cons y0 st1 =>
    cases st1 with
    | nil => exact (zX_inl h).elim
    | cons x0 st1 =>
      obtain ⟨xt, x1, x2⟩ := x0
      obtain ⟨yt, y1, y2⟩ := y0
      obtain ⟨e1, e2, g⟩ := zarith_k (by decide) (by decide) h
      subst e1
      subst e2
      have g2 := zar_imul g
      obtain rfl := Sum.inl.inj g2
      intro cw tys H locs ls lv st hH hext hl hL hV
      show W p l e R s m args below meth c H locs w.2.2.1 w.2.2.2 Q (F0 m pc ls st)
      have hL : zLR (zad cw) b ls0 lv := hL
      obtain ⟨v, st3, rfl, hr, hV1⟩ := zVR_cons hV
      obtain ⟨v2, st2, rfl, hr2, hV2⟩ := zVR_cons hV1
      have hr := zRV_0 hr
      have hr2 := zRV_0 hr2
      subst hr
      subst hr2
      refine lv_imul hx hb hdg ?_
      rw [pk_mul, ← zmod, ← hn]
      exact k cw tys H locs ls lv (_ :: st2) hH hext hl hL ⟨rfl, hV2⟩
theorem zs_idiv (hx : p.tables.exec = Jvm.exec) (hb : c.code = cc) (hdg : decode cc pc = .ok (.idiv, 1)) (hn : zpc rest = pc + 1) (h : zoArith rest ls0 st0 w 3 = Sum.inl S1) (k : zG p l e R s m args below meth c nL D A b ad0 Q S1) : zG p l e R s m args below meth c nL D A b ad0 Q ((pc, o) :: rest, ls0, st0, w) := by
  cases st0 with
  | nil => exact (zX_inl h).elim
  | cons y0 st1 =>
    cases st1 with
    | nil => exact (zX_inl h).elim
    | cons x0 st1 =>
      obtain ⟨xt, x1, x2⟩ := x0
      obtain ⟨yt, y1, y2⟩ := y0
      obtain ⟨e1, e2, g⟩ := zarith_k (by decide) (by decide) h
      subst e1
      subst e2
      obtain ⟨d1, d2, d3, g2⟩ := zar_idiv g
      obtain rfl := Sum.inl.inj g2
      intro cw tys H locs ls lv st hH hext hl hL hV
      show W p l e R s m args below meth c H locs w.2.2.1 w.2.2.2 Q (F0 m pc ls st)
      have hL : zLR (zad cw) b ls0 lv := hL
      obtain ⟨v, st3, rfl, hr, hV1⟩ := zVR_cons hV
      obtain ⟨v2, st2, rfl, hr2, hV2⟩ := zVR_cons hV1
      have hr := zRV_0 hr
      have hr2 := zRV_0 hr2
      subst hr
      subst hr2
      refine lv_idiv hx hb hdg (znI0 d2 d3) ?_
      rw [zdivE d1 d2 d3, ← hn]
      exact k cw tys H locs ls lv (_ :: st2) hH hext hl hL ⟨rfl, hV2⟩
theorem zs_irem (hx : p.tables.exec = Jvm.exec) (hb : c.code = cc) (hdg : decode cc pc = .ok (.irem, 1)) (hn : zpc rest = pc + 1) (h : zoArith rest ls0 st0 w 4 = Sum.inl S1) (k : zG p l e R s m args below meth c nL D A b ad0 Q S1) : zG p l e R s m args below meth c nL D A b ad0 Q ((pc, o) :: rest, ls0, st0, w) := by
  cases st0 with
  | nil => exact (zX_inl h).elim
  | cons y0 st1 =>
    cases st1 with
    | nil => exact (zX_inl h).elim
    | cons x0 st1 =>
      obtain ⟨xt, x1, x2⟩ := x0
      obtain ⟨yt, y1, y2⟩ := y0
      obtain ⟨e1, e2, g⟩ := zarith_k (by decide) (by decide) h
      subst e1
      subst e2
      obtain ⟨d1, d2, d3, g2⟩ := zar_irem g
      obtain rfl := Sum.inl.inj g2
      intro cw tys H locs ls lv st hH hext hl hL hV
      show W p l e R s m args below meth c H locs w.2.2.1 w.2.2.2 Q (F0 m pc ls st)
      have hL : zLR (zad cw) b ls0 lv := hL
      obtain ⟨v, st3, rfl, hr, hV1⟩ := zVR_cons hV
      obtain ⟨v2, st2, rfl, hr2, hV2⟩ := zVR_cons hV1
      have hr := zRV_0 hr
      have hr2 := zRV_0 hr2
      subst hr
      subst hr2
      refine lv_irem hx hb hdg (znI0 d2 d3) ?_
      rw [zremE d1 d2 d3, ← hn]
      exact k cw tys H locs ls lv (_ :: st2) hH hext hl hL ⟨rfl, hV2⟩
theorem zs_icmp_eq (hx : p.tables.exec = Jvm.exec) (hb : c.code = cc) {off : Int} {tgt : Nat} {full : List zE} (hoff : (pc : Int) + off = (tgt : Int)) (hdg : decode cc pc = .ok (.if_icmp .eq off, 3)) (hn : zpc rest = pc + 3) (h : zoIcmp rest ls0 st0 w full tgt 0 = Sum.inl S1) (k : zG p l e R s m args below meth c nL D A b ad0 Q S1) : zG p l e R s m args below meth c nL D A b ad0 Q ((pc, o) :: rest, ls0, st0, w) := by
  cases st0 with
  | nil => exact (zX_inl h).elim
  | cons y0 st1 =>
    cases st1 with
    | nil => exact (zX_inl h).elim
    | cons x0 st1 =>
      intro cw tys H locs ls lv st hH hext hl hL hV
      show W p l e R s m args below meth c H locs w.2.2.1 w.2.2.2 Q (F0 m pc ls st)
      have hL : zLR (zad cw) b ls0 lv := hL
      obtain ⟨v, st3, rfl, hr, hV1⟩ := zVR_cons hV
      obtain ⟨v2, st2, rfl, hr2, hV2⟩ := zVR_cons hV1
      obtain ⟨x, y, rfl, rfl, t, ht, hk⟩ := zcmp_spec hr2 hr (c := 0) h
      refine lv_icmp_eq (tgt := tgt) hx hb hdg hoff (fun q => ?_) (fun q => ?_)
      · have ht : t = true := ht.mpr q
        subst ht
        obtain ⟨rfl, g⟩ := zgo_inl hk
        rw [← g]
        exact k cw tys H locs ls lv st2 hH hext hl hL hV2
      · have ht : t = false := zfalse (fun z => q (ht.mp z))
        subst ht
        obtain rfl := Sum.inl.inj hk
        rw [← hn]
        exact k cw tys H locs ls lv st2 hH hext hl hL hV2
theorem zs_if_eq (hx : p.tables.exec = Jvm.exec) (hb : c.code = cc) {off : Int} {tgt : Nat} {full : List zE} (hoff : (pc : Int) + off = (tgt : Int)) (hdg : decode cc pc = .ok (.ifCond .eq off, 3)) (hn : zpc rest = pc + 3) (h : zoIf rest ls0 st0 w full tgt 0 = Sum.inl S1) (k : zG p l e R s m args below meth c nL D A b ad0 Q S1) : zG p l e R s m args below meth c nL D A b ad0 Q ((pc, o) :: rest, ls0, st0, w) := by
  cases st0 with
  | nil => exact (zX_inl h).elim
  | cons x0 st1 =>
    intro cw tys H locs ls lv st hH hext hl hL hV
    show W p l e R s m args below meth c H locs w.2.2.1 w.2.2.2 Q (F0 m pc ls st)
    have hL : zLR (zad cw) b ls0 lv := hL
    obtain ⟨v2, st2, rfl, hr2, hV2⟩ := zVR_cons hV
    obtain ⟨x, y, rfl, e0, t, ht, hk⟩ := zcmp_spec (v2 := .int (nI 0)) hr2 (show zRV (zad cw) b (0, 0, 0) (.int (nI 0)) from rfl) (c := 0) h
    have e0 : y = 0 := by cases e0; rfl
    subst e0
    refine lv_if_eq (tgt := tgt) hx hb hdg hoff (fun q => ?_) (fun q => ?_)
    · have ht : t = true := ht.mpr q
      subst ht
      obtain ⟨rfl, g⟩ := zgo_inl hk
      rw [← g]
      exact k cw tys H locs ls lv st2 hH hext hl hL hV2
    · have ht : t = false := zfalse (fun z => q (ht.mp z))
      subst ht
      obtain rfl := Sum.inl.inj hk
      rw [← hn]
      exact k cw tys H locs ls lv st2 hH hext hl hL hV2
theorem zs_icmp_ne (hx : p.tables.exec = Jvm.exec) (hb : c.code = cc) {off : Int} {tgt : Nat} {full : List zE} (hoff : (pc : Int) + off = (tgt : Int)) (hdg : decode cc pc = .ok (.if_icmp .ne off, 3)) (hn : zpc rest = pc + 3) (h : zoIcmp rest ls0 st0 w full tgt 1 = Sum.inl S1) (k : zG p l e R s m args below meth c nL D A b ad0 Q S1) : zG p l e R s m args below meth c nL D A b ad0 Q ((pc, o) :: rest, ls0, st0, w) := by
  cases st0 with
  | nil => exact (zX_inl h).elim
  | cons y0 st1 =>
    cases st1 with
    | nil => exact (zX_inl h).elim
    | cons x0 st1 =>
      intro cw tys H locs ls lv st hH hext hl hL hV
      show W p l e R s m args below meth c H locs w.2.2.1 w.2.2.2 Q (F0 m pc ls st)
      have hL : zLR (zad cw) b ls0 lv := hL
      obtain ⟨v, st3, rfl, hr, hV1⟩ := zVR_cons hV
      obtain ⟨v2, st2, rfl, hr2, hV2⟩ := zVR_cons hV1
      obtain ⟨x, y, rfl, rfl, t, ht, hk⟩ := zcmp_spec hr2 hr (c := 1) h
      refine lv_icmp_ne (tgt := tgt) hx hb hdg hoff (fun q => ?_) (fun q => ?_)
      · have ht : t = true := ht.mpr q
        subst ht
        obtain ⟨rfl, g⟩ := zgo_inl hk
        rw [← g]
        exact k cw tys H locs ls lv st2 hH hext hl hL hV2
      · have ht : t = false := zfalse (fun z => ht.mp z q)
        subst ht
        obtain rfl := Sum.inl.inj hk
        rw [← hn]
        exact k cw tys H locs ls lv st2 hH hext hl hL hV2
theorem zs_if_ne (hx : p.tables.exec = Jvm.exec) (hb : c.code = cc) {off : Int} {tgt : Nat} {full : List zE} (hoff : (pc : Int) + off = (tgt : Int)) (hdg : decode cc pc = .ok (.ifCond .ne off, 3)) (hn : zpc rest = pc + 3) (h : zoIf rest ls0 st0 w full tgt 1 = Sum.inl S1) (k : zG p l e R s m args below meth c nL D A b ad0 Q S1) : zG p l e R s m args below meth c nL D A b ad0 Q ((pc, o) :: rest, ls0, st0, w) := by
  cases st0 with
  | nil => exact (zX_inl h).elim
  | cons x0 st1 =>
    intro cw tys H locs ls lv st hH hext hl hL hV
    show W p l e R s m args below meth c H locs w.2.2.1 w.2.2.2 Q (F0 m pc ls st)
    have hL : zLR (zad cw) b ls0 lv := hL
    obtain ⟨v2, st2, rfl, hr2, hV2⟩ := zVR_cons hV
    obtain ⟨x, y, rfl, e0, t, ht, hk⟩ := zcmp_spec (v2 := .int (nI 0)) hr2 (show zRV (zad cw) b (0, 0, 0) (.int (nI 0)) from rfl) (c := 1) h
    have e0 : y = 0 := by cases e0; rfl
    subst e0
    refine lv_if_ne (tgt := tgt) hx hb hdg hoff (fun q => ?_) (fun q => ?_)
    · have ht : t = true := ht.mpr q
      subst ht
      obtain ⟨rfl, g⟩ := zgo_inl hk
      rw [← g]
      exact k cw tys H locs ls lv st2 hH hext hl hL hV2
    · have ht : t = false := zfalse (fun z => ht.mp z q)
      subst ht
      obtain rfl := Sum.inl.inj hk
      rw [← hn]
      exact k cw tys H locs ls lv st2 hH hext hl hL hV2
theorem zs_icmp_lt (hx : p.tables.exec = Jvm.exec) (hb : c.code = cc) {off : Int} {tgt : Nat} {full : List zE} (hoff : (pc : Int) + off = (tgt : Int)) (hdg : decode cc pc = .ok (.if_icmp .lt off, 3)) (hn : zpc rest = pc + 3) (h : zoIcmp rest ls0 st0 w full tgt 2 = Sum.inl S1) (k : zG p l e R s m args below meth c nL D A b ad0 Q S1) : zG p l e R s m args below meth c nL D A b ad0 Q ((pc, o) :: rest, ls0, st0, w) := by
  cases st0 with
  | nil => exact (zX_inl h).elim
  | cons y0 st1 =>
    cases st1 with
    | nil => exact (zX_inl h).elim
    | cons x0 st1 =>
      intro cw tys H locs ls lv st hH hext hl hL hV
      show W p l e R s m args below meth c H locs w.2.2.1 w.2.2.2 Q (F0 m pc ls st)
      have hL : zLR (zad cw) b ls0 lv := hL
      obtain ⟨v, st3, rfl, hr, hV1⟩ := zVR_cons hV
      obtain ⟨v2, st2, rfl, hr2, hV2⟩ := zVR_cons hV1
      obtain ⟨x, y, rfl, rfl, t, ht, hk⟩ := zcmp_spec hr2 hr (c := 2) h
      refine lv_icmp_lt (tgt := tgt) hx hb hdg hoff (fun q => ?_) (fun q => ?_)
      · have ht : t = true := ht.mpr q
        subst ht
        obtain ⟨rfl, g⟩ := zgo_inl hk
        rw [← g]
        exact k cw tys H locs ls lv st2 hH hext hl hL hV2
      · have ht : t = false := zfalse (fun z => q (ht.mp z))
        subst ht
        obtain rfl := Sum.inl.inj hk
        rw [← hn]
        exact k cw tys H locs ls lv st2 hH hext hl hL hV2
theorem zs_if_lt (hx : p.tables.exec = Jvm.exec) (hb : c.code = cc) {off : Int} {tgt : Nat} {full : List zE} (hoff : (pc : Int) + off = (tgt : Int)) (hdg : decode cc pc = .ok (.ifCond .lt off, 3)) (hn : zpc rest = pc + 3) (h : zoIf rest ls0 st0 w full tgt 2 = Sum.inl S1) (k : zG p l e R s m args below meth c nL D A b ad0 Q S1) : zG p l e R s m args below meth c nL D A b ad0 Q ((pc, o) :: rest, ls0, st0, w) := by
  cases st0 with
  | nil => exact (zX_inl h).elim
  | cons x0 st1 =>
    intro cw tys H locs ls lv st hH hext hl hL hV
    show W p l e R s m args below meth c H locs w.2.2.1 w.2.2.2 Q (F0 m pc ls st)
    have hL : zLR (zad cw) b ls0 lv := hL
    obtain ⟨v2, st2, rfl, hr2, hV2⟩ := zVR_cons hV
    obtain ⟨x, y, rfl, e0, t, ht, hk⟩ := zcmp_spec (v2 := .int (nI 0)) hr2 (show zRV (zad cw) b (0, 0, 0) (.int (nI 0)) from rfl) (c := 2) h
    have e0 : y = 0 := by cases e0; rfl
    subst e0
    refine lv_if_lt (tgt := tgt) hx hb hdg hoff (fun q => ?_) (fun q => ?_)
    · have ht : t = true := ht.mpr q
      subst ht
      obtain ⟨rfl, g⟩ := zgo_inl hk
      rw [← g]
      exact k cw tys H locs ls lv st2 hH hext hl hL hV2
    · have ht : t = false := zfalse (fun z => q (ht.mp z))
      subst ht
      obtain rfl := Sum.inl.inj hk
      rw [← hn]
      exact k cw tys H locs ls lv st2 hH hext hl hL hV2
theorem zs_icmp_ge (hx : p.tables.exec = Jvm.exec) (hb : c.code = cc) {off : Int} {tgt : Nat} {full : List zE} (hoff : (pc : Int) + off = (tgt : Int)) (hdg : decode cc pc = .ok (.if_icmp .ge off, 3)) (hn : zpc rest = pc + 3) (h : zoIcmp rest ls0 st0 w full tgt 3 = Sum.inl S1) (k : zG p l e R s m args below meth c nL D A b ad0 Q S1) : zG p l e R s m args below meth c nL D A b ad0 Q ((pc, o) :: rest, ls0, st0, w) := by
  cases st0 with
  | nil => exact (zX_inl h).elim
  | cons y0 st1 =>
    cases st1 with
    | nil => exact (zX_inl h).elim
    | cons x0 st1 =>
      intro cw tys H locs ls lv st hH hext hl hL hV
      show W p l e R s m args below meth c H locs w.2.2.1 w.2.2.2 Q (F0 m pc ls st)
      have hL : zLR (zad cw) b ls0 lv := hL
      obtain ⟨v, st3, rfl, hr, hV1⟩ := zVR_cons hV
      obtain ⟨v2, st2, rfl, hr2, hV2⟩ := zVR_cons hV1
      obtain ⟨x, y, rfl, rfl, t, ht, hk⟩ := zcmp_spec hr2 hr (c := 3) h
      refine lv_icmp_ge (tgt := tgt) hx hb hdg hoff (fun q => ?_) (fun q => ?_)
      · have ht : t = true := ht.mpr q
        subst ht
        obtain ⟨rfl, g⟩ := zgo_inl hk
        rw [← g]
        exact k cw tys H locs ls lv st2 hH hext hl hL hV2
      · have ht : t = false := zfalse (fun z => q (ht.mp z))
        subst ht
        obtain rfl := Sum.inl.inj hk
        rw [← hn]
        exact k cw tys H locs ls lv st2 hH hext hl hL hV2
theorem zs_if_ge (hx : p.tables.exec = Jvm.exec) (hb : c.code = cc) {off : Int} {tgt : Nat} {full : List zE} (hoff : (pc : Int) + off = (tgt : Int)) (hdg : decode cc pc = .ok (.ifCond .ge off, 3)) (hn : zpc rest = pc + 3) (h : zoIf rest ls0 st0 w full tgt 3 = Sum.inl S1) (k : zG p l e R s m args below meth c nL D A b ad0 Q S1) : zG p l e R s m args below meth c nL D A b ad0 Q ((pc, o) :: rest, ls0, st0, w) := by
  cases st0 with
  | nil => exact (zX_inl h).elim
  | cons x0 st1 =>
    intro cw tys H locs ls lv st hH hext hl hL hV
    show W p l e R s m args below meth c H locs w.2.2.1 w.2.2.2 Q (F0 m pc ls st)
    have hL : zLR (zad cw) b ls0 lv := hL
    obtain ⟨v2, st2, rfl, hr2, hV2⟩ := zVR_cons hV
    obtain ⟨x, y, rfl, e0, t, ht, hk⟩ := zcmp_spec (v2 := .int (nI 0)) hr2 (show zRV (zad cw) b (0, 0, 0) (.int (nI 0)) from rfl) (c := 3) h
    have e0 : y = 0 := by cases e0; rfl
    subst e0
    refine lv_if_ge (tgt := tgt) hx hb hdg hoff (fun q => ?_) (fun q => ?_)
    · have ht : t = true := ht.mpr q
      subst ht
      obtain ⟨rfl, g⟩ := zgo_inl hk
      rw [← g]
      exact k cw tys H locs ls lv st2 hH hext hl hL hV2
    · have ht : t = false := zfalse (fun z => q (ht.mp z))
      subst ht
      obtain rfl := Sum.inl.inj hk
      rw [← hn]
      exact k cw tys H locs ls lv st2 hH hext hl hL hV2
theorem zs_icmp_gt (hx : p.tables.exec = Jvm.exec) (hb : c.code = cc) {off : Int} {tgt : Nat} {full : List zE} (hoff : (pc : Int) + off = (tgt : Int)) (hdg : decode cc pc = .ok (.if_icmp .gt off, 3)) (hn : zpc rest = pc + 3) (h : zoIcmp rest ls0 st0 w full tgt 4 = Sum.inl S1) (k : zG p l e R s m args below meth c nL D A b ad0 Q S1) : zG p l e R s m args below meth c nL D A b ad0 Q ((pc, o) :: rest, ls0, st0, w) := by
  cases st0 with
  | nil => exact (zX_inl h).elim
  | cons y0 st1 =>
    cases st1 with
    | nil => exact (zX_inl h).elim
    | cons x0 st1 =>
      intro cw tys H locs ls lv st hH hext hl hL hV
      show W p l e R s m args below meth c H locs w.2.2.1 w.2.2.2 Q (F0 m pc ls st)
      have hL : zLR (zad cw) b ls0 lv := hL
      obtain ⟨v, st3, rfl, hr, hV1⟩ := zVR_cons hV
      obtain ⟨v2, st2, rfl, hr2, hV2⟩ := zVR_cons hV1
      obtain ⟨x, y, rfl, rfl, t, ht, hk⟩ := zcmp_spec hr2 hr (c := 4) h
      refine lv_icmp_gt (tgt := tgt) hx hb hdg hoff (fun q => ?_) (fun q => ?_)
      · have ht : t = true := ht.mpr q
        subst ht
        obtain ⟨rfl, g⟩ := zgo_inl hk
        rw [← g]
        exact k cw tys H locs ls lv st2 hH hext hl hL hV2
      · have ht : t = false := zfalse (fun z => q (ht.mp z))
        subst ht
        obtain rfl := Sum.inl.inj hk
        rw [← hn]
        exact k cw tys H locs ls lv st2 hH hext hl hL hV2
theorem zs_if_gt (hx : p.tables.exec = Jvm.exec) (hb : c.code = cc) {off : Int} {tgt : Nat} {full : List zE} (hoff : (pc : Int) + off = (tgt : Int)) (hdg : decode cc pc = .ok (.ifCond .gt off, 3)) (hn : zpc rest = pc + 3) (h : zoIf rest ls0 st0 w full tgt 4 = Sum.inl S1) (k : zG p l e R s m args below meth c nL D A b ad0 Q S1) : zG p l e R s m args below meth c nL D A b ad0 Q ((pc, o) :: rest, ls0, st0, w) := by
  cases st0 with
  | nil => exact (zX_inl h).elim
  | cons x0 st1 =>
    intro cw tys H locs ls lv st hH hext hl hL hV
    show W p l e R s m args below meth c H locs w.2.2.1 w.2.2.2 Q (F0 m pc ls st)
    have hL : zLR (zad cw) b ls0 lv := hL
    obtain ⟨v2, st2, rfl, hr2, hV2⟩ := zVR_cons hV
    obtain ⟨x, y, rfl, e0, t, ht, hk⟩ := zcmp_spec (v2 := .int (nI 0)) hr2 (show zRV (zad cw) b (0, 0, 0) (.int (nI 0)) from rfl) (c := 4) h
    have e0 : y = 0 := by cases e0; rfl
    subst e0
    refine lv_if_gt (tgt := tgt) hx hb hdg hoff (fun q => ?_) (fun q => ?_)
    · have ht : t = true := ht.mpr q
      subst ht
      obtain ⟨rfl, g⟩ := zgo_inl hk
      rw [← g]
      exact k cw tys H locs ls lv st2 hH hext hl hL hV2
    · have ht : t = false := zfalse (fun z => q (ht.mp z))
      subst ht
      obtain rfl := Sum.inl.inj hk
      rw [← hn]
      exact k cw tys H locs ls lv st2 hH hext hl hL hV2
theorem zs_icmp_le (hx : p.tables.exec = Jvm.exec) (hb : c.code = cc) {off : Int} {tgt : Nat} {full : List zE} (hoff : (pc : Int) + off = (tgt : Int)) (hdg : decode cc pc = .ok (.if_icmp .le off, 3)) (hn : zpc rest = pc + 3) (h : zoIcmp rest ls0 st0 w full tgt 5 = Sum.inl S1) (k : zG p l e R s m args below meth c nL D A b ad0 Q S1) : zG p l e R s m args below meth c nL D A b ad0 Q ((pc, o) :: rest, ls0, st0, w) := by
  cases st0 with
  | nil => exact (zX_inl h).elim
  | cons y0 st1 =>
    cases st1 with
    | nil => exact (zX_inl h).elim
    | cons x0 st1 =>
      intro cw tys H locs ls lv st hH hext hl hL hV
      show W p l e R s m args below meth c H locs w.2.2.1 w.2.2.2 Q (F0 m pc ls st)
      have hL : zLR (zad cw) b ls0 lv := hL
      obtain ⟨v, st3, rfl, hr, hV1⟩ := zVR_cons hV
      obtain ⟨v2, st2, rfl, hr2, hV2⟩ := zVR_cons hV1
      obtain ⟨x, y, rfl, rfl, t, ht, hk⟩ := zcmp_spec hr2 hr (c := 5) h
      refine lv_icmp_le (tgt := tgt) hx hb hdg hoff (fun q => ?_) (fun q => ?_)
      · have ht : t = true := ht.mpr q
        subst ht
        obtain ⟨rfl, g⟩ := zgo_inl hk
        rw [← g]
        exact k cw tys H locs ls lv st2 hH hext hl hL hV2
      · have ht : t = false := zfalse (fun z => q (ht.mp z))
        subst ht
        obtain rfl := Sum.inl.inj hk
        rw [← hn]
        exact k cw tys H locs ls lv st2 hH hext hl hL hV2
theorem zs_if_le (hx : p.tables.exec = Jvm.exec) (hb : c.code = cc) {off : Int} {tgt : Nat} {full : List zE} (hoff : (pc : Int) + off = (tgt : Int)) (hdg : decode cc pc = .ok (.ifCond .le off, 3)) (hn : zpc rest = pc + 3) (h : zoIf rest ls0 st0 w full tgt 5 = Sum.inl S1) (k : zG p l e R s m args below meth c nL D A b ad0 Q S1) : zG p l e R s m args below meth c nL D A b ad0 Q ((pc, o) :: rest, ls0, st0, w) := by
  cases st0 with
  | nil => exact (zX_inl h).elim
  | cons x0 st1 =>
    intro cw tys H locs ls lv st hH hext hl hL hV
    show W p l e R s m args below meth c H locs w.2.2.1 w.2.2.2 Q (F0 m pc ls st)
    have hL : zLR (zad cw) b ls0 lv := hL
    obtain ⟨v2, st2, rfl, hr2, hV2⟩ := zVR_cons hV
    obtain ⟨x, y, rfl, e0, t, ht, hk⟩ := zcmp_spec (v2 := .int (nI 0)) hr2 (show zRV (zad cw) b (0, 0, 0) (.int (nI 0)) from rfl) (c := 5) h
    have e0 : y = 0 := by cases e0; rfl
    subst e0
    refine lv_if_le (tgt := tgt) hx hb hdg hoff (fun q => ?_) (fun q => ?_)
    · have ht : t = true := ht.mpr q
      subst ht
      obtain ⟨rfl, g⟩ := zgo_inl hk
      rw [← g]
      exact k cw tys H locs ls lv st2 hH hext hl hL hV2
    · have ht : t = false := zfalse (fun z => q (ht.mp z))
      subst ht
      obtain rfl := Sum.inl.inj hk
      rw [← hn]
      exact k cw tys H locs ls lv st2 hH hext hl hL hV2
theorem zs_goto (hx : p.tables.exec = Jvm.exec) (hb : c.code = cc) {off : Int} {tgt : Nat} {full : List zE} (hoff : (pc : Int) + off = (tgt : Int)) (hdg : decode cc pc = .ok (.goto off, 3)) (h : zgo full tgt ls0 st0 w = Sum.inl S1) (k : zG p l e R s m args below meth c nL D A b ad0 Q S1) : zG p l e R s m args below meth c nL D A b ad0 Q ((pc, o) :: rest, ls0, st0, w) := by
  obtain ⟨rfl, g⟩ := zgo_inl h
  intro cw tys H locs ls lv st hH hext hl hL hV
  show W p l e R s m args below meth c H locs w.2.2.1 w.2.2.2 Q (F0 m pc ls st)
  have hL : zLR (zad cw) b ls0 lv := hL
  refine lv_goto (tgt := tgt) hx hb hdg hoff ?_
  rw [← g]
  exact k cw tys H locs ls lv st hH hext hl hL hV
end ZS
