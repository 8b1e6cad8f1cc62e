/-! ===== the law, from its entry ===== -/
theorem zlaw_cx {p : Program} {l : Launch} {s : State} {m : MethodId} {meth : Method} {c : Code} {b L : Nat} {xs : Nat → Int32} (hfl : l.stackTraces = false) (C0 : lw_At p s m meth c b L xs) {scr : List zV} (hsc : zSc (fun q => s.heap.size ≤ q) b s scr) : zCx p l room_1 s m #[Value.ref b] meth c 9 (fun q => s.heap.size ≤ q) b code "SpeechKeeperLaw" false [] 11 (zrun zobjs zcodes 11) scr := by
  obtain ⟨hx, hb, hr, hml, hown, hts, hX, hbl, hlocks, hgv, htb⟩ := C0
  exact ⟨hx, hb, hml, hown, fun w hw => hts w (zGd_tbl hw), zlaw_fx hts hgv, fun q hq => hq, Nat.le_of_ble_eq_true rfl, Nat.le_of_ble_eq_true rfl, hsc, fun z => Bool.noConfusion z, htb, zrun_ok9 hfl zck_all9 11⟩
theorem zsc_box {s : State} {b : Nat} {xs : Nat → Int32} (hX : va_X b 6 xs s s.heap) (hbl : b < s.heap.size) {bx : List (Nat × Nat)} (h5 : bx.length = 5) (hin : zInB xs bx) : zSc (fun q => s.heap.size ≤ q) b s (zscrB bx) := by
  have hlen : (zscrB bx).length = 6 := by show (bx.map zbv).length + 1 = 6; rw [List.length_map, h5]
  refine Or.inr ⟨xs, by rw [hlen]; exact hX, hbl, Nat.not_le.mpr hbl, by rw [hlen]; exact Nat.le_refl _, fun j u hj => ?_⟩
  cases j with
  | zero =>
    have hj : some ((1, 0, 4294967295) : zV) = some u := hj
    cases hj
    exact zRV_top _
  | succ j =>
    have hj : (bx.map zbv)[j]? = some u := hj
    rw [List.getElem?_map] at hj
    cases hq : bx[j]? with
    | none => rw [hq] at hj; cases hj
    | some q =>
      rw [hq] at hj
      have hj : some (zbv q) = some u := hj
      cases hj
      obtain ⟨h1, h2⟩ := hin j q hq
      unfold zbv
      by_cases he : q.1 = q.2
      · rw [if_pos he]
        show Value.int _ = .int (nI ((q.1 + 2147483648) % 4294967296))
        refine congrArg Value.int ?_
        rw [zeq_iff, zbias_nI]
        have := zbias_lt (xs (j + 1))
        omega
      · rw [if_neg he]
        exact ⟨_, rfl, h1, h2⟩
noncomputable def zS32 (n : Nat) : zS := (zfindS zk_law 32, zl0, [(0, n, 0), (0, 0, 0)], zw0)
theorem zT31 : zit (zstep zobjs (zrun zobjs zcodes 11) 12 zk_law []) 1 (zfindS zk_law 28, zl0, [], zw0) = Sum.inl (zfindS zk_law 31, zl0, [(8, 0, 0), (0, 0, 0)], zw0) := zsame_eq (by decide +kernel)
theorem zT32 : (List.range 6).all (fun n => zfin (zit (zstep zobjs (zrun zobjs zcodes 11) 12 zk_law []) 16 (zfindS zk_law 32, zl0, [(0, n, 0), (0, 0, 0)], zw0))) = true := by decide +kernel
theorem zT36 : zit (zstep zobjs (zrun zobjs zcodes 11) 12 zk_law []) 2 (zfindS zk_law 32, zl0, [(0, 6, 0), (0, 0, 0)], zw0) = Sum.inl (zfindS zk_law 39, zl0, [(8, 0, 0)], zw0) := zsame_eq (by decide +kernel)
theorem zT41 : zit (zstep zobjs (zrun zobjs zcodes 11) 12 zk_law []) 0 (zfindS zk_law 39, zl0, [(8, 0, 0)], zw0) = Sum.inl (zfindS zk_law 41, zl0, [(0, 0, 0), (8, 0, 0)], zw0) := zsame_eq (by decide +kernel)
theorem zTpc : zpc zk_law = 0 ∧ zpc (zfindS zk_law 31) = 31 ∧ zpc (zfindS zk_law 32) = 32 ∧ zpc (zfindS zk_law 41) = 41 ∧ zpc (zfindS zk_law 45) = 45 := ⟨rfl, rfl, rfl, rfl, rfl⟩
theorem zTw : zw0.2.2.1 ≤ 600002 ∧ zw0.2.2.2 ≤ 7302231 := ⟨Nat.le_of_ble_eq_true rfl, Nat.le_of_ble_eq_true rfl⟩
theorem zand63 (x : Int32) : ∃ k : Nat, k < 64 ∧ x &&& nI 63 = nI k := by
  refine ⟨x.toBitVec.toNat &&& 63, Nat.lt_succ_of_le Nat.and_le_right, ?_⟩
  have h : x = nI x.toBitVec.toNat := by
    apply Int32.toBitVec_inj.1
    show x.toBitVec = BitVec.ofNat 32 x.toBitVec.toNat
    rw [BitVec.ofNat_toNat, BitVec.setWidth_eq]
  conv => lhs; rw [h]
  exact zand _ _
theorem zcov {xs : Nat → Int32} {P : Nat → Prop} (hleaf : ∀ (k : Nat) (bx : List (Nat × Nat)), bx.length = 5 → zleaf k (zscrB bx) = true → zInB xs bx → P k) : ∀ k, k < 64 → P k := by
  have hf : zInB xs zfull := by
    intro j q hq
    have : q = (0, 4294967295) := by
      match j, hq with
      | 0, hq => cases hq; rfl
      | 1, hq => cases hq; rfl
      | 2, hq => cases hq; rfl
      | 3, hq => cases hq; rfl
      | 4, hq => cases hq; rfl
      | n + 5, hq => cases hq
    subst this
    exact ⟨Nat.zero_le _, zbias_lt _⟩
  intro k hk
  by_cases h34 : 34 ≤ k
  · refine hleaf k zfull rfl ?_ hf
    have h1 := List.all_eq_true.mp zlf_no (k - 34) (List.mem_range.mpr (by omega))
    rw [show 34 + (k - 34) = k by omega] at h1
    exact h1
  · have hk : k < 34 := by omega
    match k, hk with
    | 0, _ => exact zcv_0 hleaf hf
    | 1, _ => exact zcv_1 hleaf hf
    | 2, _ => exact zcv_2 hleaf hf
    | 3, _ => exact zcv_3 hleaf hf
    | 4, _ => exact zcv_4 hleaf hf
    | 5, _ => exact zcv_5 hleaf hf
    | 6, _ => exact zcv_6 hleaf hf
    | 7, _ => exact zcv_7 hleaf hf
    | 8, _ => exact zcv_8 hleaf hf
    | 9, _ => exact zcv_9 hleaf hf
    | 10, _ => exact zcv_10 hleaf hf
    | 11, _ => exact zcv_11 hleaf hf
    | 12, _ => exact zcv_12 hleaf hf
    | 13, _ => exact zcv_13 hleaf hf
    | 14, _ => exact zcv_14 hleaf hf
    | 15, _ => exact zcv_15 hleaf hf
    | 16, _ => exact zcv_16 hleaf hf
    | 17, _ => exact zcv_17 hleaf hf
    | 18, _ => exact zcv_18 hleaf hf
    | 19, _ => exact zcv_19 hleaf hf
    | 20, _ => exact zcv_20 hleaf hf
    | 21, _ => exact zcv_21 hleaf hf
    | 22, _ => exact zcv_22 hleaf hf
    | 23, _ => exact zcv_23 hleaf hf
    | 24, _ => exact zcv_24 hleaf hf
    | 25, _ => exact zcv_25 hleaf hf
    | 26, _ => exact zcv_26 hleaf hf
    | 27, _ => exact zcv_27 hleaf hf
    | 28, _ => exact zcv_28 hleaf hf
    | 29, _ => exact zcv_29 hleaf hf
    | 30, _ => exact zcv_30 hleaf hf
    | 31, _ => exact zcv_31 hleaf hf
    | 32, _ => exact zcv_32 hleaf hf
    | 33, _ => exact zcv_33 hleaf hf
    | n + 34, h => exact absurd h (by omega)
theorem zstep_cnt {objs : List (Nat × zA)} {rec : Nat → List zV → zW → zR} {d : Nat} {full : List zE} {scr : List zV} {S : zS} {r : zR} (h : zstep objs rec d full scr S = Sum.inr r) (h9 : r.1 ≠ 9) : S.2.2.2.2.2.1 ≤ r.2.2.2.2.1 ∧ S.2.2.2.2.2.2 ≤ r.2.2.2.2.2 := by
  obtain ⟨code, ls, st, w⟩ := S
  cases code with
  | nil => exact (zX_inr9 (show zX = Sum.inr r from h) h9).elim
  | cons en rest =>
    obtain ⟨pc, op, a, bb, lst⟩ := en
    have h : zdo objs rec d full scr op a bb lst rest ls st w = Sum.inr r := h
    have g := zdo_gd (objs := objs) (rec := rec) (D := d) (full := full) (scr := scr) (op := op) (a := a) (b := bb) (l := lst) (rest := rest) (ls := ls) (st := st) (w := w) (by rw [h]; exact h9)
    rw [h] at g
    exact g
theorem zPf (t : Nat) : zP "SpeechKeeperLaw" code 9 false [] (some .boolean) (zfindS zk_law t) := zP_find zP_law
theorem whole_start {p : Program} {e : Env} {s : State} {m : MethodId} {below : List Frame} {meth : Method} {c : Code} (l : Launch) (hflags : l.flags = flags0) {b L : Nat} {xs : Nat → Int32} (hL : L ≤ 6) (C0 : lw_At p s m meth c b L xs) : W p l e room_1 s m #[Value.ref b] below meth c s.heap [] 0 0 (lw_Z below #[Value.ref b] s) (entryFrame m ([Value.ref b] : List Value).toArray 9) := by
  have hfl : l.stackTraces = false := by
    show (!l.flags.contains noTraceFlag) = false
    rw [hflags]
    decide +kernel
  have C := C0
  obtain ⟨hx, hb, hr, hml, hown, hts, hX, hbl, hlocks, hgv, htb⟩ := C0
  obtain ⟨D, hK⟩ := zlaw_K hts
  have hl0 := lv_entry [Value.ref b] (n := 9) (Nat.le_of_ble_eq_true rfl)
  rw [lg_entry_eq]
  generalize (lg_sl [Value.ref b] ++ List.replicate (9 - (lg_sl [Value.ref b]).length) Slot.unset).toArray = ls at hl0 ⊢
  have X := zlaw_cx hfl C (scr := []) (Or.inl rfl)
  have hend : ∀ {S : zS} {scr : List zV}, zSc (fun q => s.heap.size ≤ q) b s scr → zP "SpeechKeeperLaw" code 9 false [] (some .boolean) S.1 → zfin (zit (zstep zobjs (zrun zobjs zcodes 11) 12 zk_law scr) 16 S) = true → zG p l e room_1 s m #[Value.ref b] below meth c 9 D (fun q => s.heap.size ≤ q) b [] (lw_Z below #[Value.ref b] s) S := by
    intro S scr hsc hP hf
    obtain ⟨r, hz, h1, hv, c1, c2⟩ := zfin_ok hf
    obtain ⟨S', g1, g2, g3, -⟩ := zinr_last (e := e) (below := below) (Q := lw_Z below #[Value.ref b] s) (D := D) (ad0 := []) (zlaw_cx hfl C hsc) zP_law 16 hP hz
    obtain ⟨q1, q2⟩ := zstep_cnt g2 (by rw [h1]; decide)
    exact g3 ⟨Nat.le_trans q1 c1, Nat.le_trans q2 c2⟩ (zlaw_end hx hb hr hlocks (fun q h => h) g1 g2 h1 hv ⟨c1, c2⟩)
  have step : ∀ {k : Nat} {S S1 : zS}, zP "SpeechKeeperLaw" code 9 false [] (some .boolean) S.1 → zit (zstep zobjs (zrun zobjs zcodes 11) 12 zk_law []) k S = Sum.inl S1 → (S1.2.2.2.2.2.1 ≤ 600002 ∧ S1.2.2.2.2.2.2 ≤ 7302231) → zG p l e room_1 s m #[Value.ref b] below meth c 9 D (fun q => s.heap.size ≤ q) b [] (lw_Z below #[Value.ref b] s) S1 → zG p l e room_1 s m #[Value.ref b] below meth c 9 D (fun q => s.heap.size ≤ q) b [] (lw_Z below #[Value.ref b] s) S := by
    intro k S S1 hP hz hc kk
    exact (zitA (e := e) (below := below) X zP_law k hP hz).2.2 hc kk
  have d31 : decode code 31 = .ok (.arraylength, 1) := zdk_ok (by decide +kernel)
  have d41 : decode code 41 = .ok (.iaload, 1) := zdk_ok (by decide +kernel)
  have d42 : decode code 42 = .ok (.bipush 63, 2) := zdk_ok (by decide +kernel)
  have d44 : decode code 44 = .ok (.iand, 1) := zdk_ok (by decide +kernel)
  have h32 : zG p l e room_1 s m #[Value.ref b] below meth c 9 D (fun q => s.heap.size ≤ q) b [] (lw_Z below #[Value.ref b] s) (zfindS zk_law 32, zl0, [(0, L, 0), (0, 0, 0)], zw0) := by
    by_cases hL6 : L = 6
    · subst hL6
      have h45 := zcov (xs := xs) (P := fun k => zG p l e room_1 s m #[Value.ref b] below meth c 9 D (fun q => s.heap.size ≤ q) b [] (lw_Z below #[Value.ref b] s) (zfindS zk_law 45, zl0, [(0, k, 0)], zw0)) (fun k bx h5 hz hin => hend (zsc_box hX hbl h5 hin) (zPf 45) hz)
      refine step (zPf 32) zT36 zTw (step (zPf 39) zT41 zTw ?_)
      intro cw tys H locs ls1 lv st hH hext hl hLR hV
      obtain ⟨v1, st1, rfl, r1, V1⟩ := zVR_cons (h := (0, 0, 0)) (t := [(8, 0, 0)]) hV
      obtain ⟨v2, st2, rfl, r2, V2⟩ := zVR_cons (h := (8, 0, 0)) (t := []) V1
      rw [zVR_nil V2]
      have r1 := zRV_0 r1
      subst r1
      have r2 : v2 = .ref b := r2
      subst r2
      have hS := hH.2.2.2.1
      show W p l e room_1 s m #[Value.ref b] below meth c H locs zw0.2.2.1 zw0.2.2.2 _ (F0 m (zpc (zfindS zk_law 41)) ls1 _)
      rw [zTpc.2.2.2.1]
      refine va_sld hx hb hX hbl (Nat.not_le.mpr hbl) hS (vp_in_nI (by decide) (by decide)) d41 ?_
      rw [nI_clamp (by decide)]
      refine lv_bipush (v := nI 63) hx hb d42 (by decide) ?_
      refine lv_iand hx hb d44 ?_
      obtain ⟨k, hk, hkk⟩ := zand63 (xs 0)
      rw [hkk]
      have kk := h45 k hk cw tys H locs ls1 lv [.int (nI k)] hH hext hl hLR (zVc rfl trivial)
      have kk : W p l e room_1 s m #[Value.ref b] below meth c H locs zw0.2.2.1 zw0.2.2.2 (lw_Z below #[Value.ref b] s) (F0 m (zpc (zfindS zk_law 45)) ls1 [.int (nI k)]) := kk
      rw [zTpc.2.2.2.2] at kk
      exact kk
    · have hz := List.all_eq_true.mp zT32 L (List.mem_range.mpr (by omega))
      exact hend (Or.inl rfl) (zPf 32) hz
  have h31 : zG p l e room_1 s m #[Value.ref b] below meth c 9 D (fun q => s.heap.size ≤ q) b [] (lw_Z below #[Value.ref b] s) (zfindS zk_law 31, zl0, [(8, 0, 0), (0, 0, 0)], zw0) := by
    intro cw tys H locs ls1 lv st hH hext hl hLR hV
    obtain ⟨v2, st2, rfl, r2, V2⟩ := zVR_cons (h := (8, 0, 0)) (t := [(0, 0, 0)]) hV
    have r2 : v2 = .ref b := r2
    subst r2
    have hS := hH.2.2.2.1
    show W p l e room_1 s m #[Value.ref b] below meth c H locs zw0.2.2.1 zw0.2.2.2 _ (F0 m (zpc (zfindS zk_law 31)) ls1 _)
    rw [zTpc.2.1]
    refine va_slen hx hb hX hbl (Nat.not_le.mpr hbl) hS d31 ?_
    have kk := h32 cw tys H locs ls1 lv (.int (nI L) :: st2) hH hext hl hLR (zVc rfl V2)
    have kk : W p l e room_1 s m #[Value.ref b] below meth c H locs zw0.2.2.1 zw0.2.2.2 (lw_Z below #[Value.ref b] s) (F0 m (zpc (zfindS zk_law 32)) ls1 (.int (nI L) :: st2)) := kk
    rw [zTpc.2.2.1] at kk
    exact kk
  have h0 := step zP_law zT0 zTw (step (zPf 28) zT31 zTw h31)
  have kk := h0 [] [] s.heap [] ls [(0, Value.ref b)] [] ⟨hK, fun k q hq => (by cases hq), ⟨fun i j p q hp => (by cases hp), fun k q hq => (by cases hq)⟩, va_S.rf, ⟨rfl, rfl, fun k hk => absurd hk (Nat.not_lt_zero k)⟩⟩ ⟨[], rfl⟩ hl0 ⟨rfl, rfl, trivial⟩ trivial
  have kk : W p l e room_1 s m #[Value.ref b] below meth c s.heap [] 0 0 (lw_Z below #[Value.ref b] s) (F0 m (zpc zk_law) ls []) := kk
  rw [zTpc.1] at kk
  exact kk
