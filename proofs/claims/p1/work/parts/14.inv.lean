/-! ===== the instructions that call ===== -/
def zlive (o : zO) : Prop := match o with
  | .inl _ => True
  | .inr r => r.1 ≠ 9
theorem zX_live (h : zlive zX) : False := h rfl
theorem zb_live {c : Bool} {o : zO} (h : zlive (zb c o zX)) : c = true ∧ zlive o := by
  cases c
  · exact (zX_live h).elim
  · exact ⟨rfl, h⟩
theorem zpopK_spec {K : List zV → List zV → zO} : ∀ (n : Nat) (st acc : List zV), zlive (zpopK n st acc K) → ∃ xs st', st = xs ++ st' ∧ xs.length = n ∧ zpopK n st acc K = K (xs.reverse ++ acc) st'
  | 0, st, acc, _ => ⟨[], st, rfl, rfl, rfl⟩
  | n + 1, [], acc, h => (zX_live h).elim
  | n + 1, x :: st, acc, h => by
    have e : zpopK (n + 1) (x :: st) acc K = zpopK n st (x :: acc) K := rfl
    rw [e] at h
    obtain ⟨xs, st', h1, h2, h3⟩ := zpopK_spec n st (x :: acc) h
    refine ⟨x :: xs, st', by rw [h1]; rfl, by rw [List.length_cons, h2], ?_⟩
    rw [e, h3, List.reverse_cons, List.append_assoc]; rfl
theorem zVR_app {ad : List Nat} {b : Nat} : ∀ {xs ys : List zV} {vs : List Value}, zVR ad b (xs ++ ys) vs → ∃ v1 v2, vs = v1 ++ v2 ∧ zVR ad b xs v1 ∧ zVR ad b ys v2
  | [], _, vs, h => ⟨[], vs, rfl, trivial, h⟩
  | x :: xs, ys, vs, h => by
    obtain ⟨v, r, rfl, h1, h2⟩ := zVR_cons (h := x) (t := xs ++ ys) h
    obtain ⟨v1, v2, rfl, h3, h4⟩ := zVR_app h2
    exact ⟨v :: v1, v2, rfl, zVc h1 h3, h4⟩
theorem zVR_append {ad : List Nat} {b : Nat} : ∀ {xs ys : List zV} {vs ws : List Value}, zVR ad b xs vs → zVR ad b ys ws → zVR ad b (xs ++ ys) (vs ++ ws)
  | [], _, vs, _, h1, h2 => by rw [zVR_nil h1]; exact h2
  | x :: xs, ys, vs, ws, h1, h2 => by
    obtain ⟨v, r, rfl, h3, h4⟩ := zVR_cons h1
    exact zVc h3 (zVR_append h4 h2)
theorem zVR_rev {ad : List Nat} {b : Nat} : ∀ {xs : List zV} {vs : List Value}, zVR ad b xs vs → zVR ad b xs.reverse vs.reverse
  | [], vs, h => by rw [zVR_nil h]; trivial
  | x :: xs, vs, h => by
    obtain ⟨v, r, rfl, h1, h2⟩ := zVR_cons h
    rw [List.reverse_cons, List.reverse_cons]
    exact zVR_append (zVR_rev h2) (zVc h1 trivial)
theorem zVR_len {ad : List Nat} {b : Nat} : ∀ {xs : List zV} {vs : List Value}, zVR ad b xs vs → vs.length = xs.length
  | [], vs, h => by rw [zVR_nil h]; rfl
  | x :: xs, vs, h => by
    obtain ⟨v, r, rfl, h1, h2⟩ := zVR_cons h
    rw [List.length_cons, List.length_cons, zVR_len h2]
theorem zcellK_live {w : zW} {v : zV} {K : Nat → Nat → Nat → zV → zA → zO} (h : zlive (zcellK w v K)) : v.1 = 4 ∧ zcellK w v K = K (w.1 - (v.2.1 + 1)) (znth w.2.1 (w.1 - (v.2.1 + 1))).1 (znth w.2.1 (w.1 - (v.2.1 + 1))).2.1 (znth w.2.1 (w.1 - (v.2.1 + 1))).2.2.1 (znth w.2.1 (w.1 - (v.2.1 + 1))).2.2.2 := by
  have e : zcellK w v K = zb (Nat.beq v.1 4) (K (w.1 - (v.2.1 + 1)) (znth w.2.1 (w.1 - (v.2.1 + 1))).1 (znth w.2.1 (w.1 - (v.2.1 + 1))).2.1 (znth w.2.1 (w.1 - (v.2.1 + 1))).2.2.1 (znth w.2.1 (w.1 - (v.2.1 + 1))).2.2.2) zX := by
    unfold zcellK
    rw [zfN_eq, zfC_eq]
  rw [e] at h ⊢
  obtain ⟨h1, h2⟩ := zb_live h
  exact ⟨zbeq h1, by rw [h1, zb_tt]⟩
theorem zrecv_spec {kd rc : Nat} {w : zW} {as : List zV} {k : zO} (h : zlive (zrecv kd rc w as k)) : zrecv kd rc w as k = k ∧ (kd = 1 ∨ kd = 4 ∨ ∃ (x x2 : Nat) (t : List zV), as = (4, x, x2) :: t ∧ (kd = 0 → (znth w.2.1 (w.1 - (x + 1))).1 = rc)) := by
  cases q1 : Nat.beq kd 1
  · cases q4 : Nat.beq kd 4
    · cases as with
      | nil =>
        have e : zrecv kd rc w [] k = zb (Nat.beq kd 1) k (zb (Nat.beq kd 4) k zX) := rfl
        rw [e, q1, q4] at h
        exact (zX_live h).elim
      | cons r t =>
        have e : zrecv kd rc w (r :: t) k = zb (Nat.beq kd 1) k (zb (Nat.beq kd 4) k (zcellK w r (fun _ ck _ _ _ => zb (Nat.beq kd 0) (zb (Nat.beq ck rc) k zX) k))) := rfl
        rw [e, q1, q4, zb_ff, zb_ff] at h
        rw [e, q1, q4, zb_ff, zb_ff]
        obtain ⟨g1, g2⟩ := zcellK_live h
        rw [g2] at h ⊢
        obtain ⟨rt, x, x2⟩ := r
        have g1 : rt = 4 := g1
        subst g1
        cases q0 : Nat.beq kd 0
        · exact ⟨rfl, Or.inr (Or.inr ⟨x, x2, t, rfl, fun z => by rw [z] at q0; exact Bool.noConfusion q0⟩)⟩
        · simp only [] at h ⊢
          rw [q0, zb_tt] at h
          obtain ⟨g3, g4⟩ := zb_live h
          refine ⟨?_, Or.inr (Or.inr ⟨x, x2, t, rfl, fun _ => zbeq g3⟩)⟩
          show zb true (zb (Nat.beq (znth w.2.1 (w.1 - (x + 1))).1 rc) k zX) k = k
          have g3 : Nat.beq (znth w.2.1 (w.1 - (x + 1))).1 rc = true := g3
          rw [zb_tt, g3, zb_tt]
    · have e : zrecv kd rc w as k = zb (Nat.beq kd 1) k (zb (Nat.beq kd 4) k _) := rfl
      rw [e, q1, q4]
      exact ⟨rfl, Or.inr (Or.inl (zbeq q4))⟩
  · have e : zrecv kd rc w as k = zb (Nat.beq kd 1) k (zb (Nat.beq kd 4) k _) := rfl
    rw [e, q1]
    exact ⟨rfl, Or.inl (zbeq q1)⟩
/-- what goes on after a call -/
noncomputable def zpost (rest : List zE) (ls0 : zA) (st1 : List zV) (w : zW) (full : List zE) (hs : List Nat) (r : zR) : zO :=
  zb (Nat.beq r.1 0) (Sum.inl (rest, ls0, st1, (r.2.2.1, r.2.2.2.1, w.2.2.1 + r.2.2.2.2.1, w.2.2.2 + r.2.2.2.2.2)))
    (zb (Nat.beq r.1 1) (Sum.inl (rest, ls0, r.2.1 :: st1, (r.2.2.1, r.2.2.2.1, w.2.2.1 + r.2.2.2.2.1, w.2.2.2 + r.2.2.2.2.2)))
    (zb (Nat.beq r.1 2) (zhand ls0 full hs r.2.1 (r.2.2.1, r.2.2.2.1, w.2.2.1 + r.2.2.2.2.1, w.2.2.2 + r.2.2.2.2.2)) zX))
theorem zinv_spec {rest : List zE} {ls0 : zA} {st0 : List zV} {w : zW} {rec : Nat → List zV → zW → zR} {full : List zE} {a n kd rc : Nat} {hs : List Nat} (h : zlive (zoInvoke rest ls0 st0 w rec full a n (kd :: rc :: hs))) :
    ∃ (xs st1 : List zV), st0 = xs ++ st1 ∧ xs.length = n ∧ zcs st1 ≤ 8 ∧ (kd = 1 ∨ kd = 4 ∨ ∃ (x x2 : Nat) (t : List zV), xs.reverse = (4, x, x2) :: t ∧ (kd = 0 → (znth w.2.1 (w.1 - (x + 1))).1 = rc)) ∧
      zoInvoke rest ls0 st0 w rec full a n (kd :: rc :: hs) = zpost rest ls0 st1 w full hs (rec a xs.reverse (w.1, w.2.1, 0, 0)) := by
  unfold zoInvoke at h ⊢
  simp only [] at h ⊢
  obtain ⟨xs, st1, h1, h2, h3⟩ := zpopK_spec _ _ _ h
  rw [h3] at h ⊢
  rw [List.append_nil] at h ⊢
  obtain ⟨h4, h5⟩ := zb_live h
  obtain ⟨h6, h7⟩ := zrecv_spec h5
  refine ⟨xs, st1, h1, h2, zble h4, h7, ?_⟩
  rw [h4, zb_tt, h6]
  simp only [zfW_eq, zfR_eq, zfN_eq, zfV_eq]
  rfl
/-- a place of a call, by the tables' words -/
def zSite (own : String) (cc : ByteArray) (pc kd rc n : Nat) (y : MethodName) (word : Cond) : Prop :=
  ∃ (index : Nat) (bytes : ByteArray) (maxL : Nat) (ret : Option FieldType), maxL ≤ 20 ∧ (y.cls ≠ "java/lang/invoke/MethodHandle" ∧ y.cls ≠ "java/lang/invoke/VarHandle") ∧ Cond.initialized y.cls ∈ zGd ∧ word ∈ zGd ∧
    ((kd = 0 ∧ word = Cond.code y bytes maxL ret ∧ decode cc pc = .ok (.invokevirtual index, 3) ∧ Cond.methodLink own index y ∈ zGd ∧ Cond.instanceMethod y ∈ zGd ∧ Cond.selects y.cls y y ∈ zGd ∧ (parseMethodDescriptor y.desc).map (fun d => d.parameters.length + 1) = some n ∧ ∃ q, vwCl[rc]? = some q ∧ q.1 = y.cls ∧ rc < 100) ∨
     (kd = 1 ∧ word = Cond.code y bytes maxL ret ∧ decode cc pc = .ok (.invokestatic index, 3) ∧ Cond.methodLink own index y ∈ zGd ∧ Cond.static y ∈ zGd ∧ (parseMethodDescriptor y.desc).map (fun d => d.parameters.length) = some n) ∨
     (kd = 2 ∧ ret = none ∧ word = Cond.code y bytes maxL ret ∧ decode cc pc = .ok (.invokespecial index, 3) ∧ Cond.methodLink own index y ∈ zGd ∧ y.name = "<init>" ∧ Cond.instanceMethod y ∈ zGd ∧ (parseMethodDescriptor y.desc).map (fun d => d.parameters.length + 1) = some n) ∨
     (kd = 3 ∧ ret = none ∧ word = Cond.code y bytes maxL ret ∧ decode cc pc = .ok (.invokespecial index, 3) ∧ (∃ host, (own, index, y, host) ∈ zNests) ∧ y.name = "<init>" ∧ Cond.instanceMethod y ∈ zGd ∧ (parseMethodDescriptor y.desc).map (fun d => d.parameters.length + 1) = some n) ∨
     (kd = 4 ∧ ∃ hh, word = Cond.codeWith y bytes maxL ret hh ∧ decode cc pc = .ok (.invokestatic index, 3) ∧ Cond.methodLink own index y ∈ zGd ∧ Cond.static y ∈ zGd ∧ (parseMethodDescriptor y.desc).map (fun d => d.parameters.length) = some n))
theorem zparams {y : MethodName} {n k : Nat} (h : (parseMethodDescriptor y.desc).map (fun d => d.parameters.length + k) = some n) {j : Nat} (hj : j + k = n) : ∀ sig, parseMethodDescriptor y.desc = some sig → j = sig.parameters.length := by
  intro sig hs
  rw [hs] at h
  have h2 : sig.parameters.length + k = n := Option.some.inj h
  omega
section ZK
variable {p : Program} {l : Launch} {e : Env} {R : Room} {s : State} {m : MethodId} {args : Array Value} {below : List Frame} {meth : Method} {c : Code} {Q : State → Prop} {D : va_G} {A : Nat → Prop} {b : Nat}
theorem zpay (hts : ∀ w ∈ zGd, w.before args s = true) {word : Cond} (hw : word ∈ zGd) : ∀ w ∈ word :: zGd, ∀ (a' : Array Value) (U : State), s.WarmedH U.vm → w.before a' U = true := by
  refine pay_in hts (fun w h => ?_)
  rcases List.mem_cons.mp h with rfl | h
  · exact ⟨hw, good_of_word (zGd_good hw)⟩
  · exact ⟨h, good_of_word (zGd_good h)⟩
theorem zrunof {cc : ByteArray} {nL : Nat} {own : String} (hx : p.tables.exec = Jvm.exec) (hb : c.code = cc) (hml : c.maxLocals = nL) (hown : s.vm.findClass own = some m.cls) (hts : ∀ w ∈ zGd, w.before args s = true) (hF : zFx A s) (hA : ∀ q, s.heap.size ≤ q → A q)
    {pc kd rc n d : Nat} {y : MethodName} {word : Cond} (hsite : zSite own cc pc kd rc n y word) (hRf : d + 1 ≤ R.frames) (hRl : 39 * (d + 1) + 10 ≤ R.locals)
    {w : zW} {cw : va_W} {tys : List (ClassId × FieldType)} {H : Heap} {locs : List Loc} {xs : List zV} {r : zR} (hM : zMet l y word d xs.reverse (w.1, w.2.1, 0, 0) r) (hH : zHR D A b s w cw tys H locs)
    (hxs : xs.length = n) (hrec : kd = 1 ∨ kd = 4 ∨ ∃ (x x2 : Nat) (t : List zV), xs.reverse = (4, x, x2) :: t ∧ (kd = 0 → (znth w.2.1 (w.1 - (x + 1))).1 = rc)) {vs st2 : List Value} (hvs : zVR (zad cw) b xs vs) (hst : (st2.map fun v => v.category).sum ≤ 8)
    {ls : Array Slot} (hls : ls.size = nL) {cells slots : Nat} (hfit : cells + r.2.2.2.2.1 ≤ R.cells ∧ slots + r.2.2.2.2.2 ≤ R.slots) :
    vx_Run p l e R s m args below meth c H locs cells slots r.2.2.2.2.1 r.2.2.2.2.2 (F0 m pc ls (vs ++ st2)) st2 (zQ D b H.size cw r #[]) (zXC D b H.size cw r) (va_A cw H.size) := by
  obtain ⟨hK, hP, hDw, hS, hW⟩ := hH
  have S : CallFix p m c cc nL s args zGd own := ⟨hx, hb, hml, hown, hts⟩
  have hMet := hM D b H.size cw tys vs.reverse (show zWR b tys (w.1, w.2.1, 0, 0) cw from hW) (zVR_rev hvs)
  have hpr := zpre (av := vs.reverse) hF hA hK hP hDw hS
  have hvl := zVR_len hvs
  obtain ⟨index, bytes, maxL, ret, hmx, hy, hini, hwg, hk⟩ := hsite
  have hlo : 8 + (maxL + 11) + (zRm d r).locals ≤ R.locals := by show 8 + (maxL + 11) + (39 * d + 10) ≤ R.locals; omega
  have cb : ∀ {N : Nat}, Cond.code y bytes maxL ret ∈ word :: zGd → (∀ sig, parseMethodDescriptor y.desc = some sig → N = sig.parameters.length) → (Cond.methodLink own index y) ∈ zGd → CallB R s args own index y bytes maxL ret (word :: zGd) (zRm d r) r.2.2.2.2.1 r.2.2.2.2.2 N := by
    intro N h1 h2 h3
    exact ⟨rfl, rfl, hRf, hlo, zpay hts hwg, h1, hts _ ((List.mem_cons.mp h1).elim (fun z => by rw [z]; exact hwg) id), hts _ hini, hy, h2, hts _ h3⟩
  have recv : ∀ {x x2 : Nat} {t : List zV}, xs.reverse = (4, x, x2) :: t → ∃ (q : Nat) (e0 : va_E) (As : List Value), vs.reverse = .ref q :: As ∧ vs ++ st2 = As.reverse ++ .ref q :: st2 ∧ As.length + 1 = n ∧ cw[x]? = some (q, e0) ∧ zER (zad cw) b tys (znth w.2.1 (w.1 - (x + 1))) e0 := by
    intro x x2 t ht
    have h1 := zVR_rev hvs
    rw [ht] at h1
    obtain ⟨v, As, h2, h3, h4⟩ := zVR_cons h1
    obtain ⟨q, e0, rfl, g1, g2, g3, g4⟩ := zcell_at hW h3
    refine ⟨q, e0, As, h2, ?_, ?_, g1, g4⟩
    · have h5 : vs = (Value.ref q :: As).reverse := by rw [← h2, List.reverse_reverse]
      rw [h5, List.reverse_cons, List.append_assoc]; rfl
    · have h6 : vs.reverse.length = As.length + 1 := by rw [h2]; rfl
      rw [List.length_reverse] at h6
      omega
  rcases hk with ⟨rfl, rfl, hdg, h1, h2, h3, h4, q, h5, h6, h7⟩ | ⟨rfl, rfl, hdg, h1, h2, h4⟩ | ⟨rfl, rfl, rfl, hdg, h1, h2, h3, h4⟩ | ⟨rfl, rfl, rfl, hdg, ⟨host, h1⟩, h2, h3, h4⟩ | ⟨rfl, hh, rfl, hdg, h1, h2, h4⟩
  · rcases hrec with z | z | ⟨x, x2, t, ht, hck⟩
    · cases z
    · cases z
    · obtain ⟨qa, e0, As, k1, k2, k3, k4, k5⟩ := recv ht
      have hc := hck rfl
      obtain ⟨fs, q', r1, r2, r3, r4, r5⟩ := zER_obj k5 (by rw [hc]; exact h7)
      rw [hc] at r1 r2
      obtain rfl := Option.some.inj (h5.symm.trans r2)
      subst r1
      rw [k1] at hMet hpr
      rw [k2]
      have hcell := va_recv hK hP h5 k4
      rw [h6] at hcell
      exact vx_runV (As := As) (b := qa) S hMet ⟨cb List.mem_cons_self (zparams h4 k3) h1, hts _ h2, hts _ h3⟩ ⟨zB_blind, hcell, hpr⟩ rfl rfl hls rfl (lv_room hst) hdg hfit
  · have k3 : vs.reverse.length = n := by rw [List.length_reverse, hvl, hxs]
    have k2 : vs ++ st2 = vs.reverse.reverse ++ st2 := by rw [List.reverse_reverse]
    rw [k2]
    exact vx_runS (As := vs.reverse) S hMet ⟨cb List.mem_cons_self (zparams (k := 0) h4 k3) h1, hts _ h2⟩ ⟨zB_blind, hpr⟩ rfl rfl hls rfl (lv_room hst) hdg hfit
  · rcases hrec with z | z | ⟨x, x2, t, ht, hck⟩
    · cases z
    · cases z
    · obtain ⟨qa, e0, As, k1, k2, k3, k4, k5⟩ := recv ht
      rw [k1] at hMet hpr
      rw [k2]
      exact vx_runI (As := As) (b := qa) S hMet ⟨cb List.mem_cons_self (zparams h4 k3) h1, h2, hts _ h3⟩ ⟨zB_blind, hpr⟩ rfl rfl hls rfl (lv_room hst) hdg hfit
  · rcases hrec with z | z | ⟨x, x2, t, ht, hck⟩
    · cases z
    · cases z
    · obtain ⟨qa, e0, As, k1, k2, k3, k4, k5⟩ := recv ht
      rw [k1] at hMet hpr
      rw [k2]
      exact vx_runIN (As := As) (b := qa) S hMet ⟨⟨⟨rfl, rfl, hRf, hlo, zpay hts hwg, List.mem_cons_self⟩, hts _ hwg, hts _ hini, hy, zparams h4 k3, va_Nw.use rfl (hF.1 _ h1)⟩, h2, hts _ h3⟩ ⟨zB_blind, hpr⟩ rfl rfl hls rfl (lv_room hst) hdg hfit
  · have k3 : vs.reverse.length = n := by rw [List.length_reverse, hvl, hxs]
    have k2 : vs ++ st2 = vs.reverse.reverse ++ st2 := by rw [List.reverse_reverse]
    rw [k2]
    exact vx_runSX (As := vs.reverse) S hMet ⟨⟨rfl, rfl, hRf, hlo, zpay hts hwg, List.mem_cons_self⟩, hts _ hwg, hts _ hini, hy, zparams (k := 0) h4 k3, hts _ h1, hts _ h2⟩ ⟨zB_blind, hpr⟩ rfl rfl hls rfl (lv_room hst) hdg hfit
end ZK
