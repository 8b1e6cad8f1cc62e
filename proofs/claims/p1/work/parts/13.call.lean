/-! ===== calls: what holds at each invocation, and what a run of the abstract machine says of one ===== -/
def zEx : Nat → String
  | 0 => "java/lang/IllegalArgumentException"
  | 1 => "java/lang/IndexOutOfBoundsException"
  | _ => "java/util/NoSuchElementException"
def zNests : List (String × Nat × MethodName × String) := [("SpeechKeeper", 11, ⟨"SpeechKeeper$Reader", "<init>", "()V"⟩, "SpeechKeeper"), ("SpeechKeeper", 18, ⟨"SpeechKeeper$State", "<init>", "()V"⟩, "SpeechKeeper"), ("SpeechKeeper", 37, ⟨"SpeechKeeper$History", "<init>", "()V"⟩, "SpeechKeeper"), ("SpeechKeeper$Shelf", 25, ⟨"SpeechKeeper$State", "<init>", "()V"⟩, "SpeechKeeper"), ("SpeechKeeper", 51, ⟨"SpeechKeeper$Laying", "<init>", "()V"⟩, "SpeechKeeper")]
def zStrs : List (String × Nat × String) := [("SpeechKeeper$Reader", 61, "base"), ("SpeechKeeperModel", 346, "base"), ("SpeechKeeperModel", 358, "one"), ("SpeechKeeperModel", 363, "two"), ("SpeechKeeper", 350, "a number is out of range"), ("SpeechKeeper", 354, "there is no such one"), ("SpeechKeeper", 193, "one line is none and the other one is not"), ("SpeechKeeper", 338, "the slot is empty")]
/-- what lasts, beside the words that last of themselves -/
def zFx (A : Nat → Prop) (U : State) : Prop :=
  (∀ q ∈ zNests, va_Nw (.methodLinkNest q.1 q.2.1 q.2.2.1 q.2.2.2) U) ∧ (∀ e, e < 3 → va_Nw (.castable (zEx e) (zEx e)) U) ∧ (∀ e f, e < 3 → f < 3 → e ≠ f → va_Nc (zEx e) (zEx f) U) ∧ (∀ q ∈ zStrs, ∃ a, vk_R q.1 q.2.1 q.2.2 a U) ∧ va_AO RX6 U ∧
    vx_Zq Bundle.tN "UNASSIGNED_STACK" Bundle.steD A U U.heap ∧ vx_Zq Bundle.tN "SUPPRESSED_SENTINEL" Bundle.listD A U U.heap ∧ (∀ y, Cond.declares y ∈ lw_tbl → va_Nw (.declares y) U)
theorem zFx_call {A : Nat → Prop} {U : State} {g : JFrame} {mk : MethodId} {a : Array Value} (h : zFx A U) : zFx A (U.calling g mk a) := by
  obtain ⟨h1, h2, h3, h4, h5, h6, h7, h8⟩ := h
  refine ⟨fun q hq => va_Nw.same rfl rfl (h1 q hq), fun e he => va_Nw.same rfl rfl (h2 e he), fun e f he hf hn => va_Nc.moved (u := U) (Vm.Alike.refl U.vm) (h3 e f he hf hn), fun q hq => ?_, va_AO.moved (u := U) (Vm.Alike.refl U.vm) h5, vx_Zq.moved (u := U) (Vm.Alike.refl U.vm) h6, vx_Zq.moved (u := U) (Vm.Alike.refl U.vm) h7, fun y hy => va_Nw.same rfl rfl (h8 y hy)⟩
  obtain ⟨a9, ha⟩ := h4 q hq
  exact ⟨a9, vk_R.same rfl ha⟩
theorem zFx_warm {A B : Nat → Prop} {s U : State} {H : Heap} {locs : List Loc} (h : zFx A s) (hS : va_S A s.heap H locs) (hAB : ∀ q, B q → A q) (hU : U.heap = H) (hW : s.WarmedH U.vm) : zFx B U := by
  obtain ⟨h1, h2, h3, h4, h5, h6, h7, h8⟩ := h
  refine ⟨fun q hq => va_Nw.warmM hW (h1 q hq), fun e he => va_Nw.warmC hW (h2 e he), fun e f he hf hn => va_Nc.moved hW.alike (h3 e f he hf hn), fun q hq => ?_, va_AO.moved hW.alike h5, ?_, ?_, fun y hy => va_Nw.warmD hW (h8 y hy)⟩
  · obtain ⟨a9, ha⟩ := h4 q hq
    exact ⟨a9, vk_R.warm hW ha⟩
  · rw [hU]
    exact ((h6.kept (H1 := H) hS.2.1).moved hW.alike).narrow hAB
  · rw [hU]
    exact ((h7.kept (H1 := H) hS.2.1).moved hW.alike).narrow hAB
/-- before: the world, the tables, what lasts -/
def zB (D : va_G) (cw : va_W) (tys : List (ClassId × FieldType)) (sz : Nat) (U : State) : Prop := U.heap.size = sz ∧ va_P D vwCl cw U.heap ∧ va_K D vwCl tys U ∧ va_D (fun _ => True) cw ∧ zFx (va_A cw sz) U
/-- after: the world of the run's end, some cells more -/
def zAft (D : va_G) (b sz : Nat) (cw : va_W) (w' : zW) (st t : State) (cw' : va_W) : Prop := (∃ ext, zad cw' = zad cw ++ ext) ∧ va_P D vwCl cw' t.heap ∧ (∃ tys', va_K D vwCl tys' t ∧ zWR b tys' w' cw') ∧ va_D (va_A cw sz) cw' ∧ va_F (va_A cw sz) st t
def zQ (D : va_G) (b sz : Nat) (cw : va_W) (r : zR) : Array Value → State → Outcome → State → Prop := fun _ st o t => ∃ (vo : Option Value) (cw' : va_W), o = .returned vo ∧ ((r.1 = 0 ∧ vo = none) ∨ (r.1 = 1 ∧ ∃ v, vo = some v ∧ zRV (zad cw') b r.2.1 v)) ∧ zAft D b sz cw r.2.2 st t cw'
def zXC (D : va_G) (b sz : Nat) (cw : va_W) (r : zR) : String → State → State → Prop := fun E st t => r.1 = 2 ∧ E = zEx r.2.1.1 ∧ r.2.1.1 < 3 ∧ ∃ cw' : va_W, zAft D b sz cw r.2.2 st t cw'
def zRm (d : Nat) (r : zR) : Room := { frames := d, cells := r.2.2.2.2.1, slots := r.2.2.2.2.2, locals := 39 * d + 10 }
def zGd : List Cond := lw_tbl.filter goodWord
theorem zGd_good {w : Cond} (h : w ∈ zGd) : goodWord w = true := (List.mem_filter.mp h).2
theorem zGd_tbl {w : Cond} (h : w ∈ zGd) : w ∈ lw_tbl := (List.mem_filter.mp h).1
noncomputable def zat (p : Nat) (w : Cond) : Bool := zb (decide (lw_tbl[p]? = some w)) (goodWord w) false
theorem zat_mem {p : Nat} {w : Cond} (h : zat p w = true) : w ∈ zGd := by
  obtain ⟨h1, h2⟩ := zb_and h
  exact List.mem_filter.mpr ⟨List.mem_of_getElem? (of_decide_eq_true h1), h2⟩
/-- the contract of an invocation, by a run of the abstract machine -/
def zMet (l : Launch) (y : MethodName) (word : Cond) (d : Nat) (as : List zV) (w : zW) (r : zR) : Prop :=
  ∀ (D : va_G) (b sz : Nat) (cw : va_W) (tys : List (ClassId × FieldType)) (av : List Value), zWR b tys w cw → zVR (zad cw) b as av →
    vx_Met l y (word :: zGd) (zRm d r) (va_Pc av (zB D cw tys sz)) (zQ D b sz cw r) (zXC D b sz cw r) r.2.2.2.2.1 r.2.2.2.2.2 (va_A cw sz)
theorem zB_blind {D : va_G} {cw : va_W} {tys : List (ClassId × FieldType)} {sz : Nat} {av : List Value} : FrameBlind (va_Pc av (zB D cw tys sz)) := by
  intro a U g mk q
  obtain ⟨q0, q1, qP, qK, qD, qF⟩ := q
  exact ⟨q0, q1, qP, va_K.moved (u := U) (U := U.calling g mk a) (Vm.Alike.refl U.vm) qK, qD, zFx_call qF⟩
section ZC
variable {p : Program} {l : Launch} {e : Env} {R : Room} {s : State} {m : MethodId} {args : Array Value} {below : List Frame} {meth : Method} {c : Code} {Q : State → Prop} {D : va_G} {A : Nat → Prop} {b : Nat}
theorem zA_sub {cw : va_W} {H : Heap} {locs : List Loc} (hA : ∀ q, s.heap.size ≤ q → A q) (hS : va_S A s.heap H locs) (hD : va_D A cw) : ∀ q, va_A cw H.size q → A q := by
  intro q hq
  rcases hq with ⟨k, e, hk⟩ | hq
  · exact hD.2 k (q, e) hk
  · exact hA q (Nat.le_trans hS.1 hq)
theorem zpre {cw : va_W} {tys : List (ClassId × FieldType)} {H : Heap} {locs : List Loc} {av : List Value} (hF : zFx A s) (hA : ∀ q, s.heap.size ≤ q → A q) (hK : va_K D vwCl tys s) (hP : va_P D vwCl cw H) (hD : va_D A cw) (hS : va_S A s.heap H locs) : ∀ U : State, U.heap = H → s.WarmedH U.vm → va_Pc av (zB D cw tys H.size) av.toArray U := by
  intro U hU hW
  exact ⟨rfl, by rw [hU], by rw [hU]; exact hP, va_K.moved hW.alike hK, hD.weaken (fun _ _ _ _ => trivial), zFx_warm hF hS (zA_sub hA hS hD) hU hW⟩
/-- after a call: the world again, or the callee's throw -/
theorem zcall {cw : va_W} {r : zR} {H : Heap} {locs : List Loc} {cells slots mc ms pc : Nat} {ls : Array Slot} {st0 rest : List Value} {a : Array Value} (hr : vx_Run p l e R s m args below meth c H locs cells slots mc ms (F0 m pc ls st0) rest (zQ D b H.size cw r a) (zXC D b H.size cw r) (va_A cw H.size)) (hA : ∀ q, s.heap.size ≤ q → A q) (hD : va_D A cw) (hS : va_S A s.heap H locs)
    (kx : ∀ (q9 : Addr) (ce : Cell) (cw' : va_W) (tys' : List (ClassId × FieldType)) (H1 : Heap) (locs1 : List Loc), r.1 = 2 → r.2.1.1 < 3 → zHR D A b s r.2.2 cw' tys' H1 locs1 → (∃ ext, zad cw' = zad cw ++ ext) → H1[q9]? = some ce → ce.vm = .none → s.vm.findClass (zEx r.2.1.1) = some ce.cls → vx_W p l e R s m args below meth c H1 locs1 (cells + mc) (slots + ms) Q (F0 m pc ls rest) q9)
    (kk : ∀ (vo : Option Value) (cw' : va_W) (tys' : List (ClassId × FieldType)) (H1 : Heap) (locs1 : List Loc), ((r.1 = 0 ∧ vo = none) ∨ (r.1 = 1 ∧ ∃ v, vo = some v ∧ zRV (zad cw') b r.2.1 v)) → zHR D A b s r.2.2 cw' tys' H1 locs1 → (∃ ext, zad cw' = zad cw ++ ext) → W p l e R s m args below meth c H1 locs1 (cells + mc) (slots + ms) Q (F0 m (pc + 3) ls (vo.toList ++ rest))) :
    W p l e R s m args below meth c H locs cells slots Q (F0 m pc ls st0) := by
  have hf := zA_sub hA hS hD
  intro T hT X
  rcases hr T hT X with ⟨v, st₀, t, T', L, h0, X', hL, e1, e2, ⟨vo, cw', hv, hvo, hext, hP1, ⟨tys', hK1, hW1⟩, hD1, hF⟩, st⟩ | ⟨q, st₀, t, T', L, E, ce, h0, X', hL, e1, e2, ⟨hr2, hE, hE3, cw', hext, hP1, ⟨tys', hK1, hW1⟩, hD1, hF⟩, hce, hcv, hcl, st⟩
  · cases hv
    obtain ⟨k1, k2, k3⟩ := vx_keep h0 e1 hS (fun q _ h => hf q h) hf hL hF
    have hvm : s.vm.Alike t.vm := by rw [← e2]; exact X'.warmed.alike
    obtain ⟨t2, a1, b1⟩ := kk v cw' tys' T'.heap (locs ++ L) hvo ⟨va_K.moved hvm.symm hK1, by rw [e1]; exact hP1, hD1.weaken (fun _ _ _ h => hf _ h), k3, hW1⟩ hext T' rfl X'
    exact ⟨t2, st t2 a1, b1⟩
  · subst hE
    obtain ⟨k1, k2, k3⟩ := vx_keep h0 e1 hS (fun q _ h => hf q h) hf hL hF
    have hvm : s.vm.Alike t.vm := by rw [← e2]; exact X'.warmed.alike
    obtain ⟨t2, a1, b1⟩ := kx q ce cw' tys' T'.heap (locs ++ L) hr2 hE3 ⟨va_K.moved hvm.symm hK1, by rw [e1]; exact hP1, hD1.weaken (fun _ _ _ h => hf _ h), k3, hW1⟩ hext (by rw [e1]; exact hce) hcv hcl T' rfl X'
    exact ⟨t2, st.trans a1, b1⟩
end ZC
