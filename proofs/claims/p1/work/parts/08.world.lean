/-! ===== cells: what the world's things are ===== -/
def zER (ad : List Nat) (b : Nat) (tys : List (ClassId × FieldType)) (c : zC) (e : va_E) : Prop :=
  (c.1 < 100 ∧ ∃ (fs : List Value) (q : vw_C), e = .inr (c.1, fs) ∧ vwCl[c.1]? = some q ∧ q.2.2 = c.2.1 ∧ fs.length = c.2.1 ∧ ∀ k, k < c.2.1 → ∃ v, fs[k]? = some v ∧ zRV ad b (zget c.2.2.2 k c.2.2.1) v) ∨
  (c.2.1 ≤ 60000 ∧ ∃ (cA : ClassId) (f : Nat → Int32), e = .inl (cA, c.2.1, .inl f) ∧ ((c.1 = 100 ∧ (cA, FieldType.int) ∈ tys) ∨ (c.1 = 101 ∧ (cA, FieldType.byte) ∈ tys) ∨ (c.1 = 102 ∧ (cA, FieldType.boolean) ∈ tys)) ∧ ∀ k, k < c.2.1 → zRV ad b (zget c.2.2.2 k c.2.2.1) (.int (f k))) ∨
  (c.2.1 ≤ 60000 ∧ c.1 = 103 ∧ ∃ (cA : ClassId) (f : Nat → Int64), e = .inl (cA, c.2.1, .inr (.inl f)) ∧ (cA, FieldType.long) ∈ tys ∧ ∀ k, k < c.2.1 → zRV ad b (zget c.2.2.2 k c.2.2.1) (.long (f k))) ∨
  (c.2.1 ≤ 60000 ∧ c.1 = 104 ∧ ∃ (cA : ClassId) (f : Nat → UInt64), e = .inl (cA, c.2.1, .inr (.inr (.inr (.inl f)))) ∧ (cA, FieldType.double) ∈ tys ∧ ∀ k, k < c.2.1 → zRV ad b (zget c.2.2.2 k c.2.2.1) (.double (f k))) ∨
  (c.2.1 ≤ 60000 ∧ c.1 = 105 ∧ ∃ (cA : ClassId) (f : Nat → Option Nat), e = .inl (cA, c.2.1, .inr (.inr (.inr (.inr f)))) ∧ (cA, FieldType.object RX6) ∈ tys ∧ ∀ k, k < c.2.1 → zRV ad b (zget c.2.2.2 k c.2.2.1) (va_rf (f k)))
theorem zER_mono {ad ext : List Nat} {b : Nat} {tys tys' : List (ClassId × FieldType)} (ht : ∀ t ∈ tys, t ∈ tys') {c : zC} {e : va_E} (h : zER ad b tys c e) : zER (ad ++ ext) b tys' c e := by
  rcases h with ⟨h0, fs, q, h1, h2, h3, h4, h5⟩ | ⟨h0, cA, f, h1, h2, h3⟩ | ⟨h0, h9, cA, f, h1, h2, h3⟩ | ⟨h0, h9, cA, f, h1, h2, h3⟩ | ⟨h0, h9, cA, f, h1, h2, h3⟩
  · refine Or.inl ⟨h0, fs, q, h1, h2, h3, h4, fun k hk => ?_⟩
    obtain ⟨v, g1, g2⟩ := h5 k hk
    exact ⟨v, g1, zRV_mono g2⟩
  · refine Or.inr (Or.inl ⟨h0, cA, f, h1, ?_, fun k hk => zRV_mono (h3 k hk)⟩)
    rcases h2 with ⟨a, g⟩ | ⟨a, g⟩ | ⟨a, g⟩
    · exact Or.inl ⟨a, ht _ g⟩
    · exact Or.inr (Or.inl ⟨a, ht _ g⟩)
    · exact Or.inr (Or.inr ⟨a, ht _ g⟩)
  · exact Or.inr (Or.inr (Or.inl ⟨h0, h9, cA, f, h1, ht _ h2, fun k hk => zRV_mono (h3 k hk)⟩))
  · exact Or.inr (Or.inr (Or.inr (Or.inl ⟨h0, h9, cA, f, h1, ht _ h2, fun k hk => zRV_mono (h3 k hk)⟩)))
  · exact Or.inr (Or.inr (Or.inr (Or.inr ⟨h0, h9, cA, f, h1, ht _ h2, fun k hk => zRV_mono (h3 k hk)⟩)))
abbrev zad (cw : va_W) : List Nat := cw.map Prod.fst
def zWR (b : Nat) (tys : List (ClassId × FieldType)) (w : zW) (cw : va_W) : Prop :=
  w.1 = cw.length ∧ w.2.1.length = cw.length ∧ ∀ k, k < cw.length → ∃ (cc : zC) (x : Nat × va_E), w.2.1[cw.length - (k + 1)]? = some cc ∧ cw[k]? = some x ∧ zER (zad cw) b tys cc x.2
theorem zad_at {cw : va_W} {k q : Nat} (h : (zad cw)[k]? = some q) : ∃ e, cw[k]? = some (q, e) := by
  rw [List.getElem?_map] at h
  cases hx : cw[k]? with
  | none => rw [hx] at h; cases h
  | some x =>
    rw [hx] at h
    have := Option.some.inj h
    subst this
    exact ⟨x.2, rfl⟩
/-- the cell that a reference names -/
theorem zcell_at {b : Nat} {tys : List (ClassId × FieldType)} {w : zW} {cw : va_W} (h : zWR b tys w cw) {x y : Nat} {v : Value} (hv : zRV (zad cw) b (4, x, y) v) :
    ∃ (q : Nat) (e : va_E), v = .ref q ∧ cw[x]? = some (q, e) ∧ x < cw.length ∧ w.2.1[w.1 - (x + 1)]? = some (znth w.2.1 (w.1 - (x + 1))) ∧ zER (zad cw) b tys (znth w.2.1 (w.1 - (x + 1))) e := by
  obtain ⟨q, h1, h2⟩ := hv
  obtain ⟨e, h3⟩ := zad_at h1
  have hx : x < cw.length := (List.getElem?_eq_some_iff.mp h3).1
  obtain ⟨g1, g2, g3⟩ := h
  obtain ⟨cc, z, k1, k2, k3⟩ := g3 x hx
  have hz : z = (q, e) := Option.some.inj (k2.symm.trans h3)
  subst hz
  have hn : znth w.2.1 (w.1 - (x + 1)) = cc := by rw [znth_eq, g1, k1]; rfl
  refine ⟨q, e, h2, h3, hx, ?_, ?_⟩
  · rw [hn, g1]; exact k1
  · rw [hn]; exact k3
theorem zad_set {cw : va_W} {k q : Nat} {e e' : va_E} (h : cw[k]? = some (q, e)) : zad (cw.set k (q, e')) = zad cw := by
  show List.map Prod.fst (cw.set k (q, e')) = List.map Prod.fst cw
  rw [List.map_set]
  refine List.ext_getElem? fun i => ?_
  rw [List.getElem?_set]
  by_cases hi : k = i
  · subst hi
    have hl : k < cw.length := (List.getElem?_eq_some_iff.mp h).1
    rw [if_pos rfl, List.length_map, if_pos hl, List.getElem?_map, h]; rfl
  · rw [if_neg hi]
theorem zWR_set {b : Nat} {tys : List (ClassId × FieldType)} {w : zW} {cw : va_W} (h : zWR b tys w cw) {k q nc ns : Nat} {e e' : va_E} {c' : zC} (hk : cw[k]? = some (q, e)) (he : zER (zad cw) b tys c' e') : zWR b tys (w.1, w.2.1.set (w.1 - (k + 1)) c', nc, ns) (cw.set k (q, e')) := by
  obtain ⟨h1, h2, h3⟩ := h
  have hl : k < cw.length := (List.getElem?_eq_some_iff.mp hk).1
  refine ⟨by rw [List.length_set]; exact h1, by rw [List.length_set, List.length_set]; exact h2, fun i hi => ?_⟩
  rw [List.length_set] at hi
  rw [zad_set hk, List.length_set]
  by_cases e1 : k = i
  · subst e1
    refine ⟨c', (q, e'), ?_, ?_, he⟩
    · show (w.2.1.set (w.1 - (k + 1)) c')[cw.length - (k + 1)]? = _
      rw [h1, List.getElem?_set_self (by omega)]
    · rw [List.getElem?_set_self hl]
  · obtain ⟨cc, x, g1, g2, g3⟩ := h3 i hi
    refine ⟨cc, x, ?_, ?_, g3⟩
    · show (w.2.1.set (w.1 - (k + 1)) c')[cw.length - (i + 1)]? = _
      rw [h1, List.getElem?_set_ne (by omega)]; exact g1
    · rw [List.getElem?_set_ne e1]; exact g2
theorem zWR_push {b : Nat} {tys tys' : List (ClassId × FieldType)} (ht : ∀ t ∈ tys, t ∈ tys') {w : zW} {cw : va_W} (h : zWR b tys w cw) {q nc ns : Nat} {e : va_E} {c : zC} (he : zER (zad cw ++ [q]) b tys' c e) : zWR b tys' (w.1 + 1, c :: w.2.1, nc, ns) (cw ++ [(q, e)]) := by
  obtain ⟨h1, h2, h3⟩ := h
  have ha : zad (cw ++ [(q, e)]) = zad cw ++ [q] := by
    show List.map Prod.fst (cw ++ [(q, e)]) = _
    rw [List.map_append]; rfl
  refine ⟨by rw [List.length_append]; show w.1 + 1 = _; rw [h1]; rfl, by rw [List.length_append]; show (c :: w.2.1).length = _; rw [List.length_cons, h2]; rfl, fun i hi => ?_⟩
  rw [ha, List.length_append]
  rw [List.length_append] at hi
  have hi : i < cw.length + 1 := hi
  show ∃ cc x, (c :: w.2.1)[cw.length + 1 - (i + 1)]? = some cc ∧ _
  by_cases e1 : i = cw.length
  · subst e1
    refine ⟨c, (q, e), ?_, ?_, he⟩
    · rw [Nat.sub_self]; rfl
    · rw [List.getElem?_append_right (Nat.le_refl _), Nat.sub_self]; rfl
  · obtain ⟨cc, x, g1, g2, g3⟩ := h3 i (by omega)
    refine ⟨cc, x, ?_, ?_, zER_mono ht g3⟩
    · rw [show cw.length + 1 - (i + 1) = (cw.length - (i + 1)) + 1 by omega, List.getElem?_cons_succ]; exact g1
    · rw [List.getElem?_append_left (by omega)]; exact g2
theorem zWR_counts {b : Nat} {tys : List (ClassId × FieldType)} {n nc ns nc' ns' : Nat} {cs : List zC} {cw : va_W} (h : zWR b tys (n, cs, nc, ns) cw) : zWR b tys (n, cs, nc', ns') cw := h
/-- the heap holds the world -/
def zHR (D : va_G) (A : Nat → Prop) (b : Nat) (s : State) (w : zW) (cw : va_W) (tys : List (ClassId × FieldType)) (H : Heap) (locs : List Loc) : Prop :=
  va_K D vwCl tys s ∧ va_P D vwCl cw H ∧ va_D A cw ∧ va_S A s.heap H locs ∧ zWR b tys w cw
/-- a state of the abstract machine is good: the machine at this place comes to Q, from every state that it stands for -/
def zG (p : Program) (l : Launch) (e : Env) (R : Room) (s : State) (m : MethodId) (args : Array Value) (below : List Frame) (meth : Method) (c : Code) (nL : Nat) (D : va_G) (A : Nat → Prop) (b : Nat) (ad0 : List Nat) (Q : State → Prop) (S : zS) : Prop :=
  ∀ (cw : va_W) (tys : List (ClassId × FieldType)) (H : Heap) (locs : List Loc) (ls : Array Slot) (lv : List (Nat × Value)) (st : List Value),
    zHR D A b s S.2.2.2 cw tys H locs → (∃ ext, zad cw = ad0 ++ ext) → lv_has ls nL lv → zLR (zad cw) b S.2.1 lv → zVR (zad cw) b S.2.2.1 st →
    W p l e R s m args below meth c H locs S.2.2.2.2.2.1 S.2.2.2.2.2.2 Q (F0 m (zpc S.1) ls st)
