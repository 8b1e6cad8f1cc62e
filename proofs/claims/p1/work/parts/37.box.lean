/-! ===== the boxes ===== -/
noncomputable def zfin (o : zO) : Bool := Sum.rec (motive := fun _ => Bool) (fun _ => false) (fun r => zb (Nat.beq r.1 1) (zb (zeqV r.2.1 (0, 1, 0)) (zb (Nat.ble r.2.2.2.2.1 600002) (Nat.ble r.2.2.2.2.2 7302231) false) false) false) o
theorem zfin_ok {o : zO} (h : zfin o = true) : ∃ r, o = Sum.inr r ∧ r.1 = 1 ∧ r.2.1 = (0, 1, 0) ∧ r.2.2.2.2.1 ≤ 600002 ∧ r.2.2.2.2.2 ≤ 7302231 := by
  cases o with
  | inl S => exact Bool.noConfusion h
  | inr r =>
    obtain ⟨h1, h2⟩ := zb_and (show zb (Nat.beq r.1 1) (zb (zeqV r.2.1 (0, 1, 0)) (zb (Nat.ble r.2.2.2.2.1 600002) (Nat.ble r.2.2.2.2.2 7302231) false) false) false = true from h)
    obtain ⟨h3, h4⟩ := zb_and h2
    obtain ⟨h5, h6⟩ := zb_and h4
    exact ⟨r, rfl, zbeq h1, zeqV_eq _ _ h3, zble h5, zble h6⟩
noncomputable def zleaf (k : Nat) (scr : List zV) : Bool := zfin (zit (zstep zobjs (zrun zobjs zcodes 11) 12 zk_law scr) 16 (zfindS zk_law 45, zl0, [(0, k, 0)], zw0))
noncomputable def zall (k : Nat) (l : List (List zV)) : Bool := List.rec (motive := fun _ => Bool) true (fun h _ ih => zb (zleaf k h) ih false) l
theorem zall_at {k : Nat} : ∀ {l : List (List zV)} {i : Nat} {h : List zV}, zall k l = true → l[i]? = some h → zleaf k h = true
  | [], _, _, _, h => by cases h
  | x :: l, 0, _, ha, h => by cases h; exact (zb_and (show zb (zleaf k x) (zall k l) false = true from ha)).1
  | x :: l, i + 1, _, ha, h => zall_at (l := l) (zb_and (show zb (zleaf k x) (zall k l) false = true from ha)).2 h
def zbv (q : Nat × Nat) : zV := if q.1 = q.2 then (0, (q.1 + 2147483648) % 4294967296, 0) else (1, q.1, q.2)
def zInB (xs : Nat → Int32) (bx : List (Nat × Nat)) : Prop := ∀ (j : Nat) (q : Nat × Nat), bx[j]? = some q → q.1 ≤ zbias (xs (j + 1)) ∧ zbias (xs (j + 1)) ≤ q.2
theorem zcut {xs : Nat → Int32} {bx : List (Nat × Nat)} {a c lo hi : Nat} (h : zInB xs bx) (hb : bx[a]? = some (lo, hi)) : zInB xs (bx.set a (lo, c)) ∨ zInB xs (bx.set a (c + 1, hi)) := by
  have hl : a < bx.length := (List.getElem?_eq_some_iff.mp hb).1
  obtain ⟨h1, h2⟩ := h a _ hb
  by_cases hc : zbias (xs (a + 1)) ≤ c
  · refine Or.inl fun j q hq => ?_
    by_cases hj : a = j
    · subst hj
      rw [List.getElem?_set_self hl] at hq
      cases hq
      exact ⟨h1, hc⟩
    · rw [List.getElem?_set_ne hj] at hq
      exact h j q hq
  · refine Or.inr fun j q hq => ?_
    by_cases hj : a = j
    · subst hj
      rw [List.getElem?_set_self hl] at hq
      cases hq
      exact ⟨by show c + 1 ≤ _; omega, h2⟩
    · rw [List.getElem?_set_ne hj] at hq
      exact h j q hq
def zscrB (bx : List (Nat × Nat)) : List zV := (1, 0, 4294967295) :: bx.map zbv
theorem zlv {xs : Nat → Int32} {P : Nat → Prop} {k i : Nat} {l : List (List zV)} {scr : List zV} {bx : List (Nat × Nat)} (hleaf : ∀ (k : Nat) (bx : List (Nat × Nat)), bx.length = 5 → zleaf k (zscrB bx) = true → zInB xs bx → P k) (ha : zall k l = true) (h : zInB xs bx) (hi : l[i]? = some scr) (he : (zscrB bx, bx.length) = (scr, 5)) : P k := by
  have e1 : zscrB bx = scr := congrArg Prod.fst he
  have e2 : bx.length = 5 := congrArg Prod.snd he
  exact hleaf k bx e2 (by rw [e1]; exact zall_at ha hi) h
def zfull : List (Nat × Nat) := [(0, 4294967295), (0, 4294967295), (0, 4294967295), (0, 4294967295), (0, 4294967295)]
