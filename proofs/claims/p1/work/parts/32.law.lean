/-! ===== the law's own runs ===== -/
section ZL1
variable {p : Program} {l : Launch} {e : Env} {R : Room} {s : State} {m : MethodId} {args : Array Value} {below : List Frame} {meth : Method} {c : Code} {Q : State → Prop} {nL : Nat} {D : va_G} {A : Nat → Prop} {b : Nat} {ad0 : List Nat} {cc : ByteArray} {own : String} {ini : Bool} {tb : List ExceptionTableEntry} {ret : Option FieldType} {dd : Nat} {rec : Nat → List zV → zW → zR} {full : List zE} {scr : List zV}
/-- a run that ends, but for its last step -/
theorem zinr_last {r : zR} (X : zCx p l R s m args meth c nL A b cc own ini tb dd rec scr) (hPf : zP own cc nL ini tb ret full) : ∀ (k : Nat) {S : zS}, zP own cc nL ini tb ret S.1 → zit (zstep zobjs rec (dd + 1) full scr) k S = Sum.inr r →
    ∃ S' : zS, zP own cc nL ini tb ret S'.1 ∧ zstep zobjs rec (dd + 1) full scr S' = Sum.inr r ∧ ((S'.2.2.2.2.2.1 ≤ R.cells ∧ S'.2.2.2.2.2.2 ≤ R.slots) → zG p l e R s m args below meth c nL D A b ad0 Q S' → zG p l e R s m args below meth c nL D A b ad0 Q S) ∧ (S.2.2.2.2.2.1 ≤ S'.2.2.2.2.2.1 ∧ S.2.2.2.2.2.2 ≤ S'.2.2.2.2.2.2) := by
  intro k
  induction k with
  | zero => exact fun {S} hP h => ⟨S, hP, h, fun _ kk => kk, Nat.le_refl _, Nat.le_refl _⟩
  | succ k ih =>
    intro S hP h
    have e1 : zit (zstep zobjs rec (dd + 1) full scr) (k + 1) S = Sum.rec (motive := fun _ => zO) (fun s' => zit (zstep zobjs rec (dd + 1) full scr) k s') (fun r => Sum.inr r) (zit (zstep zobjs rec (dd + 1) full scr) k S) := rfl
    rw [e1] at h
    cases q : zit (zstep zobjs rec (dd + 1) full scr) k S with
    | inr r2 =>
      rw [q] at h
      have h : (Sum.inr r2 : zO) = Sum.inr r := h
      cases h
      exact ih hP q
    | inl S2 =>
      rw [q] at h
      have h : zit (zstep zobjs rec (dd + 1) full scr) k S2 = Sum.inr r := h
      obtain ⟨a1, a2, a3⟩ := zitA (e := e) (below := below) (Q := Q) (D := D) (ad0 := ad0) X hPf k hP q
      obtain ⟨S', b1, b2, b3, b4⟩ := ih a1 h
      exact ⟨S', b1, b2, fun hcs kk => a3 ⟨Nat.le_trans b4.1 hcs.1, Nat.le_trans b4.2 hcs.2⟩ (b3 hcs kk), Nat.le_trans a2.1 b4.1, Nat.le_trans a2.2 b4.2⟩
end ZL1
def zgd3 (o : zO) : Prop := match o with
  | .inl _ => True
  | .inr r => r.1 ≠ 1
section ZG3
variable {rest full : List zE} {w : zW} {ls : zA} {st : List zV} {scr : List zV} {objs : List (Nat × zA)} {a b D op : Nat} {l : List Nat} {rec : Nat → List zV → zW → zR}
theorem zgd3_b {c : Bool} {t e : zO} (h1 : zgd3 t) (h2 : zgd3 e) : zgd3 (zb c t e) := by
  cases c
  · exact h2
  · exact h1
theorem zgd3_X : zgd3 zX := by
  intro h; cases h
theorem zgd3_go {t : Nat} {w1 : zW} : zgd3 (zgo full t ls st w1) := by
  unfold zgo
  rw [zfindK_eq]
  split
  · exact zgd3_X
  · trivial
theorem zgd_3of {o : zO} (h : zgd rest full w o) : zgd3 o := by
  cases o with
  | inl S => trivial
  | inr r => exact fun z => by rw [show r.1 = 9 from h] at z; cases z
theorem zgd3_15 : zgd3 (zoInvoke rest ls st w rec full a b l) := by
  rcases l with _ | ⟨kd, _ | ⟨rc, hs⟩⟩
  · exact zgd3_X
  · exact zgd3_X
  · by_cases h9 : zlive (zoInvoke rest ls st w rec full a b (kd :: rc :: hs))
    · obtain ⟨xs, st1, rfl, -, -, -, heq⟩ := zinv_spec h9
      rw [heq]
      refine zgd3_b trivial (zgd3_b trivial (zgd3_b ?_ zgd3_X))
      rcases hs with _ | ⟨e1, _ | ⟨t1, _ | ⟨e2, _ | ⟨t2, hs⟩⟩⟩⟩
      · exact fun z => by cases z
      · exact fun z => by cases z
      · exact zgd3_b zgd3_go zgd3_X
      · exact zgd3_b zgd3_go zgd3_X
      · exact zgd3_b zgd3_go (zgd3_b zgd3_go zgd3_X)
    · revert h9
      generalize zoInvoke rest ls st w rec full a b (kd :: rc :: hs) = o
      intro h9
      cases o with
      | inl S => trivial
      | inr r => exact fun z => h9 (fun z9 => by rw [z] at z9; cases z9)
theorem zgd3_25 : zgd3 (zoThrow st w D a) := by
  unfold zoThrow
  refine zgd3_b (zgd3_b ?_ zgd3_X) zgd3_X
  rw [zfN_eq, zfN_eq]
  exact fun z => by cases z
theorem zdo_16of (h : ¬ zgd3 (zdo objs rec D full scr op a b l rest ls st w)) : op = 16 := by
  by_cases h16 : op = 16
  · exact h16
  · refine absurd ?_ h
    unfold zdo
    have tail : zgd3 (zb (Nat.ble op 16) (zoRet st w b) (zb (Nat.ble op 17) (zoDup rest ls st w) (zoPop rest ls st w))) ∨ Nat.ble op 15 = true := by
      cases q : Nat.ble op 15
      · refine Or.inl ?_
        have q1 : Nat.ble op 16 = false := by
          cases q2 : Nat.ble op 16
          · rfl
          · have h1 := zble q2
            have h2 : ¬ op ≤ 15 := fun z => by rw [Nat.ble_eq_true_of_le z] at q; cases q
            omega
        rw [q1, zb_ff]
        exact zgd3_b (zgd_3of (zgd_17 (rest := rest) (full := full) (w := w))) (zgd_3of (zgd_18 (rest := rest) (full := full) (w := w)))
      · exact Or.inr rfl
    have h1 : zgd3 (zb (Nat.ble op 11) (zb (Nat.ble op 9) (zb (Nat.ble op 8) (zoGetf rest ls st w a b) (zoPutf rest ls st w a b l)) (zb (Nat.ble op 10) (zoAload rest ls st w scr b) (zoAstore rest ls st w b)))
        (zb (Nat.ble op 13) (zb (Nat.ble op 12) (zoLen rest ls st w scr) (zoNew rest ls st w objs a)) (zb (Nat.ble op 14) (zoNewarr rest ls st w a) (zoInvoke rest ls st w rec full a b l)))) :=
      zgd3_b (zgd3_b (zgd3_b (zgd_3of (zgd_8 (rest := rest) (full := full) (w := w))) (zgd_3of (zgd_9 (rest := rest) (full := full) (w := w)))) (zgd3_b (zgd_3of (zgd_10 (rest := rest) (full := full) (w := w))) (zgd_3of (zgd_11 (rest := rest) (full := full) (w := w)))))
        (zgd3_b (zgd3_b (zgd_3of (zgd_12 (rest := rest) (full := full) (w := w))) (zgd_3of (zgd_13 (rest := rest) (full := full) (w := w)))) (zgd3_b (zgd_3of (zgd_14 (rest := rest) (full := full) (w := w))) zgd3_15))
    refine zgd3_b (zgd3_b (zgd3_b (zgd3_b (zgd_3of (zgd_0 (rest := rest) (full := full) (w := w))) (zgd_3of (zgd_1 (rest := rest) (full := full) (w := w)))) (zgd3_b (zgd_3of (zgd_2 (rest := rest) (full := full) (w := w))) (zgd_3of (zgd_3 (rest := rest) (full := full) (w := w)))))
      (zgd3_b (zgd3_b (zgd_3of (zgd_4 (rest := rest) (full := full) (w := w))) (zgd_3of (zgd_5 (rest := rest) (full := full) (w := w)))) (zgd3_b (zgd_3of (zgd_6 (rest := rest) (full := full) (w := w))) (zgd_3of (zgd_7 (rest := rest) (full := full) (w := w)))))) ?_
    rcases tail with tail | q
    · exact zgd3_b h1 (zgd3_b (zgd3_b tail (zgd3_b (zgd_3of (zgd_19 (rest := rest) (full := full) (w := w))) (zgd3_b (zgd_3of (zgd_20 (rest := rest) (full := full) (w := w))) (zgd_3of (zgd_21 (rest := rest) (full := full) (w := w))))))
        (zgd3_b (zgd3_b (zgd_3of (zgd_22 (rest := rest) (full := full) (w := w))) (zgd3_b (zgd_3of (zgd_23 (rest := rest) (full := full) (w := w))) (zgd_3of (zgd_24 (rest := rest) (full := full) (w := w)))))
          (zgd3_b (zgd3_b zgd3_25 (zgd_3of (zgd_26 (rest := rest) (full := full) (w := w)))) (zgd3_b (zgd_3of (zgd_27 (rest := rest) (full := full) (w := w))) (zgd3_b (zgd_3of (zgd_28 (rest := rest) (full := full) (w := w))) zgd3_X)))))
    · rw [q, zb_tt]
      exact h1
end ZG3
