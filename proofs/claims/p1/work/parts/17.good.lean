/-! ===== where a step goes, and that the counts don't fall ===== -/
def zgd (rest full : List zE) (w : zW) (o : zO) : Prop := match o with
  | .inl S => (S.1 = rest ∨ ∃ t, S.1 = zfindS full t) ∧ w.2.2.1 ≤ S.2.2.2.2.2.1 ∧ w.2.2.2 ≤ S.2.2.2.2.2.2
  | .inr r => r.1 = 9
section ZGD
variable {rest full : List zE} {w : zW}
theorem zgd_X : zgd rest full w zX := rfl
theorem zgd_b {c : Bool} {t e : zO} (h1 : zgd rest full w t) (h2 : zgd rest full w e) : zgd rest full w (zb c t e) := by
  cases c
  · exact h2
  · exact h1
theorem zgd_N {n : Nat} {k : Nat → zO} (h : ∀ n, zgd rest full w (k n)) : zgd rest full w (zfN n k) := by rw [zfN_eq]; exact h n
theorem zgd_V {v : zV} {k : zV → zO} (h : ∀ v, zgd rest full w (k v)) : zgd rest full w (zfV v k) := by rw [zfV_eq]; exact h v
theorem zgd_cell {w0 : zW} {v : zV} {k : Nat → Nat → Nat → zV → zA → zO} (h : ∀ p kd sz d as, zgd rest full w (k p kd sz d as)) : zgd rest full w (zcellK w0 v k) := by
  unfold zcellK
  refine zgd_b ?_ zgd_X
  rw [zfN_eq, zfC_eq]
  exact h _ _ _ _ _
theorem zgd_rem {l : zA} {i : Nat} {c2 : Bool} {c : zA → zO} (h : ∀ a, zgd rest full w (c a)) : zgd rest full w (zremK l i c2 c) := by rw [zremK_eq]; exact h _
theorem zgd_set {l : zA} {i : Nat} {v : zV} {c : zA → zO} (h : ∀ a, zgd rest full w (c a)) : zgd rest full w (zsetK l i v c) := by rw [zsetK_eq]; exact h _
theorem zgd_put {l : List zC} {i : Nat} {x : zC} {c : List zC → zO} (h : ∀ a, zgd rest full w (c a)) : zgd rest full w (zputK l i x c) := by rw [zputK_eq]; exact h _
theorem zgd_inl {ls : zA} {st : List zV} {n : Nat} {cs : List zC} {nc ns : Nat} (h1 : w.2.2.1 ≤ nc) (h2 : w.2.2.2 ≤ ns) : zgd rest full w (Sum.inl (rest, ls, st, (n, cs, nc, ns))) := ⟨Or.inl rfl, h1, h2⟩
theorem zgd_in {ls : zA} {st : List zV} : zgd rest full w (Sum.inl (rest, ls, st, w)) := ⟨Or.inl rfl, Nat.le_refl _, Nat.le_refl _⟩
theorem zgd_go {t : Nat} {ls : zA} {st : List zV} {w1 : zW} (h1 : w.2.2.1 ≤ w1.2.2.1) (h2 : w.2.2.2 ≤ w1.2.2.2) : zgd rest full w (zgo full t ls st w1) := by
  unfold zgo
  rw [zfindK_eq]
  cases q : zfindS full t with
  | nil => exact zgd_X
  | cons x r => exact ⟨Or.inr ⟨t, q.symm⟩, h1, h2⟩
theorem zgd_cmpB {c a1 a2 b1 b2 : Nat} {k : Bool → zO} (h : ∀ t, zgd rest full w (k t)) : zgd rest full w (zcmpB c a1 a2 b1 b2 k) := by
  unfold zcmpB
  exact zgd_b (zgd_b (h _) (zgd_b (h _) zgd_X)) (zgd_b (h _) (zgd_b (h _) (zgd_b (zgd_b (zgd_b (h _) zgd_X) zgd_X) zgd_X)))
theorem zgd_cmp {c : Nat} {x y : zV} {k : Bool → zO} (h : ∀ t, zgd rest full w (k t)) : zgd rest full w (zcmp c x y k) := by
  unfold zcmp
  exact zgd_b (zgd_b (zgd_b (zgd_cmpB h) (zgd_b (zgd_cmpB fun t => h (not t)) (zgd_b (zgd_cmpB h) (zgd_b (zgd_cmpB fun t => h (not t)) (zgd_b (zgd_cmpB h) (zgd_b (zgd_cmpB fun t => h (not t)) zgd_X)))))) zgd_X) zgd_X
theorem zgd_lcB {a1 a2 b1 b2 : Nat} {k : zV → zO} (h : ∀ t, zgd rest full w (k t)) : zgd rest full w (zlcB a1 a2 b1 b2 k) := by
  unfold zlcB
  exact zgd_b (h _) (zgd_b (h _) (zgd_b (h _) (zgd_b (h _) (zgd_b (h _) zgd_X))))
theorem zgd_ar {a x y : Nat} {k : Nat → zO} (h : ∀ t, zgd rest full w (k t)) : zgd rest full w (zar a x y k) := by
  unfold zar
  exact zgd_b (zgd_N h) (zgd_b (zgd_N h) (zgd_b (zgd_N h) (zgd_b (zgd_b (zgd_b (zgd_b (zgd_N h) zgd_X) zgd_X) zgd_X) (zgd_b (zgd_b (zgd_b (zgd_b (zgd_N h) zgd_X) zgd_X) zgd_X) (zgd_b (zgd_N h) (zgd_b (zgd_b (h _) zgd_X) zgd_X))))))
theorem zgd_obj {objs : List (Nat × zA)} {a : Nat} {k : Nat → zA → zO} (h : ∀ N fs, zgd rest full w (k N fs)) : zgd rest full w (zobjK objs a k) := by
  rw [zobjK_eq]
  cases objs[a]? with
  | none => exact zgd_X
  | some x => exact h _ _
end ZGD
section ZGO
variable {rest full : List zE} {w : zW} {ls : zA} {st : List zV} {scr : List zV} {objs : List (Nat × zA)} {a b : Nat} {l : List Nat}
theorem zgd_0 : zgd rest full w (zoLoad rest ls st w a b) := by unfold zoLoad; (repeat' first | exact zgd_X | exact zgd_in | exact zgd_inl (by first | exact Nat.le_refl _ | exact Nat.le_succ _ | exact Nat.le_add_right _ _) (by first | exact Nat.le_refl _ | exact Nat.le_succ _ | exact Nat.le_add_right _ _) | exact zgd_go (Nat.le_refl _) (Nat.le_refl _) | refine zgd_b ?_ ?_ | refine zgd_N fun _ => ?_ | refine zgd_V fun _ => ?_ | refine zgd_cell fun _ _ _ _ _ => ?_ | refine zgd_rem fun _ => ?_ | refine zgd_set fun _ => ?_ | refine zgd_put fun _ => ?_ | refine zgd_cmp fun _ => ?_ | refine zgd_cmpB fun _ => ?_ | refine zgd_lcB fun _ => ?_ | refine zgd_ar fun _ => ?_ | refine zgd_obj fun _ _ => ?_)
theorem zgd_1 : zgd rest full w (zoConst rest ls st w l) := by unfold zoConst; split <;> (repeat' first | exact zgd_X | exact zgd_in | exact zgd_inl (by first | exact Nat.le_refl _ | exact Nat.le_succ _ | exact Nat.le_add_right _ _) (by first | exact Nat.le_refl _ | exact Nat.le_succ _ | exact Nat.le_add_right _ _) | exact zgd_go (Nat.le_refl _) (Nat.le_refl _) | refine zgd_b ?_ ?_ | refine zgd_N fun _ => ?_ | refine zgd_V fun _ => ?_ | refine zgd_cell fun _ _ _ _ _ => ?_ | refine zgd_rem fun _ => ?_ | refine zgd_set fun _ => ?_ | refine zgd_put fun _ => ?_ | refine zgd_cmp fun _ => ?_ | refine zgd_cmpB fun _ => ?_ | refine zgd_lcB fun _ => ?_ | refine zgd_ar fun _ => ?_ | refine zgd_obj fun _ _ => ?_)
theorem zgd_2 : zgd rest full w (zoStore rest ls st w a b) := by unfold zoStore; split <;> (repeat' first | exact zgd_X | exact zgd_in | exact zgd_inl (by first | exact Nat.le_refl _ | exact Nat.le_succ _ | exact Nat.le_add_right _ _) (by first | exact Nat.le_refl _ | exact Nat.le_succ _ | exact Nat.le_add_right _ _) | exact zgd_go (Nat.le_refl _) (Nat.le_refl _) | refine zgd_b ?_ ?_ | refine zgd_N fun _ => ?_ | refine zgd_V fun _ => ?_ | refine zgd_cell fun _ _ _ _ _ => ?_ | refine zgd_rem fun _ => ?_ | refine zgd_set fun _ => ?_ | refine zgd_put fun _ => ?_ | refine zgd_cmp fun _ => ?_ | refine zgd_cmpB fun _ => ?_ | refine zgd_lcB fun _ => ?_ | refine zgd_ar fun _ => ?_ | refine zgd_obj fun _ _ => ?_)
theorem zgd_3 : zgd rest full w (zoInc rest ls st w a l) := by unfold zoInc; split <;> (repeat' first | exact zgd_X | exact zgd_in | exact zgd_inl (by first | exact Nat.le_refl _ | exact Nat.le_succ _ | exact Nat.le_add_right _ _) (by first | exact Nat.le_refl _ | exact Nat.le_succ _ | exact Nat.le_add_right _ _) | exact zgd_go (Nat.le_refl _) (Nat.le_refl _) | refine zgd_b ?_ ?_ | refine zgd_N fun _ => ?_ | refine zgd_V fun _ => ?_ | refine zgd_cell fun _ _ _ _ _ => ?_ | refine zgd_rem fun _ => ?_ | refine zgd_set fun _ => ?_ | refine zgd_put fun _ => ?_ | refine zgd_cmp fun _ => ?_ | refine zgd_cmpB fun _ => ?_ | refine zgd_lcB fun _ => ?_ | refine zgd_ar fun _ => ?_ | refine zgd_obj fun _ _ => ?_)
theorem zgd_4 : zgd rest full w (zoArith rest ls st w a) := by unfold zoArith; split <;> (repeat' first | exact zgd_X | exact zgd_in | exact zgd_inl (by first | exact Nat.le_refl _ | exact Nat.le_succ _ | exact Nat.le_add_right _ _) (by first | exact Nat.le_refl _ | exact Nat.le_succ _ | exact Nat.le_add_right _ _) | exact zgd_go (Nat.le_refl _) (Nat.le_refl _) | refine zgd_b ?_ ?_ | refine zgd_N fun _ => ?_ | refine zgd_V fun _ => ?_ | refine zgd_cell fun _ _ _ _ _ => ?_ | refine zgd_rem fun _ => ?_ | refine zgd_set fun _ => ?_ | refine zgd_put fun _ => ?_ | refine zgd_cmp fun _ => ?_ | refine zgd_cmpB fun _ => ?_ | refine zgd_lcB fun _ => ?_ | refine zgd_ar fun _ => ?_ | refine zgd_obj fun _ _ => ?_)
theorem zgd_5 : zgd rest full w (zoIf rest ls st w full a b) := by unfold zoIf; split <;> (repeat' first | exact zgd_X | exact zgd_in | exact zgd_inl (by first | exact Nat.le_refl _ | exact Nat.le_succ _ | exact Nat.le_add_right _ _) (by first | exact Nat.le_refl _ | exact Nat.le_succ _ | exact Nat.le_add_right _ _) | exact zgd_go (Nat.le_refl _) (Nat.le_refl _) | refine zgd_b ?_ ?_ | refine zgd_N fun _ => ?_ | refine zgd_V fun _ => ?_ | refine zgd_cell fun _ _ _ _ _ => ?_ | refine zgd_rem fun _ => ?_ | refine zgd_set fun _ => ?_ | refine zgd_put fun _ => ?_ | refine zgd_cmp fun _ => ?_ | refine zgd_cmpB fun _ => ?_ | refine zgd_lcB fun _ => ?_ | refine zgd_ar fun _ => ?_ | refine zgd_obj fun _ _ => ?_)
theorem zgd_6 : zgd rest full w (zoIcmp rest ls st w full a b) := by unfold zoIcmp; split <;> (repeat' first | exact zgd_X | exact zgd_in | exact zgd_inl (by first | exact Nat.le_refl _ | exact Nat.le_succ _ | exact Nat.le_add_right _ _) (by first | exact Nat.le_refl _ | exact Nat.le_succ _ | exact Nat.le_add_right _ _) | exact zgd_go (Nat.le_refl _) (Nat.le_refl _) | refine zgd_b ?_ ?_ | refine zgd_N fun _ => ?_ | refine zgd_V fun _ => ?_ | refine zgd_cell fun _ _ _ _ _ => ?_ | refine zgd_rem fun _ => ?_ | refine zgd_set fun _ => ?_ | refine zgd_put fun _ => ?_ | refine zgd_cmp fun _ => ?_ | refine zgd_cmpB fun _ => ?_ | refine zgd_lcB fun _ => ?_ | refine zgd_ar fun _ => ?_ | refine zgd_obj fun _ _ => ?_)
theorem zgd_7 : zgd rest full w (zgo full a ls st w) := zgd_go (Nat.le_refl _) (Nat.le_refl _)
theorem zgd_8 : zgd rest full w (zoGetf rest ls st w a b) := by unfold zoGetf; split <;> (repeat' first | exact zgd_X | exact zgd_in | exact zgd_inl (by first | exact Nat.le_refl _ | exact Nat.le_succ _ | exact Nat.le_add_right _ _) (by first | exact Nat.le_refl _ | exact Nat.le_succ _ | exact Nat.le_add_right _ _) | exact zgd_go (Nat.le_refl _) (Nat.le_refl _) | refine zgd_b ?_ ?_ | refine zgd_N fun _ => ?_ | refine zgd_V fun _ => ?_ | refine zgd_cell fun _ _ _ _ _ => ?_ | refine zgd_rem fun _ => ?_ | refine zgd_set fun _ => ?_ | refine zgd_put fun _ => ?_ | refine zgd_cmp fun _ => ?_ | refine zgd_cmpB fun _ => ?_ | refine zgd_lcB fun _ => ?_ | refine zgd_ar fun _ => ?_ | refine zgd_obj fun _ _ => ?_)
theorem zgd_9 : zgd rest full w (zoPutf rest ls st w a b l) := by unfold zoPutf; split <;> (try split) <;> (repeat' first | exact zgd_X | exact zgd_in | exact zgd_inl (by first | exact Nat.le_refl _ | exact Nat.le_succ _ | exact Nat.le_add_right _ _) (by first | exact Nat.le_refl _ | exact Nat.le_succ _ | exact Nat.le_add_right _ _) | exact zgd_go (Nat.le_refl _) (Nat.le_refl _) | refine zgd_b ?_ ?_ | refine zgd_N fun _ => ?_ | refine zgd_V fun _ => ?_ | refine zgd_cell fun _ _ _ _ _ => ?_ | refine zgd_rem fun _ => ?_ | refine zgd_set fun _ => ?_ | refine zgd_put fun _ => ?_ | refine zgd_cmp fun _ => ?_ | refine zgd_cmpB fun _ => ?_ | refine zgd_lcB fun _ => ?_ | refine zgd_ar fun _ => ?_ | refine zgd_obj fun _ _ => ?_)
theorem zgd_10 : zgd rest full w (zoAload rest ls st w scr b) := by unfold zoAload; split <;> (repeat' first | exact zgd_X | exact zgd_in | exact zgd_inl (by first | exact Nat.le_refl _ | exact Nat.le_succ _ | exact Nat.le_add_right _ _) (by first | exact Nat.le_refl _ | exact Nat.le_succ _ | exact Nat.le_add_right _ _) | exact zgd_go (Nat.le_refl _) (Nat.le_refl _) | refine zgd_b ?_ ?_ | refine zgd_N fun _ => ?_ | refine zgd_V fun _ => ?_ | refine zgd_cell fun _ _ _ _ _ => ?_ | refine zgd_rem fun _ => ?_ | refine zgd_set fun _ => ?_ | refine zgd_put fun _ => ?_ | refine zgd_cmp fun _ => ?_ | refine zgd_cmpB fun _ => ?_ | refine zgd_lcB fun _ => ?_ | refine zgd_ar fun _ => ?_ | refine zgd_obj fun _ _ => ?_)
theorem zgd_st {w0 : zW} {u : zV} {k : zO} (h : zgd rest full w k) : zgd rest full w (zisState w0 u k) := zgd_cell fun _ _ _ _ _ => zgd_b h zgd_X
theorem zgd_11 : zgd rest full w (zoAstore rest ls st w b) := by
  unfold zoAstore
  split
  · refine zgd_b (zgd_cell fun p kd sz d as => zgd_b (zgd_b (zgd_b ?_ zgd_X) zgd_X) zgd_X) zgd_X
    have hk : ∀ (u : zV) (k : zO), zgd rest full w k → zgd rest full w ((fun k => zb (Nat.beq kd 105) (zisState w u k) k) k) := fun u k h => zgd_b (zgd_st (u := u) h) h
    exact hk _ _ (zgd_V fun _ => zgd_b zgd_in (zgd_set fun _ => zgd_put fun _ => zgd_inl (Nat.le_refl _) (Nat.le_refl _)))
  · exact zgd_X
theorem zgd_12 : zgd rest full w (zoLen rest ls st w scr) := by unfold zoLen; split <;> (repeat' first | exact zgd_X | exact zgd_in | exact zgd_inl (by first | exact Nat.le_refl _ | exact Nat.le_succ _ | exact Nat.le_add_right _ _) (by first | exact Nat.le_refl _ | exact Nat.le_succ _ | exact Nat.le_add_right _ _) | exact zgd_go (Nat.le_refl _) (Nat.le_refl _) | refine zgd_b ?_ ?_ | refine zgd_N fun _ => ?_ | refine zgd_V fun _ => ?_ | refine zgd_cell fun _ _ _ _ _ => ?_ | refine zgd_rem fun _ => ?_ | refine zgd_set fun _ => ?_ | refine zgd_put fun _ => ?_ | refine zgd_cmp fun _ => ?_ | refine zgd_cmpB fun _ => ?_ | refine zgd_lcB fun _ => ?_ | refine zgd_ar fun _ => ?_ | refine zgd_obj fun _ _ => ?_)
theorem zgd_13 : zgd rest full w (zoNew rest ls st w objs a) := by
  unfold zoNew
  refine zgd_obj fun N fs => ?_
  rw [zfN_eq, zfN_eq, zfN_eq]
  exact zgd_inl (Nat.le_succ _) (Nat.le_add_right _ _)
theorem zgd_14 : zgd rest full w (zoNewarr rest ls st w a) := by
  unfold zoNewarr
  split
  · refine zgd_b (zgd_b ?_ zgd_X) zgd_X
    rw [zfV_eq, zfN_eq, zfN_eq, zfN_eq]
    exact zgd_inl (Nat.le_succ _) (Nat.le_add_right _ _)
  · exact zgd_X
theorem zgd_17 : zgd rest full w (zoDup rest ls st w) := by unfold zoDup; split <;> (repeat' first | exact zgd_X | exact zgd_in | exact zgd_inl (by first | exact Nat.le_refl _ | exact Nat.le_succ _ | exact Nat.le_add_right _ _) (by first | exact Nat.le_refl _ | exact Nat.le_succ _ | exact Nat.le_add_right _ _) | exact zgd_go (Nat.le_refl _) (Nat.le_refl _) | refine zgd_b ?_ ?_ | refine zgd_N fun _ => ?_ | refine zgd_V fun _ => ?_ | refine zgd_cell fun _ _ _ _ _ => ?_ | refine zgd_rem fun _ => ?_ | refine zgd_set fun _ => ?_ | refine zgd_put fun _ => ?_ | refine zgd_cmp fun _ => ?_ | refine zgd_cmpB fun _ => ?_ | refine zgd_lcB fun _ => ?_ | refine zgd_ar fun _ => ?_ | refine zgd_obj fun _ _ => ?_)
theorem zgd_18 : zgd rest full w (zoPop rest ls st w) := by unfold zoPop; split <;> (repeat' first | exact zgd_X | exact zgd_in | exact zgd_inl (by first | exact Nat.le_refl _ | exact Nat.le_succ _ | exact Nat.le_add_right _ _) (by first | exact Nat.le_refl _ | exact Nat.le_succ _ | exact Nat.le_add_right _ _) | exact zgd_go (Nat.le_refl _) (Nat.le_refl _) | refine zgd_b ?_ ?_ | refine zgd_N fun _ => ?_ | refine zgd_V fun _ => ?_ | refine zgd_cell fun _ _ _ _ _ => ?_ | refine zgd_rem fun _ => ?_ | refine zgd_set fun _ => ?_ | refine zgd_put fun _ => ?_ | refine zgd_cmp fun _ => ?_ | refine zgd_cmpB fun _ => ?_ | refine zgd_lcB fun _ => ?_ | refine zgd_ar fun _ => ?_ | refine zgd_obj fun _ _ => ?_)
theorem zgd_19 : zgd rest full w (zoDup2 rest ls st w) := by unfold zoDup2; split <;> (repeat' first | exact zgd_X | exact zgd_in | exact zgd_inl (by first | exact Nat.le_refl _ | exact Nat.le_succ _ | exact Nat.le_add_right _ _) (by first | exact Nat.le_refl _ | exact Nat.le_succ _ | exact Nat.le_add_right _ _) | exact zgd_go (Nat.le_refl _) (Nat.le_refl _) | refine zgd_b ?_ ?_ | refine zgd_N fun _ => ?_ | refine zgd_V fun _ => ?_ | refine zgd_cell fun _ _ _ _ _ => ?_ | refine zgd_rem fun _ => ?_ | refine zgd_set fun _ => ?_ | refine zgd_put fun _ => ?_ | refine zgd_cmp fun _ => ?_ | refine zgd_cmpB fun _ => ?_ | refine zgd_lcB fun _ => ?_ | refine zgd_ar fun _ => ?_ | refine zgd_obj fun _ _ => ?_)
theorem zgd_20 : zgd rest full w (zoConv rest ls st w a) := by
  cases st with
  | nil => exact zgd_X
  | cons v st => exact zgd_b (zgd_b (zgd_b zgd_in (zgd_b (zgd_N fun _ => zgd_in) zgd_X)) (zgd_b zgd_in zgd_X)) (zgd_b (zgd_b (zgd_N fun _ => zgd_in) zgd_X) (zgd_b (zgd_b zgd_in zgd_X) (zgd_b (zgd_b zgd_in zgd_X) zgd_X)))
theorem zgd_21 : zgd rest full w (zoLcmp rest ls st w) := by unfold zoLcmp; split <;> (repeat' first | exact zgd_X | exact zgd_in | exact zgd_inl (by first | exact Nat.le_refl _ | exact Nat.le_succ _ | exact Nat.le_add_right _ _) (by first | exact Nat.le_refl _ | exact Nat.le_succ _ | exact Nat.le_add_right _ _) | exact zgd_go (Nat.le_refl _) (Nat.le_refl _) | refine zgd_b ?_ ?_ | refine zgd_N fun _ => ?_ | refine zgd_V fun _ => ?_ | refine zgd_cell fun _ _ _ _ _ => ?_ | refine zgd_rem fun _ => ?_ | refine zgd_set fun _ => ?_ | refine zgd_put fun _ => ?_ | refine zgd_cmp fun _ => ?_ | refine zgd_cmpB fun _ => ?_ | refine zgd_lcB fun _ => ?_ | refine zgd_ar fun _ => ?_ | refine zgd_obj fun _ _ => ?_)
theorem zgd_22 : zgd rest full w (zoFcmp rest ls st w b) := by unfold zoFcmp; split <;> (repeat' first | exact zgd_X | exact zgd_in | exact zgd_inl (by first | exact Nat.le_refl _ | exact Nat.le_succ _ | exact Nat.le_add_right _ _) (by first | exact Nat.le_refl _ | exact Nat.le_succ _ | exact Nat.le_add_right _ _) | exact zgd_go (Nat.le_refl _) (Nat.le_refl _) | refine zgd_b ?_ ?_ | refine zgd_N fun _ => ?_ | refine zgd_V fun _ => ?_ | refine zgd_cell fun _ _ _ _ _ => ?_ | refine zgd_rem fun _ => ?_ | refine zgd_set fun _ => ?_ | refine zgd_put fun _ => ?_ | refine zgd_cmp fun _ => ?_ | refine zgd_cmpB fun _ => ?_ | refine zgd_lcB fun _ => ?_ | refine zgd_ar fun _ => ?_ | refine zgd_obj fun _ _ => ?_)
theorem zgd_23 : zgd rest full w (zoNull rest ls st w full a) := by unfold zoNull; split <;> (repeat' first | exact zgd_X | exact zgd_in | exact zgd_inl (by first | exact Nat.le_refl _ | exact Nat.le_succ _ | exact Nat.le_add_right _ _) (by first | exact Nat.le_refl _ | exact Nat.le_succ _ | exact Nat.le_add_right _ _) | exact zgd_go (Nat.le_refl _) (Nat.le_refl _) | refine zgd_b ?_ ?_ | refine zgd_N fun _ => ?_ | refine zgd_V fun _ => ?_ | refine zgd_cell fun _ _ _ _ _ => ?_ | refine zgd_rem fun _ => ?_ | refine zgd_set fun _ => ?_ | refine zgd_put fun _ => ?_ | refine zgd_cmp fun _ => ?_ | refine zgd_cmpB fun _ => ?_ | refine zgd_lcB fun _ => ?_ | refine zgd_ar fun _ => ?_ | refine zgd_obj fun _ _ => ?_)
theorem zgd_24 : zgd rest full w (zoSwitch ls st w full a b l) := by unfold zoSwitch; split <;> (repeat' first | exact zgd_X | exact zgd_in | exact zgd_inl (by first | exact Nat.le_refl _ | exact Nat.le_succ _ | exact Nat.le_add_right _ _) (by first | exact Nat.le_refl _ | exact Nat.le_succ _ | exact Nat.le_add_right _ _) | exact zgd_go (Nat.le_refl _) (Nat.le_refl _) | refine zgd_b ?_ ?_ | refine zgd_N fun _ => ?_ | refine zgd_V fun _ => ?_ | refine zgd_cell fun _ _ _ _ _ => ?_ | refine zgd_rem fun _ => ?_ | refine zgd_set fun _ => ?_ | refine zgd_put fun _ => ?_ | refine zgd_cmp fun _ => ?_ | refine zgd_cmpB fun _ => ?_ | refine zgd_lcB fun _ => ?_ | refine zgd_ar fun _ => ?_ | refine zgd_obj fun _ _ => ?_)
theorem zgd_26 : zgd rest full w (zoInit rest ls st w) := by unfold zoInit; split <;> (repeat' first | exact zgd_X | exact zgd_in | exact zgd_inl (by first | exact Nat.le_refl _ | exact Nat.le_succ _ | exact Nat.le_add_right _ _) (by first | exact Nat.le_refl _ | exact Nat.le_succ _ | exact Nat.le_add_right _ _) | exact zgd_go (Nat.le_refl _) (Nat.le_refl _) | refine zgd_b ?_ ?_ | refine zgd_N fun _ => ?_ | refine zgd_V fun _ => ?_ | refine zgd_cell fun _ _ _ _ _ => ?_ | refine zgd_rem fun _ => ?_ | refine zgd_set fun _ => ?_ | refine zgd_put fun _ => ?_ | refine zgd_cmp fun _ => ?_ | refine zgd_cmpB fun _ => ?_ | refine zgd_lcB fun _ => ?_ | refine zgd_ar fun _ => ?_ | refine zgd_obj fun _ _ => ?_)
theorem zgd_27 : zgd rest full w (zoMath rest ls st w a) := by unfold zoMath; split <;> (repeat' first | exact zgd_X | exact zgd_in | exact zgd_inl (by first | exact Nat.le_refl _ | exact Nat.le_succ _ | exact Nat.le_add_right _ _) (by first | exact Nat.le_refl _ | exact Nat.le_succ _ | exact Nat.le_add_right _ _) | exact zgd_go (Nat.le_refl _) (Nat.le_refl _) | refine zgd_b ?_ ?_ | refine zgd_N fun _ => ?_ | refine zgd_V fun _ => ?_ | refine zgd_cell fun _ _ _ _ _ => ?_ | refine zgd_rem fun _ => ?_ | refine zgd_set fun _ => ?_ | refine zgd_put fun _ => ?_ | refine zgd_cmp fun _ => ?_ | refine zgd_cmpB fun _ => ?_ | refine zgd_lcB fun _ => ?_ | refine zgd_ar fun _ => ?_ | refine zgd_obj fun _ _ => ?_)
theorem zgd_28 : zgd rest full w (zoCopy rest ls st w) := by unfold zoCopy; split <;> (repeat' first | exact zgd_X | exact zgd_in | exact zgd_inl (by first | exact Nat.le_refl _ | exact Nat.le_succ _ | exact Nat.le_add_right _ _) (by first | exact Nat.le_refl _ | exact Nat.le_succ _ | exact Nat.le_add_right _ _) | exact zgd_go (Nat.le_refl _) (Nat.le_refl _) | refine zgd_b ?_ ?_ | refine zgd_N fun _ => ?_ | refine zgd_V fun _ => ?_ | refine zgd_cell fun _ _ _ _ _ => ?_ | refine zgd_rem fun _ => ?_ | refine zgd_set fun _ => ?_ | refine zgd_put fun _ => ?_ | refine zgd_cmp fun _ => ?_ | refine zgd_cmpB fun _ => ?_ | refine zgd_lcB fun _ => ?_ | refine zgd_ar fun _ => ?_ | refine zgd_obj fun _ _ => ?_)
/-- after a call: likewise, or an end with counts that didn't fall -/
def zgd2 (rest full : List zE) (w : zW) (o : zO) : Prop := match o with
  | .inl S => (S.1 = rest ∨ ∃ t, S.1 = zfindS full t) ∧ w.2.2.1 ≤ S.2.2.2.2.2.1 ∧ w.2.2.2 ≤ S.2.2.2.2.2.2
  | .inr r => w.2.2.1 ≤ r.2.2.2.2.1 ∧ w.2.2.2 ≤ r.2.2.2.2.2
theorem zgd_2of {o : zO} (h : zgd rest full w o) (hl : zlive o) : zgd2 rest full w o := by
  cases o with
  | inl S => exact h
  | inr r => exact absurd h hl
theorem zgd2_b {c : Bool} {t e : zO} (h1 : zlive t → zgd2 rest full w t) (h2 : zlive e → zgd2 rest full w e) (h : zlive (zb c t e)) : zgd2 rest full w (zb c t e) := by
  cases c
  · exact h2 h
  · exact h1 h
theorem zgd2_go {t : Nat} {st : List zV} {w1 : zW} (h1 : w.2.2.1 ≤ w1.2.2.1) (h2 : w.2.2.2 ≤ w1.2.2.2) : zlive (zgo full t ls st w1) → zgd2 rest full w (zgo full t ls st w1) := fun h => zgd_2of (zgd_go h1 h2) h
theorem zgd2_X : zlive zX → zgd2 rest full w zX := fun h => (zX_live h).elim
theorem zgd_hand {hs : List Nat} {v : zV} {w2 : zW} (h1 : w.2.2.1 ≤ w2.2.2.1) (h2 : w.2.2.2 ≤ w2.2.2.2) : zlive (zhand ls full hs v w2) → zgd2 rest full w (zhand ls full hs v w2) := by
  rcases hs with _ | ⟨e1, _ | ⟨t1, _ | ⟨e2, _ | ⟨t2, hs⟩⟩⟩⟩
  · exact fun _ => ⟨h1, h2⟩
  · exact fun _ => ⟨h1, h2⟩
  · exact fun h => zgd2_b (zgd2_go h1 h2) zgd2_X h
  · exact fun h => zgd2_b (zgd2_go h1 h2) zgd2_X h
  · exact fun h => zgd2_b (zgd2_go h1 h2) (fun h => zgd2_b (zgd2_go h1 h2) zgd2_X h) h
theorem zgd_15 {rec : Nat → List zV → zW → zR} (h9 : zlive (zoInvoke rest ls st w rec full a b l)) : zgd2 rest full w (zoInvoke rest ls st w rec full a b l) := by
  rcases l with _ | ⟨kd, _ | ⟨rc, hs⟩⟩
  · exact (zX_live h9).elim
  · exact (zX_live h9).elim
  · obtain ⟨xs, st1, rfl, -, -, -, heq⟩ := zinv_spec h9
    rw [heq] at h9
    rw [heq]
    generalize rec a xs.reverse (w.1, w.2.1, 0, 0) = r at h9
    exact zgd2_b (fun _ => ⟨Or.inl rfl, Nat.le_add_right _ _, Nat.le_add_right _ _⟩) (fun h => zgd2_b (fun _ => ⟨Or.inl rfl, Nat.le_add_right _ _, Nat.le_add_right _ _⟩) (fun h => zgd2_b (zgd_hand (Nat.le_add_right _ _) (Nat.le_add_right _ _)) zgd2_X h) h) h9
end ZGO
