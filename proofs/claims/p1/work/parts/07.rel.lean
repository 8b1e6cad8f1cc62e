/-! ===== what the forced rows are ===== -/
theorem zb_tt {α : Type} {t e : α} : zb true t e = t := rfl
theorem zb_ff {α : Type} {t e : α} : zb false t e = e := rfl
theorem zX_inl {S : zS} (h : zX = Sum.inl S) : False := by unfold zX at h; cases h
theorem zb_inl {c : Bool} {o : zO} {S : zS} (h : zb c o zX = Sum.inl S) : c = true ∧ o = Sum.inl S := by
  cases c
  · exact (zX_inl h).elim
  · exact ⟨rfl, h⟩
theorem zfN_eq {α : Type} (n : Nat) (k : Nat → α) : zfN n k = k n := by cases n <;> rfl
theorem zfV_eq {α : Type} (v : zV) (k : zV → α) : zfV v k = k v := rfl
theorem zfC_eq {α : Type} (c : zC) (k : Nat → Nat → zV → zA → α) : zfC c k = k c.1 c.2.1 c.2.2.1 c.2.2.2 := rfl
theorem zfW_eq {α : Type} (w : zW) (k : Nat → List zC → Nat → Nat → α) : zfW w k = k w.1 w.2.1 w.2.2.1 w.2.2.2 := rfl
theorem zfR_eq {α : Type} (r : zR) (k : Nat → zV → Nat → List zC → Nat → Nat → α) : zfR r k = k r.1 r.2.1 r.2.2.1 r.2.2.2.1 r.2.2.2.2.1 r.2.2.2.2.2 := rfl
theorem zbeq {a b : Nat} (h : Nat.beq a b = true) : a = b := Nat.eq_of_beq_eq_true h
theorem zble {a b : Nat} (h : Nat.ble a b = true) : a ≤ b := Nat.le_of_ble_eq_true h
theorem zget_cons (h : Nat × zV) (t : zA) (k : Nat) (d : zV) : zget (h :: t) k d = zb (Nat.beq h.1 k) h.2 (zget t k d) := rfl
noncomputable def zset (l : zA) (k : Nat) (v : zV) : zA := zsetK l k v id
theorem zsetK_cons {α : Type} (h : Nat × zV) (t : zA) (k : Nat) (v : zV) (c : zA → α) : zsetK (h :: t) k v c = zb (Nat.beq h.1 k) (c ((k, v) :: t)) (zsetK t k v (fun r => c (h :: r))) := rfl
theorem zsetK_eq {α : Type} (k : Nat) (v : zV) : ∀ (l : zA) (c : zA → α), zsetK l k v c = c (zset l k v)
  | [], _ => rfl
  | h :: t, c => by
    unfold zset
    rw [zsetK_cons, zsetK_cons]
    cases Nat.beq h.1 k
    · rw [zb_ff, zb_ff, zsetK_eq k v t, zsetK_eq k v t]
      rfl
    · rfl
theorem zget_set (k j : Nat) (v d : zV) : ∀ l : zA, zget (zset l k v) j d = if j = k then v else zget l j d
  | [] => by
    show zb (Nat.beq k j) v d = _
    by_cases h : j = k
    · subst h; rw [if_pos rfl, Nat.beq_refl]; rfl
    · rw [if_neg h]
      have : Nat.beq k j = false := by
        cases q : Nat.beq k j
        · rfl
        · exact absurd (zbeq q).symm h
      rw [this]; rfl
  | h :: t => by
    have ih := zget_set k j v d t
    have e : zset (h :: t) k v = zb (Nat.beq h.1 k) ((k, v) :: t) (h :: zset t k v) := by
      unfold zset
      rw [zsetK_cons]
      cases Nat.beq h.1 k
      · rw [zb_ff, zb_ff, zsetK_eq]; rfl
      · rfl
    rw [e]
    cases q : Nat.beq h.1 k
    · rw [zb_ff, zget_cons, zget_cons, ih]
      by_cases hj : j = k
      · subst hj
        rw [if_pos rfl, if_pos rfl, q]; rfl
      · rw [if_neg hj, if_neg hj]
    · have hk := zbeq q
      rw [zb_tt, zget_cons, zget_cons]
      by_cases hj : j = k
      · subst hj
        rw [if_pos rfl, Nat.beq_refl]; rfl
      · rw [if_neg hj]
        have h1 : Nat.beq k j = false := by
          cases q : Nat.beq k j
          · rfl
          · exact absurd (zbeq q).symm hj
        rw [hk, h1]; rfl
noncomputable def zrem (l : zA) (i : Nat) (c2 : Bool) : zA := l.filter (fun h => !(zgone i c2 h))
theorem zremK_eq {α : Type} (i : Nat) (c2 : Bool) : ∀ (l : zA) (c : zA → α), zremK l i c2 c = c (zrem l i c2)
  | [], _ => rfl
  | h :: t, c => by
    have e : zremK (h :: t) i c2 c = zb (zgone i c2 h) (zremK t i c2 c) (zremK t i c2 (fun r => c (h :: r))) := rfl
    rw [e, zremK_eq i c2 t, zremK_eq i c2 t]
    unfold zrem
    rw [List.filter_cons]
    cases zgone i c2 h <;> rfl
theorem znth_eq : ∀ (l : List zC) (p : Nat), znth l p = (l[p]?).getD (999, 0, (99, 0, 0), [])
  | [], _ => rfl
  | _ :: _, 0 => rfl
  | _ :: t, p + 1 => znth_eq t p
theorem zputK_eq {α : Type} (x : zC) : ∀ (l : List zC) (p : Nat) (c : List zC → α), zputK l p x c = c (l.set p x)
  | [], _, _ => rfl
  | _ :: _, 0, _ => rfl
  | h :: t, p + 1, c => zputK_eq x t p (fun r => c (h :: r))
theorem zscr_eq : ∀ (l : List zV) (p : Nat), zscr l p = (l[p]?).getD (99, 0, 0)
  | [], _ => rfl
  | _ :: _, 0 => rfl
  | _ :: t, p + 1 => zscr_eq t p
theorem ztgt_eq (d : Nat) : ∀ (l : List Nat) (p : Nat), ztgt l p d = (l[p]?).getD d
  | [], _ => rfl
  | _ :: _, 0 => rfl
  | _ :: t, p + 1 => ztgt_eq d t p
theorem zselK_eq (k : Nat × List zE → zR) : ∀ (l : List (Nat × List zE)) (i : Nat), zselK l i k = ((l[i]?).map k).getD zR0
  | [], _ => rfl
  | _ :: _, 0 => rfl
  | _ :: t, p + 1 => zselK_eq k t p
theorem zobjK_eq (k : Nat → zA → zO) : ∀ (l : List (Nat × zA)) (i : Nat), zobjK l i k = ((l[i]?).map (fun h => k h.1 h.2)).getD zX
  | [], _ => rfl
  | _ :: _, 0 => rfl
  | _ :: t, p + 1 => zobjK_eq k t p
theorem zfindK_eq (t : Nat) (c : List zE → zO) : ∀ l : List zE, zfindK l t c = match zfindS l t with
    | [] => zX
    | h :: r => c (h :: r)
  | [] => rfl
  | h :: r => by
    have e1 : zfindK (h :: r) t c = zb (Nat.beq h.1 t) (c (h :: r)) (zfindK r t c) := rfl
    have e2 : zfindS (h :: r) t = zb (Nat.beq h.1 t) (h :: r) (zfindS r t) := rfl
    rw [e1, e2]
    cases Nat.beq h.1 t
    · rw [zb_ff, zb_ff]; exact zfindK_eq t c r
    · rfl
theorem zfindS_head {t : Nat} : ∀ {l : List zE} {h : zE} {r : List zE}, zfindS l t = h :: r → h.1 = t
  | [], _, _, e => by cases e
  | x :: l, h, r, e => by
    have e2 : zfindS (x :: l) t = zb (Nat.beq x.1 t) (x :: l) (zfindS l t) := rfl
    rw [e2] at e
    cases q : Nat.beq x.1 t
    · rw [q, zb_ff] at e; exact zfindS_head e
    · rw [q, zb_tt] at e; cases e; exact zbeq q
def zpc (l : List zE) : Nat := match l with
  | [] => 0
  | e :: _ => e.1
theorem zgo_inl {full : List zE} {t : Nat} {ls : zA} {st : List zV} {w : zW} {S : zS} (h : zgo full t ls st w = Sum.inl S) : S = (zfindS full t, ls, st, w) ∧ zpc (zfindS full t) = t := by
  unfold zgo at h
  rw [zfindK_eq] at h
  cases q : zfindS full t with
  | nil => rw [q] at h; exact (zX_inl h).elim
  | cons x r =>
    rw [q] at h
    exact ⟨(Sum.inl.inj h).symm, zfindS_head q⟩
/-! ===== numbers ===== -/
theorem zmod (n : Nat) : nI (n % 4294967296) = nI n := by
  apply Int32.toBitVec_inj.1
  show BitVec.ofNat 32 (n % 4294967296) = BitVec.ofNat 32 n
  apply BitVec.eq_of_toNat_eq
  rw [BitVec.toNat_ofNat, BitVec.toNat_ofNat]
  show n % 4294967296 % 4294967296 = n % 4294967296
  rw [Nat.mod_mod]
theorem zmodL (n : Nat) : lN (n % 18446744073709551616) = lN n := by
  apply Int64.toBitVec_inj.1
  show BitVec.ofNat 64 (n % 18446744073709551616) = BitVec.ofNat 64 n
  apply BitVec.eq_of_toNat_eq
  rw [BitVec.toNat_ofNat, BitVec.toNat_ofNat]
  show n % 18446744073709551616 % 18446744073709551616 = n % 18446744073709551616
  rw [Nat.mod_mod]
theorem zsub (x y : Nat) : nI (x + (4294967296 - y % 4294967296)) = nI x - nI y := by
  have h : nI (x + (4294967296 - y % 4294967296)) + nI y = nI x := by
    rw [nI_add, ← zmod (x + (4294967296 - y % 4294967296) + y), ← zmod x]
    congr 1
    have := Nat.mod_lt y (show 0 < 4294967296 by decide)
    have := Nat.mod_add_div y 4294967296
    omega
  rw [← h, Int32.add_sub_cancel]
theorem zand (a b : Nat) : nI a &&& nI b = nI (a &&& b) := by
  apply Int32.toBitVec_inj.1
  show BitVec.ofNat 32 a &&& BitVec.ofNat 32 b = BitVec.ofNat 32 (a &&& b)
  apply BitVec.eq_of_getLsbD_eq
  intro i hi
  simp [hi]
def zbias (x : Int32) : Nat := (x.toBitVec.toNat + 2147483648) % 4294967296
def zbias64 (x : Int64) : Nat := (x.toBitVec.toNat + 9223372036854775808) % 18446744073709551616
theorem zbias_lt (x : Int32) : zbias x ≤ 4294967295 := by
  have := Nat.mod_lt (x.toBitVec.toNat + 2147483648) (show 0 < 4294967296 by decide)
  unfold zbias; omega
theorem zbias_toInt (x : Int32) : x.toInt = (zbias x : Int) - 2147483648 := by
  have h := x.toBitVec.isLt
  show x.toBitVec.toInt = _
  rw [BitVec.toInt_eq_toNat_cond]
  unfold zbias
  split <;> omega
theorem zbias64_toInt (x : Int64) : x.toInt = (zbias64 x : Int) - 9223372036854775808 := by
  have h := x.toBitVec.isLt
  show x.toBitVec.toInt = _
  rw [BitVec.toInt_eq_toNat_cond]
  unfold zbias64
  split <;> omega
theorem zbias_nI (n : Nat) : zbias (nI n) = (n + 2147483648) % 4294967296 := by
  have e : (nI n).toBitVec.toNat = n % 4294967296 := by
    show (BitVec.ofNat 32 n).toNat = _
    rw [BitVec.toNat_ofNat]
  unfold zbias
  rw [e]; omega
theorem zbias64_lN (n : Nat) : zbias64 (lN n) = (n + 9223372036854775808) % 18446744073709551616 := by
  have e : (lN n).toBitVec.toNat = n % 18446744073709551616 := by
    show (BitVec.ofNat 64 n).toNat = _
    rw [BitVec.toNat_ofNat]
  unfold zbias64
  rw [e]; omega
theorem zbias64_wide (x : Int32) : zbias64 x.toInt64 = zbias x + 9223372034707292160 := by
  have h1 := zbias64_toInt x.toInt64
  have h2 := zbias_toInt x
  rw [Int32.toInt_toInt64] at h1
  omega
theorem zlt_iff {x y : Int32} : x < y ↔ zbias x < zbias y := by
  rw [Int32.lt_iff_toInt_lt, zbias_toInt, zbias_toInt]; omega
theorem zle_iff {x y : Int32} : x ≤ y ↔ zbias x ≤ zbias y := by
  rw [Int32.le_iff_toInt_le, zbias_toInt, zbias_toInt]; omega
theorem zeq_iff {x y : Int32} : x = y ↔ zbias x = zbias y := by
  rw [← Int32.toInt_inj, zbias_toInt, zbias_toInt]; omega
theorem zltL_iff {x y : Int64} : x < y ↔ zbias64 x < zbias64 y := by
  rw [Int64.lt_iff_toInt_lt, zbias64_toInt, zbias64_toInt]; omega
theorem zeqL_iff {x y : Int64} : x = y ↔ zbias64 x = zbias64 y := by
  rw [← Int64.toInt_inj, zbias64_toInt, zbias64_toInt]; omega
theorem zdivE {a d : Nat} (ha : a ≤ 2147483647) (h0 : 1 ≤ d) (hd : d ≤ 2147483647) : nI a / nI d = nI (a / d) := pk_div (by omega) h0 (by omega)
theorem zremE {a d : Nat} (ha : a ≤ 2147483647) (h0 : 1 ≤ d) (hd : d ≤ 2147483647) : nI a - nI a / nI d * nI d = nI (a % d) := pk_rem (by omega) h0 (by omega)
theorem znI0 {n : Nat} (h0 : 1 ≤ n) (h : n ≤ 2147483647) : ¬ nI n = 0 := nI_ne0 h0 (by omega)
/-! ===== what a number stands for ===== -/
def zRV (ad : List Nat) (b : Nat) (a : zV) (v : Value) : Prop := match a.1 with
  | 0 => v = .int (nI a.2.1)
  | 1 => ∃ x : Int32, v = .int x ∧ a.2.1 ≤ zbias x ∧ zbias x ≤ a.2.2
  | 2 => v = .long (lN a.2.1)
  | 3 => ∃ x : Int32, v = .long x.toInt64 ∧ a.2.1 ≤ zbias x ∧ zbias x ≤ a.2.2
  | 4 => ∃ q, ad[a.2.1]? = some q ∧ v = .ref q
  | 5 => v = .null
  | 6 => v = .float (UInt32.ofNat a.2.1)
  | 7 => v = .double (UInt64.ofNat a.2.1)
  | 8 => v = .ref b
  | 9 => ∃ q, v = .ref q
  | _ => False
theorem zRV_mono {ad ext : List Nat} {b : Nat} {a : zV} {v : Value} (h : zRV ad b a v) : zRV (ad ++ ext) b a v := by
  obtain ⟨t, x, y⟩ := a
  unfold zRV at h ⊢
  split at h <;> try exact h
  obtain ⟨q, h1, h2⟩ := h
  exact ⟨q, by rw [List.getElem?_append_left (List.getElem?_eq_some_iff.mp h1).1]; exact h1, h2⟩
theorem zis_int {a : zV} (h : zis 0 a = true) : a.1 = 0 ∨ a.1 = 1 := by
  have h1 : a.1 ≤ 1 := zble (show Nat.ble a.1 1 = true from h)
  omega
theorem zbeq_ne {a b : Nat} (h : ¬ a = b) : Nat.beq a b = false := by
  cases q : Nat.beq a b
  · rfl
  · exact absurd (zbeq q) h
theorem zlo_0 (x y : Nat) : zlo (0, x, y) = (x + 2147483648) % 4294967296 := by
  show zb true _ _ = _
  rw [zb_tt]
theorem zlo_1 (x y : Nat) : zlo (1, x, y) = x := by
  show zb false _ _ = _
  rw [zb_ff]
theorem zhi_0 (x y : Nat) : zhi (0, x, y) = (x + 2147483648) % 4294967296 := by
  show zb true _ _ = _
  rw [zb_tt]
theorem zhi_1 (x y : Nat) : zhi (1, x, y) = y := by
  show zb false _ _ = _
  rw [zb_ff]
theorem zlo64_2 (x y : Nat) : zlo64 (2, x, y) = (x + 9223372036854775808) % 18446744073709551616 := by
  show zb true _ _ = _
  rw [zb_tt]
theorem zlo64_3 (x y : Nat) : zlo64 (3, x, y) = x + 9223372034707292160 := by
  show zb false _ _ = _
  rw [zb_ff]
theorem zhi64_2 (x y : Nat) : zhi64 (2, x, y) = (x + 9223372036854775808) % 18446744073709551616 := by
  show zb true _ _ = _
  rw [zb_tt]
theorem zhi64_3 (x y : Nat) : zhi64 (3, x, y) = y + 9223372034707292160 := by
  show zb false _ _ = _
  rw [zb_ff]
theorem zRV_0 {ad : List Nat} {b x y : Nat} {v : Value} (hv : zRV ad b (0, x, y) v) : v = .int (nI x) := hv
theorem zRV_1 {ad : List Nat} {b x y : Nat} {v : Value} (hv : zRV ad b (1, x, y) v) : ∃ z : Int32, v = .int z ∧ x ≤ zbias z ∧ zbias z ≤ y := hv
theorem zRV_2 {ad : List Nat} {b x y : Nat} {v : Value} (hv : zRV ad b (2, x, y) v) : v = .long (lN x) := hv
theorem zRV_3 {ad : List Nat} {b x y : Nat} {v : Value} (hv : zRV ad b (3, x, y) v) : ∃ z : Int32, v = .long z.toInt64 ∧ x ≤ zbias z ∧ zbias z ≤ y := hv
theorem zRV_int {ad : List Nat} {b : Nat} {a : zV} {v : Value} (h : zis 0 a = true) (hv : zRV ad b a v) : ∃ x : Int32, v = .int x ∧ zlo a ≤ zbias x ∧ zbias x ≤ zhi a := by
  obtain ⟨t, x, y⟩ := a
  rcases zis_int h with e | e
  · have e : t = 0 := e
    subst e
    refine ⟨nI x, zRV_0 hv, ?_, ?_⟩
    · rw [zbias_nI, zlo_0]; exact Nat.le_refl _
    · rw [zbias_nI, zhi_0]; exact Nat.le_refl _
  · have e : t = 1 := e
    subst e
    rw [zlo_1, zhi_1]
    exact zRV_1 hv
theorem zRV_k {ad : List Nat} {b n y : Nat} {v : Value} (hv : zRV ad b (0, n, y) v) : v = .int (nI n) := hv
theorem zis_long {a : zV} (h : zis 1 a = true) : a.1 = 2 ∨ a.1 = 3 := by
  have h1 : zb (Nat.beq a.1 2) true (Nat.beq a.1 3) = true := h
  cases q : Nat.beq a.1 2
  · rw [q] at h1; exact Or.inr (zbeq h1)
  · exact Or.inl (zbeq q)
theorem zRV_long {ad : List Nat} {b : Nat} {a : zV} {v : Value} (h : zis 1 a = true) (hv : zRV ad b a v) : ∃ x : Int64, v = .long x ∧ zlo64 a ≤ zbias64 x ∧ zbias64 x ≤ zhi64 a := by
  obtain ⟨t, x, y⟩ := a
  rcases zis_long h with e | e
  · have e : t = 2 := e
    subst e
    refine ⟨lN x, zRV_2 hv, ?_, ?_⟩
    · rw [zbias64_lN, zlo64_2]; exact Nat.le_refl _
    · rw [zbias64_lN, zhi64_2]; exact Nat.le_refl _
  · have e : t = 3 := e
    subst e
    obtain ⟨z, h1, h2, h3⟩ := zRV_3 hv
    refine ⟨z.toInt64, h1, ?_, ?_⟩
    · rw [zbias64_wide, zlo64_3]; exact Nat.add_le_add_right h2 _
    · rw [zbias64_wide, zhi64_3]; exact Nat.add_le_add_right h3 _
theorem zis_float {a : zV} (h : zis 2 a = true) : a.1 = 6 := zbeq h
theorem zis_double {a : zV} (h : zis 3 a = true) : a.1 = 7 := zbeq h
theorem zRV_float {ad : List Nat} {b : Nat} {a : zV} {v : Value} (h : zis 2 a = true) (hv : zRV ad b a v) : ∃ x : UInt32, v = .float x := by
  obtain ⟨t, x, y⟩ := a
  cases (show t = 6 from zis_float h)
  exact ⟨_, hv⟩
theorem zRV_double {ad : List Nat} {b : Nat} {a : zV} {v : Value} (h : zis 3 a = true) (hv : zRV ad b a v) : ∃ x : UInt64, v = .double x := by
  obtain ⟨t, x, y⟩ := a
  cases (show t = 7 from zis_double h)
  exact ⟨_, hv⟩
theorem zis_ref {a : zV} (h : zis 4 a = true) : a.1 = 4 ∨ a.1 = 5 ∨ a.1 = 8 ∨ a.1 = 9 := by
  have h1 : zb (Nat.beq a.1 4) true (zb (Nat.beq a.1 5) true (zb (Nat.beq a.1 8) true (Nat.beq a.1 9))) = true := h
  cases q : Nat.beq a.1 4
  · cases q2 : Nat.beq a.1 5
    · cases q3 : Nat.beq a.1 8
      · rw [q, q2, q3] at h1; exact Or.inr (Or.inr (Or.inr (zbeq h1)))
      · exact Or.inr (Or.inr (Or.inl (zbeq q3)))
    · exact Or.inr (Or.inl (zbeq q2))
  · exact Or.inl (zbeq q)
theorem zRV_ref {ad : List Nat} {b : Nat} {a : zV} {v : Value} (h : zis 4 a = true) (hv : zRV ad b a v) : (∃ q, v = .ref q) ∨ v = .null := by
  obtain ⟨t, x, y⟩ := a
  rcases zis_ref h with e | e | e | e
  · cases (show t = 4 from e)
    obtain ⟨q, -, h⟩ := hv
    exact Or.inl ⟨q, h⟩
  · cases (show t = 5 from e)
    exact Or.inr hv
  · cases (show t = 8 from e)
    exact Or.inl ⟨b, hv⟩
  · cases (show t = 9 from e)
    exact Or.inl hv
theorem zRV_cat {ad : List Nat} {b : Nat} {a : zV} {v : Value} (hv : zRV ad b a v) : v.category = zb (zcat2 a) 2 1 := by
  obtain ⟨t, x, y⟩ := a
  unfold zRV at hv
  split at hv
  · rename_i e; cases (show t = 0 from e); rw [hv]; rfl
  · rename_i e; cases (show t = 1 from e); obtain ⟨z, h, -⟩ := hv; rw [h]; rfl
  · rename_i e; cases (show t = 2 from e); rw [hv]; rfl
  · rename_i e; cases (show t = 3 from e); obtain ⟨z, h, -⟩ := hv; rw [h]; rfl
  · rename_i e; cases (show t = 4 from e); obtain ⟨z, -, h⟩ := hv; rw [h]; rfl
  · rename_i e; cases (show t = 5 from e); rw [hv]; rfl
  · rename_i e; cases (show t = 6 from e); rw [hv]; rfl
  · rename_i e; cases (show t = 7 from e); rw [hv]; rfl
  · rename_i e; cases (show t = 8 from e); rw [hv]; rfl
  · rename_i e; cases (show t = 9 from e); obtain ⟨z, h⟩ := hv; rw [h]; rfl
  · exact hv.elim
/-- the locals -/
def zLR (ad : List Nat) (b : Nat) : zA → List (Nat × Value) → Prop
  | [], [] => True
  | h :: t, q :: r => h.1 = q.1 ∧ zRV ad b h.2 q.2 ∧ zLR ad b t r
  | _, _ => False
theorem zLR_mono {ad ext : List Nat} {b : Nat} : ∀ {l : zA} {lv : List (Nat × Value)}, zLR ad b l lv → zLR (ad ++ ext) b l lv
  | [], [], _ => trivial
  | _ :: _, _ :: _, h => ⟨h.1, zRV_mono h.2.1, zLR_mono h.2.2⟩
  | [], _ :: _, h => h.elim
  | _ :: _, [], h => h.elim
theorem zLR_get {ad : List Nat} {b i : Nat} {d : zV} : ∀ {l : zA} {lv : List (Nat × Value)}, zLR ad b l lv → zget l i d = d ∨ ∃ v, (i, v) ∈ lv ∧ zRV ad b (zget l i d) v
  | [], _, _ => Or.inl rfl
  | h :: t, [], e => e.elim
  | h :: t, q :: r, e => by
    rw [zget_cons]
    cases x : Nat.beq h.1 i
    · rcases zLR_get (d := d) (i := i) e.2.2 with g | ⟨v, g1, g2⟩
      · exact Or.inl g
      · exact Or.inr ⟨v, List.mem_cons_of_mem _ g1, g2⟩
    · refine Or.inr ⟨q.2, ?_, e.2.1⟩
      have e1 : q.1 = i := by rw [← e.1]; exact zbeq x
      rw [← e1]; exact List.mem_cons_self
theorem zLR_at {ad : List Nat} {b i t nL : Nat} {l : zA} {lv : List (Nat × Value)} {ls : Array Slot} (h : zLR ad b l lv) (hl : lv_has ls nL lv) (ht : zis t (zget l i (99, 0, 0)) = true) (hn : zis t (99, 0, 0) = false) : ∃ v, ls[i]? = some (.val v) ∧ zRV ad b (zget l i (99, 0, 0)) v := by
  rcases zLR_get (d := (99, 0, 0)) (i := i) h with g | ⟨v, g1, g2⟩
  · rw [g, hn] at ht; cases ht
  · exact ⟨v, hl.2.2 (i, v) g1, g2⟩
theorem zLR_filter {ad : List Nat} {b : Nat} (f : Nat × zV → Bool) (g : Nat × Value → Bool) (hfg : ∀ h q, h.1 = q.1 → zRV ad b h.2 q.2 → f h = g q) : ∀ {l : zA} {lv : List (Nat × Value)}, zLR ad b l lv → zLR ad b (l.filter f) (lv.filter g)
  | [], [], _ => trivial
  | [], _ :: _, h => h.elim
  | _ :: _, [], h => h.elim
  | h :: t, q :: r, e => by
    rw [List.filter_cons, List.filter_cons, hfg h q e.1 e.2.1]
    cases g q
    · exact zLR_filter f g hfg e.2.2
    · exact ⟨e.1, e.2.1, zLR_filter f g hfg e.2.2⟩
theorem zcat_eq {ad : List Nat} {b : Nat} {a : zV} {v : Value} (hv : zRV ad b a v) : (v.category == 2) = zcat2 a := by
  rw [zRV_cat hv]
  cases zcat2 a <;> rfl
theorem zbeq_b (a b : Nat) : Nat.beq a b = (a == b) := by
  by_cases h : a = b
  · subst h; rw [Nat.beq_refl]; simp
  · rw [zbeq_ne h]; simp [h]
theorem zLR_rem1 {ad : List Nat} {b i : Nat} {l : zA} {lv : List (Nat × Value)} (h : zLR ad b l lv) : zLR ad b (zrem l i false) (lv.filter (fun q => !(q.1 == i) && !(q.1 + 1 == i && q.2.category == 2))) := by
  refine zLR_filter _ _ (fun h q e1 e2 => ?_) h
  show (!(zb (Nat.beq h.1 i) true (zb (Nat.beq (Nat.succ h.1) i) (zcat2 h.2) false))) = _
  rw [zcat_eq e2, ← e1, ← zbeq_b, ← zbeq_b]
  cases Nat.beq h.1 i <;> cases Nat.beq (Nat.succ h.1) i <;> cases zcat2 h.2 <;> rfl
theorem zLR_rem2 {ad : List Nat} {b i : Nat} {l : zA} {lv : List (Nat × Value)} (h : zLR ad b l lv) : zLR ad b (zrem l i true) (lv.filter (fun q => !(q.1 == i) && (!(q.1 == i + 1) && !(q.1 + 1 == i && q.2.category == 2)))) := by
  refine zLR_filter _ _ (fun h q e1 e2 => ?_) h
  show (!(zb (Nat.beq h.1 i) true (zb (Nat.beq (Nat.succ h.1) i) (zcat2 h.2) (Nat.beq h.1 (Nat.succ i))))) = _
  rw [zcat_eq e2, ← e1, ← zbeq_b, ← zbeq_b, ← zbeq_b]
  by_cases q1 : h.1 + 1 = i
  · have e3 : Nat.beq h.1 (i + 1) = false := zbeq_ne (by omega)
    have e4 : Nat.beq h.1 i = false := zbeq_ne (by omega)
    have e5 : Nat.beq (Nat.succ h.1) i = true := by rw [← q1]; exact Nat.beq_refl _
    show (!(zb (Nat.beq h.1 i) true (zb (Nat.beq (Nat.succ h.1) i) (zcat2 h.2) (Nat.beq h.1 (i + 1))))) = _
    rw [e3, e4, show Nat.beq (h.1 + 1) i = Nat.beq (Nat.succ h.1) i from rfl, e5]
    cases zcat2 h.2 <;> rfl
  · have e5 : Nat.beq (Nat.succ h.1) i = false := zbeq_ne q1
    show (!(zb (Nat.beq h.1 i) true (zb (Nat.beq (Nat.succ h.1) i) (zcat2 h.2) (Nat.beq h.1 (i + 1))))) = _
    rw [show Nat.beq (h.1 + 1) i = Nat.beq (Nat.succ h.1) i from rfl, e5]
    cases Nat.beq h.1 i <;> cases Nat.beq h.1 (i + 1) <;> rfl
/-- the stack -/
def zVR (ad : List Nat) (b : Nat) : List zV → List Value → Prop
  | [], [] => True
  | h :: t, q :: r => zRV ad b h q ∧ zVR ad b t r
  | _, _ => False
theorem zVR_mono {ad ext : List Nat} {b : Nat} : ∀ {l : List zV} {lv : List Value}, zVR ad b l lv → zVR (ad ++ ext) b l lv
  | [], [], _ => trivial
  | _ :: _, _ :: _, h => ⟨zRV_mono h.1, zVR_mono h.2⟩
  | [], _ :: _, h => h.elim
  | _ :: _, [], h => h.elim
theorem zVR_cons {ad : List Nat} {b : Nat} {h : zV} {t : List zV} {vs : List Value} (e : zVR ad b (h :: t) vs) : ∃ v r, vs = v :: r ∧ zRV ad b h v ∧ zVR ad b t r := by
  cases vs with
  | nil => exact e.elim
  | cons v r => exact ⟨v, r, rfl, e.1, e.2⟩
theorem zVR_nil {ad : List Nat} {b : Nat} {vs : List Value} (e : zVR ad b [] vs) : vs = [] := by
  cases vs with
  | nil => rfl
  | cons v r => exact e.elim
theorem zcs_cons (h : zV) (t : List zV) : zcs (h :: t) = zcs t + zb (zcat2 h) 2 1 := rfl
theorem zVR_cs {ad : List Nat} {b : Nat} : ∀ {l : List zV} {vs : List Value}, zVR ad b l vs → (vs.map fun v => v.category).sum = zcs l
  | [], [], _ => rfl
  | h :: t, q :: r, e => by
    rw [List.map_cons, List.sum_cons, zVR_cs e.2, zRV_cat e.1, zcs_cons, Nat.add_comm]
  | [], _ :: _, h => h.elim
  | _ :: _, [], h => h.elim
theorem zRV_top {ad : List Nat} {b : Nat} (x : Int32) : zRV ad b (1, 0, 4294967295) (.int x) := ⟨x, rfl, Nat.zero_le _, zbias_lt x⟩
