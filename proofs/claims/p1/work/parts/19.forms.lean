/-! ===== which row belongs to which entry of a table ===== -/
noncomputable def zdk (cc : ByteArray) (pc : Nat) (ins : Instr) (n : Nat) : Bool := match decode cc pc with
  | .ok q => zb (decide (q.1 = ins)) (Nat.beq q.2 n) false
  | .error _ => false
theorem zdk_ok {cc : ByteArray} {pc : Nat} {ins : Instr} {n : Nat} (h : zdk cc pc ins n = true) : decode cc pc = .ok (ins, n) := by
  unfold zdk at h
  cases q : decode cc pc with
  | error _ => rw [q] at h; cases h
  | ok x =>
    rw [q] at h
    obtain ⟨h1, h2⟩ := zb_and h
    obtain ⟨i, k⟩ := x
    rw [show i = ins from of_decide_eq_true h1, show k = n from zbeq h2]
noncomputable def zgetB (own : String) (ci k ix p1 : Nat) : Bool := match vwCl[ci]? with
  | some q => zb (Nat.ble (k + 1) q.2.2) (zat p1 (.fieldLink own ix (q.2.1 k).1 (q.2.1 k).2.1 (q.2.1 k).2.2.1)) false
  | none => false
theorem zgetB_ok {own : String} {ci k ix p1 : Nat} (h : zgetB own ci k ix p1 = true) : ∃ C T N, vwCl[ci]? = some (C, T, N) ∧ k < N ∧ Cond.fieldLink own ix (T k).1 (T k).2.1 (T k).2.2.1 ∈ zGd := by
  unfold zgetB at h
  cases q : vwCl[ci]? with
  | none => rw [q] at h; cases h
  | some x =>
    rw [q] at h
    obtain ⟨C, T, N⟩ := x
    obtain ⟨h1, h2⟩ := zb_and h
    exact ⟨C, T, N, rfl, zble h1, zat_mem h2⟩
noncomputable def zftB (ft : Nat) (ty : FieldType) : Bool := match ty with
  | .int => Nat.beq ft 0
  | .long => Nat.beq ft 1
  | .boolean => Nat.beq ft 5
  | .object _ => Nat.beq ft 4
  | .array _ => Nat.beq ft 4
  | _ => false
theorem zftB_ok {ft : Nat} {ty : FieldType} (h : zftB ft ty = true) : zft ft ty := by
  unfold zftB at h
  split at h
  · exact Or.inl ⟨zbeq h, rfl⟩
  · exact Or.inr (Or.inl ⟨zbeq h, rfl⟩)
  · exact Or.inr (Or.inr (Or.inl ⟨zbeq h, rfl⟩))
  · exact Or.inr (Or.inr (Or.inr (Or.inl ⟨zbeq h, _, rfl⟩)))
  · exact Or.inr (Or.inr (Or.inr (Or.inr ⟨zbeq h, _, rfl⟩)))
  · cases h
noncomputable def zputB (own : String) (ini : Bool) (ci k ix p1 ft : Nat) : Bool := match vwCl[ci]? with
  | some q => zb (zgetB own ci k ix p1) (zb (zftB ft (zty ci k)) (zb (q.2.1 k).2.2.2 (zb ini (decide ((q.2.1 k).1 = own)) false) true) false) false
  | none => false
theorem zputB_ok {own : String} {ini : Bool} {ci k ix p1 ft : Nat} (h : zputB own ini ci k ix p1 ft = true) : ∃ C T N, vwCl[ci]? = some (C, T, N) ∧ k < N ∧ Cond.fieldLink own ix (T k).1 (T k).2.1 (T k).2.2.1 ∈ zGd ∧ zft ft (zty ci k) ∧ ((T k).2.2.2 = false ∨ ((T k).2.2.2 = true ∧ ini = true ∧ (T k).1 = own)) := by
  unfold zputB at h
  cases q : vwCl[ci]? with
  | none => rw [q] at h; cases h
  | some x =>
    rw [q] at h
    obtain ⟨h1, h2⟩ := zb_and h
    obtain ⟨h3, h4⟩ := zb_and h2
    obtain ⟨C, T, N, g1, g2, g3⟩ := zgetB_ok h1
    rw [q] at g1
    cases Option.some.inj g1
    refine ⟨C, T, N, rfl, g2, g3, zftB_ok h3, ?_⟩
    have h4 : zb (T k).2.2.2 (zb ini (decide ((T k).1 = own)) false) true = true := h4
    cases z : (T k).2.2.2
    · exact Or.inl rfl
    · rw [z, zb_tt] at h4
      obtain ⟨h5, h6⟩ := zb_and h4
      exact Or.inr ⟨rfl, h5, of_decide_eq_true h6⟩
noncomputable def znewB (own : String) (ci ix p1 : Nat) : Bool := match vwCl[ci]? with
  | some q => zat p1 (.classLink own ix q.1)
  | none => false
theorem znewB_ok {own : String} {ci ix p1 : Nat} (h : znewB own ci ix p1 = true) : ∃ C T N, vwCl[ci]? = some (C, T, N) ∧ Cond.classLink own ix C ∈ zGd := by
  unfold znewB at h
  cases q : vwCl[ci]? with
  | none => rw [q] at h; cases h
  | some x =>
    rw [q] at h
    obtain ⟨C, T, N⟩ := x
    exact ⟨C, T, N, rfl, zat_mem h⟩
noncomputable def ztswB (pc : Nat) (lst : List Nat) (offs : Array Int) : Bool := (List.range lst.length).all fun j => match lst[j]?, offs[j]? with
  | some t, some off => decide ((pc : Int) + off = (t : Int))
  | _, _ => false
theorem ztswB_ok {pc : Nat} {lst : List Nat} {offs : Array Int} (h : ztswB pc lst offs = true) : ∀ (j t : Nat), lst[j]? = some t → ∃ off, offs[j]? = some off ∧ (pc : Int) + off = (t : Int) := by
  intro j t hj
  have hl : j < lst.length := (List.getElem?_eq_some_iff.mp hj).1
  have h1 := List.all_eq_true.mp h j (List.mem_range.mpr hl)
  simp only [hj] at h1
  split at h1
  · rename_i t2 off h2 h3
    cases h2
    exact ⟨off, h3, of_decide_eq_true h1⟩
  · cases h1
noncomputable def zarefB (ret : Option FieldType) : Bool := match ret with
  | some (.object _) => true
  | some (.array _) => true
  | _ => false
theorem zarefB_ok {ret : Option FieldType} (h : zarefB ret = true) : ∃ rt, ret = some rt ∧ ((∃ n, rt = .object n) ∨ ∃ t, rt = .array t) := by
  unfold zarefB at h
  split at h
  · exact ⟨_, rfl, Or.inl ⟨_, rfl⟩⟩
  · exact ⟨_, rfl, Or.inr ⟨_, rfl⟩⟩
  · cases h
noncomputable def zthrB (own : String) (cc : ByteArray) (pc e ik is_ ic : Nat) (text : String) (w2 : Bool) (p1 p2 : Nat) : Bool :=
  zb (decide ((own, is_, text) ∈ zStrs)) (zb (zat p1 (.classLink own ik (zEx e))) (zb (zat p2 (.initialized (zEx e))) (zb (zatOk own ic e) (zb (Nat.ble (e + 1) 3) (zb (zdk cc pc (.new ik) 3) (zb (zdk cc (pc + 3) .dup 1)
    (zb w2 (zb (zdk cc (pc + 4) (.ldc_w is_) 3) (zb (zdk cc (pc + 7) (.invokespecial ic) 3) (zdk cc (pc + 10) .athrow 1) false) false) (zb (zdk cc (pc + 4) (.ldc is_) 2) (zb (zdk cc (pc + 6) (.invokespecial ic) 3) (zdk cc (pc + 9) .athrow 1) false) false)) false) false) false) false) false) false) false
theorem zthrB_ok {own : String} {cc : ByteArray} {pc e ik is_ ic : Nat} {text : String} {w2 : Bool} {p1 p2 : Nat} (h : zthrB own cc pc e ik is_ ic text w2 p1 p2 = true) : zThr own cc pc e := by
  obtain ⟨h1, h⟩ := zb_and h
  obtain ⟨h2, h⟩ := zb_and h
  obtain ⟨h3, h⟩ := zb_and h
  obtain ⟨h4, h⟩ := zb_and h
  obtain ⟨h5, h⟩ := zb_and h
  obtain ⟨h6, h⟩ := zb_and h
  obtain ⟨h7, h⟩ := zb_and h
  refine ⟨ik, is_, ic, text, of_decide_eq_true h1, zat_mem h2, zat_mem h3, h4, zble h5, zdk_ok h6, zdk_ok h7, ?_⟩
  cases w2
  · obtain ⟨g1, h⟩ := zb_and (show zb _ _ false = true from h)
    obtain ⟨g2, g3⟩ := zb_and h
    exact Or.inl ⟨zdk_ok g1, zdk_ok g2, zdk_ok g3⟩
  · obtain ⟨g1, h⟩ := zb_and (show zb _ _ false = true from h)
    obtain ⟨g2, g3⟩ := zb_and h
    exact Or.inr ⟨zdk_ok g1, zdk_ok g2, zdk_ok g3⟩
def zyOf (w : Cond) : MethodName := match w with
  | .code y _ _ _ => y
  | .codeWith y _ _ _ _ => y
  | _ => ⟨"", "", ""⟩
/-- where the words of the methods' codes lie -/
def zmp : List Nat := [1632, 1548, 1496, 1570, 1606, 1500, 252, 759, 723, 356, 647, 618, 577, 622, 581, 288, 459, 487, 483, 1108, 491, 455, 316, 512, 784, 544, 451, 524, 501, 549, 562, 163, 434, 892, 999, 980, 430, 918, 439, 898, 888, 258, 771, 727, 195, 731, 601, 741, 322, 505, 528, 201, 659, 651, 735, 463, 586, 155, 1258, 426, 1065, 1091, 1072, 775, 1098, 1236, 1202, 1209, 1251, 443, 573, 787, 1173, 638, 1058, 1023, 1144, 1083, 447, 614, 1220, 1029, 1026, 817, 1075, 780, 1115, 711, 746, 814, 1177, 719, 1194, 1265, 751, 1294, 1151, 1284, 1131, 1015, 790, 1229, 642, 755, 1158, 1316, 1676, 1615, 1941, 1809, 1485, 1881, 1751, 1771, 1508, 1755, 1921, 1889, 1973, 1566, 1784, 1561, 1929, 1909, 1913, 1937, 1833, 1849, 1853, 1537, 1877, 1523, 1725, 1541, 1720, 1519, 1744, 1762, 1933, 1893, 1619, 1578, 1582, 1586, 1610, 1740, 1717, 1557, 1813, 1767, 1869, 1917, 1529, 1775, 1759, 1825, 1792, 1709, 1713, 1493, 1489, 1545, 1533, 1514, 1729, 1905, 1945, 1957, 1969, 1817, 1965, 1504, 1805, 1574, 1705, 1925, 1590, 1481, 1961, 1857, 1821, 1254, 1061, 1087, 1068, 1094, 1232, 1198, 1205, 1247, 629, 1169, 1054, 1018, 1140, 1079, 1216, 1111, 809, 1190, 1261, 1289, 1147, 1280, 1127, 1011, 1225, 1154]
def zword (i : Nat) : Cond := (lw_tbl[zmp.getD i 0]?).getD (Cond.initialized "")
noncomputable def zrowB (own : String) (x : ExceptionTableEntry) (pc e1 t1 p1 : Nat) : Bool := zb (covers x pc) (zb (decide (x.catchType ≠ 0)) (zb (zat p1 (.classLink own x.catchType (zEx e1))) (zb (Nat.beq x.handlerPc t1) (Nat.ble (e1 + 1) 3) false) false) false) false
theorem zrowB_ok {own : String} {x : ExceptionTableEntry} {pc e1 t1 p1 : Nat} (h : zrowB own x pc e1 t1 p1 = true) : zRow own x pc e1 t1 := by
  obtain ⟨h1, h⟩ := zb_and h
  obtain ⟨h2, h⟩ := zb_and h
  obtain ⟨h3, h⟩ := zb_and h
  obtain ⟨h4, h5⟩ := zb_and h
  exact ⟨h1, of_decide_eq_true h2, zat_mem h3, zbeq h4, zble h5⟩
noncomputable def zhdB (own : String) (tb : List ExceptionTableEntry) (pc : Nat) (hs : List Nat) (p1 p2 : Nat) : Bool := match hs, tb with
  | [], [] => true
  | [e1, t1], x :: _ => zrowB own x pc e1 t1 p1
  | [e1, t1, e2, t2], x :: x2 :: _ => zb (zrowB own x pc e1 t1 p1) (zrowB own x2 pc e2 t2 p2) false
  | _, _ => false
theorem zhdB_ok {own : String} {tb : List ExceptionTableEntry} {pc : Nat} {hs : List Nat} {p1 p2 : Nat} (h : zhdB own tb pc hs p1 p2 = true) : zHd own tb pc hs := by
  unfold zhdB at h
  split at h
  · exact Or.inl ⟨rfl, rfl⟩
  · exact Or.inr (Or.inl ⟨_, _, _, _, rfl, rfl, zrowB_ok h⟩)
  · obtain ⟨h1, h2⟩ := zb_and h
    exact Or.inr (Or.inr ⟨_, _, _, _, _, _, _, rfl, rfl, zrowB_ok h1, zrowB_ok h2⟩)
  · cases h
noncomputable def zparB (y : MethodName) (k n : Nat) : Bool := match parseMethodDescriptor y.desc with
  | some d => Nat.beq (d.parameters.length + k) n
  | none => false
theorem zparB_ok {y : MethodName} {k n : Nat} (h : zparB y k n = true) : (parseMethodDescriptor y.desc).map (fun d => d.parameters.length + k) = some n := by
  unfold zparB at h
  cases q : parseMethodDescriptor y.desc with
  | none => rw [q] at h; cases h
  | some d => rw [q] at h; rw [Option.map_some, zbeq h]
noncomputable def zcodeB (own : String) (cc : ByteArray) (pc kd rc n ix pL pS pX : Nat) (y : MethodName) (ret : Option FieldType) : Bool :=
  zb (Nat.beq kd 0) (zb (zdk cc pc (.invokevirtual ix) 3) (zb (zat pL (.methodLink own ix y)) (zb (zat pS (.instanceMethod y)) (zb (zat pX (.selects y.cls y y)) (zb (zparB y 1 n) (match vwCl[rc]? with
    | some q => decide (q.1 = y.cls)
    | none => false) false) false) false) false) false)
  (zb (Nat.beq kd 1) (zb (zdk cc pc (.invokestatic ix) 3) (zb (zat pL (.methodLink own ix y)) (zb (zat pS (.static y)) (zparB y 0 n) false) false) false)
  (zb (Nat.beq kd 2) (zb (zdk cc pc (.invokespecial ix) 3) (zb (zat pL (.methodLink own ix y)) (zb (zat pS (.instanceMethod y)) (zb (zparB y 1 n) (zb (decide (ret = none)) (decide (y.name = "<init>")) false) false) false) false) false)
  (zb (Nat.beq kd 3) (zb (zdk cc pc (.invokespecial ix) 3) (zb (decide ((own, ix, y, "SpeechKeeper") ∈ zNests)) (zb (zat pS (.instanceMethod y)) (zb (zparB y 1 n) (zb (decide (ret = none)) (decide (y.name = "<init>")) false) false) false) false) false) false)))
noncomputable def zsiteB (own : String) (cc : ByteArray) (pc kd rc n ix p0 pI pL pS pX : Nat) (word : Cond) : Bool := match word with
  | .code y _ maxL ret => zb (zat p0 word) (zb (Nat.ble maxL 20) (zb (decide (y.cls ≠ "java/lang/invoke/MethodHandle" ∧ y.cls ≠ "java/lang/invoke/VarHandle")) (zb (zat pI (.initialized y.cls)) (zcodeB own cc pc kd rc n ix pL pS pX y ret) false) false) false) false
  | .codeWith y _ maxL _ _ => zb (zat p0 word) (zb (Nat.ble maxL 20) (zb (decide (y.cls ≠ "java/lang/invoke/MethodHandle" ∧ y.cls ≠ "java/lang/invoke/VarHandle")) (zb (zat pI (.initialized y.cls)) (zb (Nat.beq kd 4) (zb (zdk cc pc (.invokestatic ix) 3) (zb (zat pL (.methodLink own ix y)) (zb (zat pS (.static y)) (zparB y 0 n) false) false) false) false) false) false) false) false
  | _ => false
theorem zsiteB_ok {own : String} {cc : ByteArray} {pc kd rc n ix p0 pI pL pS pX : Nat} {word : Cond} (h : zsiteB own cc pc kd rc n ix p0 pI pL pS pX word = true) : zSite own cc pc kd rc n (zyOf word) word := by
  unfold zsiteB at h
  split at h
  · rename_i y bytes maxL ret
    obtain ⟨h1, h⟩ := zb_and h
    obtain ⟨h2, h⟩ := zb_and h
    obtain ⟨h3, h⟩ := zb_and h
    obtain ⟨h4, h⟩ := zb_and h
    refine ⟨ix, bytes, maxL, ret, zble h2, of_decide_eq_true h3, zat_mem h4, zat_mem h1, ?_⟩
    show _ ∨ _
    unfold zcodeB at h
    cases q0 : Nat.beq kd 0
    · rw [q0, zb_ff] at h
      cases q1 : Nat.beq kd 1
      · rw [q1, zb_ff] at h
        cases q2 : Nat.beq kd 2
        · rw [q2, zb_ff] at h
          obtain ⟨q3, h⟩ := zb_and h
          obtain ⟨g1, h⟩ := zb_and h
          obtain ⟨g2, h⟩ := zb_and h
          obtain ⟨g3, h⟩ := zb_and h
          obtain ⟨g4, h⟩ := zb_and h
          obtain ⟨g5, g6⟩ := zb_and h
          exact Or.inr (Or.inr (Or.inr (Or.inl ⟨zbeq q3, of_decide_eq_true g5, rfl, zdk_ok g1, ⟨_, of_decide_eq_true g2⟩, of_decide_eq_true g6, zat_mem g3, zparB_ok g4⟩)))
        · rw [q2, zb_tt] at h
          obtain ⟨g1, h⟩ := zb_and h
          obtain ⟨g2, h⟩ := zb_and h
          obtain ⟨g3, h⟩ := zb_and h
          obtain ⟨g4, h⟩ := zb_and h
          obtain ⟨g5, g6⟩ := zb_and h
          exact Or.inr (Or.inr (Or.inl ⟨zbeq q2, of_decide_eq_true g5, rfl, zdk_ok g1, zat_mem g2, of_decide_eq_true g6, zat_mem g3, zparB_ok g4⟩))
      · rw [q1, zb_tt] at h
        obtain ⟨g1, h⟩ := zb_and h
        obtain ⟨g2, h⟩ := zb_and h
        obtain ⟨g3, g4⟩ := zb_and h
        exact Or.inr (Or.inl ⟨zbeq q1, rfl, zdk_ok g1, zat_mem g2, zat_mem g3, zparB_ok g4⟩)
    · rw [q0, zb_tt] at h
      obtain ⟨g1, h⟩ := zb_and h
      obtain ⟨g2, h⟩ := zb_and h
      obtain ⟨g3, h⟩ := zb_and h
      obtain ⟨g4, h⟩ := zb_and h
      obtain ⟨g5, g6⟩ := zb_and h
      cases q : vwCl[rc]? with
      | none => rw [q] at g6; cases g6
      | some x =>
        rw [q] at g6
        obtain ⟨C, T, N⟩ := x
        exact Or.inl ⟨zbeq q0, rfl, zdk_ok g1, zat_mem g2, zat_mem g3, zat_mem g4, zparB_ok g5, _, rfl, of_decide_eq_true g6, (zcls q).1⟩
  · rename_i y bytes maxL ret hh
    obtain ⟨h1, h⟩ := zb_and h
    obtain ⟨h2, h⟩ := zb_and h
    obtain ⟨h3, h⟩ := zb_and h
    obtain ⟨h4, h⟩ := zb_and h
    obtain ⟨q4, h⟩ := zb_and h
    obtain ⟨g1, h⟩ := zb_and h
    obtain ⟨g2, h⟩ := zb_and h
    obtain ⟨g3, g4⟩ := zb_and h
    exact ⟨ix, bytes, maxL, ret, zble h2, of_decide_eq_true h3, zat_mem h4, zat_mem h1, Or.inr (Or.inr (Or.inr (Or.inr ⟨zbeq q4, hh, rfl, zdk_ok g1, zat_mem g2, zat_mem g3, zparB_ok g4⟩)))⟩
  · cases h
noncomputable def zinvB (own : String) (cc : ByteArray) (pc a n : Nat) (lst : List Nat) (tb : List ExceptionTableEntry) (ix : Nat) (ps : List Nat) : Bool := match lst, ps with
  | kd :: rc :: hs, [pI, pL, pS, pX, e1, e2] => zb (zsiteB own cc pc kd rc n ix (zmp.getD a 0) pI pL pS pX (zword a)) (zhdB own tb pc hs e1 e2) false
  | _, _ => false
theorem zinvB_ok {own : String} {cc : ByteArray} {pc a n : Nat} {lst : List Nat} {tb : List ExceptionTableEntry} {ix : Nat} {ps : List Nat} (h : zinvB own cc pc a n lst tb ix ps = true) : ∃ kd rc hs, lst = kd :: rc :: hs ∧ zSite own cc pc kd rc n (zyOf (zword a)) (zword a) ∧ zHd own tb pc hs := by
  unfold zinvB at h
  split at h
  · obtain ⟨h1, h2⟩ := zb_and h
    exact ⟨_, _, _, rfl, zsiteB_ok h1, zhdB_ok h2⟩
  · cases h
theorem zret_inl {st0 : List zV} {w : zW} {B : Nat} {S : zS} (h : zoRet st0 w B = Sum.inl S) : False := by
  unfold zoRet at h
  cases q : Nat.beq B 5
  · rw [q, zb_ff] at h
    split at h
    · obtain ⟨-, h⟩ := zb_inl h
      cases h
    · exact zX_inl h
  · rw [q, zb_tt] at h
    split at h
    · cases h
    · exact zX_inl h
theorem zthrow_inl {st0 : List zV} {w : zW} {Dp a : Nat} {S : zS} (h : zoThrow st0 w Dp a = Sum.inl S) : False := by
  unfold zoThrow at h
  obtain ⟨-, h⟩ := zb_inl h
  obtain ⟨-, h⟩ := zb_inl h
  rw [zfN_eq, zfN_eq] at h
  cases h
theorem zgd_no {rest full : List zE} {w : zW} {o : zO} {r : zR} (g : zgd rest full w o) (h : o = Sum.inr r) (h9 : r.1 ≠ 9) : False := by
  rw [h] at g
  exact h9 g
def zf4 (a : Nat) : Fin 4 := ⟨a % 4, Nat.mod_lt a (by decide)⟩
theorem zf4_eq {a : Nat} (h : a + 1 ≤ 4) : (zf4 a).val = a := Nat.mod_eq_of_lt h
theorem zb_or {c t e : Bool} (h : zb c t e = true) : (c = true ∧ t = true) ∨ e = true := by
  cases c
  · exact Or.inr h
  · exact Or.inl ⟨rfl, h⟩

/-- the row's number, its numbers, places, text -/
abbrev zF : Type := Nat × List Int × List Nat × String
noncomputable def zkf_0 (own : String) (cc : ByteArray) (nL : Nat) (ini : Bool) (tb : List ExceptionTableEntry) (ret : Option FieldType) (f : zF) (pc op a bb : Nat) (lst : List Nat) (nx : Nat) : Bool := zb (Nat.beq op 0) (zb (Nat.beq bb 0) (zb (zdk cc pc (.iload a) (2)) (Nat.beq nx (pc + 2)) false) false) false
noncomputable def zkf_1 (own : String) (cc : ByteArray) (nL : Nat) (ini : Bool) (tb : List ExceptionTableEntry) (ret : Option FieldType) (f : zF) (pc op a bb : Nat) (lst : List Nat) (nx : Nat) : Bool := zb (Nat.beq op 0) (zb (Nat.beq bb 0) (zb (Nat.ble (a + 1) 4) (zb (zdk cc pc (.iload_n (zf4 a)) (1)) (Nat.beq nx (pc + 1)) false) false) false) false
noncomputable def zkf_2 (own : String) (cc : ByteArray) (nL : Nat) (ini : Bool) (tb : List ExceptionTableEntry) (ret : Option FieldType) (f : zF) (pc op a bb : Nat) (lst : List Nat) (nx : Nat) : Bool := zb (Nat.beq op 0) (zb (Nat.beq bb 1) (zb (zdk cc pc (.lload a) (2)) (Nat.beq nx (pc + 2)) false) false) false
noncomputable def zkf_3 (own : String) (cc : ByteArray) (nL : Nat) (ini : Bool) (tb : List ExceptionTableEntry) (ret : Option FieldType) (f : zF) (pc op a bb : Nat) (lst : List Nat) (nx : Nat) : Bool := zb (Nat.beq op 0) (zb (Nat.beq bb 1) (zb (Nat.ble (a + 1) 4) (zb (zdk cc pc (.lload_n (zf4 a)) (1)) (Nat.beq nx (pc + 1)) false) false) false) false
noncomputable def zkf_4 (own : String) (cc : ByteArray) (nL : Nat) (ini : Bool) (tb : List ExceptionTableEntry) (ret : Option FieldType) (f : zF) (pc op a bb : Nat) (lst : List Nat) (nx : Nat) : Bool := zb (Nat.beq op 0) (zb (Nat.beq bb 2) (zb (zdk cc pc (.fload a) (2)) (Nat.beq nx (pc + 2)) false) false) false
noncomputable def zkf_5 (own : String) (cc : ByteArray) (nL : Nat) (ini : Bool) (tb : List ExceptionTableEntry) (ret : Option FieldType) (f : zF) (pc op a bb : Nat) (lst : List Nat) (nx : Nat) : Bool := zb (Nat.beq op 0) (zb (Nat.beq bb 2) (zb (Nat.ble (a + 1) 4) (zb (zdk cc pc (.fload_n (zf4 a)) (1)) (Nat.beq nx (pc + 1)) false) false) false) false
noncomputable def zkf_6 (own : String) (cc : ByteArray) (nL : Nat) (ini : Bool) (tb : List ExceptionTableEntry) (ret : Option FieldType) (f : zF) (pc op a bb : Nat) (lst : List Nat) (nx : Nat) : Bool := zb (Nat.beq op 0) (zb (Nat.beq bb 3) (zb (zdk cc pc (.dload a) (2)) (Nat.beq nx (pc + 2)) false) false) false
noncomputable def zkf_7 (own : String) (cc : ByteArray) (nL : Nat) (ini : Bool) (tb : List ExceptionTableEntry) (ret : Option FieldType) (f : zF) (pc op a bb : Nat) (lst : List Nat) (nx : Nat) : Bool := zb (Nat.beq op 0) (zb (Nat.beq bb 3) (zb (Nat.ble (a + 1) 4) (zb (zdk cc pc (.dload_n (zf4 a)) (1)) (Nat.beq nx (pc + 1)) false) false) false) false
noncomputable def zkf_8 (own : String) (cc : ByteArray) (nL : Nat) (ini : Bool) (tb : List ExceptionTableEntry) (ret : Option FieldType) (f : zF) (pc op a bb : Nat) (lst : List Nat) (nx : Nat) : Bool := zb (Nat.beq op 0) (zb (Nat.beq bb 4) (zb (zdk cc pc (.aload a) (2)) (Nat.beq nx (pc + 2)) false) false) false
noncomputable def zkf_9 (own : String) (cc : ByteArray) (nL : Nat) (ini : Bool) (tb : List ExceptionTableEntry) (ret : Option FieldType) (f : zF) (pc op a bb : Nat) (lst : List Nat) (nx : Nat) : Bool := zb (Nat.beq op 0) (zb (Nat.beq bb 4) (zb (Nat.ble (a + 1) 4) (zb (zdk cc pc (.aload_n (zf4 a)) (1)) (Nat.beq nx (pc + 1)) false) false) false) false
noncomputable def zkf_10 (own : String) (cc : ByteArray) (nL : Nat) (ini : Bool) (tb : List ExceptionTableEntry) (ret : Option FieldType) (f : zF) (pc op a bb : Nat) (lst : List Nat) (nx : Nat) : Bool := zb (Nat.beq op 2) (zb (Nat.beq bb 0) (zb (Nat.ble (a + 1) nL) (zb (zdk cc pc (.istore a) (2)) (Nat.beq nx (pc + 2)) false) false) false) false
noncomputable def zkf_11 (own : String) (cc : ByteArray) (nL : Nat) (ini : Bool) (tb : List ExceptionTableEntry) (ret : Option FieldType) (f : zF) (pc op a bb : Nat) (lst : List Nat) (nx : Nat) : Bool := zb (Nat.beq op 2) (zb (Nat.beq bb 0) (zb (Nat.ble (a + 1) 4) (zb (Nat.ble (a + 1) nL) (zb (zdk cc pc (.istore_n (zf4 a)) (1)) (Nat.beq nx (pc + 1)) false) false) false) false) false
noncomputable def zkf_12 (own : String) (cc : ByteArray) (nL : Nat) (ini : Bool) (tb : List ExceptionTableEntry) (ret : Option FieldType) (f : zF) (pc op a bb : Nat) (lst : List Nat) (nx : Nat) : Bool := zb (Nat.beq op 2) (zb (Nat.beq bb 1) (zb (Nat.ble (a + 2) nL) (zb (zdk cc pc (.lstore a) (2)) (Nat.beq nx (pc + 2)) false) false) false) false
noncomputable def zkf_13 (own : String) (cc : ByteArray) (nL : Nat) (ini : Bool) (tb : List ExceptionTableEntry) (ret : Option FieldType) (f : zF) (pc op a bb : Nat) (lst : List Nat) (nx : Nat) : Bool := zb (Nat.beq op 2) (zb (Nat.beq bb 1) (zb (Nat.ble (a + 1) 4) (zb (Nat.ble (a + 2) nL) (zb (zdk cc pc (.lstore_n (zf4 a)) (1)) (Nat.beq nx (pc + 1)) false) false) false) false) false
noncomputable def zkf_14 (own : String) (cc : ByteArray) (nL : Nat) (ini : Bool) (tb : List ExceptionTableEntry) (ret : Option FieldType) (f : zF) (pc op a bb : Nat) (lst : List Nat) (nx : Nat) : Bool := zb (Nat.beq op 2) (zb (Nat.beq bb 2) (zb (Nat.ble (a + 1) nL) (zb (zdk cc pc (.fstore a) (2)) (Nat.beq nx (pc + 2)) false) false) false) false
noncomputable def zkf_15 (own : String) (cc : ByteArray) (nL : Nat) (ini : Bool) (tb : List ExceptionTableEntry) (ret : Option FieldType) (f : zF) (pc op a bb : Nat) (lst : List Nat) (nx : Nat) : Bool := zb (Nat.beq op 2) (zb (Nat.beq bb 2) (zb (Nat.ble (a + 1) 4) (zb (Nat.ble (a + 1) nL) (zb (zdk cc pc (.fstore_n (zf4 a)) (1)) (Nat.beq nx (pc + 1)) false) false) false) false) false
noncomputable def zkf_16 (own : String) (cc : ByteArray) (nL : Nat) (ini : Bool) (tb : List ExceptionTableEntry) (ret : Option FieldType) (f : zF) (pc op a bb : Nat) (lst : List Nat) (nx : Nat) : Bool := zb (Nat.beq op 2) (zb (Nat.beq bb 3) (zb (Nat.ble (a + 2) nL) (zb (zdk cc pc (.dstore a) (2)) (Nat.beq nx (pc + 2)) false) false) false) false
noncomputable def zkf_17 (own : String) (cc : ByteArray) (nL : Nat) (ini : Bool) (tb : List ExceptionTableEntry) (ret : Option FieldType) (f : zF) (pc op a bb : Nat) (lst : List Nat) (nx : Nat) : Bool := zb (Nat.beq op 2) (zb (Nat.beq bb 3) (zb (Nat.ble (a + 1) 4) (zb (Nat.ble (a + 2) nL) (zb (zdk cc pc (.dstore_n (zf4 a)) (1)) (Nat.beq nx (pc + 1)) false) false) false) false) false
noncomputable def zkf_18 (own : String) (cc : ByteArray) (nL : Nat) (ini : Bool) (tb : List ExceptionTableEntry) (ret : Option FieldType) (f : zF) (pc op a bb : Nat) (lst : List Nat) (nx : Nat) : Bool := zb (Nat.beq op 2) (zb (Nat.beq bb 4) (zb (Nat.ble (a + 1) nL) (zb (zdk cc pc (.astore a) (2)) (Nat.beq nx (pc + 2)) false) false) false) false
noncomputable def zkf_19 (own : String) (cc : ByteArray) (nL : Nat) (ini : Bool) (tb : List ExceptionTableEntry) (ret : Option FieldType) (f : zF) (pc op a bb : Nat) (lst : List Nat) (nx : Nat) : Bool := zb (Nat.beq op 2) (zb (Nat.beq bb 4) (zb (Nat.ble (a + 1) 4) (zb (Nat.ble (a + 1) nL) (zb (zdk cc pc (.astore_n (zf4 a)) (1)) (Nat.beq nx (pc + 1)) false) false) false) false) false
noncomputable def zkf_20 (own : String) (cc : ByteArray) (nL : Nat) (ini : Bool) (tb : List ExceptionTableEntry) (ret : Option FieldType) (f : zF) (pc op a bb : Nat) (lst : List Nat) (nx : Nat) : Bool := zb (Nat.beq op 3) (zb (decide (lst = [(f.2.2.1.getD 0 0)])) (zb (Nat.ble (a + 1) nL) (zb (decide (Int32.ofInt (f.2.1.getD 0 0) = nI (f.2.2.1.getD 0 0))) (zb (zdk cc pc (.iinc a (f.2.1.getD 0 0)) (3)) (Nat.beq nx (pc + 3)) false) false) false) false) false
noncomputable def zkf_21 (own : String) (cc : ByteArray) (nL : Nat) (ini : Bool) (tb : List ExceptionTableEntry) (ret : Option FieldType) (f : zF) (pc op a bb : Nat) (lst : List Nat) (nx : Nat) : Bool := zb (Nat.beq op 1) (zb (decide (lst = [0, (f.2.2.1.getD 0 0), 0])) (zb (decide (Int32.ofInt (f.2.1.getD 0 0) = nI (f.2.2.1.getD 0 0))) (zb (zdk cc pc (.iconst (f.2.1.getD 0 0)) (1)) (Nat.beq nx (pc + 1)) false) false) false) false
noncomputable def zkf_22 (own : String) (cc : ByteArray) (nL : Nat) (ini : Bool) (tb : List ExceptionTableEntry) (ret : Option FieldType) (f : zF) (pc op a bb : Nat) (lst : List Nat) (nx : Nat) : Bool := zb (Nat.beq op 1) (zb (decide (lst = [0, (f.2.2.1.getD 0 0), 0])) (zb (decide ((Int8.ofInt (f.2.1.getD 0 0)).toInt32 = nI (f.2.2.1.getD 0 0))) (zb (zdk cc pc (.bipush (f.2.1.getD 0 0)) (2)) (Nat.beq nx (pc + 2)) false) false) false) false
noncomputable def zkf_23 (own : String) (cc : ByteArray) (nL : Nat) (ini : Bool) (tb : List ExceptionTableEntry) (ret : Option FieldType) (f : zF) (pc op a bb : Nat) (lst : List Nat) (nx : Nat) : Bool := zb (Nat.beq op 1) (zb (decide (lst = [0, (f.2.2.1.getD 0 0), 0])) (zb (decide ((Int16.ofInt (f.2.1.getD 0 0)).toInt32 = nI (f.2.2.1.getD 0 0))) (zb (zdk cc pc (.sipush (f.2.1.getD 0 0)) (3)) (Nat.beq nx (pc + 3)) false) false) false) false
noncomputable def zkf_24 (own : String) (cc : ByteArray) (nL : Nat) (ini : Bool) (tb : List ExceptionTableEntry) (ret : Option FieldType) (f : zF) (pc op a bb : Nat) (lst : List Nat) (nx : Nat) : Bool := zb (Nat.beq op 1) (zb (decide (lst = [2, (f.2.2.1.getD 0 0), 0])) (zb (decide (Int64.ofNat ((0 : Fin 2) : Nat) = lN (f.2.2.1.getD 0 0))) (zb (zdk cc pc (.lconst 0) (1)) (Nat.beq nx (pc + 1)) false) false) false) false
noncomputable def zkf_25 (own : String) (cc : ByteArray) (nL : Nat) (ini : Bool) (tb : List ExceptionTableEntry) (ret : Option FieldType) (f : zF) (pc op a bb : Nat) (lst : List Nat) (nx : Nat) : Bool := zb (Nat.beq op 1) (zb (decide (lst = [2, (f.2.2.1.getD 0 0), 0])) (zb (decide (Int64.ofNat ((1 : Fin 2) : Nat) = lN (f.2.2.1.getD 0 0))) (zb (zdk cc pc (.lconst 1) (1)) (Nat.beq nx (pc + 1)) false) false) false) false
noncomputable def zkf_26 (own : String) (cc : ByteArray) (nL : Nat) (ini : Bool) (tb : List ExceptionTableEntry) (ret : Option FieldType) (f : zF) (pc op a bb : Nat) (lst : List Nat) (nx : Nat) : Bool := zb (Nat.beq op 1) (zb (decide (lst = [6, 0, 0])) (zb (zdk cc pc (.fconst 0) (1)) (Nat.beq nx (pc + 1)) false) false) false
noncomputable def zkf_27 (own : String) (cc : ByteArray) (nL : Nat) (ini : Bool) (tb : List ExceptionTableEntry) (ret : Option FieldType) (f : zF) (pc op a bb : Nat) (lst : List Nat) (nx : Nat) : Bool := zb (Nat.beq op 1) (zb (decide (lst = [7, 0, 0])) (zb (zdk cc pc (.dconst 0) (1)) (Nat.beq nx (pc + 1)) false) false) false
noncomputable def zkf_28 (own : String) (cc : ByteArray) (nL : Nat) (ini : Bool) (tb : List ExceptionTableEntry) (ret : Option FieldType) (f : zF) (pc op a bb : Nat) (lst : List Nat) (nx : Nat) : Bool := zb (Nat.beq op 1) (zb (decide (lst = [2, (f.2.2.1.getD 1 0), 0])) (zb (zat (f.2.2.1.getD 2 0) (.constantLong own (f.2.2.1.getD 0 0) (lN (f.2.2.1.getD 1 0)))) (zb (zdk cc pc (.ldc2_w (f.2.2.1.getD 0 0)) (3)) (Nat.beq nx (pc + 3)) false) false) false) false
noncomputable def zkf_29 (own : String) (cc : ByteArray) (nL : Nat) (ini : Bool) (tb : List ExceptionTableEntry) (ret : Option FieldType) (f : zF) (pc op a bb : Nat) (lst : List Nat) (nx : Nat) : Bool := zb (Nat.beq op 1) (zb (decide (lst = [9, 0, 0])) (zb (decide ((own, (f.2.2.1.getD 0 0), f.2.2.2) ∈ zStrs)) (zb (zdk cc pc (.ldc (f.2.2.1.getD 0 0)) (2)) (Nat.beq nx (pc + 2)) false) false) false) false
noncomputable def zkf_30 (own : String) (cc : ByteArray) (nL : Nat) (ini : Bool) (tb : List ExceptionTableEntry) (ret : Option FieldType) (f : zF) (pc op a bb : Nat) (lst : List Nat) (nx : Nat) : Bool := zb (Nat.beq op 1) (zb (decide (lst = [9, 0, 0])) (zb (decide ((own, (f.2.2.1.getD 0 0), f.2.2.2) ∈ zStrs)) (zb (zdk cc pc (.ldc_w (f.2.2.1.getD 0 0)) (3)) (Nat.beq nx (pc + 3)) false) false) false) false
noncomputable def zkf_31 (own : String) (cc : ByteArray) (nL : Nat) (ini : Bool) (tb : List ExceptionTableEntry) (ret : Option FieldType) (f : zF) (pc op a bb : Nat) (lst : List Nat) (nx : Nat) : Bool := zb (Nat.beq op 4) (zb (Nat.beq a 0) (zb (zdk cc pc (.iadd) (1)) (Nat.beq nx (pc + 1)) false) false) false
noncomputable def zkf_32 (own : String) (cc : ByteArray) (nL : Nat) (ini : Bool) (tb : List ExceptionTableEntry) (ret : Option FieldType) (f : zF) (pc op a bb : Nat) (lst : List Nat) (nx : Nat) : Bool := zb (Nat.beq op 4) (zb (Nat.beq a 1) (zb (zdk cc pc (.isub) (1)) (Nat.beq nx (pc + 1)) false) false) false
noncomputable def zkf_33 (own : String) (cc : ByteArray) (nL : Nat) (ini : Bool) (tb : List ExceptionTableEntry) (ret : Option FieldType) (f : zF) (pc op a bb : Nat) (lst : List Nat) (nx : Nat) : Bool := zb (Nat.beq op 4) (zb (Nat.beq a 2) (zb (zdk cc pc (.imul) (1)) (Nat.beq nx (pc + 1)) false) false) false
noncomputable def zkf_34 (own : String) (cc : ByteArray) (nL : Nat) (ini : Bool) (tb : List ExceptionTableEntry) (ret : Option FieldType) (f : zF) (pc op a bb : Nat) (lst : List Nat) (nx : Nat) : Bool := zb (Nat.beq op 4) (zb (Nat.beq a 3) (zb (zdk cc pc (.idiv) (1)) (Nat.beq nx (pc + 1)) false) false) false
noncomputable def zkf_35 (own : String) (cc : ByteArray) (nL : Nat) (ini : Bool) (tb : List ExceptionTableEntry) (ret : Option FieldType) (f : zF) (pc op a bb : Nat) (lst : List Nat) (nx : Nat) : Bool := zb (Nat.beq op 4) (zb (Nat.beq a 4) (zb (zdk cc pc (.irem) (1)) (Nat.beq nx (pc + 1)) false) false) false
noncomputable def zkf_36 (own : String) (cc : ByteArray) (nL : Nat) (ini : Bool) (tb : List ExceptionTableEntry) (ret : Option FieldType) (f : zF) (pc op a bb : Nat) (lst : List Nat) (nx : Nat) : Bool := zb (Nat.beq op 4) (zb (Nat.beq a 5) (zb (zdk cc pc (.iand) (1)) (Nat.beq nx (pc + 1)) false) false) false
noncomputable def zkf_37 (own : String) (cc : ByteArray) (nL : Nat) (ini : Bool) (tb : List ExceptionTableEntry) (ret : Option FieldType) (f : zF) (pc op a bb : Nat) (lst : List Nat) (nx : Nat) : Bool := zb (Nat.beq op 4) (zb (Nat.beq a 6) (zb (zdk cc pc (.ishl) (1)) (Nat.beq nx (pc + 1)) false) false) false
noncomputable def zkf_38 (own : String) (cc : ByteArray) (nL : Nat) (ini : Bool) (tb : List ExceptionTableEntry) (ret : Option FieldType) (f : zF) (pc op a bb : Nat) (lst : List Nat) (nx : Nat) : Bool := zb (Nat.beq op 4) (zb (Nat.beq a 7) (zb (zdk cc pc (.ishr) (1)) (Nat.beq nx (pc + 1)) false) false) false
noncomputable def zkf_39 (own : String) (cc : ByteArray) (nL : Nat) (ini : Bool) (tb : List ExceptionTableEntry) (ret : Option FieldType) (f : zF) (pc op a bb : Nat) (lst : List Nat) (nx : Nat) : Bool := zb (Nat.beq op 4) (zb (Nat.beq a 10) (zb (zdk cc pc (.ladd) (1)) (Nat.beq nx (pc + 1)) false) false) false
noncomputable def zkf_40 (own : String) (cc : ByteArray) (nL : Nat) (ini : Bool) (tb : List ExceptionTableEntry) (ret : Option FieldType) (f : zF) (pc op a bb : Nat) (lst : List Nat) (nx : Nat) : Bool := zb (Nat.beq op 4) (zb (Nat.beq a 11) (zb (zdk cc pc (.lmul) (1)) (Nat.beq nx (pc + 1)) false) false) false
noncomputable def zkf_41 (own : String) (cc : ByteArray) (nL : Nat) (ini : Bool) (tb : List ExceptionTableEntry) (ret : Option FieldType) (f : zF) (pc op a bb : Nat) (lst : List Nat) (nx : Nat) : Bool := zb (Nat.beq op 6) (zb (Nat.beq bb 0) (zb (decide ((pc : Int) + (f.2.1.getD 0 0) = (a : Int))) (zb (zdk cc pc (.if_icmp .eq (f.2.1.getD 0 0)) (3)) (Nat.beq nx (pc + 3)) false) false) false) false
noncomputable def zkf_42 (own : String) (cc : ByteArray) (nL : Nat) (ini : Bool) (tb : List ExceptionTableEntry) (ret : Option FieldType) (f : zF) (pc op a bb : Nat) (lst : List Nat) (nx : Nat) : Bool := zb (Nat.beq op 5) (zb (Nat.beq bb 0) (zb (decide ((pc : Int) + (f.2.1.getD 0 0) = (a : Int))) (zb (zdk cc pc (.ifCond .eq (f.2.1.getD 0 0)) (3)) (Nat.beq nx (pc + 3)) false) false) false) false
noncomputable def zkf_43 (own : String) (cc : ByteArray) (nL : Nat) (ini : Bool) (tb : List ExceptionTableEntry) (ret : Option FieldType) (f : zF) (pc op a bb : Nat) (lst : List Nat) (nx : Nat) : Bool := zb (Nat.beq op 6) (zb (Nat.beq bb 1) (zb (decide ((pc : Int) + (f.2.1.getD 0 0) = (a : Int))) (zb (zdk cc pc (.if_icmp .ne (f.2.1.getD 0 0)) (3)) (Nat.beq nx (pc + 3)) false) false) false) false
noncomputable def zkf_44 (own : String) (cc : ByteArray) (nL : Nat) (ini : Bool) (tb : List ExceptionTableEntry) (ret : Option FieldType) (f : zF) (pc op a bb : Nat) (lst : List Nat) (nx : Nat) : Bool := zb (Nat.beq op 5) (zb (Nat.beq bb 1) (zb (decide ((pc : Int) + (f.2.1.getD 0 0) = (a : Int))) (zb (zdk cc pc (.ifCond .ne (f.2.1.getD 0 0)) (3)) (Nat.beq nx (pc + 3)) false) false) false) false
noncomputable def zkf_45 (own : String) (cc : ByteArray) (nL : Nat) (ini : Bool) (tb : List ExceptionTableEntry) (ret : Option FieldType) (f : zF) (pc op a bb : Nat) (lst : List Nat) (nx : Nat) : Bool := zb (Nat.beq op 6) (zb (Nat.beq bb 2) (zb (decide ((pc : Int) + (f.2.1.getD 0 0) = (a : Int))) (zb (zdk cc pc (.if_icmp .lt (f.2.1.getD 0 0)) (3)) (Nat.beq nx (pc + 3)) false) false) false) false
noncomputable def zkf_46 (own : String) (cc : ByteArray) (nL : Nat) (ini : Bool) (tb : List ExceptionTableEntry) (ret : Option FieldType) (f : zF) (pc op a bb : Nat) (lst : List Nat) (nx : Nat) : Bool := zb (Nat.beq op 5) (zb (Nat.beq bb 2) (zb (decide ((pc : Int) + (f.2.1.getD 0 0) = (a : Int))) (zb (zdk cc pc (.ifCond .lt (f.2.1.getD 0 0)) (3)) (Nat.beq nx (pc + 3)) false) false) false) false
noncomputable def zkf_47 (own : String) (cc : ByteArray) (nL : Nat) (ini : Bool) (tb : List ExceptionTableEntry) (ret : Option FieldType) (f : zF) (pc op a bb : Nat) (lst : List Nat) (nx : Nat) : Bool := zb (Nat.beq op 6) (zb (Nat.beq bb 3) (zb (decide ((pc : Int) + (f.2.1.getD 0 0) = (a : Int))) (zb (zdk cc pc (.if_icmp .ge (f.2.1.getD 0 0)) (3)) (Nat.beq nx (pc + 3)) false) false) false) false
noncomputable def zkf_48 (own : String) (cc : ByteArray) (nL : Nat) (ini : Bool) (tb : List ExceptionTableEntry) (ret : Option FieldType) (f : zF) (pc op a bb : Nat) (lst : List Nat) (nx : Nat) : Bool := zb (Nat.beq op 5) (zb (Nat.beq bb 3) (zb (decide ((pc : Int) + (f.2.1.getD 0 0) = (a : Int))) (zb (zdk cc pc (.ifCond .ge (f.2.1.getD 0 0)) (3)) (Nat.beq nx (pc + 3)) false) false) false) false
noncomputable def zkf_49 (own : String) (cc : ByteArray) (nL : Nat) (ini : Bool) (tb : List ExceptionTableEntry) (ret : Option FieldType) (f : zF) (pc op a bb : Nat) (lst : List Nat) (nx : Nat) : Bool := zb (Nat.beq op 6) (zb (Nat.beq bb 4) (zb (decide ((pc : Int) + (f.2.1.getD 0 0) = (a : Int))) (zb (zdk cc pc (.if_icmp .gt (f.2.1.getD 0 0)) (3)) (Nat.beq nx (pc + 3)) false) false) false) false
noncomputable def zkf_50 (own : String) (cc : ByteArray) (nL : Nat) (ini : Bool) (tb : List ExceptionTableEntry) (ret : Option FieldType) (f : zF) (pc op a bb : Nat) (lst : List Nat) (nx : Nat) : Bool := zb (Nat.beq op 5) (zb (Nat.beq bb 4) (zb (decide ((pc : Int) + (f.2.1.getD 0 0) = (a : Int))) (zb (zdk cc pc (.ifCond .gt (f.2.1.getD 0 0)) (3)) (Nat.beq nx (pc + 3)) false) false) false) false
noncomputable def zkf_51 (own : String) (cc : ByteArray) (nL : Nat) (ini : Bool) (tb : List ExceptionTableEntry) (ret : Option FieldType) (f : zF) (pc op a bb : Nat) (lst : List Nat) (nx : Nat) : Bool := zb (Nat.beq op 6) (zb (Nat.beq bb 5) (zb (decide ((pc : Int) + (f.2.1.getD 0 0) = (a : Int))) (zb (zdk cc pc (.if_icmp .le (f.2.1.getD 0 0)) (3)) (Nat.beq nx (pc + 3)) false) false) false) false
noncomputable def zkf_52 (own : String) (cc : ByteArray) (nL : Nat) (ini : Bool) (tb : List ExceptionTableEntry) (ret : Option FieldType) (f : zF) (pc op a bb : Nat) (lst : List Nat) (nx : Nat) : Bool := zb (Nat.beq op 5) (zb (Nat.beq bb 5) (zb (decide ((pc : Int) + (f.2.1.getD 0 0) = (a : Int))) (zb (zdk cc pc (.ifCond .le (f.2.1.getD 0 0)) (3)) (Nat.beq nx (pc + 3)) false) false) false) false
noncomputable def zkf_53 (own : String) (cc : ByteArray) (nL : Nat) (ini : Bool) (tb : List ExceptionTableEntry) (ret : Option FieldType) (f : zF) (pc op a bb : Nat) (lst : List Nat) (nx : Nat) : Bool := zb (Nat.beq op 7) (zb (decide ((pc : Int) + (f.2.1.getD 0 0) = (a : Int))) (zdk cc pc (.goto (f.2.1.getD 0 0)) (3)) false) false
noncomputable def zkf_54 (own : String) (cc : ByteArray) (nL : Nat) (ini : Bool) (tb : List ExceptionTableEntry) (ret : Option FieldType) (f : zF) (pc op a bb : Nat) (lst : List Nat) (nx : Nat) : Bool := zb (Nat.beq op 8) (zb (zgetB own a bb (f.2.2.1.getD 0 0) (f.2.2.1.getD 1 0)) (zb (zdk cc pc (.getfield (f.2.2.1.getD 0 0)) (3)) (Nat.beq nx (pc + 3)) false) false) false
noncomputable def zkf_55 (own : String) (cc : ByteArray) (nL : Nat) (ini : Bool) (tb : List ExceptionTableEntry) (ret : Option FieldType) (f : zF) (pc op a bb : Nat) (lst : List Nat) (nx : Nat) : Bool := zb (Nat.beq op 9) (zb (decide (lst = [(f.2.2.1.getD 2 0)])) (zb (zputB own ini a bb (f.2.2.1.getD 0 0) (f.2.2.1.getD 1 0) (f.2.2.1.getD 2 0)) (zb (zdk cc pc (.putfield (f.2.2.1.getD 0 0)) (3)) (Nat.beq nx (pc + 3)) false) false) false) false
noncomputable def zkf_56 (own : String) (cc : ByteArray) (nL : Nat) (ini : Bool) (tb : List ExceptionTableEntry) (ret : Option FieldType) (f : zF) (pc op a bb : Nat) (lst : List Nat) (nx : Nat) : Bool := zb (Nat.beq op 10) (zb (Nat.beq bb 100) (zb (zdk cc pc (.iaload) (1)) (Nat.beq nx (pc + 1)) false) false) false
noncomputable def zkf_57 (own : String) (cc : ByteArray) (nL : Nat) (ini : Bool) (tb : List ExceptionTableEntry) (ret : Option FieldType) (f : zF) (pc op a bb : Nat) (lst : List Nat) (nx : Nat) : Bool := zb (Nat.beq op 10) (zb (Nat.beq bb 101) (zb (zdk cc pc (.baload) (1)) (Nat.beq nx (pc + 1)) false) false) false
noncomputable def zkf_58 (own : String) (cc : ByteArray) (nL : Nat) (ini : Bool) (tb : List ExceptionTableEntry) (ret : Option FieldType) (f : zF) (pc op a bb : Nat) (lst : List Nat) (nx : Nat) : Bool := zb (Nat.beq op 10) (zb (Nat.beq bb 103) (zb (zdk cc pc (.laload) (1)) (Nat.beq nx (pc + 1)) false) false) false
noncomputable def zkf_59 (own : String) (cc : ByteArray) (nL : Nat) (ini : Bool) (tb : List ExceptionTableEntry) (ret : Option FieldType) (f : zF) (pc op a bb : Nat) (lst : List Nat) (nx : Nat) : Bool := zb (Nat.beq op 10) (zb (Nat.beq bb 104) (zb (zdk cc pc (.daload) (1)) (Nat.beq nx (pc + 1)) false) false) false
noncomputable def zkf_60 (own : String) (cc : ByteArray) (nL : Nat) (ini : Bool) (tb : List ExceptionTableEntry) (ret : Option FieldType) (f : zF) (pc op a bb : Nat) (lst : List Nat) (nx : Nat) : Bool := zb (Nat.beq op 10) (zb (Nat.beq bb 105) (zb (zdk cc pc (.aaload) (1)) (Nat.beq nx (pc + 1)) false) false) false
noncomputable def zkf_61 (own : String) (cc : ByteArray) (nL : Nat) (ini : Bool) (tb : List ExceptionTableEntry) (ret : Option FieldType) (f : zF) (pc op a bb : Nat) (lst : List Nat) (nx : Nat) : Bool := zb (Nat.beq op 11) (zb (Nat.beq bb 100) (zb (zdk cc pc (.iastore) (1)) (Nat.beq nx (pc + 1)) false) false) false
noncomputable def zkf_62 (own : String) (cc : ByteArray) (nL : Nat) (ini : Bool) (tb : List ExceptionTableEntry) (ret : Option FieldType) (f : zF) (pc op a bb : Nat) (lst : List Nat) (nx : Nat) : Bool := zb (Nat.beq op 11) (zb (Nat.beq bb 101) (zb (zdk cc pc (.bastore) (1)) (Nat.beq nx (pc + 1)) false) false) false
noncomputable def zkf_63 (own : String) (cc : ByteArray) (nL : Nat) (ini : Bool) (tb : List ExceptionTableEntry) (ret : Option FieldType) (f : zF) (pc op a bb : Nat) (lst : List Nat) (nx : Nat) : Bool := zb (Nat.beq op 11) (zb (Nat.beq bb 103) (zb (zdk cc pc (.lastore) (1)) (Nat.beq nx (pc + 1)) false) false) false
noncomputable def zkf_64 (own : String) (cc : ByteArray) (nL : Nat) (ini : Bool) (tb : List ExceptionTableEntry) (ret : Option FieldType) (f : zF) (pc op a bb : Nat) (lst : List Nat) (nx : Nat) : Bool := zb (Nat.beq op 11) (zb (Nat.beq bb 104) (zb (zdk cc pc (.dastore) (1)) (Nat.beq nx (pc + 1)) false) false) false
noncomputable def zkf_65 (own : String) (cc : ByteArray) (nL : Nat) (ini : Bool) (tb : List ExceptionTableEntry) (ret : Option FieldType) (f : zF) (pc op a bb : Nat) (lst : List Nat) (nx : Nat) : Bool := zb (Nat.beq op 11) (zb (Nat.beq bb 105) (zb (zdk cc pc (.aastore) (1)) (Nat.beq nx (pc + 1)) false) false) false
noncomputable def zkf_66 (own : String) (cc : ByteArray) (nL : Nat) (ini : Bool) (tb : List ExceptionTableEntry) (ret : Option FieldType) (f : zF) (pc op a bb : Nat) (lst : List Nat) (nx : Nat) : Bool := zb (Nat.beq op 12) (zb (zdk cc pc (.arraylength) (1)) (Nat.beq nx (pc + 1)) false) false
noncomputable def zkf_67 (own : String) (cc : ByteArray) (nL : Nat) (ini : Bool) (tb : List ExceptionTableEntry) (ret : Option FieldType) (f : zF) (pc op a bb : Nat) (lst : List Nat) (nx : Nat) : Bool := zb (Nat.beq op 13) (zb (znewB own a (f.2.2.1.getD 0 0) (f.2.2.1.getD 1 0)) (zb (zdk cc pc (.new (f.2.2.1.getD 0 0)) (3)) (Nat.beq nx (pc + 3)) false) false) false
noncomputable def zkf_68 (own : String) (cc : ByteArray) (nL : Nat) (ini : Bool) (tb : List ExceptionTableEntry) (ret : Option FieldType) (f : zF) (pc op a bb : Nat) (lst : List Nat) (nx : Nat) : Bool := zb (Nat.beq op 14) (zb (Nat.beq a 100) (zb (zdk cc pc (.newarray .int) (2)) (Nat.beq nx (pc + 2)) false) false) false
noncomputable def zkf_69 (own : String) (cc : ByteArray) (nL : Nat) (ini : Bool) (tb : List ExceptionTableEntry) (ret : Option FieldType) (f : zF) (pc op a bb : Nat) (lst : List Nat) (nx : Nat) : Bool := zb (Nat.beq op 14) (zb (Nat.beq a 101) (zb (zdk cc pc (.newarray .byte) (2)) (Nat.beq nx (pc + 2)) false) false) false
noncomputable def zkf_70 (own : String) (cc : ByteArray) (nL : Nat) (ini : Bool) (tb : List ExceptionTableEntry) (ret : Option FieldType) (f : zF) (pc op a bb : Nat) (lst : List Nat) (nx : Nat) : Bool := zb (Nat.beq op 14) (zb (Nat.beq a 102) (zb (zdk cc pc (.newarray .boolean) (2)) (Nat.beq nx (pc + 2)) false) false) false
noncomputable def zkf_71 (own : String) (cc : ByteArray) (nL : Nat) (ini : Bool) (tb : List ExceptionTableEntry) (ret : Option FieldType) (f : zF) (pc op a bb : Nat) (lst : List Nat) (nx : Nat) : Bool := zb (Nat.beq op 14) (zb (Nat.beq a 103) (zb (zdk cc pc (.newarray .long) (2)) (Nat.beq nx (pc + 2)) false) false) false
noncomputable def zkf_72 (own : String) (cc : ByteArray) (nL : Nat) (ini : Bool) (tb : List ExceptionTableEntry) (ret : Option FieldType) (f : zF) (pc op a bb : Nat) (lst : List Nat) (nx : Nat) : Bool := zb (Nat.beq op 14) (zb (Nat.beq a 104) (zb (zdk cc pc (.newarray .double) (2)) (Nat.beq nx (pc + 2)) false) false) false
noncomputable def zkf_73 (own : String) (cc : ByteArray) (nL : Nat) (ini : Bool) (tb : List ExceptionTableEntry) (ret : Option FieldType) (f : zF) (pc op a bb : Nat) (lst : List Nat) (nx : Nat) : Bool := zb (Nat.beq op 14) (zb (Nat.beq a 105) (zb (zat (f.2.2.1.getD 1 0) (.classLink own (f.2.2.1.getD 0 0) RX6)) (zb (zdk cc pc (.anewarray (f.2.2.1.getD 0 0)) (3)) (Nat.beq nx (pc + 3)) false) false) false) false
noncomputable def zkf_74 (own : String) (cc : ByteArray) (nL : Nat) (ini : Bool) (tb : List ExceptionTableEntry) (ret : Option FieldType) (f : zF) (pc op a bb : Nat) (lst : List Nat) (nx : Nat) : Bool := zb (Nat.beq op 15) (zb (zinvB own cc pc a bb lst tb (f.2.2.1.getD 0 0) (f.2.2.1.drop 1)) (Nat.beq nx (pc + 3)) false) false
noncomputable def zkf_75 (own : String) (cc : ByteArray) (nL : Nat) (ini : Bool) (tb : List ExceptionTableEntry) (ret : Option FieldType) (f : zF) (pc op a bb : Nat) (lst : List Nat) (nx : Nat) : Bool := zb (Nat.beq op 17) (zb (zdk cc pc (.dup) (1)) (Nat.beq nx (pc + 1)) false) false
noncomputable def zkf_76 (own : String) (cc : ByteArray) (nL : Nat) (ini : Bool) (tb : List ExceptionTableEntry) (ret : Option FieldType) (f : zF) (pc op a bb : Nat) (lst : List Nat) (nx : Nat) : Bool := zb (Nat.beq op 18) (zb (zdk cc pc (.pop) (1)) (Nat.beq nx (pc + 1)) false) false
noncomputable def zkf_77 (own : String) (cc : ByteArray) (nL : Nat) (ini : Bool) (tb : List ExceptionTableEntry) (ret : Option FieldType) (f : zF) (pc op a bb : Nat) (lst : List Nat) (nx : Nat) : Bool := zb (Nat.beq op 19) (zb (zdk cc pc (.dup2) (1)) (Nat.beq nx (pc + 1)) false) false
noncomputable def zkf_78 (own : String) (cc : ByteArray) (nL : Nat) (ini : Bool) (tb : List ExceptionTableEntry) (ret : Option FieldType) (f : zF) (pc op a bb : Nat) (lst : List Nat) (nx : Nat) : Bool := zb (Nat.beq op 20) (zb (Nat.beq a 0) (zb (zdk cc pc (.i2l) (1)) (Nat.beq nx (pc + 1)) false) false) false
noncomputable def zkf_79 (own : String) (cc : ByteArray) (nL : Nat) (ini : Bool) (tb : List ExceptionTableEntry) (ret : Option FieldType) (f : zF) (pc op a bb : Nat) (lst : List Nat) (nx : Nat) : Bool := zb (Nat.beq op 20) (zb (Nat.beq a 1) (zb (zdk cc pc (.l2i) (1)) (Nat.beq nx (pc + 1)) false) false) false
noncomputable def zkf_80 (own : String) (cc : ByteArray) (nL : Nat) (ini : Bool) (tb : List ExceptionTableEntry) (ret : Option FieldType) (f : zF) (pc op a bb : Nat) (lst : List Nat) (nx : Nat) : Bool := zb (Nat.beq op 20) (zb (Nat.beq a 2) (zb (zdk cc pc (.i2b) (1)) (Nat.beq nx (pc + 1)) false) false) false
noncomputable def zkf_81 (own : String) (cc : ByteArray) (nL : Nat) (ini : Bool) (tb : List ExceptionTableEntry) (ret : Option FieldType) (f : zF) (pc op a bb : Nat) (lst : List Nat) (nx : Nat) : Bool := zb (Nat.beq op 20) (zb (Nat.beq a 3) (zb (zdk cc pc (.f2d) (1)) (Nat.beq nx (pc + 1)) false) false) false
noncomputable def zkf_82 (own : String) (cc : ByteArray) (nL : Nat) (ini : Bool) (tb : List ExceptionTableEntry) (ret : Option FieldType) (f : zF) (pc op a bb : Nat) (lst : List Nat) (nx : Nat) : Bool := zb (Nat.beq op 21) (zb (zdk cc pc (.lcmp) (1)) (Nat.beq nx (pc + 1)) false) false
noncomputable def zkf_83 (own : String) (cc : ByteArray) (nL : Nat) (ini : Bool) (tb : List ExceptionTableEntry) (ret : Option FieldType) (f : zF) (pc op a bb : Nat) (lst : List Nat) (nx : Nat) : Bool := zb (Nat.beq op 22) (zb (Nat.beq bb 3) (zb (zdk cc pc (.dcmp .l) (1)) (Nat.beq nx (pc + 1)) false) false) false
noncomputable def zkf_84 (own : String) (cc : ByteArray) (nL : Nat) (ini : Bool) (tb : List ExceptionTableEntry) (ret : Option FieldType) (f : zF) (pc op a bb : Nat) (lst : List Nat) (nx : Nat) : Bool := zb (Nat.beq op 22) (zb (Nat.beq bb 3) (zb (zdk cc pc (.dcmp .g) (1)) (Nat.beq nx (pc + 1)) false) false) false
noncomputable def zkf_85 (own : String) (cc : ByteArray) (nL : Nat) (ini : Bool) (tb : List ExceptionTableEntry) (ret : Option FieldType) (f : zF) (pc op a bb : Nat) (lst : List Nat) (nx : Nat) : Bool := zb (Nat.beq op 23) (zb (decide ((pc : Int) + (f.2.1.getD 0 0) = (a : Int))) (zb (zdk cc pc (.ifnull (f.2.1.getD 0 0)) (3)) (Nat.beq nx (pc + 3)) false) false) false
noncomputable def zkf_86 (own : String) (cc : ByteArray) (nL : Nat) (ini : Bool) (tb : List ExceptionTableEntry) (ret : Option FieldType) (f : zF) (pc op a bb : Nat) (lst : List Nat) (nx : Nat) : Bool := zb (Nat.beq op 24) (zb (decide ((f.2.1.getD 1 0) = (a : Int))) (zb (decide ((f.2.1.getD 2 0) = (a : Int) + lst.length - 1)) (zb (decide ((pc : Int) + (f.2.1.getD 0 0) = (bb : Int))) (zb (ztswB pc lst ((f.2.1.drop 3).toArray)) (zdk cc pc (.tableswitch (f.2.1.getD 0 0) (f.2.1.getD 1 0) (f.2.1.getD 2 0) ((f.2.1.drop 3).toArray)) ((f.2.2.1.getD 0 0))) false) false) false) false) false
noncomputable def zkf_87 (own : String) (cc : ByteArray) (nL : Nat) (ini : Bool) (tb : List ExceptionTableEntry) (ret : Option FieldType) (f : zF) (pc op a bb : Nat) (lst : List Nat) (nx : Nat) : Bool := zb (Nat.beq op 26) (zb (zat (f.2.2.1.getD 1 0) (.methodLink own (f.2.2.1.getD 0 0) Lib.objectInit)) (zb (zdk cc pc (.invokespecial (f.2.2.1.getD 0 0)) (3)) (Nat.beq nx (pc + 3)) false) false) false
noncomputable def zkf_88 (own : String) (cc : ByteArray) (nL : Nat) (ini : Bool) (tb : List ExceptionTableEntry) (ret : Option FieldType) (f : zF) (pc op a bb : Nat) (lst : List Nat) (nx : Nat) : Bool := zb (Nat.beq op 27) (zb (Nat.beq a 0) (zb (zat (f.2.2.1.getD 1 0) (.methodLink own (f.2.2.1.getD 0 0) Lib.Math.max.name)) (zb (zdk cc pc (.invokestatic (f.2.2.1.getD 0 0)) (3)) (Nat.beq nx (pc + 3)) false) false) false) false
noncomputable def zkf_89 (own : String) (cc : ByteArray) (nL : Nat) (ini : Bool) (tb : List ExceptionTableEntry) (ret : Option FieldType) (f : zF) (pc op a bb : Nat) (lst : List Nat) (nx : Nat) : Bool := zb (Nat.beq op 27) (zb (Nat.beq a 1) (zb (zat (f.2.2.1.getD 1 0) (.methodLink own (f.2.2.1.getD 0 0) Lib.Math.min.name)) (zb (zdk cc pc (.invokestatic (f.2.2.1.getD 0 0)) (3)) (Nat.beq nx (pc + 3)) false) false) false) false
noncomputable def zkf_90 (own : String) (cc : ByteArray) (nL : Nat) (ini : Bool) (tb : List ExceptionTableEntry) (ret : Option FieldType) (f : zF) (pc op a bb : Nat) (lst : List Nat) (nx : Nat) : Bool := zb (Nat.beq op 28) (zb (zat (f.2.2.1.getD 1 0) (.methodLink own (f.2.2.1.getD 0 0) arraycopyName)) (zb (zdk cc pc (.invokestatic (f.2.2.1.getD 0 0)) (3)) (Nat.beq nx (pc + 3)) false) false) false
noncomputable def zkf_91 (own : String) (cc : ByteArray) (nL : Nat) (ini : Bool) (tb : List ExceptionTableEntry) (ret : Option FieldType) (f : zF) (pc op a bb : Nat) (lst : List Nat) (nx : Nat) : Bool := zb (Nat.beq op 16) (zb (Nat.beq bb 0) (zb (decide (ret = some .int)) (zdk cc pc (.ireturn) (1)) false) false) false
noncomputable def zkf_92 (own : String) (cc : ByteArray) (nL : Nat) (ini : Bool) (tb : List ExceptionTableEntry) (ret : Option FieldType) (f : zF) (pc op a bb : Nat) (lst : List Nat) (nx : Nat) : Bool := zb (Nat.beq op 16) (zb (Nat.beq bb 1) (zb (decide (ret = some .long)) (zdk cc pc (.lreturn) (1)) false) false) false
noncomputable def zkf_93 (own : String) (cc : ByteArray) (nL : Nat) (ini : Bool) (tb : List ExceptionTableEntry) (ret : Option FieldType) (f : zF) (pc op a bb : Nat) (lst : List Nat) (nx : Nat) : Bool := zb (Nat.beq op 16) (zb (Nat.beq bb 2) (zb (decide (ret = some .float)) (zdk cc pc (.freturn) (1)) false) false) false
noncomputable def zkf_94 (own : String) (cc : ByteArray) (nL : Nat) (ini : Bool) (tb : List ExceptionTableEntry) (ret : Option FieldType) (f : zF) (pc op a bb : Nat) (lst : List Nat) (nx : Nat) : Bool := zb (Nat.beq op 16) (zb (Nat.beq bb 3) (zb (decide (ret = some .double)) (zdk cc pc (.dreturn) (1)) false) false) false
noncomputable def zkf_95 (own : String) (cc : ByteArray) (nL : Nat) (ini : Bool) (tb : List ExceptionTableEntry) (ret : Option FieldType) (f : zF) (pc op a bb : Nat) (lst : List Nat) (nx : Nat) : Bool := zb (Nat.beq op 16) (zb (Nat.beq bb 6) (zb (decide (ret = some .boolean)) (zdk cc pc (.ireturn) (1)) false) false) false
noncomputable def zkf_96 (own : String) (cc : ByteArray) (nL : Nat) (ini : Bool) (tb : List ExceptionTableEntry) (ret : Option FieldType) (f : zF) (pc op a bb : Nat) (lst : List Nat) (nx : Nat) : Bool := zb (Nat.beq op 16) (zb (Nat.beq bb 4) (zb (zarefB ret) (zdk cc pc (.areturn) (1)) false) false) false
noncomputable def zkf_97 (own : String) (cc : ByteArray) (nL : Nat) (ini : Bool) (tb : List ExceptionTableEntry) (ret : Option FieldType) (f : zF) (pc op a bb : Nat) (lst : List Nat) (nx : Nat) : Bool := zb (Nat.beq op 16) (zb (Nat.beq bb 5) (zb (decide (ret = none)) (zdk cc pc (.return_) (1)) false) false) false
noncomputable def zkf_98 (own : String) (cc : ByteArray) (nL : Nat) (ini : Bool) (tb : List ExceptionTableEntry) (ret : Option FieldType) (f : zF) (pc op a bb : Nat) (lst : List Nat) (nx : Nat) : Bool := zb (Nat.beq op 25) (zb (zthrB own cc pc a (f.2.2.1.getD 0 0) (f.2.2.1.getD 1 0) (f.2.2.1.getD 2 0) f.2.2.2 false (f.2.2.1.getD 3 0) (f.2.2.1.getD 4 0)) (decide (tb = [])) false) false
noncomputable def zkf_99 (own : String) (cc : ByteArray) (nL : Nat) (ini : Bool) (tb : List ExceptionTableEntry) (ret : Option FieldType) (f : zF) (pc op a bb : Nat) (lst : List Nat) (nx : Nat) : Bool := zb (Nat.beq op 25) (zb (zthrB own cc pc a (f.2.2.1.getD 0 0) (f.2.2.1.getD 1 0) (f.2.2.1.getD 2 0) f.2.2.2 true (f.2.2.1.getD 3 0) (f.2.2.1.getD 4 0)) (decide (tb = [])) false) false
noncomputable def zkf_100 (own : String) (cc : ByteArray) (nL : Nat) (ini : Bool) (tb : List ExceptionTableEntry) (ret : Option FieldType) (f : zF) (pc op a bb : Nat) (lst : List Nat) (nx : Nat) : Bool := Nat.beq op 99
noncomputable def zchk (own : String) (cc : ByteArray) (nL : Nat) (ini : Bool) (tb : List ExceptionTableEntry) (ret : Option FieldType) (f : zF) (pc op a bb : Nat) (lst : List Nat) (nx : Nat) : Bool :=
  zb (Nat.beq f.1 0) (zkf_0 own cc nL ini tb ret f pc op a bb lst nx)
    (zb (Nat.beq f.1 1) (zkf_1 own cc nL ini tb ret f pc op a bb lst nx)
    (zb (Nat.beq f.1 2) (zkf_2 own cc nL ini tb ret f pc op a bb lst nx)
    (zb (Nat.beq f.1 3) (zkf_3 own cc nL ini tb ret f pc op a bb lst nx)
    (zb (Nat.beq f.1 4) (zkf_4 own cc nL ini tb ret f pc op a bb lst nx)
    (zb (Nat.beq f.1 5) (zkf_5 own cc nL ini tb ret f pc op a bb lst nx)
    (zb (Nat.beq f.1 6) (zkf_6 own cc nL ini tb ret f pc op a bb lst nx)
    (zb (Nat.beq f.1 7) (zkf_7 own cc nL ini tb ret f pc op a bb lst nx)
    (zb (Nat.beq f.1 8) (zkf_8 own cc nL ini tb ret f pc op a bb lst nx)
    (zb (Nat.beq f.1 9) (zkf_9 own cc nL ini tb ret f pc op a bb lst nx)
    (zb (Nat.beq f.1 10) (zkf_10 own cc nL ini tb ret f pc op a bb lst nx)
    (zb (Nat.beq f.1 11) (zkf_11 own cc nL ini tb ret f pc op a bb lst nx)
    (zb (Nat.beq f.1 12) (zkf_12 own cc nL ini tb ret f pc op a bb lst nx)
    (zb (Nat.beq f.1 13) (zkf_13 own cc nL ini tb ret f pc op a bb lst nx)
    (zb (Nat.beq f.1 14) (zkf_14 own cc nL ini tb ret f pc op a bb lst nx)
    (zb (Nat.beq f.1 15) (zkf_15 own cc nL ini tb ret f pc op a bb lst nx)
    (zb (Nat.beq f.1 16) (zkf_16 own cc nL ini tb ret f pc op a bb lst nx)
    (zb (Nat.beq f.1 17) (zkf_17 own cc nL ini tb ret f pc op a bb lst nx)
    (zb (Nat.beq f.1 18) (zkf_18 own cc nL ini tb ret f pc op a bb lst nx)
    (zb (Nat.beq f.1 19) (zkf_19 own cc nL ini tb ret f pc op a bb lst nx)
    (zb (Nat.beq f.1 20) (zkf_20 own cc nL ini tb ret f pc op a bb lst nx)
    (zb (Nat.beq f.1 21) (zkf_21 own cc nL ini tb ret f pc op a bb lst nx)
    (zb (Nat.beq f.1 22) (zkf_22 own cc nL ini tb ret f pc op a bb lst nx)
    (zb (Nat.beq f.1 23) (zkf_23 own cc nL ini tb ret f pc op a bb lst nx)
    (zb (Nat.beq f.1 24) (zkf_24 own cc nL ini tb ret f pc op a bb lst nx)
    (zb (Nat.beq f.1 25) (zkf_25 own cc nL ini tb ret f pc op a bb lst nx)
    (zb (Nat.beq f.1 26) (zkf_26 own cc nL ini tb ret f pc op a bb lst nx)
    (zb (Nat.beq f.1 27) (zkf_27 own cc nL ini tb ret f pc op a bb lst nx)
    (zb (Nat.beq f.1 28) (zkf_28 own cc nL ini tb ret f pc op a bb lst nx)
    (zb (Nat.beq f.1 29) (zkf_29 own cc nL ini tb ret f pc op a bb lst nx)
    (zb (Nat.beq f.1 30) (zkf_30 own cc nL ini tb ret f pc op a bb lst nx)
    (zb (Nat.beq f.1 31) (zkf_31 own cc nL ini tb ret f pc op a bb lst nx)
    (zb (Nat.beq f.1 32) (zkf_32 own cc nL ini tb ret f pc op a bb lst nx)
    (zb (Nat.beq f.1 33) (zkf_33 own cc nL ini tb ret f pc op a bb lst nx)
    (zb (Nat.beq f.1 34) (zkf_34 own cc nL ini tb ret f pc op a bb lst nx)
    (zb (Nat.beq f.1 35) (zkf_35 own cc nL ini tb ret f pc op a bb lst nx)
    (zb (Nat.beq f.1 36) (zkf_36 own cc nL ini tb ret f pc op a bb lst nx)
    (zb (Nat.beq f.1 37) (zkf_37 own cc nL ini tb ret f pc op a bb lst nx)
    (zb (Nat.beq f.1 38) (zkf_38 own cc nL ini tb ret f pc op a bb lst nx)
    (zb (Nat.beq f.1 39) (zkf_39 own cc nL ini tb ret f pc op a bb lst nx)
    (zb (Nat.beq f.1 40) (zkf_40 own cc nL ini tb ret f pc op a bb lst nx)
    (zb (Nat.beq f.1 41) (zkf_41 own cc nL ini tb ret f pc op a bb lst nx)
    (zb (Nat.beq f.1 42) (zkf_42 own cc nL ini tb ret f pc op a bb lst nx)
    (zb (Nat.beq f.1 43) (zkf_43 own cc nL ini tb ret f pc op a bb lst nx)
    (zb (Nat.beq f.1 44) (zkf_44 own cc nL ini tb ret f pc op a bb lst nx)
    (zb (Nat.beq f.1 45) (zkf_45 own cc nL ini tb ret f pc op a bb lst nx)
    (zb (Nat.beq f.1 46) (zkf_46 own cc nL ini tb ret f pc op a bb lst nx)
    (zb (Nat.beq f.1 47) (zkf_47 own cc nL ini tb ret f pc op a bb lst nx)
    (zb (Nat.beq f.1 48) (zkf_48 own cc nL ini tb ret f pc op a bb lst nx)
    (zb (Nat.beq f.1 49) (zkf_49 own cc nL ini tb ret f pc op a bb lst nx)
    (zb (Nat.beq f.1 50) (zkf_50 own cc nL ini tb ret f pc op a bb lst nx)
    (zb (Nat.beq f.1 51) (zkf_51 own cc nL ini tb ret f pc op a bb lst nx)
    (zb (Nat.beq f.1 52) (zkf_52 own cc nL ini tb ret f pc op a bb lst nx)
    (zb (Nat.beq f.1 53) (zkf_53 own cc nL ini tb ret f pc op a bb lst nx)
    (zb (Nat.beq f.1 54) (zkf_54 own cc nL ini tb ret f pc op a bb lst nx)
    (zb (Nat.beq f.1 55) (zkf_55 own cc nL ini tb ret f pc op a bb lst nx)
    (zb (Nat.beq f.1 56) (zkf_56 own cc nL ini tb ret f pc op a bb lst nx)
    (zb (Nat.beq f.1 57) (zkf_57 own cc nL ini tb ret f pc op a bb lst nx)
    (zb (Nat.beq f.1 58) (zkf_58 own cc nL ini tb ret f pc op a bb lst nx)
    (zb (Nat.beq f.1 59) (zkf_59 own cc nL ini tb ret f pc op a bb lst nx)
    (zb (Nat.beq f.1 60) (zkf_60 own cc nL ini tb ret f pc op a bb lst nx)
    (zb (Nat.beq f.1 61) (zkf_61 own cc nL ini tb ret f pc op a bb lst nx)
    (zb (Nat.beq f.1 62) (zkf_62 own cc nL ini tb ret f pc op a bb lst nx)
    (zb (Nat.beq f.1 63) (zkf_63 own cc nL ini tb ret f pc op a bb lst nx)
    (zb (Nat.beq f.1 64) (zkf_64 own cc nL ini tb ret f pc op a bb lst nx)
    (zb (Nat.beq f.1 65) (zkf_65 own cc nL ini tb ret f pc op a bb lst nx)
    (zb (Nat.beq f.1 66) (zkf_66 own cc nL ini tb ret f pc op a bb lst nx)
    (zb (Nat.beq f.1 67) (zkf_67 own cc nL ini tb ret f pc op a bb lst nx)
    (zb (Nat.beq f.1 68) (zkf_68 own cc nL ini tb ret f pc op a bb lst nx)
    (zb (Nat.beq f.1 69) (zkf_69 own cc nL ini tb ret f pc op a bb lst nx)
    (zb (Nat.beq f.1 70) (zkf_70 own cc nL ini tb ret f pc op a bb lst nx)
    (zb (Nat.beq f.1 71) (zkf_71 own cc nL ini tb ret f pc op a bb lst nx)
    (zb (Nat.beq f.1 72) (zkf_72 own cc nL ini tb ret f pc op a bb lst nx)
    (zb (Nat.beq f.1 73) (zkf_73 own cc nL ini tb ret f pc op a bb lst nx)
    (zb (Nat.beq f.1 74) (zkf_74 own cc nL ini tb ret f pc op a bb lst nx)
    (zb (Nat.beq f.1 75) (zkf_75 own cc nL ini tb ret f pc op a bb lst nx)
    (zb (Nat.beq f.1 76) (zkf_76 own cc nL ini tb ret f pc op a bb lst nx)
    (zb (Nat.beq f.1 77) (zkf_77 own cc nL ini tb ret f pc op a bb lst nx)
    (zb (Nat.beq f.1 78) (zkf_78 own cc nL ini tb ret f pc op a bb lst nx)
    (zb (Nat.beq f.1 79) (zkf_79 own cc nL ini tb ret f pc op a bb lst nx)
    (zb (Nat.beq f.1 80) (zkf_80 own cc nL ini tb ret f pc op a bb lst nx)
    (zb (Nat.beq f.1 81) (zkf_81 own cc nL ini tb ret f pc op a bb lst nx)
    (zb (Nat.beq f.1 82) (zkf_82 own cc nL ini tb ret f pc op a bb lst nx)
    (zb (Nat.beq f.1 83) (zkf_83 own cc nL ini tb ret f pc op a bb lst nx)
    (zb (Nat.beq f.1 84) (zkf_84 own cc nL ini tb ret f pc op a bb lst nx)
    (zb (Nat.beq f.1 85) (zkf_85 own cc nL ini tb ret f pc op a bb lst nx)
    (zb (Nat.beq f.1 86) (zkf_86 own cc nL ini tb ret f pc op a bb lst nx)
    (zb (Nat.beq f.1 87) (zkf_87 own cc nL ini tb ret f pc op a bb lst nx)
    (zb (Nat.beq f.1 88) (zkf_88 own cc nL ini tb ret f pc op a bb lst nx)
    (zb (Nat.beq f.1 89) (zkf_89 own cc nL ini tb ret f pc op a bb lst nx)
    (zb (Nat.beq f.1 90) (zkf_90 own cc nL ini tb ret f pc op a bb lst nx)
    (zb (Nat.beq f.1 91) (zkf_91 own cc nL ini tb ret f pc op a bb lst nx)
    (zb (Nat.beq f.1 92) (zkf_92 own cc nL ini tb ret f pc op a bb lst nx)
    (zb (Nat.beq f.1 93) (zkf_93 own cc nL ini tb ret f pc op a bb lst nx)
    (zb (Nat.beq f.1 94) (zkf_94 own cc nL ini tb ret f pc op a bb lst nx)
    (zb (Nat.beq f.1 95) (zkf_95 own cc nL ini tb ret f pc op a bb lst nx)
    (zb (Nat.beq f.1 96) (zkf_96 own cc nL ini tb ret f pc op a bb lst nx)
    (zb (Nat.beq f.1 97) (zkf_97 own cc nL ini tb ret f pc op a bb lst nx)
    (zb (Nat.beq f.1 98) (zkf_98 own cc nL ini tb ret f pc op a bb lst nx)
    (zb (Nat.beq f.1 99) (zkf_99 own cc nL ini tb ret f pc op a bb lst nx)
    (zb (Nat.beq f.1 100) (zkf_100 own cc nL ini tb ret f pc op a bb lst nx)
    (false)))))))))))))))))))))))))))))))))))))))))))))))))))))))))))))))))))))))))))))))))))))))))))))))))))))
section ZDO
variable {objs : List (Nat × zA)} {rec : Nat → List zV → zW → zR} {D : Nat} {full : List zE} {scr : List zV} {a b : Nat} {l : List Nat} {rest : List zE} {ls : zA} {st : List zV} {w : zW}
theorem zdo_0 : zdo objs rec D full scr 0 a b l rest ls st w = zoLoad rest ls st w a b := rfl
theorem zdo_1 : zdo objs rec D full scr 1 a b l rest ls st w = zoConst rest ls st w l := rfl
theorem zdo_2 : zdo objs rec D full scr 2 a b l rest ls st w = zoStore rest ls st w a b := rfl
theorem zdo_3 : zdo objs rec D full scr 3 a b l rest ls st w = zoInc rest ls st w a l := rfl
theorem zdo_4 : zdo objs rec D full scr 4 a b l rest ls st w = zoArith rest ls st w a := rfl
theorem zdo_5 : zdo objs rec D full scr 5 a b l rest ls st w = zoIf rest ls st w full a b := rfl
theorem zdo_6 : zdo objs rec D full scr 6 a b l rest ls st w = zoIcmp rest ls st w full a b := rfl
theorem zdo_7 : zdo objs rec D full scr 7 a b l rest ls st w = zgo full a ls st w := rfl
theorem zdo_8 : zdo objs rec D full scr 8 a b l rest ls st w = zoGetf rest ls st w a b := rfl
theorem zdo_9 : zdo objs rec D full scr 9 a b l rest ls st w = zoPutf rest ls st w a b l := rfl
theorem zdo_10 : zdo objs rec D full scr 10 a b l rest ls st w = zoAload rest ls st w scr b := rfl
theorem zdo_11 : zdo objs rec D full scr 11 a b l rest ls st w = zoAstore rest ls st w b := rfl
theorem zdo_12 : zdo objs rec D full scr 12 a b l rest ls st w = zoLen rest ls st w scr := rfl
theorem zdo_13 : zdo objs rec D full scr 13 a b l rest ls st w = zoNew rest ls st w objs a := rfl
theorem zdo_14 : zdo objs rec D full scr 14 a b l rest ls st w = zoNewarr rest ls st w a := rfl
theorem zdo_15 : zdo objs rec D full scr 15 a b l rest ls st w = zoInvoke rest ls st w rec full a b l := rfl
theorem zdo_16 : zdo objs rec D full scr 16 a b l rest ls st w = zoRet st w b := rfl
theorem zdo_17 : zdo objs rec D full scr 17 a b l rest ls st w = zoDup rest ls st w := rfl
theorem zdo_18 : zdo objs rec D full scr 18 a b l rest ls st w = zoPop rest ls st w := rfl
theorem zdo_19 : zdo objs rec D full scr 19 a b l rest ls st w = zoDup2 rest ls st w := rfl
theorem zdo_20 : zdo objs rec D full scr 20 a b l rest ls st w = zoConv rest ls st w a := rfl
theorem zdo_21 : zdo objs rec D full scr 21 a b l rest ls st w = zoLcmp rest ls st w := rfl
theorem zdo_22 : zdo objs rec D full scr 22 a b l rest ls st w = zoFcmp rest ls st w b := rfl
theorem zdo_23 : zdo objs rec D full scr 23 a b l rest ls st w = zoNull rest ls st w full a := rfl
theorem zdo_24 : zdo objs rec D full scr 24 a b l rest ls st w = zoSwitch ls st w full a b l := rfl
theorem zdo_25 : zdo objs rec D full scr 25 a b l rest ls st w = zoThrow st w D a := rfl
theorem zdo_26 : zdo objs rec D full scr 26 a b l rest ls st w = zoInit rest ls st w := rfl
theorem zdo_27 : zdo objs rec D full scr 27 a b l rest ls st w = zoMath rest ls st w a := rfl
theorem zdo_28 : zdo objs rec D full scr 28 a b l rest ls st w = zoCopy rest ls st w := rfl
theorem zdo_99 : zdo objs rec D full scr 99 a b l rest ls st w = zX := rfl
end ZDO
section ZFF
variable {p : Program} {l : Launch} {e : Env} {R : Room} {s : State} {m : MethodId} {args : Array Value} {below : List Frame} {meth : Method} {c : Code} {Q : State → Prop} {nL : Nat} {D : va_G} {A : Nat → Prop} {b : Nat} {ad0 : List Nat} {cc : ByteArray} {own : String} {ini : Bool} {tb : List ExceptionTableEntry} {ret : Option FieldType} {dd : Nat} {rec : Nat → List zV → zW → zR} {full : List zE} {scr : List zV} {cw0 : va_W}
theorem zf_getf (hx : p.tables.exec = Jvm.exec) (hb : c.code = cc) (hts : ∀ w ∈ zGd, w.before args s = true) (hown : s.vm.findClass own = some m.cls) {ci k ix p1 pc : Nat} {o : Nat × Nat × Nat × List Nat} {rest : List zE} {ls0 : zA} {st0 : List zV} {w : zW} {S1 : zS} (hq : zgetB own ci k ix p1 = true) (hdg : decode cc pc = .ok (.getfield ix, 3)) (hn : zpc rest = pc + 3) (h : zoGetf rest ls0 st0 w ci k = Sum.inl S1) (kk : zG p l e R s m args below meth c nL D A b ad0 Q S1) : zG p l e R s m args below meth c nL D A b ad0 Q ((pc, o) :: rest, ls0, st0, w) := by
  obtain ⟨C, T, N, h1, h2, h3⟩ := zgetB_ok hq
  obtain ⟨g1, g2, -⟩ := zcls h1
  exact zs_getf hx hb hts g1 h1 g2 hown h2 (hts _ h3) hdg hn h kk
theorem zf_putf (hx : p.tables.exec = Jvm.exec) (hb : c.code = cc) (hts : ∀ w ∈ zGd, w.before args s = true) (hown : s.vm.findClass own = some m.cls) (hnm : ini = true → meth.name = "<init>") {ci k ix p1 ft pc : Nat} {o : Nat × Nat × Nat × List Nat} {rest : List zE} {ls0 : zA} {st0 : List zV} {w : zW} {S1 : zS} (hq : zputB own ini ci k ix p1 ft = true) (hdg : decode cc pc = .ok (.putfield ix, 3)) (hn : zpc rest = pc + 3) (h : zoPutf rest ls0 st0 w ci k [ft] = Sum.inl S1) (kk : zG p l e R s m args below meth c nL D A b ad0 Q S1) : zG p l e R s m args below meth c nL D A b ad0 Q ((pc, o) :: rest, ls0, st0, w) := by
  obtain ⟨C, T, N, h1, h2, h3, h4, h5⟩ := zputB_ok hq
  obtain ⟨g1, g2, g3, g4, -⟩ := zcls h1
  exact zs_putf hx hb hts g1 h1 g2 hown h2 (hts _ h3) (zty ci) g3 g4 h4 (h5.imp id (fun z => ⟨z.1, hnm z.2.1, z.2.2⟩)) hdg hn h kk
theorem zf_new (hx : p.tables.exec = Jvm.exec) (hb : c.code = cc) (hts : ∀ w ∈ zGd, w.before args s = true) (hown : s.vm.findClass own = some m.cls) (hA : ∀ q, s.heap.size ≤ q → A q) {ci ix p1 pc : Nat} {o : Nat × Nat × Nat × List Nat} {rest : List zE} {ls0 : zA} {st0 : List zV} {w : zW} {S1 : zS} (hq : znewB own ci ix p1 = true) (hdg : decode cc pc = .ok (.new ix, 3)) (hn : zpc rest = pc + 3) (h : zoNew rest ls0 st0 w zobjs ci = Sum.inl S1) (hcs : S1.2.2.2.2.2.1 ≤ R.cells ∧ S1.2.2.2.2.2.2 ≤ R.slots) (kk : zG p l e R s m args below meth c nL D A b ad0 Q S1) : zG p l e R s m args below meth c nL D A b ad0 Q ((pc, o) :: rest, ls0, st0, w) := by
  obtain ⟨C, T, N, h1, h2⟩ := znewB_ok hq
  obtain ⟨g1, g2, g3, g4, g5, g6, fs, g7, g8⟩ := zcls h1
  exact zs_new hx hb hts g2 (zty ci) g3 hown (hts _ h2) (hts _ g5) (hts _ g6) h1 g1 g7 (zdfB_ok g8) hA hdg hn h hcs kk
theorem zf_inv (hx : p.tables.exec = Jvm.exec) (hb : c.code = cc) (hml : c.maxLocals = nL) (hown : s.vm.findClass own = some m.cls) (hts : ∀ w ∈ zGd, w.before args s = true) (hF : zFx A s) (hA : ∀ q, s.heap.size ≤ q → A q) (hRf : dd + 1 ≤ R.frames) (hRl : 39 * (dd + 1) + 10 ≤ R.locals)
    (hrec : ∀ (i : Nat) (as : List zV) (w : zW), (rec i as w).1 ≠ 9 → zMet l (zyOf (zword i)) (zword i) dd as w (rec i as w)) (htb : c.exceptionTable.toList = tb) {a n ix pc : Nat} {lst ps : List Nat} {o : Nat × Nat × Nat × List Nat} {rest : List zE} {ls0 : zA} {st0 : List zV} {w : zW} {S1 : zS} (hq : zinvB own cc pc a n lst tb ix ps = true) (hn : zpc rest = pc + 3) (h : zoInvoke rest ls0 st0 w rec full a n lst = Sum.inl S1) (hcs : S1.2.2.2.2.2.1 ≤ R.cells ∧ S1.2.2.2.2.2.2 ≤ R.slots) (kk : zG p l e R s m args below meth c nL D A b ad0 Q S1) : zG p l e R s m args below meth c nL D A b ad0 Q ((pc, o) :: rest, ls0, st0, w) := by
  obtain ⟨kd, rc, hs, rfl, h1, h2⟩ := zinvB_ok hq
  exact zs_inv hx hb hml hown hts hF hA h1 hRf hRl (hrec a) (by rw [htb]; exact h2) hn h hcs kk
theorem zf_inv_out (hx : p.tables.exec = Jvm.exec) (hb : c.code = cc) (hml : c.maxLocals = nL) (hown : s.vm.findClass own = some m.cls) (hts : ∀ w ∈ zGd, w.before args s = true) (hF : zFx A s) (hA : ∀ q, s.heap.size ≤ q → A q) (hlocks : meth.locks = false) (hAe : va_A cw0 s.heap.size = A) (hRf : dd + 1 ≤ R.frames) (hRl : 39 * (dd + 1) + 10 ≤ R.locals)
    (hrec : ∀ (i : Nat) (as : List zV) (w : zW), (rec i as w).1 ≠ 9 → zMet l (zyOf (zword i)) (zword i) dd as w (rec i as w)) (htb : c.exceptionTable.toList = tb) {a n ix pc : Nat} {lst ps : List Nat} {o : Nat × Nat × Nat × List Nat} {rest : List zE} {ls0 : zA} {st0 : List zV} {w : zW} {r : zR} (hq : zinvB own cc pc a n lst tb ix ps = true) (h : zoInvoke rest ls0 st0 w rec full a n lst = Sum.inr r) (h9 : r.1 ≠ 9) (hcs : r.2.2.2.2.1 ≤ R.cells ∧ r.2.2.2.2.2 ≤ R.slots) : zG p l e R s m args below meth c nL D A b (zad cw0) (vx_MQ below (zQ D b s.heap.size cw0 r) (zXC D b s.heap.size cw0 r) args s r.2.2.2.2.1 r.2.2.2.2.2 (va_A cw0 s.heap.size)) ((pc, o) :: rest, ls0, st0, w) := by
  obtain ⟨kd, rc, hs, rfl, h1, h2⟩ := zinvB_ok hq
  exact zs_inv_out hx hb hml hown hts hF hA hlocks hAe h1 hRf hRl (hrec a) (by rw [htb]; exact h2) h h9 hcs

set_option maxHeartbeats 4000000 in
theorem zchk_inl (hx : p.tables.exec = Jvm.exec) (hb : c.code = cc) (hml : c.maxLocals = nL) (hown : s.vm.findClass own = some m.cls) (hts : ∀ w ∈ zGd, w.before args s = true) (hF : zFx A s) (hA : ∀ q, s.heap.size ≤ q → A q) (hRf : dd + 1 ≤ R.frames) (hRl : 39 * (dd + 1) + 10 ≤ R.locals) (hsc : zSc A b s scr) (hnm : ini = true → meth.name = "<init>") (htb : c.exceptionTable.toList = tb)
    (hrec : ∀ (i : Nat) (as : List zV) (w : zW), (rec i as w).1 ≠ 9 → zMet l (zyOf (zword i)) (zword i) dd as w (rec i as w)) {f : zF} {pc op a bb : Nat} {lst : List Nat} {rest : List zE} {ls0 : zA} {st0 : List zV} {w : zW} {S1 : zS} (hc : zchk own cc nL ini tb ret f pc op a bb lst (zpc rest) = true)
    (h : zdo zobjs rec (dd + 1) full scr op a bb lst rest ls0 st0 w = Sum.inl S1) (hcs : S1.2.2.2.2.2.1 ≤ R.cells ∧ S1.2.2.2.2.2.2 ≤ R.slots) (kk : zG p l e R s m args below meth c nL D A b ad0 Q S1) : zG p l e R s m args below meth c nL D A b ad0 Q ((pc, op, a, bb, lst) :: rest, ls0, st0, w) := by
  have hRf1 : 1 ≤ R.frames := by omega
  have hRl1 : 30 ≤ R.locals := by omega
  unfold zchk at hc
  replace hc := zb_or hc
  rcases hc with ⟨-, z0⟩ | hc
  · unfold zkf_0 at z0
    obtain ⟨q0, z1⟩ := zb_and z0
    obtain ⟨q1, z2⟩ := zb_and z1
    obtain ⟨q2, z3⟩ := zb_and z2
    have q3 := z3
    have e0 := zbeq q0
    subst e0
    have e1 := zbeq q1
    subst e1
    rw [zdo_0] at h
    exact zs_iload hx hb (zdk_ok q2) (zbeq q3) h kk
  replace hc := zb_or hc
  rcases hc with ⟨-, z0⟩ | hc
  · unfold zkf_1 at z0
    obtain ⟨q0, z1⟩ := zb_and z0
    obtain ⟨q1, z2⟩ := zb_and z1
    obtain ⟨q2, z3⟩ := zb_and z2
    obtain ⟨q3, z4⟩ := zb_and z3
    have q4 := z4
    have e0 := zbeq q0
    subst e0
    have e1 := zbeq q1
    subst e1
    rw [zdo_0] at h
    exact zs_iload_n (i := zf4 a) hx hb (zdk_ok q3) (zbeq q4) (by rw [zf4_eq (zble q2)]; exact h) kk
  replace hc := zb_or hc
  rcases hc with ⟨-, z0⟩ | hc
  · unfold zkf_2 at z0
    obtain ⟨q0, z1⟩ := zb_and z0
    obtain ⟨q1, z2⟩ := zb_and z1
    obtain ⟨q2, z3⟩ := zb_and z2
    have q3 := z3
    have e0 := zbeq q0
    subst e0
    have e1 := zbeq q1
    subst e1
    rw [zdo_0] at h
    exact zs_lload hx hb (zdk_ok q2) (zbeq q3) h kk
  replace hc := zb_or hc
  rcases hc with ⟨-, z0⟩ | hc
  · unfold zkf_3 at z0
    obtain ⟨q0, z1⟩ := zb_and z0
    obtain ⟨q1, z2⟩ := zb_and z1
    obtain ⟨q2, z3⟩ := zb_and z2
    obtain ⟨q3, z4⟩ := zb_and z3
    have q4 := z4
    have e0 := zbeq q0
    subst e0
    have e1 := zbeq q1
    subst e1
    rw [zdo_0] at h
    exact zs_lload_n (i := zf4 a) hx hb (zdk_ok q3) (zbeq q4) (by rw [zf4_eq (zble q2)]; exact h) kk
  replace hc := zb_or hc
  rcases hc with ⟨-, z0⟩ | hc
  · unfold zkf_4 at z0
    obtain ⟨q0, z1⟩ := zb_and z0
    obtain ⟨q1, z2⟩ := zb_and z1
    obtain ⟨q2, z3⟩ := zb_and z2
    have q3 := z3
    have e0 := zbeq q0
    subst e0
    have e1 := zbeq q1
    subst e1
    rw [zdo_0] at h
    exact zs_fload hx hb (zdk_ok q2) (zbeq q3) h kk
  replace hc := zb_or hc
  rcases hc with ⟨-, z0⟩ | hc
  · unfold zkf_5 at z0
    obtain ⟨q0, z1⟩ := zb_and z0
    obtain ⟨q1, z2⟩ := zb_and z1
    obtain ⟨q2, z3⟩ := zb_and z2
    obtain ⟨q3, z4⟩ := zb_and z3
    have q4 := z4
    have e0 := zbeq q0
    subst e0
    have e1 := zbeq q1
    subst e1
    rw [zdo_0] at h
    exact zs_fload_n (i := zf4 a) hx hb (zdk_ok q3) (zbeq q4) (by rw [zf4_eq (zble q2)]; exact h) kk
  replace hc := zb_or hc
  rcases hc with ⟨-, z0⟩ | hc
  · unfold zkf_6 at z0
    obtain ⟨q0, z1⟩ := zb_and z0
    obtain ⟨q1, z2⟩ := zb_and z1
    obtain ⟨q2, z3⟩ := zb_and z2
    have q3 := z3
    have e0 := zbeq q0
    subst e0
    have e1 := zbeq q1
    subst e1
    rw [zdo_0] at h
    exact zs_dload hx hb (zdk_ok q2) (zbeq q3) h kk
  replace hc := zb_or hc
  rcases hc with ⟨-, z0⟩ | hc
  · unfold zkf_7 at z0
    obtain ⟨q0, z1⟩ := zb_and z0
    obtain ⟨q1, z2⟩ := zb_and z1
    obtain ⟨q2, z3⟩ := zb_and z2
    obtain ⟨q3, z4⟩ := zb_and z3
    have q4 := z4
    have e0 := zbeq q0
    subst e0
    have e1 := zbeq q1
    subst e1
    rw [zdo_0] at h
    exact zs_dload_n (i := zf4 a) hx hb (zdk_ok q3) (zbeq q4) (by rw [zf4_eq (zble q2)]; exact h) kk
  replace hc := zb_or hc
  rcases hc with ⟨-, z0⟩ | hc
  · unfold zkf_8 at z0
    obtain ⟨q0, z1⟩ := zb_and z0
    obtain ⟨q1, z2⟩ := zb_and z1
    obtain ⟨q2, z3⟩ := zb_and z2
    have q3 := z3
    have e0 := zbeq q0
    subst e0
    have e1 := zbeq q1
    subst e1
    rw [zdo_0] at h
    exact zs_aload hx hb (zdk_ok q2) (zbeq q3) h kk
  replace hc := zb_or hc
  rcases hc with ⟨-, z0⟩ | hc
  · unfold zkf_9 at z0
    obtain ⟨q0, z1⟩ := zb_and z0
    obtain ⟨q1, z2⟩ := zb_and z1
    obtain ⟨q2, z3⟩ := zb_and z2
    obtain ⟨q3, z4⟩ := zb_and z3
    have q4 := z4
    have e0 := zbeq q0
    subst e0
    have e1 := zbeq q1
    subst e1
    rw [zdo_0] at h
    exact zs_aload_n (i := zf4 a) hx hb (zdk_ok q3) (zbeq q4) (by rw [zf4_eq (zble q2)]; exact h) kk
  replace hc := zb_or hc
  rcases hc with ⟨-, z0⟩ | hc
  · unfold zkf_10 at z0
    obtain ⟨q0, z1⟩ := zb_and z0
    obtain ⟨q1, z2⟩ := zb_and z1
    obtain ⟨q2, z3⟩ := zb_and z2
    obtain ⟨q3, z4⟩ := zb_and z3
    have q4 := z4
    have e0 := zbeq q0
    subst e0
    have e1 := zbeq q1
    subst e1
    rw [zdo_2] at h
    exact zs_istore hx hb (zble q2) (zdk_ok q3) (zbeq q4) h kk
  replace hc := zb_or hc
  rcases hc with ⟨-, z0⟩ | hc
  · unfold zkf_11 at z0
    obtain ⟨q0, z1⟩ := zb_and z0
    obtain ⟨q1, z2⟩ := zb_and z1
    obtain ⟨q2, z3⟩ := zb_and z2
    obtain ⟨q3, z4⟩ := zb_and z3
    obtain ⟨q4, z5⟩ := zb_and z4
    have q5 := z5
    have e0 := zbeq q0
    subst e0
    have e1 := zbeq q1
    subst e1
    rw [zdo_2] at h
    exact zs_istore_n (i := zf4 a) hx hb (by rw [zf4_eq (zble q2)]; exact zble q3) (zdk_ok q4) (zbeq q5) (by rw [zf4_eq (zble q2)]; exact h) kk
  replace hc := zb_or hc
  rcases hc with ⟨-, z0⟩ | hc
  · unfold zkf_12 at z0
    obtain ⟨q0, z1⟩ := zb_and z0
    obtain ⟨q1, z2⟩ := zb_and z1
    obtain ⟨q2, z3⟩ := zb_and z2
    obtain ⟨q3, z4⟩ := zb_and z3
    have q4 := z4
    have e0 := zbeq q0
    subst e0
    have e1 := zbeq q1
    subst e1
    rw [zdo_2] at h
    exact zs_lstore hx hb (zble q2) (zdk_ok q3) (zbeq q4) h kk
  replace hc := zb_or hc
  rcases hc with ⟨-, z0⟩ | hc
  · unfold zkf_13 at z0
    obtain ⟨q0, z1⟩ := zb_and z0
    obtain ⟨q1, z2⟩ := zb_and z1
    obtain ⟨q2, z3⟩ := zb_and z2
    obtain ⟨q3, z4⟩ := zb_and z3
    obtain ⟨q4, z5⟩ := zb_and z4
    have q5 := z5
    have e0 := zbeq q0
    subst e0
    have e1 := zbeq q1
    subst e1
    rw [zdo_2] at h
    exact zs_lstore_n (i := zf4 a) hx hb (by rw [zf4_eq (zble q2)]; exact zble q3) (zdk_ok q4) (zbeq q5) (by rw [zf4_eq (zble q2)]; exact h) kk
  replace hc := zb_or hc
  rcases hc with ⟨-, z0⟩ | hc
  · unfold zkf_14 at z0
    obtain ⟨q0, z1⟩ := zb_and z0
    obtain ⟨q1, z2⟩ := zb_and z1
    obtain ⟨q2, z3⟩ := zb_and z2
    obtain ⟨q3, z4⟩ := zb_and z3
    have q4 := z4
    have e0 := zbeq q0
    subst e0
    have e1 := zbeq q1
    subst e1
    rw [zdo_2] at h
    exact zs_fstore hx hb (zble q2) (zdk_ok q3) (zbeq q4) h kk
  replace hc := zb_or hc
  rcases hc with ⟨-, z0⟩ | hc
  · unfold zkf_15 at z0
    obtain ⟨q0, z1⟩ := zb_and z0
    obtain ⟨q1, z2⟩ := zb_and z1
    obtain ⟨q2, z3⟩ := zb_and z2
    obtain ⟨q3, z4⟩ := zb_and z3
    obtain ⟨q4, z5⟩ := zb_and z4
    have q5 := z5
    have e0 := zbeq q0
    subst e0
    have e1 := zbeq q1
    subst e1
    rw [zdo_2] at h
    exact zs_fstore_n (i := zf4 a) hx hb (by rw [zf4_eq (zble q2)]; exact zble q3) (zdk_ok q4) (zbeq q5) (by rw [zf4_eq (zble q2)]; exact h) kk
  replace hc := zb_or hc
  rcases hc with ⟨-, z0⟩ | hc
  · unfold zkf_16 at z0
    obtain ⟨q0, z1⟩ := zb_and z0
    obtain ⟨q1, z2⟩ := zb_and z1
    obtain ⟨q2, z3⟩ := zb_and z2
    obtain ⟨q3, z4⟩ := zb_and z3
    have q4 := z4
    have e0 := zbeq q0
    subst e0
    have e1 := zbeq q1
    subst e1
    rw [zdo_2] at h
    exact zs_dstore hx hb (zble q2) (zdk_ok q3) (zbeq q4) h kk
  replace hc := zb_or hc
  rcases hc with ⟨-, z0⟩ | hc
  · unfold zkf_17 at z0
    obtain ⟨q0, z1⟩ := zb_and z0
    obtain ⟨q1, z2⟩ := zb_and z1
    obtain ⟨q2, z3⟩ := zb_and z2
    obtain ⟨q3, z4⟩ := zb_and z3
    obtain ⟨q4, z5⟩ := zb_and z4
    have q5 := z5
    have e0 := zbeq q0
    subst e0
    have e1 := zbeq q1
    subst e1
    rw [zdo_2] at h
    exact zs_dstore_n (i := zf4 a) hx hb (by rw [zf4_eq (zble q2)]; exact zble q3) (zdk_ok q4) (zbeq q5) (by rw [zf4_eq (zble q2)]; exact h) kk
  replace hc := zb_or hc
  rcases hc with ⟨-, z0⟩ | hc
  · unfold zkf_18 at z0
    obtain ⟨q0, z1⟩ := zb_and z0
    obtain ⟨q1, z2⟩ := zb_and z1
    obtain ⟨q2, z3⟩ := zb_and z2
    obtain ⟨q3, z4⟩ := zb_and z3
    have q4 := z4
    have e0 := zbeq q0
    subst e0
    have e1 := zbeq q1
    subst e1
    rw [zdo_2] at h
    exact zs_astore hx hb (zble q2) (zdk_ok q3) (zbeq q4) h kk
  replace hc := zb_or hc
  rcases hc with ⟨-, z0⟩ | hc
  · unfold zkf_19 at z0
    obtain ⟨q0, z1⟩ := zb_and z0
    obtain ⟨q1, z2⟩ := zb_and z1
    obtain ⟨q2, z3⟩ := zb_and z2
    obtain ⟨q3, z4⟩ := zb_and z3
    obtain ⟨q4, z5⟩ := zb_and z4
    have q5 := z5
    have e0 := zbeq q0
    subst e0
    have e1 := zbeq q1
    subst e1
    rw [zdo_2] at h
    exact zs_astore_n (i := zf4 a) hx hb (by rw [zf4_eq (zble q2)]; exact zble q3) (zdk_ok q4) (zbeq q5) (by rw [zf4_eq (zble q2)]; exact h) kk
  replace hc := zb_or hc
  rcases hc with ⟨-, z0⟩ | hc
  · unfold zkf_20 at z0
    obtain ⟨q0, z1⟩ := zb_and z0
    obtain ⟨q1, z2⟩ := zb_and z1
    obtain ⟨q2, z3⟩ := zb_and z2
    obtain ⟨q3, z4⟩ := zb_and z3
    obtain ⟨q4, z5⟩ := zb_and z4
    have q5 := z5
    have e0 := zbeq q0
    subst e0
    have e1 := of_decide_eq_true q1
    subst e1
    rw [zdo_3] at h
    exact zs_iinc hx hb (zble q2) (of_decide_eq_true q3) (zdk_ok q4) (zbeq q5) h kk
  replace hc := zb_or hc
  rcases hc with ⟨-, z0⟩ | hc
  · unfold zkf_21 at z0
    obtain ⟨q0, z1⟩ := zb_and z0
    obtain ⟨q1, z2⟩ := zb_and z1
    obtain ⟨q2, z3⟩ := zb_and z2
    obtain ⟨q3, z4⟩ := zb_and z3
    have q4 := z4
    have e0 := zbeq q0
    subst e0
    have e1 := of_decide_eq_true q1
    subst e1
    rw [zdo_1] at h
    exact zs_iconst hx hb (of_decide_eq_true q2) (zdk_ok q3) (zbeq q4) h kk
  replace hc := zb_or hc
  rcases hc with ⟨-, z0⟩ | hc
  · unfold zkf_22 at z0
    obtain ⟨q0, z1⟩ := zb_and z0
    obtain ⟨q1, z2⟩ := zb_and z1
    obtain ⟨q2, z3⟩ := zb_and z2
    obtain ⟨q3, z4⟩ := zb_and z3
    have q4 := z4
    have e0 := zbeq q0
    subst e0
    have e1 := of_decide_eq_true q1
    subst e1
    rw [zdo_1] at h
    exact zs_bipush hx hb (of_decide_eq_true q2) (zdk_ok q3) (zbeq q4) h kk
  replace hc := zb_or hc
  rcases hc with ⟨-, z0⟩ | hc
  · unfold zkf_23 at z0
    obtain ⟨q0, z1⟩ := zb_and z0
    obtain ⟨q1, z2⟩ := zb_and z1
    obtain ⟨q2, z3⟩ := zb_and z2
    obtain ⟨q3, z4⟩ := zb_and z3
    have q4 := z4
    have e0 := zbeq q0
    subst e0
    have e1 := of_decide_eq_true q1
    subst e1
    rw [zdo_1] at h
    exact zs_sipush hx hb (of_decide_eq_true q2) (zdk_ok q3) (zbeq q4) h kk
  replace hc := zb_or hc
  rcases hc with ⟨-, z0⟩ | hc
  · unfold zkf_24 at z0
    obtain ⟨q0, z1⟩ := zb_and z0
    obtain ⟨q1, z2⟩ := zb_and z1
    obtain ⟨q2, z3⟩ := zb_and z2
    obtain ⟨q3, z4⟩ := zb_and z3
    have q4 := z4
    have e0 := zbeq q0
    subst e0
    have e1 := of_decide_eq_true q1
    subst e1
    rw [zdo_1] at h
    exact zs_lconst (n := 0) hx hb (of_decide_eq_true q2) (zdk_ok q3) (zbeq q4) h kk
  replace hc := zb_or hc
  rcases hc with ⟨-, z0⟩ | hc
  · unfold zkf_25 at z0
    obtain ⟨q0, z1⟩ := zb_and z0
    obtain ⟨q1, z2⟩ := zb_and z1
    obtain ⟨q2, z3⟩ := zb_and z2
    obtain ⟨q3, z4⟩ := zb_and z3
    have q4 := z4
    have e0 := zbeq q0
    subst e0
    have e1 := of_decide_eq_true q1
    subst e1
    rw [zdo_1] at h
    exact zs_lconst (n := 1) hx hb (of_decide_eq_true q2) (zdk_ok q3) (zbeq q4) h kk
  replace hc := zb_or hc
  rcases hc with ⟨-, z0⟩ | hc
  · unfold zkf_26 at z0
    obtain ⟨q0, z1⟩ := zb_and z0
    obtain ⟨q1, z2⟩ := zb_and z1
    obtain ⟨q2, z3⟩ := zb_and z2
    have q3 := z3
    have e0 := zbeq q0
    subst e0
    have e1 := of_decide_eq_true q1
    subst e1
    rw [zdo_1] at h
    exact zs_fconst0 hx hb (zdk_ok q2) (zbeq q3) h kk
  replace hc := zb_or hc
  rcases hc with ⟨-, z0⟩ | hc
  · unfold zkf_27 at z0
    obtain ⟨q0, z1⟩ := zb_and z0
    obtain ⟨q1, z2⟩ := zb_and z1
    obtain ⟨q2, z3⟩ := zb_and z2
    have q3 := z3
    have e0 := zbeq q0
    subst e0
    have e1 := of_decide_eq_true q1
    subst e1
    rw [zdo_1] at h
    exact zs_dconst0 hx hb (zdk_ok q2) (zbeq q3) h kk
  replace hc := zb_or hc
  rcases hc with ⟨-, z0⟩ | hc
  · unfold zkf_28 at z0
    obtain ⟨q0, z1⟩ := zb_and z0
    obtain ⟨q1, z2⟩ := zb_and z1
    obtain ⟨q2, z3⟩ := zb_and z2
    obtain ⟨q3, z4⟩ := zb_and z3
    have q4 := z4
    have e0 := zbeq q0
    subst e0
    have e1 := of_decide_eq_true q1
    subst e1
    rw [zdo_1] at h
    exact zs_ldc2 hx hb hown (hts _ (zat_mem q2)) (zdk_ok q3) (zbeq q4) h kk
  replace hc := zb_or hc
  rcases hc with ⟨-, z0⟩ | hc
  · unfold zkf_29 at z0
    obtain ⟨q0, z1⟩ := zb_and z0
    obtain ⟨q1, z2⟩ := zb_and z1
    obtain ⟨q2, z3⟩ := zb_and z2
    obtain ⟨q3, z4⟩ := zb_and z3
    have q4 := z4
    have e0 := zbeq q0
    subst e0
    have e1 := of_decide_eq_true q1
    subst e1
    rw [zdo_1] at h
    exact (hF.2.2.2.1 _ (of_decide_eq_true q2)).elim fun sa hsa => zs_ldcS hx hb hown hsa (zdk_ok q3) (zbeq q4) h kk
  replace hc := zb_or hc
  rcases hc with ⟨-, z0⟩ | hc
  · unfold zkf_30 at z0
    obtain ⟨q0, z1⟩ := zb_and z0
    obtain ⟨q1, z2⟩ := zb_and z1
    obtain ⟨q2, z3⟩ := zb_and z2
    obtain ⟨q3, z4⟩ := zb_and z3
    have q4 := z4
    have e0 := zbeq q0
    subst e0
    have e1 := of_decide_eq_true q1
    subst e1
    rw [zdo_1] at h
    exact (hF.2.2.2.1 _ (of_decide_eq_true q2)).elim fun sa hsa => zs_ldcSW hx hb hown hsa (zdk_ok q3) (zbeq q4) h kk
  replace hc := zb_or hc
  rcases hc with ⟨-, z0⟩ | hc
  · unfold zkf_31 at z0
    obtain ⟨q0, z1⟩ := zb_and z0
    obtain ⟨q1, z2⟩ := zb_and z1
    obtain ⟨q2, z3⟩ := zb_and z2
    have q3 := z3
    have e0 := zbeq q0
    subst e0
    have e1 := zbeq q1
    subst e1
    rw [zdo_4] at h
    exact zs_iadd hx hb (zdk_ok q2) (zbeq q3) h kk
  replace hc := zb_or hc
  rcases hc with ⟨-, z0⟩ | hc
  · unfold zkf_32 at z0
    obtain ⟨q0, z1⟩ := zb_and z0
    obtain ⟨q1, z2⟩ := zb_and z1
    obtain ⟨q2, z3⟩ := zb_and z2
    have q3 := z3
    have e0 := zbeq q0
    subst e0
    have e1 := zbeq q1
    subst e1
    rw [zdo_4] at h
    exact zs_isub hx hb (zdk_ok q2) (zbeq q3) h kk
  replace hc := zb_or hc
  rcases hc with ⟨-, z0⟩ | hc
  · unfold zkf_33 at z0
    obtain ⟨q0, z1⟩ := zb_and z0
    obtain ⟨q1, z2⟩ := zb_and z1
    obtain ⟨q2, z3⟩ := zb_and z2
    have q3 := z3
    have e0 := zbeq q0
    subst e0
    have e1 := zbeq q1
    subst e1
    rw [zdo_4] at h
    exact zs_imul hx hb (zdk_ok q2) (zbeq q3) h kk
  replace hc := zb_or hc
  rcases hc with ⟨-, z0⟩ | hc
  · unfold zkf_34 at z0
    obtain ⟨q0, z1⟩ := zb_and z0
    obtain ⟨q1, z2⟩ := zb_and z1
    obtain ⟨q2, z3⟩ := zb_and z2
    have q3 := z3
    have e0 := zbeq q0
    subst e0
    have e1 := zbeq q1
    subst e1
    rw [zdo_4] at h
    exact zs_idiv hx hb (zdk_ok q2) (zbeq q3) h kk
  replace hc := zb_or hc
  rcases hc with ⟨-, z0⟩ | hc
  · unfold zkf_35 at z0
    obtain ⟨q0, z1⟩ := zb_and z0
    obtain ⟨q1, z2⟩ := zb_and z1
    obtain ⟨q2, z3⟩ := zb_and z2
    have q3 := z3
    have e0 := zbeq q0
    subst e0
    have e1 := zbeq q1
    subst e1
    rw [zdo_4] at h
    exact zs_irem hx hb (zdk_ok q2) (zbeq q3) h kk
  replace hc := zb_or hc
  rcases hc with ⟨-, z0⟩ | hc
  · unfold zkf_36 at z0
    obtain ⟨q0, z1⟩ := zb_and z0
    obtain ⟨q1, z2⟩ := zb_and z1
    obtain ⟨q2, z3⟩ := zb_and z2
    have q3 := z3
    have e0 := zbeq q0
    subst e0
    have e1 := zbeq q1
    subst e1
    rw [zdo_4] at h
    exact zs_iand hx hb (zdk_ok q2) (zbeq q3) h kk
  replace hc := zb_or hc
  rcases hc with ⟨-, z0⟩ | hc
  · unfold zkf_37 at z0
    obtain ⟨q0, z1⟩ := zb_and z0
    obtain ⟨q1, z2⟩ := zb_and z1
    obtain ⟨q2, z3⟩ := zb_and z2
    have q3 := z3
    have e0 := zbeq q0
    subst e0
    have e1 := zbeq q1
    subst e1
    rw [zdo_4] at h
    exact zs_ishl hx hb (zdk_ok q2) (zbeq q3) h kk
  replace hc := zb_or hc
  rcases hc with ⟨-, z0⟩ | hc
  · unfold zkf_38 at z0
    obtain ⟨q0, z1⟩ := zb_and z0
    obtain ⟨q1, z2⟩ := zb_and z1
    obtain ⟨q2, z3⟩ := zb_and z2
    have q3 := z3
    have e0 := zbeq q0
    subst e0
    have e1 := zbeq q1
    subst e1
    rw [zdo_4] at h
    exact zs_ishr hx hb (zdk_ok q2) (zbeq q3) h kk
  replace hc := zb_or hc
  rcases hc with ⟨-, z0⟩ | hc
  · unfold zkf_39 at z0
    obtain ⟨q0, z1⟩ := zb_and z0
    obtain ⟨q1, z2⟩ := zb_and z1
    obtain ⟨q2, z3⟩ := zb_and z2
    have q3 := z3
    have e0 := zbeq q0
    subst e0
    have e1 := zbeq q1
    subst e1
    rw [zdo_4] at h
    exact zs_ladd hx hb (zdk_ok q2) (zbeq q3) h kk
  replace hc := zb_or hc
  rcases hc with ⟨-, z0⟩ | hc
  · unfold zkf_40 at z0
    obtain ⟨q0, z1⟩ := zb_and z0
    obtain ⟨q1, z2⟩ := zb_and z1
    obtain ⟨q2, z3⟩ := zb_and z2
    have q3 := z3
    have e0 := zbeq q0
    subst e0
    have e1 := zbeq q1
    subst e1
    rw [zdo_4] at h
    exact zs_lmul hx hb (zdk_ok q2) (zbeq q3) h kk
  replace hc := zb_or hc
  rcases hc with ⟨-, z0⟩ | hc
  · unfold zkf_41 at z0
    obtain ⟨q0, z1⟩ := zb_and z0
    obtain ⟨q1, z2⟩ := zb_and z1
    obtain ⟨q2, z3⟩ := zb_and z2
    obtain ⟨q3, z4⟩ := zb_and z3
    have q4 := z4
    have e0 := zbeq q0
    subst e0
    have e1 := zbeq q1
    subst e1
    rw [zdo_6] at h
    exact zs_icmp_eq hx hb (of_decide_eq_true q2) (zdk_ok q3) (zbeq q4) h kk
  replace hc := zb_or hc
  rcases hc with ⟨-, z0⟩ | hc
  · unfold zkf_42 at z0
    obtain ⟨q0, z1⟩ := zb_and z0
    obtain ⟨q1, z2⟩ := zb_and z1
    obtain ⟨q2, z3⟩ := zb_and z2
    obtain ⟨q3, z4⟩ := zb_and z3
    have q4 := z4
    have e0 := zbeq q0
    subst e0
    have e1 := zbeq q1
    subst e1
    rw [zdo_5] at h
    exact zs_if_eq hx hb (of_decide_eq_true q2) (zdk_ok q3) (zbeq q4) h kk
  replace hc := zb_or hc
  rcases hc with ⟨-, z0⟩ | hc
  · unfold zkf_43 at z0
    obtain ⟨q0, z1⟩ := zb_and z0
    obtain ⟨q1, z2⟩ := zb_and z1
    obtain ⟨q2, z3⟩ := zb_and z2
    obtain ⟨q3, z4⟩ := zb_and z3
    have q4 := z4
    have e0 := zbeq q0
    subst e0
    have e1 := zbeq q1
    subst e1
    rw [zdo_6] at h
    exact zs_icmp_ne hx hb (of_decide_eq_true q2) (zdk_ok q3) (zbeq q4) h kk
  replace hc := zb_or hc
  rcases hc with ⟨-, z0⟩ | hc
  · unfold zkf_44 at z0
    obtain ⟨q0, z1⟩ := zb_and z0
    obtain ⟨q1, z2⟩ := zb_and z1
    obtain ⟨q2, z3⟩ := zb_and z2
    obtain ⟨q3, z4⟩ := zb_and z3
    have q4 := z4
    have e0 := zbeq q0
    subst e0
    have e1 := zbeq q1
    subst e1
    rw [zdo_5] at h
    exact zs_if_ne hx hb (of_decide_eq_true q2) (zdk_ok q3) (zbeq q4) h kk
  replace hc := zb_or hc
  rcases hc with ⟨-, z0⟩ | hc
  · unfold zkf_45 at z0
    obtain ⟨q0, z1⟩ := zb_and z0
    obtain ⟨q1, z2⟩ := zb_and z1
    obtain ⟨q2, z3⟩ := zb_and z2
    obtain ⟨q3, z4⟩ := zb_and z3
    have q4 := z4
    have e0 := zbeq q0
    subst e0
    have e1 := zbeq q1
    subst e1
    rw [zdo_6] at h
    exact zs_icmp_lt hx hb (of_decide_eq_true q2) (zdk_ok q3) (zbeq q4) h kk
  replace hc := zb_or hc
  rcases hc with ⟨-, z0⟩ | hc
  · unfold zkf_46 at z0
    obtain ⟨q0, z1⟩ := zb_and z0
    obtain ⟨q1, z2⟩ := zb_and z1
    obtain ⟨q2, z3⟩ := zb_and z2
    obtain ⟨q3, z4⟩ := zb_and z3
    have q4 := z4
    have e0 := zbeq q0
    subst e0
    have e1 := zbeq q1
    subst e1
    rw [zdo_5] at h
    exact zs_if_lt hx hb (of_decide_eq_true q2) (zdk_ok q3) (zbeq q4) h kk
  replace hc := zb_or hc
  rcases hc with ⟨-, z0⟩ | hc
  · unfold zkf_47 at z0
    obtain ⟨q0, z1⟩ := zb_and z0
    obtain ⟨q1, z2⟩ := zb_and z1
    obtain ⟨q2, z3⟩ := zb_and z2
    obtain ⟨q3, z4⟩ := zb_and z3
    have q4 := z4
    have e0 := zbeq q0
    subst e0
    have e1 := zbeq q1
    subst e1
    rw [zdo_6] at h
    exact zs_icmp_ge hx hb (of_decide_eq_true q2) (zdk_ok q3) (zbeq q4) h kk
  replace hc := zb_or hc
  rcases hc with ⟨-, z0⟩ | hc
  · unfold zkf_48 at z0
    obtain ⟨q0, z1⟩ := zb_and z0
    obtain ⟨q1, z2⟩ := zb_and z1
    obtain ⟨q2, z3⟩ := zb_and z2
    obtain ⟨q3, z4⟩ := zb_and z3
    have q4 := z4
    have e0 := zbeq q0
    subst e0
    have e1 := zbeq q1
    subst e1
    rw [zdo_5] at h
    exact zs_if_ge hx hb (of_decide_eq_true q2) (zdk_ok q3) (zbeq q4) h kk
  replace hc := zb_or hc
  rcases hc with ⟨-, z0⟩ | hc
  · unfold zkf_49 at z0
    obtain ⟨q0, z1⟩ := zb_and z0
    obtain ⟨q1, z2⟩ := zb_and z1
    obtain ⟨q2, z3⟩ := zb_and z2
    obtain ⟨q3, z4⟩ := zb_and z3
    have q4 := z4
    have e0 := zbeq q0
    subst e0
    have e1 := zbeq q1
    subst e1
    rw [zdo_6] at h
    exact zs_icmp_gt hx hb (of_decide_eq_true q2) (zdk_ok q3) (zbeq q4) h kk
  replace hc := zb_or hc
  rcases hc with ⟨-, z0⟩ | hc
  · unfold zkf_50 at z0
    obtain ⟨q0, z1⟩ := zb_and z0
    obtain ⟨q1, z2⟩ := zb_and z1
    obtain ⟨q2, z3⟩ := zb_and z2
    obtain ⟨q3, z4⟩ := zb_and z3
    have q4 := z4
    have e0 := zbeq q0
    subst e0
    have e1 := zbeq q1
    subst e1
    rw [zdo_5] at h
    exact zs_if_gt hx hb (of_decide_eq_true q2) (zdk_ok q3) (zbeq q4) h kk
  replace hc := zb_or hc
  rcases hc with ⟨-, z0⟩ | hc
  · unfold zkf_51 at z0
    obtain ⟨q0, z1⟩ := zb_and z0
    obtain ⟨q1, z2⟩ := zb_and z1
    obtain ⟨q2, z3⟩ := zb_and z2
    obtain ⟨q3, z4⟩ := zb_and z3
    have q4 := z4
    have e0 := zbeq q0
    subst e0
    have e1 := zbeq q1
    subst e1
    rw [zdo_6] at h
    exact zs_icmp_le hx hb (of_decide_eq_true q2) (zdk_ok q3) (zbeq q4) h kk
  replace hc := zb_or hc
  rcases hc with ⟨-, z0⟩ | hc
  · unfold zkf_52 at z0
    obtain ⟨q0, z1⟩ := zb_and z0
    obtain ⟨q1, z2⟩ := zb_and z1
    obtain ⟨q2, z3⟩ := zb_and z2
    obtain ⟨q3, z4⟩ := zb_and z3
    have q4 := z4
    have e0 := zbeq q0
    subst e0
    have e1 := zbeq q1
    subst e1
    rw [zdo_5] at h
    exact zs_if_le hx hb (of_decide_eq_true q2) (zdk_ok q3) (zbeq q4) h kk
  replace hc := zb_or hc
  rcases hc with ⟨-, z0⟩ | hc
  · unfold zkf_53 at z0
    obtain ⟨q0, z1⟩ := zb_and z0
    obtain ⟨q1, z2⟩ := zb_and z1
    have q2 := z2
    have e0 := zbeq q0
    subst e0
    rw [zdo_7] at h
    exact zs_goto hx hb (of_decide_eq_true q1) (zdk_ok q2) h kk
  replace hc := zb_or hc
  rcases hc with ⟨-, z0⟩ | hc
  · unfold zkf_54 at z0
    obtain ⟨q0, z1⟩ := zb_and z0
    obtain ⟨q1, z2⟩ := zb_and z1
    obtain ⟨q2, z3⟩ := zb_and z2
    have q3 := z3
    have e0 := zbeq q0
    subst e0
    rw [zdo_8] at h
    exact zf_getf hx hb hts hown q1 (zdk_ok q2) (zbeq q3) h kk
  replace hc := zb_or hc
  rcases hc with ⟨-, z0⟩ | hc
  · unfold zkf_55 at z0
    obtain ⟨q0, z1⟩ := zb_and z0
    obtain ⟨q1, z2⟩ := zb_and z1
    obtain ⟨q2, z3⟩ := zb_and z2
    obtain ⟨q3, z4⟩ := zb_and z3
    have q4 := z4
    have e0 := zbeq q0
    subst e0
    have e1 := of_decide_eq_true q1
    subst e1
    rw [zdo_9] at h
    exact zf_putf hx hb hts hown hnm q2 (zdk_ok q3) (zbeq q4) h kk
  replace hc := zb_or hc
  rcases hc with ⟨-, z0⟩ | hc
  · unfold zkf_56 at z0
    obtain ⟨q0, z1⟩ := zb_and z0
    obtain ⟨q1, z2⟩ := zb_and z1
    obtain ⟨q2, z3⟩ := zb_and z2
    have q3 := z3
    have e0 := zbeq q0
    subst e0
    have e1 := zbeq q1
    subst e1
    rw [zdo_10] at h
    exact zs_iaload hx hb hsc (zdk_ok q2) (zbeq q3) h kk
  replace hc := zb_or hc
  rcases hc with ⟨-, z0⟩ | hc
  · unfold zkf_57 at z0
    obtain ⟨q0, z1⟩ := zb_and z0
    obtain ⟨q1, z2⟩ := zb_and z1
    obtain ⟨q2, z3⟩ := zb_and z2
    have q3 := z3
    have e0 := zbeq q0
    subst e0
    have e1 := zbeq q1
    subst e1
    rw [zdo_10] at h
    exact zs_baload hx hb (zdk_ok q2) (zbeq q3) h kk
  replace hc := zb_or hc
  rcases hc with ⟨-, z0⟩ | hc
  · unfold zkf_58 at z0
    obtain ⟨q0, z1⟩ := zb_and z0
    obtain ⟨q1, z2⟩ := zb_and z1
    obtain ⟨q2, z3⟩ := zb_and z2
    have q3 := z3
    have e0 := zbeq q0
    subst e0
    have e1 := zbeq q1
    subst e1
    rw [zdo_10] at h
    exact zs_laload hx hb (zdk_ok q2) (zbeq q3) h kk
  replace hc := zb_or hc
  rcases hc with ⟨-, z0⟩ | hc
  · unfold zkf_59 at z0
    obtain ⟨q0, z1⟩ := zb_and z0
    obtain ⟨q1, z2⟩ := zb_and z1
    obtain ⟨q2, z3⟩ := zb_and z2
    have q3 := z3
    have e0 := zbeq q0
    subst e0
    have e1 := zbeq q1
    subst e1
    rw [zdo_10] at h
    exact zs_daload hx hb (zdk_ok q2) (zbeq q3) h kk
  replace hc := zb_or hc
  rcases hc with ⟨-, z0⟩ | hc
  · unfold zkf_60 at z0
    obtain ⟨q0, z1⟩ := zb_and z0
    obtain ⟨q1, z2⟩ := zb_and z1
    obtain ⟨q2, z3⟩ := zb_and z2
    have q3 := z3
    have e0 := zbeq q0
    subst e0
    have e1 := zbeq q1
    subst e1
    rw [zdo_10] at h
    exact zs_aaload hx hb (zdk_ok q2) (zbeq q3) h kk
  replace hc := zb_or hc
  rcases hc with ⟨-, z0⟩ | hc
  · unfold zkf_61 at z0
    obtain ⟨q0, z1⟩ := zb_and z0
    obtain ⟨q1, z2⟩ := zb_and z1
    obtain ⟨q2, z3⟩ := zb_and z2
    have q3 := z3
    have e0 := zbeq q0
    subst e0
    have e1 := zbeq q1
    subst e1
    rw [zdo_11] at h
    exact zs_iastore hx hb (zdk_ok q2) (zbeq q3) h kk
  replace hc := zb_or hc
  rcases hc with ⟨-, z0⟩ | hc
  · unfold zkf_62 at z0
    obtain ⟨q0, z1⟩ := zb_and z0
    obtain ⟨q1, z2⟩ := zb_and z1
    obtain ⟨q2, z3⟩ := zb_and z2
    have q3 := z3
    have e0 := zbeq q0
    subst e0
    have e1 := zbeq q1
    subst e1
    rw [zdo_11] at h
    exact zs_bastore hx hb (zdk_ok q2) (zbeq q3) h kk
  replace hc := zb_or hc
  rcases hc with ⟨-, z0⟩ | hc
  · unfold zkf_63 at z0
    obtain ⟨q0, z1⟩ := zb_and z0
    obtain ⟨q1, z2⟩ := zb_and z1
    obtain ⟨q2, z3⟩ := zb_and z2
    have q3 := z3
    have e0 := zbeq q0
    subst e0
    have e1 := zbeq q1
    subst e1
    rw [zdo_11] at h
    exact zs_lastore hx hb (zdk_ok q2) (zbeq q3) h kk
  replace hc := zb_or hc
  rcases hc with ⟨-, z0⟩ | hc
  · unfold zkf_64 at z0
    obtain ⟨q0, z1⟩ := zb_and z0
    obtain ⟨q1, z2⟩ := zb_and z1
    obtain ⟨q2, z3⟩ := zb_and z2
    have q3 := z3
    have e0 := zbeq q0
    subst e0
    have e1 := zbeq q1
    subst e1
    rw [zdo_11] at h
    exact zs_dastore hx hb (zdk_ok q2) (zbeq q3) h kk
  replace hc := zb_or hc
  rcases hc with ⟨-, z0⟩ | hc
  · unfold zkf_65 at z0
    obtain ⟨q0, z1⟩ := zb_and z0
    obtain ⟨q1, z2⟩ := zb_and z1
    obtain ⟨q2, z3⟩ := zb_and z2
    have q3 := z3
    have e0 := zbeq q0
    subst e0
    have e1 := zbeq q1
    subst e1
    rw [zdo_11] at h
    exact zs_aastore hx hb (r := (RX6, TX6, 5)) rfl rfl (zdk_ok q2) (zbeq q3) h kk
  replace hc := zb_or hc
  rcases hc with ⟨-, z0⟩ | hc
  · unfold zkf_66 at z0
    obtain ⟨q0, z1⟩ := zb_and z0
    obtain ⟨q1, z2⟩ := zb_and z1
    have q2 := z2
    have e0 := zbeq q0
    subst e0
    rw [zdo_12] at h
    exact zs_alen hx hb hsc (zdk_ok q1) (zbeq q2) h kk
  replace hc := zb_or hc
  rcases hc with ⟨-, z0⟩ | hc
  · unfold zkf_67 at z0
    obtain ⟨q0, z1⟩ := zb_and z0
    obtain ⟨q1, z2⟩ := zb_and z1
    obtain ⟨q2, z3⟩ := zb_and z2
    have q3 := z3
    have e0 := zbeq q0
    subst e0
    rw [zdo_13] at h
    exact zf_new hx hb hts hown hA q1 (zdk_ok q2) (zbeq q3) h hcs kk
  replace hc := zb_or hc
  rcases hc with ⟨-, z0⟩ | hc
  · unfold zkf_68 at z0
    obtain ⟨q0, z1⟩ := zb_and z0
    obtain ⟨q1, z2⟩ := zb_and z1
    obtain ⟨q2, z3⟩ := zb_and z2
    have q3 := z3
    have e0 := zbeq q0
    subst e0
    have e1 := zbeq q1
    subst e1
    rw [zdo_14] at h
    exact zs_newI hx hb (hts _ zac_I) hA (zdk_ok q2) (zbeq q3) h hcs kk
  replace hc := zb_or hc
  rcases hc with ⟨-, z0⟩ | hc
  · unfold zkf_69 at z0
    obtain ⟨q0, z1⟩ := zb_and z0
    obtain ⟨q1, z2⟩ := zb_and z1
    obtain ⟨q2, z3⟩ := zb_and z2
    have q3 := z3
    have e0 := zbeq q0
    subst e0
    have e1 := zbeq q1
    subst e1
    rw [zdo_14] at h
    exact zs_newB hx hb (hts _ zac_B) hA (zdk_ok q2) (zbeq q3) h hcs kk
  replace hc := zb_or hc
  rcases hc with ⟨-, z0⟩ | hc
  · unfold zkf_70 at z0
    obtain ⟨q0, z1⟩ := zb_and z0
    obtain ⟨q1, z2⟩ := zb_and z1
    obtain ⟨q2, z3⟩ := zb_and z2
    have q3 := z3
    have e0 := zbeq q0
    subst e0
    have e1 := zbeq q1
    subst e1
    rw [zdo_14] at h
    exact zs_newZ hx hb (hts _ zac_Z) hA (zdk_ok q2) (zbeq q3) h hcs kk
  replace hc := zb_or hc
  rcases hc with ⟨-, z0⟩ | hc
  · unfold zkf_71 at z0
    obtain ⟨q0, z1⟩ := zb_and z0
    obtain ⟨q1, z2⟩ := zb_and z1
    obtain ⟨q2, z3⟩ := zb_and z2
    have q3 := z3
    have e0 := zbeq q0
    subst e0
    have e1 := zbeq q1
    subst e1
    rw [zdo_14] at h
    exact zs_newJ hx hb (hts _ zac_J) hA (zdk_ok q2) (zbeq q3) h hcs kk
  replace hc := zb_or hc
  rcases hc with ⟨-, z0⟩ | hc
  · unfold zkf_72 at z0
    obtain ⟨q0, z1⟩ := zb_and z0
    obtain ⟨q1, z2⟩ := zb_and z1
    obtain ⟨q2, z3⟩ := zb_and z2
    have q3 := z3
    have e0 := zbeq q0
    subst e0
    have e1 := zbeq q1
    subst e1
    rw [zdo_14] at h
    exact zs_newD hx hb (hts _ zac_D) hA (zdk_ok q2) (zbeq q3) h hcs kk
  replace hc := zb_or hc
  rcases hc with ⟨-, z0⟩ | hc
  · unfold zkf_73 at z0
    obtain ⟨q0, z1⟩ := zb_and z0
    obtain ⟨q1, z2⟩ := zb_and z1
    obtain ⟨q2, z3⟩ := zb_and z2
    obtain ⟨q3, z4⟩ := zb_and z3
    have q4 := z4
    have e0 := zbeq q0
    subst e0
    have e1 := zbeq q1
    subst e1
    rw [zdo_14] at h
    exact zs_newq hx hb hown (hts _ (zat_mem q2)) hF.2.2.2.2.1 hA (zdk_ok q3) (zbeq q4) h hcs kk
  replace hc := zb_or hc
  rcases hc with ⟨-, z0⟩ | hc
  · unfold zkf_74 at z0
    obtain ⟨q0, z1⟩ := zb_and z0
    obtain ⟨q1, z2⟩ := zb_and z1
    have q2 := z2
    have e0 := zbeq q0
    subst e0
    rw [zdo_15] at h
    exact zf_inv hx hb hml hown hts hF hA hRf hRl hrec htb q1 (zbeq q2) h hcs kk
  replace hc := zb_or hc
  rcases hc with ⟨-, z0⟩ | hc
  · unfold zkf_75 at z0
    obtain ⟨q0, z1⟩ := zb_and z0
    obtain ⟨q1, z2⟩ := zb_and z1
    have q2 := z2
    have e0 := zbeq q0
    subst e0
    rw [zdo_17] at h
    exact zs_dup hx hb (zdk_ok q1) (zbeq q2) h kk
  replace hc := zb_or hc
  rcases hc with ⟨-, z0⟩ | hc
  · unfold zkf_76 at z0
    obtain ⟨q0, z1⟩ := zb_and z0
    obtain ⟨q1, z2⟩ := zb_and z1
    have q2 := z2
    have e0 := zbeq q0
    subst e0
    rw [zdo_18] at h
    exact zs_pop hx hb (zdk_ok q1) (zbeq q2) h kk
  replace hc := zb_or hc
  rcases hc with ⟨-, z0⟩ | hc
  · unfold zkf_77 at z0
    obtain ⟨q0, z1⟩ := zb_and z0
    obtain ⟨q1, z2⟩ := zb_and z1
    have q2 := z2
    have e0 := zbeq q0
    subst e0
    rw [zdo_19] at h
    exact zs_dup2 hx hb (zdk_ok q1) (zbeq q2) h kk
  replace hc := zb_or hc
  rcases hc with ⟨-, z0⟩ | hc
  · unfold zkf_78 at z0
    obtain ⟨q0, z1⟩ := zb_and z0
    obtain ⟨q1, z2⟩ := zb_and z1
    obtain ⟨q2, z3⟩ := zb_and z2
    have q3 := z3
    have e0 := zbeq q0
    subst e0
    have e1 := zbeq q1
    subst e1
    rw [zdo_20] at h
    exact zs_i2l hx hb (zdk_ok q2) (zbeq q3) h kk
  replace hc := zb_or hc
  rcases hc with ⟨-, z0⟩ | hc
  · unfold zkf_79 at z0
    obtain ⟨q0, z1⟩ := zb_and z0
    obtain ⟨q1, z2⟩ := zb_and z1
    obtain ⟨q2, z3⟩ := zb_and z2
    have q3 := z3
    have e0 := zbeq q0
    subst e0
    have e1 := zbeq q1
    subst e1
    rw [zdo_20] at h
    exact zs_l2i hx hb (zdk_ok q2) (zbeq q3) h kk
  replace hc := zb_or hc
  rcases hc with ⟨-, z0⟩ | hc
  · unfold zkf_80 at z0
    obtain ⟨q0, z1⟩ := zb_and z0
    obtain ⟨q1, z2⟩ := zb_and z1
    obtain ⟨q2, z3⟩ := zb_and z2
    have q3 := z3
    have e0 := zbeq q0
    subst e0
    have e1 := zbeq q1
    subst e1
    rw [zdo_20] at h
    exact zs_i2b hx hb (zdk_ok q2) (zbeq q3) h kk
  replace hc := zb_or hc
  rcases hc with ⟨-, z0⟩ | hc
  · unfold zkf_81 at z0
    obtain ⟨q0, z1⟩ := zb_and z0
    obtain ⟨q1, z2⟩ := zb_and z1
    obtain ⟨q2, z3⟩ := zb_and z2
    have q3 := z3
    have e0 := zbeq q0
    subst e0
    have e1 := zbeq q1
    subst e1
    rw [zdo_20] at h
    exact zs_f2d hx hb (zdk_ok q2) (zbeq q3) h kk
  replace hc := zb_or hc
  rcases hc with ⟨-, z0⟩ | hc
  · unfold zkf_82 at z0
    obtain ⟨q0, z1⟩ := zb_and z0
    obtain ⟨q1, z2⟩ := zb_and z1
    have q2 := z2
    have e0 := zbeq q0
    subst e0
    rw [zdo_21] at h
    exact zs_lcmp hx hb (zdk_ok q1) (zbeq q2) h kk
  replace hc := zb_or hc
  rcases hc with ⟨-, z0⟩ | hc
  · unfold zkf_83 at z0
    obtain ⟨q0, z1⟩ := zb_and z0
    obtain ⟨q1, z2⟩ := zb_and z1
    obtain ⟨q2, z3⟩ := zb_and z2
    have q3 := z3
    have e0 := zbeq q0
    subst e0
    have e1 := zbeq q1
    subst e1
    rw [zdo_22] at h
    exact zs_dcmp hx hb (zdk_ok q2) (zbeq q3) h kk
  replace hc := zb_or hc
  rcases hc with ⟨-, z0⟩ | hc
  · unfold zkf_84 at z0
    obtain ⟨q0, z1⟩ := zb_and z0
    obtain ⟨q1, z2⟩ := zb_and z1
    obtain ⟨q2, z3⟩ := zb_and z2
    have q3 := z3
    have e0 := zbeq q0
    subst e0
    have e1 := zbeq q1
    subst e1
    rw [zdo_22] at h
    exact zs_dcmp hx hb (zdk_ok q2) (zbeq q3) h kk
  replace hc := zb_or hc
  rcases hc with ⟨-, z0⟩ | hc
  · unfold zkf_85 at z0
    obtain ⟨q0, z1⟩ := zb_and z0
    obtain ⟨q1, z2⟩ := zb_and z1
    obtain ⟨q2, z3⟩ := zb_and z2
    have q3 := z3
    have e0 := zbeq q0
    subst e0
    rw [zdo_23] at h
    exact zs_ifnull hx hb (of_decide_eq_true q1) (zdk_ok q2) (zbeq q3) h kk
  replace hc := zb_or hc
  rcases hc with ⟨-, z0⟩ | hc
  · unfold zkf_86 at z0
    obtain ⟨q0, z1⟩ := zb_and z0
    obtain ⟨q1, z2⟩ := zb_and z1
    obtain ⟨q2, z3⟩ := zb_and z2
    obtain ⟨q3, z4⟩ := zb_and z3
    obtain ⟨q4, z5⟩ := zb_and z4
    have q5 := z5
    have e0 := zbeq q0
    subst e0
    rw [zdo_24] at h
    exact zs_switch hx hb (of_decide_eq_true q1) (of_decide_eq_true q2) (of_decide_eq_true q3) (ztswB_ok q4) (zdk_ok q5) h kk
  replace hc := zb_or hc
  rcases hc with ⟨-, z0⟩ | hc
  · unfold zkf_87 at z0
    obtain ⟨q0, z1⟩ := zb_and z0
    obtain ⟨q1, z2⟩ := zb_and z1
    obtain ⟨q2, z3⟩ := zb_and z2
    have q3 := z3
    have e0 := zbeq q0
    subst e0
    rw [zdo_26] at h
    exact zs_init hx hb hml hown (hts _ (zat_mem q1)) (hts _ zoi_1) (hts _ zoi_2) hRf1 hRl1 (zdk_ok q2) (zbeq q3) h kk
  replace hc := zb_or hc
  rcases hc with ⟨-, z0⟩ | hc
  · unfold zkf_88 at z0
    obtain ⟨q0, z1⟩ := zb_and z0
    obtain ⟨q1, z2⟩ := zb_and z1
    obtain ⟨q2, z3⟩ := zb_and z2
    obtain ⟨q3, z4⟩ := zb_and z3
    have q4 := z4
    have e0 := zbeq q0
    subst e0
    have e1 := zbeq q1
    subst e1
    rw [zdo_27] at h
    exact zs_mmax hx hb hml hown (hts _ (zat_mem q2)) (hts _ zmax_1) (hts _ zmath) (hts _ zmax_2) hRf1 hRl1 (zdk_ok q3) (zbeq q4) h hcs kk
  replace hc := zb_or hc
  rcases hc with ⟨-, z0⟩ | hc
  · unfold zkf_89 at z0
    obtain ⟨q0, z1⟩ := zb_and z0
    obtain ⟨q1, z2⟩ := zb_and z1
    obtain ⟨q2, z3⟩ := zb_and z2
    obtain ⟨q3, z4⟩ := zb_and z3
    have q4 := z4
    have e0 := zbeq q0
    subst e0
    have e1 := zbeq q1
    subst e1
    rw [zdo_27] at h
    exact zs_mmin hx hb hml hown (hts _ (zat_mem q2)) (hts _ zmin_1) (hts _ zmath) (hts _ zmin_2) hRf1 hRl1 (zdk_ok q3) (zbeq q4) h hcs kk
  replace hc := zb_or hc
  rcases hc with ⟨-, z0⟩ | hc
  · unfold zkf_90 at z0
    obtain ⟨q0, z1⟩ := zb_and z0
    obtain ⟨q1, z2⟩ := zb_and z1
    obtain ⟨q2, z3⟩ := zb_and z2
    have q3 := z3
    have e0 := zbeq q0
    subst e0
    rw [zdo_28] at h
    exact zs_copy hx hb hml hown (hts _ (zat_mem q1)) (hts _ zac_1) (hts _ zac_2) (hts _ zac_3) hRf1 hRl1 (zdk_ok q2) (zbeq q3) h kk
  replace hc := zb_or hc
  rcases hc with ⟨-, z0⟩ | hc
  · unfold zkf_91 at z0
    obtain ⟨q0, z1⟩ := zb_and z0
    obtain ⟨q1, z2⟩ := zb_and z1
    obtain ⟨q2, z3⟩ := zb_and z2
    have q3 := z3
    have e0 := zbeq q0
    subst e0
    have e1 := zbeq q1
    subst e1
    rw [zdo_16] at h
    exact (zret_inl h).elim
  replace hc := zb_or hc
  rcases hc with ⟨-, z0⟩ | hc
  · unfold zkf_92 at z0
    obtain ⟨q0, z1⟩ := zb_and z0
    obtain ⟨q1, z2⟩ := zb_and z1
    obtain ⟨q2, z3⟩ := zb_and z2
    have q3 := z3
    have e0 := zbeq q0
    subst e0
    have e1 := zbeq q1
    subst e1
    rw [zdo_16] at h
    exact (zret_inl h).elim
  replace hc := zb_or hc
  rcases hc with ⟨-, z0⟩ | hc
  · unfold zkf_93 at z0
    obtain ⟨q0, z1⟩ := zb_and z0
    obtain ⟨q1, z2⟩ := zb_and z1
    obtain ⟨q2, z3⟩ := zb_and z2
    have q3 := z3
    have e0 := zbeq q0
    subst e0
    have e1 := zbeq q1
    subst e1
    rw [zdo_16] at h
    exact (zret_inl h).elim
  replace hc := zb_or hc
  rcases hc with ⟨-, z0⟩ | hc
  · unfold zkf_94 at z0
    obtain ⟨q0, z1⟩ := zb_and z0
    obtain ⟨q1, z2⟩ := zb_and z1
    obtain ⟨q2, z3⟩ := zb_and z2
    have q3 := z3
    have e0 := zbeq q0
    subst e0
    have e1 := zbeq q1
    subst e1
    rw [zdo_16] at h
    exact (zret_inl h).elim
  replace hc := zb_or hc
  rcases hc with ⟨-, z0⟩ | hc
  · unfold zkf_95 at z0
    obtain ⟨q0, z1⟩ := zb_and z0
    obtain ⟨q1, z2⟩ := zb_and z1
    obtain ⟨q2, z3⟩ := zb_and z2
    have q3 := z3
    have e0 := zbeq q0
    subst e0
    have e1 := zbeq q1
    subst e1
    rw [zdo_16] at h
    exact (zret_inl h).elim
  replace hc := zb_or hc
  rcases hc with ⟨-, z0⟩ | hc
  · unfold zkf_96 at z0
    obtain ⟨q0, z1⟩ := zb_and z0
    obtain ⟨q1, z2⟩ := zb_and z1
    obtain ⟨q2, z3⟩ := zb_and z2
    have q3 := z3
    have e0 := zbeq q0
    subst e0
    have e1 := zbeq q1
    subst e1
    rw [zdo_16] at h
    exact (zret_inl h).elim
  replace hc := zb_or hc
  rcases hc with ⟨-, z0⟩ | hc
  · unfold zkf_97 at z0
    obtain ⟨q0, z1⟩ := zb_and z0
    obtain ⟨q1, z2⟩ := zb_and z1
    obtain ⟨q2, z3⟩ := zb_and z2
    have q3 := z3
    have e0 := zbeq q0
    subst e0
    have e1 := zbeq q1
    subst e1
    rw [zdo_16] at h
    exact (zret_inl h).elim
  replace hc := zb_or hc
  rcases hc with ⟨-, z0⟩ | hc
  · unfold zkf_98 at z0
    obtain ⟨q0, z1⟩ := zb_and z0
    obtain ⟨q1, z2⟩ := zb_and z1
    have q2 := z2
    have e0 := zbeq q0
    subst e0
    rw [zdo_25] at h
    exact (zthrow_inl h).elim
  replace hc := zb_or hc
  rcases hc with ⟨-, z0⟩ | hc
  · unfold zkf_99 at z0
    obtain ⟨q0, z1⟩ := zb_and z0
    obtain ⟨q1, z2⟩ := zb_and z1
    have q2 := z2
    have e0 := zbeq q0
    subst e0
    rw [zdo_25] at h
    exact (zthrow_inl h).elim
  replace hc := zb_or hc
  rcases hc with ⟨-, z0⟩ | hc
  · unfold zkf_100 at z0
    have q0 := z0
    have e0 := zbeq q0
    subst e0
    rw [zdo_99] at h
    exact (zX_inl h).elim
  cases hc
set_option maxHeartbeats 4000000 in
theorem zchk_inr (hx : p.tables.exec = Jvm.exec) (hb : c.code = cc) (hml : c.maxLocals = nL) (hown : s.vm.findClass own = some m.cls) (hts : ∀ w ∈ zGd, w.before args s = true) (hF : zFx A s) (hA : ∀ q, s.heap.size ≤ q → A q) (hRf : dd + 1 ≤ R.frames) (hRl : 39 * (dd + 1) + 10 ≤ R.locals) (htb : c.exceptionTable.toList = tb) (hfl : l.stackTraces = false) (hlocks : meth.locks = false) (hr : meth.sig.returnType = ret) (hAe : va_A cw0 s.heap.size = A)
    (hrec : ∀ (i : Nat) (as : List zV) (w : zW), (rec i as w).1 ≠ 9 → zMet l (zyOf (zword i)) (zword i) dd as w (rec i as w)) {f : zF} {pc op a bb : Nat} {lst : List Nat} {rest : List zE} {ls0 : zA} {st0 : List zV} {w : zW} {r : zR} (hc : zchk own cc nL ini tb ret f pc op a bb lst (zpc rest) = true)
    (h : zdo zobjs rec (dd + 1) full scr op a bb lst rest ls0 st0 w = Sum.inr r) (h9 : r.1 ≠ 9) (hcs : r.2.2.2.2.1 ≤ R.cells ∧ r.2.2.2.2.2 ≤ R.slots) : zG p l e R s m args below meth c nL D A b (zad cw0) (vx_MQ below (zQ D b s.heap.size cw0 r) (zXC D b s.heap.size cw0 r) args s r.2.2.2.2.1 r.2.2.2.2.2 (va_A cw0 s.heap.size)) ((pc, op, a, bb, lst) :: rest, ls0, st0, w) := by
  unfold zchk at hc
  replace hc := zb_or hc
  rcases hc with ⟨-, z0⟩ | hc
  · unfold zkf_0 at z0
    obtain ⟨q0, z1⟩ := zb_and z0
    obtain ⟨q1, z2⟩ := zb_and z1
    obtain ⟨q2, z3⟩ := zb_and z2
    have q3 := z3
    have e0 := zbeq q0
    subst e0
    have e1 := zbeq q1
    subst e1
    rw [zdo_0] at h
    exact (zgd_no (zgd_0 (rest := rest) (full := full) (w := w)) h h9).elim
  replace hc := zb_or hc
  rcases hc with ⟨-, z0⟩ | hc
  · unfold zkf_1 at z0
    obtain ⟨q0, z1⟩ := zb_and z0
    obtain ⟨q1, z2⟩ := zb_and z1
    obtain ⟨q2, z3⟩ := zb_and z2
    obtain ⟨q3, z4⟩ := zb_and z3
    have q4 := z4
    have e0 := zbeq q0
    subst e0
    have e1 := zbeq q1
    subst e1
    rw [zdo_0] at h
    exact (zgd_no (zgd_0 (rest := rest) (full := full) (w := w)) h h9).elim
  replace hc := zb_or hc
  rcases hc with ⟨-, z0⟩ | hc
  · unfold zkf_2 at z0
    obtain ⟨q0, z1⟩ := zb_and z0
    obtain ⟨q1, z2⟩ := zb_and z1
    obtain ⟨q2, z3⟩ := zb_and z2
    have q3 := z3
    have e0 := zbeq q0
    subst e0
    have e1 := zbeq q1
    subst e1
    rw [zdo_0] at h
    exact (zgd_no (zgd_0 (rest := rest) (full := full) (w := w)) h h9).elim
  replace hc := zb_or hc
  rcases hc with ⟨-, z0⟩ | hc
  · unfold zkf_3 at z0
    obtain ⟨q0, z1⟩ := zb_and z0
    obtain ⟨q1, z2⟩ := zb_and z1
    obtain ⟨q2, z3⟩ := zb_and z2
    obtain ⟨q3, z4⟩ := zb_and z3
    have q4 := z4
    have e0 := zbeq q0
    subst e0
    have e1 := zbeq q1
    subst e1
    rw [zdo_0] at h
    exact (zgd_no (zgd_0 (rest := rest) (full := full) (w := w)) h h9).elim
  replace hc := zb_or hc
  rcases hc with ⟨-, z0⟩ | hc
  · unfold zkf_4 at z0
    obtain ⟨q0, z1⟩ := zb_and z0
    obtain ⟨q1, z2⟩ := zb_and z1
    obtain ⟨q2, z3⟩ := zb_and z2
    have q3 := z3
    have e0 := zbeq q0
    subst e0
    have e1 := zbeq q1
    subst e1
    rw [zdo_0] at h
    exact (zgd_no (zgd_0 (rest := rest) (full := full) (w := w)) h h9).elim
  replace hc := zb_or hc
  rcases hc with ⟨-, z0⟩ | hc
  · unfold zkf_5 at z0
    obtain ⟨q0, z1⟩ := zb_and z0
    obtain ⟨q1, z2⟩ := zb_and z1
    obtain ⟨q2, z3⟩ := zb_and z2
    obtain ⟨q3, z4⟩ := zb_and z3
    have q4 := z4
    have e0 := zbeq q0
    subst e0
    have e1 := zbeq q1
    subst e1
    rw [zdo_0] at h
    exact (zgd_no (zgd_0 (rest := rest) (full := full) (w := w)) h h9).elim
  replace hc := zb_or hc
  rcases hc with ⟨-, z0⟩ | hc
  · unfold zkf_6 at z0
    obtain ⟨q0, z1⟩ := zb_and z0
    obtain ⟨q1, z2⟩ := zb_and z1
    obtain ⟨q2, z3⟩ := zb_and z2
    have q3 := z3
    have e0 := zbeq q0
    subst e0
    have e1 := zbeq q1
    subst e1
    rw [zdo_0] at h
    exact (zgd_no (zgd_0 (rest := rest) (full := full) (w := w)) h h9).elim
  replace hc := zb_or hc
  rcases hc with ⟨-, z0⟩ | hc
  · unfold zkf_7 at z0
    obtain ⟨q0, z1⟩ := zb_and z0
    obtain ⟨q1, z2⟩ := zb_and z1
    obtain ⟨q2, z3⟩ := zb_and z2
    obtain ⟨q3, z4⟩ := zb_and z3
    have q4 := z4
    have e0 := zbeq q0
    subst e0
    have e1 := zbeq q1
    subst e1
    rw [zdo_0] at h
    exact (zgd_no (zgd_0 (rest := rest) (full := full) (w := w)) h h9).elim
  replace hc := zb_or hc
  rcases hc with ⟨-, z0⟩ | hc
  · unfold zkf_8 at z0
    obtain ⟨q0, z1⟩ := zb_and z0
    obtain ⟨q1, z2⟩ := zb_and z1
    obtain ⟨q2, z3⟩ := zb_and z2
    have q3 := z3
    have e0 := zbeq q0
    subst e0
    have e1 := zbeq q1
    subst e1
    rw [zdo_0] at h
    exact (zgd_no (zgd_0 (rest := rest) (full := full) (w := w)) h h9).elim
  replace hc := zb_or hc
  rcases hc with ⟨-, z0⟩ | hc
  · unfold zkf_9 at z0
    obtain ⟨q0, z1⟩ := zb_and z0
    obtain ⟨q1, z2⟩ := zb_and z1
    obtain ⟨q2, z3⟩ := zb_and z2
    obtain ⟨q3, z4⟩ := zb_and z3
    have q4 := z4
    have e0 := zbeq q0
    subst e0
    have e1 := zbeq q1
    subst e1
    rw [zdo_0] at h
    exact (zgd_no (zgd_0 (rest := rest) (full := full) (w := w)) h h9).elim
  replace hc := zb_or hc
  rcases hc with ⟨-, z0⟩ | hc
  · unfold zkf_10 at z0
    obtain ⟨q0, z1⟩ := zb_and z0
    obtain ⟨q1, z2⟩ := zb_and z1
    obtain ⟨q2, z3⟩ := zb_and z2
    obtain ⟨q3, z4⟩ := zb_and z3
    have q4 := z4
    have e0 := zbeq q0
    subst e0
    have e1 := zbeq q1
    subst e1
    rw [zdo_2] at h
    exact (zgd_no (zgd_2 (rest := rest) (full := full) (w := w)) h h9).elim
  replace hc := zb_or hc
  rcases hc with ⟨-, z0⟩ | hc
  · unfold zkf_11 at z0
    obtain ⟨q0, z1⟩ := zb_and z0
    obtain ⟨q1, z2⟩ := zb_and z1
    obtain ⟨q2, z3⟩ := zb_and z2
    obtain ⟨q3, z4⟩ := zb_and z3
    obtain ⟨q4, z5⟩ := zb_and z4
    have q5 := z5
    have e0 := zbeq q0
    subst e0
    have e1 := zbeq q1
    subst e1
    rw [zdo_2] at h
    exact (zgd_no (zgd_2 (rest := rest) (full := full) (w := w)) h h9).elim
  replace hc := zb_or hc
  rcases hc with ⟨-, z0⟩ | hc
  · unfold zkf_12 at z0
    obtain ⟨q0, z1⟩ := zb_and z0
    obtain ⟨q1, z2⟩ := zb_and z1
    obtain ⟨q2, z3⟩ := zb_and z2
    obtain ⟨q3, z4⟩ := zb_and z3
    have q4 := z4
    have e0 := zbeq q0
    subst e0
    have e1 := zbeq q1
    subst e1
    rw [zdo_2] at h
    exact (zgd_no (zgd_2 (rest := rest) (full := full) (w := w)) h h9).elim
  replace hc := zb_or hc
  rcases hc with ⟨-, z0⟩ | hc
  · unfold zkf_13 at z0
    obtain ⟨q0, z1⟩ := zb_and z0
    obtain ⟨q1, z2⟩ := zb_and z1
    obtain ⟨q2, z3⟩ := zb_and z2
    obtain ⟨q3, z4⟩ := zb_and z3
    obtain ⟨q4, z5⟩ := zb_and z4
    have q5 := z5
    have e0 := zbeq q0
    subst e0
    have e1 := zbeq q1
    subst e1
    rw [zdo_2] at h
    exact (zgd_no (zgd_2 (rest := rest) (full := full) (w := w)) h h9).elim
  replace hc := zb_or hc
  rcases hc with ⟨-, z0⟩ | hc
  · unfold zkf_14 at z0
    obtain ⟨q0, z1⟩ := zb_and z0
    obtain ⟨q1, z2⟩ := zb_and z1
    obtain ⟨q2, z3⟩ := zb_and z2
    obtain ⟨q3, z4⟩ := zb_and z3
    have q4 := z4
    have e0 := zbeq q0
    subst e0
    have e1 := zbeq q1
    subst e1
    rw [zdo_2] at h
    exact (zgd_no (zgd_2 (rest := rest) (full := full) (w := w)) h h9).elim
  replace hc := zb_or hc
  rcases hc with ⟨-, z0⟩ | hc
  · unfold zkf_15 at z0
    obtain ⟨q0, z1⟩ := zb_and z0
    obtain ⟨q1, z2⟩ := zb_and z1
    obtain ⟨q2, z3⟩ := zb_and z2
    obtain ⟨q3, z4⟩ := zb_and z3
    obtain ⟨q4, z5⟩ := zb_and z4
    have q5 := z5
    have e0 := zbeq q0
    subst e0
    have e1 := zbeq q1
    subst e1
    rw [zdo_2] at h
    exact (zgd_no (zgd_2 (rest := rest) (full := full) (w := w)) h h9).elim
  replace hc := zb_or hc
  rcases hc with ⟨-, z0⟩ | hc
  · unfold zkf_16 at z0
    obtain ⟨q0, z1⟩ := zb_and z0
    obtain ⟨q1, z2⟩ := zb_and z1
    obtain ⟨q2, z3⟩ := zb_and z2
    obtain ⟨q3, z4⟩ := zb_and z3
    have q4 := z4
    have e0 := zbeq q0
    subst e0
    have e1 := zbeq q1
    subst e1
    rw [zdo_2] at h
    exact (zgd_no (zgd_2 (rest := rest) (full := full) (w := w)) h h9).elim
  replace hc := zb_or hc
  rcases hc with ⟨-, z0⟩ | hc
  · unfold zkf_17 at z0
    obtain ⟨q0, z1⟩ := zb_and z0
    obtain ⟨q1, z2⟩ := zb_and z1
    obtain ⟨q2, z3⟩ := zb_and z2
    obtain ⟨q3, z4⟩ := zb_and z3
    obtain ⟨q4, z5⟩ := zb_and z4
    have q5 := z5
    have e0 := zbeq q0
    subst e0
    have e1 := zbeq q1
    subst e1
    rw [zdo_2] at h
    exact (zgd_no (zgd_2 (rest := rest) (full := full) (w := w)) h h9).elim
  replace hc := zb_or hc
  rcases hc with ⟨-, z0⟩ | hc
  · unfold zkf_18 at z0
    obtain ⟨q0, z1⟩ := zb_and z0
    obtain ⟨q1, z2⟩ := zb_and z1
    obtain ⟨q2, z3⟩ := zb_and z2
    obtain ⟨q3, z4⟩ := zb_and z3
    have q4 := z4
    have e0 := zbeq q0
    subst e0
    have e1 := zbeq q1
    subst e1
    rw [zdo_2] at h
    exact (zgd_no (zgd_2 (rest := rest) (full := full) (w := w)) h h9).elim
  replace hc := zb_or hc
  rcases hc with ⟨-, z0⟩ | hc
  · unfold zkf_19 at z0
    obtain ⟨q0, z1⟩ := zb_and z0
    obtain ⟨q1, z2⟩ := zb_and z1
    obtain ⟨q2, z3⟩ := zb_and z2
    obtain ⟨q3, z4⟩ := zb_and z3
    obtain ⟨q4, z5⟩ := zb_and z4
    have q5 := z5
    have e0 := zbeq q0
    subst e0
    have e1 := zbeq q1
    subst e1
    rw [zdo_2] at h
    exact (zgd_no (zgd_2 (rest := rest) (full := full) (w := w)) h h9).elim
  replace hc := zb_or hc
  rcases hc with ⟨-, z0⟩ | hc
  · unfold zkf_20 at z0
    obtain ⟨q0, z1⟩ := zb_and z0
    obtain ⟨q1, z2⟩ := zb_and z1
    obtain ⟨q2, z3⟩ := zb_and z2
    obtain ⟨q3, z4⟩ := zb_and z3
    obtain ⟨q4, z5⟩ := zb_and z4
    have q5 := z5
    have e0 := zbeq q0
    subst e0
    have e1 := of_decide_eq_true q1
    subst e1
    rw [zdo_3] at h
    exact (zgd_no (zgd_3 (rest := rest) (full := full) (w := w)) h h9).elim
  replace hc := zb_or hc
  rcases hc with ⟨-, z0⟩ | hc
  · unfold zkf_21 at z0
    obtain ⟨q0, z1⟩ := zb_and z0
    obtain ⟨q1, z2⟩ := zb_and z1
    obtain ⟨q2, z3⟩ := zb_and z2
    obtain ⟨q3, z4⟩ := zb_and z3
    have q4 := z4
    have e0 := zbeq q0
    subst e0
    have e1 := of_decide_eq_true q1
    subst e1
    rw [zdo_1] at h
    exact (zgd_no (zgd_1 (rest := rest) (full := full) (w := w)) h h9).elim
  replace hc := zb_or hc
  rcases hc with ⟨-, z0⟩ | hc
  · unfold zkf_22 at z0
    obtain ⟨q0, z1⟩ := zb_and z0
    obtain ⟨q1, z2⟩ := zb_and z1
    obtain ⟨q2, z3⟩ := zb_and z2
    obtain ⟨q3, z4⟩ := zb_and z3
    have q4 := z4
    have e0 := zbeq q0
    subst e0
    have e1 := of_decide_eq_true q1
    subst e1
    rw [zdo_1] at h
    exact (zgd_no (zgd_1 (rest := rest) (full := full) (w := w)) h h9).elim
  replace hc := zb_or hc
  rcases hc with ⟨-, z0⟩ | hc
  · unfold zkf_23 at z0
    obtain ⟨q0, z1⟩ := zb_and z0
    obtain ⟨q1, z2⟩ := zb_and z1
    obtain ⟨q2, z3⟩ := zb_and z2
    obtain ⟨q3, z4⟩ := zb_and z3
    have q4 := z4
    have e0 := zbeq q0
    subst e0
    have e1 := of_decide_eq_true q1
    subst e1
    rw [zdo_1] at h
    exact (zgd_no (zgd_1 (rest := rest) (full := full) (w := w)) h h9).elim
  replace hc := zb_or hc
  rcases hc with ⟨-, z0⟩ | hc
  · unfold zkf_24 at z0
    obtain ⟨q0, z1⟩ := zb_and z0
    obtain ⟨q1, z2⟩ := zb_and z1
    obtain ⟨q2, z3⟩ := zb_and z2
    obtain ⟨q3, z4⟩ := zb_and z3
    have q4 := z4
    have e0 := zbeq q0
    subst e0
    have e1 := of_decide_eq_true q1
    subst e1
    rw [zdo_1] at h
    exact (zgd_no (zgd_1 (rest := rest) (full := full) (w := w)) h h9).elim
  replace hc := zb_or hc
  rcases hc with ⟨-, z0⟩ | hc
  · unfold zkf_25 at z0
    obtain ⟨q0, z1⟩ := zb_and z0
    obtain ⟨q1, z2⟩ := zb_and z1
    obtain ⟨q2, z3⟩ := zb_and z2
    obtain ⟨q3, z4⟩ := zb_and z3
    have q4 := z4
    have e0 := zbeq q0
    subst e0
    have e1 := of_decide_eq_true q1
    subst e1
    rw [zdo_1] at h
    exact (zgd_no (zgd_1 (rest := rest) (full := full) (w := w)) h h9).elim
  replace hc := zb_or hc
  rcases hc with ⟨-, z0⟩ | hc
  · unfold zkf_26 at z0
    obtain ⟨q0, z1⟩ := zb_and z0
    obtain ⟨q1, z2⟩ := zb_and z1
    obtain ⟨q2, z3⟩ := zb_and z2
    have q3 := z3
    have e0 := zbeq q0
    subst e0
    have e1 := of_decide_eq_true q1
    subst e1
    rw [zdo_1] at h
    exact (zgd_no (zgd_1 (rest := rest) (full := full) (w := w)) h h9).elim
  replace hc := zb_or hc
  rcases hc with ⟨-, z0⟩ | hc
  · unfold zkf_27 at z0
    obtain ⟨q0, z1⟩ := zb_and z0
    obtain ⟨q1, z2⟩ := zb_and z1
    obtain ⟨q2, z3⟩ := zb_and z2
    have q3 := z3
    have e0 := zbeq q0
    subst e0
    have e1 := of_decide_eq_true q1
    subst e1
    rw [zdo_1] at h
    exact (zgd_no (zgd_1 (rest := rest) (full := full) (w := w)) h h9).elim
  replace hc := zb_or hc
  rcases hc with ⟨-, z0⟩ | hc
  · unfold zkf_28 at z0
    obtain ⟨q0, z1⟩ := zb_and z0
    obtain ⟨q1, z2⟩ := zb_and z1
    obtain ⟨q2, z3⟩ := zb_and z2
    obtain ⟨q3, z4⟩ := zb_and z3
    have q4 := z4
    have e0 := zbeq q0
    subst e0
    have e1 := of_decide_eq_true q1
    subst e1
    rw [zdo_1] at h
    exact (zgd_no (zgd_1 (rest := rest) (full := full) (w := w)) h h9).elim
  replace hc := zb_or hc
  rcases hc with ⟨-, z0⟩ | hc
  · unfold zkf_29 at z0
    obtain ⟨q0, z1⟩ := zb_and z0
    obtain ⟨q1, z2⟩ := zb_and z1
    obtain ⟨q2, z3⟩ := zb_and z2
    obtain ⟨q3, z4⟩ := zb_and z3
    have q4 := z4
    have e0 := zbeq q0
    subst e0
    have e1 := of_decide_eq_true q1
    subst e1
    rw [zdo_1] at h
    exact (zgd_no (zgd_1 (rest := rest) (full := full) (w := w)) h h9).elim
  replace hc := zb_or hc
  rcases hc with ⟨-, z0⟩ | hc
  · unfold zkf_30 at z0
    obtain ⟨q0, z1⟩ := zb_and z0
    obtain ⟨q1, z2⟩ := zb_and z1
    obtain ⟨q2, z3⟩ := zb_and z2
    obtain ⟨q3, z4⟩ := zb_and z3
    have q4 := z4
    have e0 := zbeq q0
    subst e0
    have e1 := of_decide_eq_true q1
    subst e1
    rw [zdo_1] at h
    exact (zgd_no (zgd_1 (rest := rest) (full := full) (w := w)) h h9).elim
  replace hc := zb_or hc
  rcases hc with ⟨-, z0⟩ | hc
  · unfold zkf_31 at z0
    obtain ⟨q0, z1⟩ := zb_and z0
    obtain ⟨q1, z2⟩ := zb_and z1
    obtain ⟨q2, z3⟩ := zb_and z2
    have q3 := z3
    have e0 := zbeq q0
    subst e0
    have e1 := zbeq q1
    subst e1
    rw [zdo_4] at h
    exact (zgd_no (zgd_4 (rest := rest) (full := full) (w := w)) h h9).elim
  replace hc := zb_or hc
  rcases hc with ⟨-, z0⟩ | hc
  · unfold zkf_32 at z0
    obtain ⟨q0, z1⟩ := zb_and z0
    obtain ⟨q1, z2⟩ := zb_and z1
    obtain ⟨q2, z3⟩ := zb_and z2
    have q3 := z3
    have e0 := zbeq q0
    subst e0
    have e1 := zbeq q1
    subst e1
    rw [zdo_4] at h
    exact (zgd_no (zgd_4 (rest := rest) (full := full) (w := w)) h h9).elim
  replace hc := zb_or hc
  rcases hc with ⟨-, z0⟩ | hc
  · unfold zkf_33 at z0
    obtain ⟨q0, z1⟩ := zb_and z0
    obtain ⟨q1, z2⟩ := zb_and z1
    obtain ⟨q2, z3⟩ := zb_and z2
    have q3 := z3
    have e0 := zbeq q0
    subst e0
    have e1 := zbeq q1
    subst e1
    rw [zdo_4] at h
    exact (zgd_no (zgd_4 (rest := rest) (full := full) (w := w)) h h9).elim
  replace hc := zb_or hc
  rcases hc with ⟨-, z0⟩ | hc
  · unfold zkf_34 at z0
    obtain ⟨q0, z1⟩ := zb_and z0
    obtain ⟨q1, z2⟩ := zb_and z1
    obtain ⟨q2, z3⟩ := zb_and z2
    have q3 := z3
    have e0 := zbeq q0
    subst e0
    have e1 := zbeq q1
    subst e1
    rw [zdo_4] at h
    exact (zgd_no (zgd_4 (rest := rest) (full := full) (w := w)) h h9).elim
  replace hc := zb_or hc
  rcases hc with ⟨-, z0⟩ | hc
  · unfold zkf_35 at z0
    obtain ⟨q0, z1⟩ := zb_and z0
    obtain ⟨q1, z2⟩ := zb_and z1
    obtain ⟨q2, z3⟩ := zb_and z2
    have q3 := z3
    have e0 := zbeq q0
    subst e0
    have e1 := zbeq q1
    subst e1
    rw [zdo_4] at h
    exact (zgd_no (zgd_4 (rest := rest) (full := full) (w := w)) h h9).elim
  replace hc := zb_or hc
  rcases hc with ⟨-, z0⟩ | hc
  · unfold zkf_36 at z0
    obtain ⟨q0, z1⟩ := zb_and z0
    obtain ⟨q1, z2⟩ := zb_and z1
    obtain ⟨q2, z3⟩ := zb_and z2
    have q3 := z3
    have e0 := zbeq q0
    subst e0
    have e1 := zbeq q1
    subst e1
    rw [zdo_4] at h
    exact (zgd_no (zgd_4 (rest := rest) (full := full) (w := w)) h h9).elim
  replace hc := zb_or hc
  rcases hc with ⟨-, z0⟩ | hc
  · unfold zkf_37 at z0
    obtain ⟨q0, z1⟩ := zb_and z0
    obtain ⟨q1, z2⟩ := zb_and z1
    obtain ⟨q2, z3⟩ := zb_and z2
    have q3 := z3
    have e0 := zbeq q0
    subst e0
    have e1 := zbeq q1
    subst e1
    rw [zdo_4] at h
    exact (zgd_no (zgd_4 (rest := rest) (full := full) (w := w)) h h9).elim
  replace hc := zb_or hc
  rcases hc with ⟨-, z0⟩ | hc
  · unfold zkf_38 at z0
    obtain ⟨q0, z1⟩ := zb_and z0
    obtain ⟨q1, z2⟩ := zb_and z1
    obtain ⟨q2, z3⟩ := zb_and z2
    have q3 := z3
    have e0 := zbeq q0
    subst e0
    have e1 := zbeq q1
    subst e1
    rw [zdo_4] at h
    exact (zgd_no (zgd_4 (rest := rest) (full := full) (w := w)) h h9).elim
  replace hc := zb_or hc
  rcases hc with ⟨-, z0⟩ | hc
  · unfold zkf_39 at z0
    obtain ⟨q0, z1⟩ := zb_and z0
    obtain ⟨q1, z2⟩ := zb_and z1
    obtain ⟨q2, z3⟩ := zb_and z2
    have q3 := z3
    have e0 := zbeq q0
    subst e0
    have e1 := zbeq q1
    subst e1
    rw [zdo_4] at h
    exact (zgd_no (zgd_4 (rest := rest) (full := full) (w := w)) h h9).elim
  replace hc := zb_or hc
  rcases hc with ⟨-, z0⟩ | hc
  · unfold zkf_40 at z0
    obtain ⟨q0, z1⟩ := zb_and z0
    obtain ⟨q1, z2⟩ := zb_and z1
    obtain ⟨q2, z3⟩ := zb_and z2
    have q3 := z3
    have e0 := zbeq q0
    subst e0
    have e1 := zbeq q1
    subst e1
    rw [zdo_4] at h
    exact (zgd_no (zgd_4 (rest := rest) (full := full) (w := w)) h h9).elim
  replace hc := zb_or hc
  rcases hc with ⟨-, z0⟩ | hc
  · unfold zkf_41 at z0
    obtain ⟨q0, z1⟩ := zb_and z0
    obtain ⟨q1, z2⟩ := zb_and z1
    obtain ⟨q2, z3⟩ := zb_and z2
    obtain ⟨q3, z4⟩ := zb_and z3
    have q4 := z4
    have e0 := zbeq q0
    subst e0
    have e1 := zbeq q1
    subst e1
    rw [zdo_6] at h
    exact (zgd_no (zgd_6 (rest := rest) (full := full) (w := w)) h h9).elim
  replace hc := zb_or hc
  rcases hc with ⟨-, z0⟩ | hc
  · unfold zkf_42 at z0
    obtain ⟨q0, z1⟩ := zb_and z0
    obtain ⟨q1, z2⟩ := zb_and z1
    obtain ⟨q2, z3⟩ := zb_and z2
    obtain ⟨q3, z4⟩ := zb_and z3
    have q4 := z4
    have e0 := zbeq q0
    subst e0
    have e1 := zbeq q1
    subst e1
    rw [zdo_5] at h
    exact (zgd_no (zgd_5 (rest := rest) (full := full) (w := w)) h h9).elim
  replace hc := zb_or hc
  rcases hc with ⟨-, z0⟩ | hc
  · unfold zkf_43 at z0
    obtain ⟨q0, z1⟩ := zb_and z0
    obtain ⟨q1, z2⟩ := zb_and z1
    obtain ⟨q2, z3⟩ := zb_and z2
    obtain ⟨q3, z4⟩ := zb_and z3
    have q4 := z4
    have e0 := zbeq q0
    subst e0
    have e1 := zbeq q1
    subst e1
    rw [zdo_6] at h
    exact (zgd_no (zgd_6 (rest := rest) (full := full) (w := w)) h h9).elim
  replace hc := zb_or hc
  rcases hc with ⟨-, z0⟩ | hc
  · unfold zkf_44 at z0
    obtain ⟨q0, z1⟩ := zb_and z0
    obtain ⟨q1, z2⟩ := zb_and z1
    obtain ⟨q2, z3⟩ := zb_and z2
    obtain ⟨q3, z4⟩ := zb_and z3
    have q4 := z4
    have e0 := zbeq q0
    subst e0
    have e1 := zbeq q1
    subst e1
    rw [zdo_5] at h
    exact (zgd_no (zgd_5 (rest := rest) (full := full) (w := w)) h h9).elim
  replace hc := zb_or hc
  rcases hc with ⟨-, z0⟩ | hc
  · unfold zkf_45 at z0
    obtain ⟨q0, z1⟩ := zb_and z0
    obtain ⟨q1, z2⟩ := zb_and z1
    obtain ⟨q2, z3⟩ := zb_and z2
    obtain ⟨q3, z4⟩ := zb_and z3
    have q4 := z4
    have e0 := zbeq q0
    subst e0
    have e1 := zbeq q1
    subst e1
    rw [zdo_6] at h
    exact (zgd_no (zgd_6 (rest := rest) (full := full) (w := w)) h h9).elim
  replace hc := zb_or hc
  rcases hc with ⟨-, z0⟩ | hc
  · unfold zkf_46 at z0
    obtain ⟨q0, z1⟩ := zb_and z0
    obtain ⟨q1, z2⟩ := zb_and z1
    obtain ⟨q2, z3⟩ := zb_and z2
    obtain ⟨q3, z4⟩ := zb_and z3
    have q4 := z4
    have e0 := zbeq q0
    subst e0
    have e1 := zbeq q1
    subst e1
    rw [zdo_5] at h
    exact (zgd_no (zgd_5 (rest := rest) (full := full) (w := w)) h h9).elim
  replace hc := zb_or hc
  rcases hc with ⟨-, z0⟩ | hc
  · unfold zkf_47 at z0
    obtain ⟨q0, z1⟩ := zb_and z0
    obtain ⟨q1, z2⟩ := zb_and z1
    obtain ⟨q2, z3⟩ := zb_and z2
    obtain ⟨q3, z4⟩ := zb_and z3
    have q4 := z4
    have e0 := zbeq q0
    subst e0
    have e1 := zbeq q1
    subst e1
    rw [zdo_6] at h
    exact (zgd_no (zgd_6 (rest := rest) (full := full) (w := w)) h h9).elim
  replace hc := zb_or hc
  rcases hc with ⟨-, z0⟩ | hc
  · unfold zkf_48 at z0
    obtain ⟨q0, z1⟩ := zb_and z0
    obtain ⟨q1, z2⟩ := zb_and z1
    obtain ⟨q2, z3⟩ := zb_and z2
    obtain ⟨q3, z4⟩ := zb_and z3
    have q4 := z4
    have e0 := zbeq q0
    subst e0
    have e1 := zbeq q1
    subst e1
    rw [zdo_5] at h
    exact (zgd_no (zgd_5 (rest := rest) (full := full) (w := w)) h h9).elim
  replace hc := zb_or hc
  rcases hc with ⟨-, z0⟩ | hc
  · unfold zkf_49 at z0
    obtain ⟨q0, z1⟩ := zb_and z0
    obtain ⟨q1, z2⟩ := zb_and z1
    obtain ⟨q2, z3⟩ := zb_and z2
    obtain ⟨q3, z4⟩ := zb_and z3
    have q4 := z4
    have e0 := zbeq q0
    subst e0
    have e1 := zbeq q1
    subst e1
    rw [zdo_6] at h
    exact (zgd_no (zgd_6 (rest := rest) (full := full) (w := w)) h h9).elim
  replace hc := zb_or hc
  rcases hc with ⟨-, z0⟩ | hc
  · unfold zkf_50 at z0
    obtain ⟨q0, z1⟩ := zb_and z0
    obtain ⟨q1, z2⟩ := zb_and z1
    obtain ⟨q2, z3⟩ := zb_and z2
    obtain ⟨q3, z4⟩ := zb_and z3
    have q4 := z4
    have e0 := zbeq q0
    subst e0
    have e1 := zbeq q1
    subst e1
    rw [zdo_5] at h
    exact (zgd_no (zgd_5 (rest := rest) (full := full) (w := w)) h h9).elim
  replace hc := zb_or hc
  rcases hc with ⟨-, z0⟩ | hc
  · unfold zkf_51 at z0
    obtain ⟨q0, z1⟩ := zb_and z0
    obtain ⟨q1, z2⟩ := zb_and z1
    obtain ⟨q2, z3⟩ := zb_and z2
    obtain ⟨q3, z4⟩ := zb_and z3
    have q4 := z4
    have e0 := zbeq q0
    subst e0
    have e1 := zbeq q1
    subst e1
    rw [zdo_6] at h
    exact (zgd_no (zgd_6 (rest := rest) (full := full) (w := w)) h h9).elim
  replace hc := zb_or hc
  rcases hc with ⟨-, z0⟩ | hc
  · unfold zkf_52 at z0
    obtain ⟨q0, z1⟩ := zb_and z0
    obtain ⟨q1, z2⟩ := zb_and z1
    obtain ⟨q2, z3⟩ := zb_and z2
    obtain ⟨q3, z4⟩ := zb_and z3
    have q4 := z4
    have e0 := zbeq q0
    subst e0
    have e1 := zbeq q1
    subst e1
    rw [zdo_5] at h
    exact (zgd_no (zgd_5 (rest := rest) (full := full) (w := w)) h h9).elim
  replace hc := zb_or hc
  rcases hc with ⟨-, z0⟩ | hc
  · unfold zkf_53 at z0
    obtain ⟨q0, z1⟩ := zb_and z0
    obtain ⟨q1, z2⟩ := zb_and z1
    have q2 := z2
    have e0 := zbeq q0
    subst e0
    rw [zdo_7] at h
    exact (zgd_no (zgd_7 (rest := rest) (full := full) (w := w)) h h9).elim
  replace hc := zb_or hc
  rcases hc with ⟨-, z0⟩ | hc
  · unfold zkf_54 at z0
    obtain ⟨q0, z1⟩ := zb_and z0
    obtain ⟨q1, z2⟩ := zb_and z1
    obtain ⟨q2, z3⟩ := zb_and z2
    have q3 := z3
    have e0 := zbeq q0
    subst e0
    rw [zdo_8] at h
    exact (zgd_no (zgd_8 (rest := rest) (full := full) (w := w)) h h9).elim
  replace hc := zb_or hc
  rcases hc with ⟨-, z0⟩ | hc
  · unfold zkf_55 at z0
    obtain ⟨q0, z1⟩ := zb_and z0
    obtain ⟨q1, z2⟩ := zb_and z1
    obtain ⟨q2, z3⟩ := zb_and z2
    obtain ⟨q3, z4⟩ := zb_and z3
    have q4 := z4
    have e0 := zbeq q0
    subst e0
    have e1 := of_decide_eq_true q1
    subst e1
    rw [zdo_9] at h
    exact (zgd_no (zgd_9 (rest := rest) (full := full) (w := w)) h h9).elim
  replace hc := zb_or hc
  rcases hc with ⟨-, z0⟩ | hc
  · unfold zkf_56 at z0
    obtain ⟨q0, z1⟩ := zb_and z0
    obtain ⟨q1, z2⟩ := zb_and z1
    obtain ⟨q2, z3⟩ := zb_and z2
    have q3 := z3
    have e0 := zbeq q0
    subst e0
    have e1 := zbeq q1
    subst e1
    rw [zdo_10] at h
    exact (zgd_no (zgd_10 (rest := rest) (full := full) (w := w)) h h9).elim
  replace hc := zb_or hc
  rcases hc with ⟨-, z0⟩ | hc
  · unfold zkf_57 at z0
    obtain ⟨q0, z1⟩ := zb_and z0
    obtain ⟨q1, z2⟩ := zb_and z1
    obtain ⟨q2, z3⟩ := zb_and z2
    have q3 := z3
    have e0 := zbeq q0
    subst e0
    have e1 := zbeq q1
    subst e1
    rw [zdo_10] at h
    exact (zgd_no (zgd_10 (rest := rest) (full := full) (w := w)) h h9).elim
  replace hc := zb_or hc
  rcases hc with ⟨-, z0⟩ | hc
  · unfold zkf_58 at z0
    obtain ⟨q0, z1⟩ := zb_and z0
    obtain ⟨q1, z2⟩ := zb_and z1
    obtain ⟨q2, z3⟩ := zb_and z2
    have q3 := z3
    have e0 := zbeq q0
    subst e0
    have e1 := zbeq q1
    subst e1
    rw [zdo_10] at h
    exact (zgd_no (zgd_10 (rest := rest) (full := full) (w := w)) h h9).elim
  replace hc := zb_or hc
  rcases hc with ⟨-, z0⟩ | hc
  · unfold zkf_59 at z0
    obtain ⟨q0, z1⟩ := zb_and z0
    obtain ⟨q1, z2⟩ := zb_and z1
    obtain ⟨q2, z3⟩ := zb_and z2
    have q3 := z3
    have e0 := zbeq q0
    subst e0
    have e1 := zbeq q1
    subst e1
    rw [zdo_10] at h
    exact (zgd_no (zgd_10 (rest := rest) (full := full) (w := w)) h h9).elim
  replace hc := zb_or hc
  rcases hc with ⟨-, z0⟩ | hc
  · unfold zkf_60 at z0
    obtain ⟨q0, z1⟩ := zb_and z0
    obtain ⟨q1, z2⟩ := zb_and z1
    obtain ⟨q2, z3⟩ := zb_and z2
    have q3 := z3
    have e0 := zbeq q0
    subst e0
    have e1 := zbeq q1
    subst e1
    rw [zdo_10] at h
    exact (zgd_no (zgd_10 (rest := rest) (full := full) (w := w)) h h9).elim
  replace hc := zb_or hc
  rcases hc with ⟨-, z0⟩ | hc
  · unfold zkf_61 at z0
    obtain ⟨q0, z1⟩ := zb_and z0
    obtain ⟨q1, z2⟩ := zb_and z1
    obtain ⟨q2, z3⟩ := zb_and z2
    have q3 := z3
    have e0 := zbeq q0
    subst e0
    have e1 := zbeq q1
    subst e1
    rw [zdo_11] at h
    exact (zgd_no (zgd_11 (rest := rest) (full := full) (w := w)) h h9).elim
  replace hc := zb_or hc
  rcases hc with ⟨-, z0⟩ | hc
  · unfold zkf_62 at z0
    obtain ⟨q0, z1⟩ := zb_and z0
    obtain ⟨q1, z2⟩ := zb_and z1
    obtain ⟨q2, z3⟩ := zb_and z2
    have q3 := z3
    have e0 := zbeq q0
    subst e0
    have e1 := zbeq q1
    subst e1
    rw [zdo_11] at h
    exact (zgd_no (zgd_11 (rest := rest) (full := full) (w := w)) h h9).elim
  replace hc := zb_or hc
  rcases hc with ⟨-, z0⟩ | hc
  · unfold zkf_63 at z0
    obtain ⟨q0, z1⟩ := zb_and z0
    obtain ⟨q1, z2⟩ := zb_and z1
    obtain ⟨q2, z3⟩ := zb_and z2
    have q3 := z3
    have e0 := zbeq q0
    subst e0
    have e1 := zbeq q1
    subst e1
    rw [zdo_11] at h
    exact (zgd_no (zgd_11 (rest := rest) (full := full) (w := w)) h h9).elim
  replace hc := zb_or hc
  rcases hc with ⟨-, z0⟩ | hc
  · unfold zkf_64 at z0
    obtain ⟨q0, z1⟩ := zb_and z0
    obtain ⟨q1, z2⟩ := zb_and z1
    obtain ⟨q2, z3⟩ := zb_and z2
    have q3 := z3
    have e0 := zbeq q0
    subst e0
    have e1 := zbeq q1
    subst e1
    rw [zdo_11] at h
    exact (zgd_no (zgd_11 (rest := rest) (full := full) (w := w)) h h9).elim
  replace hc := zb_or hc
  rcases hc with ⟨-, z0⟩ | hc
  · unfold zkf_65 at z0
    obtain ⟨q0, z1⟩ := zb_and z0
    obtain ⟨q1, z2⟩ := zb_and z1
    obtain ⟨q2, z3⟩ := zb_and z2
    have q3 := z3
    have e0 := zbeq q0
    subst e0
    have e1 := zbeq q1
    subst e1
    rw [zdo_11] at h
    exact (zgd_no (zgd_11 (rest := rest) (full := full) (w := w)) h h9).elim
  replace hc := zb_or hc
  rcases hc with ⟨-, z0⟩ | hc
  · unfold zkf_66 at z0
    obtain ⟨q0, z1⟩ := zb_and z0
    obtain ⟨q1, z2⟩ := zb_and z1
    have q2 := z2
    have e0 := zbeq q0
    subst e0
    rw [zdo_12] at h
    exact (zgd_no (zgd_12 (rest := rest) (full := full) (w := w)) h h9).elim
  replace hc := zb_or hc
  rcases hc with ⟨-, z0⟩ | hc
  · unfold zkf_67 at z0
    obtain ⟨q0, z1⟩ := zb_and z0
    obtain ⟨q1, z2⟩ := zb_and z1
    obtain ⟨q2, z3⟩ := zb_and z2
    have q3 := z3
    have e0 := zbeq q0
    subst e0
    rw [zdo_13] at h
    exact (zgd_no (zgd_13 (rest := rest) (full := full) (w := w)) h h9).elim
  replace hc := zb_or hc
  rcases hc with ⟨-, z0⟩ | hc
  · unfold zkf_68 at z0
    obtain ⟨q0, z1⟩ := zb_and z0
    obtain ⟨q1, z2⟩ := zb_and z1
    obtain ⟨q2, z3⟩ := zb_and z2
    have q3 := z3
    have e0 := zbeq q0
    subst e0
    have e1 := zbeq q1
    subst e1
    rw [zdo_14] at h
    exact (zgd_no (zgd_14 (rest := rest) (full := full) (w := w)) h h9).elim
  replace hc := zb_or hc
  rcases hc with ⟨-, z0⟩ | hc
  · unfold zkf_69 at z0
    obtain ⟨q0, z1⟩ := zb_and z0
    obtain ⟨q1, z2⟩ := zb_and z1
    obtain ⟨q2, z3⟩ := zb_and z2
    have q3 := z3
    have e0 := zbeq q0
    subst e0
    have e1 := zbeq q1
    subst e1
    rw [zdo_14] at h
    exact (zgd_no (zgd_14 (rest := rest) (full := full) (w := w)) h h9).elim
  replace hc := zb_or hc
  rcases hc with ⟨-, z0⟩ | hc
  · unfold zkf_70 at z0
    obtain ⟨q0, z1⟩ := zb_and z0
    obtain ⟨q1, z2⟩ := zb_and z1
    obtain ⟨q2, z3⟩ := zb_and z2
    have q3 := z3
    have e0 := zbeq q0
    subst e0
    have e1 := zbeq q1
    subst e1
    rw [zdo_14] at h
    exact (zgd_no (zgd_14 (rest := rest) (full := full) (w := w)) h h9).elim
  replace hc := zb_or hc
  rcases hc with ⟨-, z0⟩ | hc
  · unfold zkf_71 at z0
    obtain ⟨q0, z1⟩ := zb_and z0
    obtain ⟨q1, z2⟩ := zb_and z1
    obtain ⟨q2, z3⟩ := zb_and z2
    have q3 := z3
    have e0 := zbeq q0
    subst e0
    have e1 := zbeq q1
    subst e1
    rw [zdo_14] at h
    exact (zgd_no (zgd_14 (rest := rest) (full := full) (w := w)) h h9).elim
  replace hc := zb_or hc
  rcases hc with ⟨-, z0⟩ | hc
  · unfold zkf_72 at z0
    obtain ⟨q0, z1⟩ := zb_and z0
    obtain ⟨q1, z2⟩ := zb_and z1
    obtain ⟨q2, z3⟩ := zb_and z2
    have q3 := z3
    have e0 := zbeq q0
    subst e0
    have e1 := zbeq q1
    subst e1
    rw [zdo_14] at h
    exact (zgd_no (zgd_14 (rest := rest) (full := full) (w := w)) h h9).elim
  replace hc := zb_or hc
  rcases hc with ⟨-, z0⟩ | hc
  · unfold zkf_73 at z0
    obtain ⟨q0, z1⟩ := zb_and z0
    obtain ⟨q1, z2⟩ := zb_and z1
    obtain ⟨q2, z3⟩ := zb_and z2
    obtain ⟨q3, z4⟩ := zb_and z3
    have q4 := z4
    have e0 := zbeq q0
    subst e0
    have e1 := zbeq q1
    subst e1
    rw [zdo_14] at h
    exact (zgd_no (zgd_14 (rest := rest) (full := full) (w := w)) h h9).elim
  replace hc := zb_or hc
  rcases hc with ⟨-, z0⟩ | hc
  · unfold zkf_74 at z0
    obtain ⟨q0, z1⟩ := zb_and z0
    obtain ⟨q1, z2⟩ := zb_and z1
    have q2 := z2
    have e0 := zbeq q0
    subst e0
    rw [zdo_15] at h
    exact zf_inv_out hx hb hml hown hts hF hA hlocks hAe hRf hRl hrec htb q1 h h9 hcs
  replace hc := zb_or hc
  rcases hc with ⟨-, z0⟩ | hc
  · unfold zkf_75 at z0
    obtain ⟨q0, z1⟩ := zb_and z0
    obtain ⟨q1, z2⟩ := zb_and z1
    have q2 := z2
    have e0 := zbeq q0
    subst e0
    rw [zdo_17] at h
    exact (zgd_no (zgd_17 (rest := rest) (full := full) (w := w)) h h9).elim
  replace hc := zb_or hc
  rcases hc with ⟨-, z0⟩ | hc
  · unfold zkf_76 at z0
    obtain ⟨q0, z1⟩ := zb_and z0
    obtain ⟨q1, z2⟩ := zb_and z1
    have q2 := z2
    have e0 := zbeq q0
    subst e0
    rw [zdo_18] at h
    exact (zgd_no (zgd_18 (rest := rest) (full := full) (w := w)) h h9).elim
  replace hc := zb_or hc
  rcases hc with ⟨-, z0⟩ | hc
  · unfold zkf_77 at z0
    obtain ⟨q0, z1⟩ := zb_and z0
    obtain ⟨q1, z2⟩ := zb_and z1
    have q2 := z2
    have e0 := zbeq q0
    subst e0
    rw [zdo_19] at h
    exact (zgd_no (zgd_19 (rest := rest) (full := full) (w := w)) h h9).elim
  replace hc := zb_or hc
  rcases hc with ⟨-, z0⟩ | hc
  · unfold zkf_78 at z0
    obtain ⟨q0, z1⟩ := zb_and z0
    obtain ⟨q1, z2⟩ := zb_and z1
    obtain ⟨q2, z3⟩ := zb_and z2
    have q3 := z3
    have e0 := zbeq q0
    subst e0
    have e1 := zbeq q1
    subst e1
    rw [zdo_20] at h
    exact (zgd_no (zgd_20 (rest := rest) (full := full) (w := w)) h h9).elim
  replace hc := zb_or hc
  rcases hc with ⟨-, z0⟩ | hc
  · unfold zkf_79 at z0
    obtain ⟨q0, z1⟩ := zb_and z0
    obtain ⟨q1, z2⟩ := zb_and z1
    obtain ⟨q2, z3⟩ := zb_and z2
    have q3 := z3
    have e0 := zbeq q0
    subst e0
    have e1 := zbeq q1
    subst e1
    rw [zdo_20] at h
    exact (zgd_no (zgd_20 (rest := rest) (full := full) (w := w)) h h9).elim
  replace hc := zb_or hc
  rcases hc with ⟨-, z0⟩ | hc
  · unfold zkf_80 at z0
    obtain ⟨q0, z1⟩ := zb_and z0
    obtain ⟨q1, z2⟩ := zb_and z1
    obtain ⟨q2, z3⟩ := zb_and z2
    have q3 := z3
    have e0 := zbeq q0
    subst e0
    have e1 := zbeq q1
    subst e1
    rw [zdo_20] at h
    exact (zgd_no (zgd_20 (rest := rest) (full := full) (w := w)) h h9).elim
  replace hc := zb_or hc
  rcases hc with ⟨-, z0⟩ | hc
  · unfold zkf_81 at z0
    obtain ⟨q0, z1⟩ := zb_and z0
    obtain ⟨q1, z2⟩ := zb_and z1
    obtain ⟨q2, z3⟩ := zb_and z2
    have q3 := z3
    have e0 := zbeq q0
    subst e0
    have e1 := zbeq q1
    subst e1
    rw [zdo_20] at h
    exact (zgd_no (zgd_20 (rest := rest) (full := full) (w := w)) h h9).elim
  replace hc := zb_or hc
  rcases hc with ⟨-, z0⟩ | hc
  · unfold zkf_82 at z0
    obtain ⟨q0, z1⟩ := zb_and z0
    obtain ⟨q1, z2⟩ := zb_and z1
    have q2 := z2
    have e0 := zbeq q0
    subst e0
    rw [zdo_21] at h
    exact (zgd_no (zgd_21 (rest := rest) (full := full) (w := w)) h h9).elim
  replace hc := zb_or hc
  rcases hc with ⟨-, z0⟩ | hc
  · unfold zkf_83 at z0
    obtain ⟨q0, z1⟩ := zb_and z0
    obtain ⟨q1, z2⟩ := zb_and z1
    obtain ⟨q2, z3⟩ := zb_and z2
    have q3 := z3
    have e0 := zbeq q0
    subst e0
    have e1 := zbeq q1
    subst e1
    rw [zdo_22] at h
    exact (zgd_no (zgd_22 (rest := rest) (full := full) (w := w)) h h9).elim
  replace hc := zb_or hc
  rcases hc with ⟨-, z0⟩ | hc
  · unfold zkf_84 at z0
    obtain ⟨q0, z1⟩ := zb_and z0
    obtain ⟨q1, z2⟩ := zb_and z1
    obtain ⟨q2, z3⟩ := zb_and z2
    have q3 := z3
    have e0 := zbeq q0
    subst e0
    have e1 := zbeq q1
    subst e1
    rw [zdo_22] at h
    exact (zgd_no (zgd_22 (rest := rest) (full := full) (w := w)) h h9).elim
  replace hc := zb_or hc
  rcases hc with ⟨-, z0⟩ | hc
  · unfold zkf_85 at z0
    obtain ⟨q0, z1⟩ := zb_and z0
    obtain ⟨q1, z2⟩ := zb_and z1
    obtain ⟨q2, z3⟩ := zb_and z2
    have q3 := z3
    have e0 := zbeq q0
    subst e0
    rw [zdo_23] at h
    exact (zgd_no (zgd_23 (rest := rest) (full := full) (w := w)) h h9).elim
  replace hc := zb_or hc
  rcases hc with ⟨-, z0⟩ | hc
  · unfold zkf_86 at z0
    obtain ⟨q0, z1⟩ := zb_and z0
    obtain ⟨q1, z2⟩ := zb_and z1
    obtain ⟨q2, z3⟩ := zb_and z2
    obtain ⟨q3, z4⟩ := zb_and z3
    obtain ⟨q4, z5⟩ := zb_and z4
    have q5 := z5
    have e0 := zbeq q0
    subst e0
    rw [zdo_24] at h
    exact (zgd_no (zgd_24 (rest := rest) (full := full) (w := w)) h h9).elim
  replace hc := zb_or hc
  rcases hc with ⟨-, z0⟩ | hc
  · unfold zkf_87 at z0
    obtain ⟨q0, z1⟩ := zb_and z0
    obtain ⟨q1, z2⟩ := zb_and z1
    obtain ⟨q2, z3⟩ := zb_and z2
    have q3 := z3
    have e0 := zbeq q0
    subst e0
    rw [zdo_26] at h
    exact (zgd_no (zgd_26 (rest := rest) (full := full) (w := w)) h h9).elim
  replace hc := zb_or hc
  rcases hc with ⟨-, z0⟩ | hc
  · unfold zkf_88 at z0
    obtain ⟨q0, z1⟩ := zb_and z0
    obtain ⟨q1, z2⟩ := zb_and z1
    obtain ⟨q2, z3⟩ := zb_and z2
    obtain ⟨q3, z4⟩ := zb_and z3
    have q4 := z4
    have e0 := zbeq q0
    subst e0
    have e1 := zbeq q1
    subst e1
    rw [zdo_27] at h
    exact (zgd_no (zgd_27 (rest := rest) (full := full) (w := w)) h h9).elim
  replace hc := zb_or hc
  rcases hc with ⟨-, z0⟩ | hc
  · unfold zkf_89 at z0
    obtain ⟨q0, z1⟩ := zb_and z0
    obtain ⟨q1, z2⟩ := zb_and z1
    obtain ⟨q2, z3⟩ := zb_and z2
    obtain ⟨q3, z4⟩ := zb_and z3
    have q4 := z4
    have e0 := zbeq q0
    subst e0
    have e1 := zbeq q1
    subst e1
    rw [zdo_27] at h
    exact (zgd_no (zgd_27 (rest := rest) (full := full) (w := w)) h h9).elim
  replace hc := zb_or hc
  rcases hc with ⟨-, z0⟩ | hc
  · unfold zkf_90 at z0
    obtain ⟨q0, z1⟩ := zb_and z0
    obtain ⟨q1, z2⟩ := zb_and z1
    obtain ⟨q2, z3⟩ := zb_and z2
    have q3 := z3
    have e0 := zbeq q0
    subst e0
    rw [zdo_28] at h
    exact (zgd_no (zgd_28 (rest := rest) (full := full) (w := w)) h h9).elim
  replace hc := zb_or hc
  rcases hc with ⟨-, z0⟩ | hc
  · unfold zkf_91 at z0
    obtain ⟨q0, z1⟩ := zb_and z0
    obtain ⟨q1, z2⟩ := zb_and z1
    obtain ⟨q2, z3⟩ := zb_and z2
    have q3 := z3
    have e0 := zbeq q0
    subst e0
    have e1 := zbeq q1
    subst e1
    rw [zdo_16] at h
    exact zs_iret hx hb (hr.trans (of_decide_eq_true q2)) hlocks hAe (zdk_ok q3) h h9
  replace hc := zb_or hc
  rcases hc with ⟨-, z0⟩ | hc
  · unfold zkf_92 at z0
    obtain ⟨q0, z1⟩ := zb_and z0
    obtain ⟨q1, z2⟩ := zb_and z1
    obtain ⟨q2, z3⟩ := zb_and z2
    have q3 := z3
    have e0 := zbeq q0
    subst e0
    have e1 := zbeq q1
    subst e1
    rw [zdo_16] at h
    exact zs_lret hx hb (hr.trans (of_decide_eq_true q2)) hlocks hAe (zdk_ok q3) h h9
  replace hc := zb_or hc
  rcases hc with ⟨-, z0⟩ | hc
  · unfold zkf_93 at z0
    obtain ⟨q0, z1⟩ := zb_and z0
    obtain ⟨q1, z2⟩ := zb_and z1
    obtain ⟨q2, z3⟩ := zb_and z2
    have q3 := z3
    have e0 := zbeq q0
    subst e0
    have e1 := zbeq q1
    subst e1
    rw [zdo_16] at h
    exact zs_fret hx hb (hr.trans (of_decide_eq_true q2)) hlocks hAe (zdk_ok q3) h h9
  replace hc := zb_or hc
  rcases hc with ⟨-, z0⟩ | hc
  · unfold zkf_94 at z0
    obtain ⟨q0, z1⟩ := zb_and z0
    obtain ⟨q1, z2⟩ := zb_and z1
    obtain ⟨q2, z3⟩ := zb_and z2
    have q3 := z3
    have e0 := zbeq q0
    subst e0
    have e1 := zbeq q1
    subst e1
    rw [zdo_16] at h
    exact zs_dret hx hb (hr.trans (of_decide_eq_true q2)) hlocks hAe (zdk_ok q3) h h9
  replace hc := zb_or hc
  rcases hc with ⟨-, z0⟩ | hc
  · unfold zkf_95 at z0
    obtain ⟨q0, z1⟩ := zb_and z0
    obtain ⟨q1, z2⟩ := zb_and z1
    obtain ⟨q2, z3⟩ := zb_and z2
    have q3 := z3
    have e0 := zbeq q0
    subst e0
    have e1 := zbeq q1
    subst e1
    rw [zdo_16] at h
    exact zs_zret hx hb (hr.trans (of_decide_eq_true q2)) hlocks hAe (zdk_ok q3) h h9
  replace hc := zb_or hc
  rcases hc with ⟨-, z0⟩ | hc
  · unfold zkf_96 at z0
    obtain ⟨q0, z1⟩ := zb_and z0
    obtain ⟨q1, z2⟩ := zb_and z1
    obtain ⟨q2, z3⟩ := zb_and z2
    have q3 := z3
    have e0 := zbeq q0
    subst e0
    have e1 := zbeq q1
    subst e1
    rw [zdo_16] at h
    exact (zarefB_ok q2).elim fun rt hrt => zs_aret hx hb (hr.trans hrt.1) hrt.2 hlocks hAe (zdk_ok q3) h h9
  replace hc := zb_or hc
  rcases hc with ⟨-, z0⟩ | hc
  · unfold zkf_97 at z0
    obtain ⟨q0, z1⟩ := zb_and z0
    obtain ⟨q1, z2⟩ := zb_and z1
    obtain ⟨q2, z3⟩ := zb_and z2
    have q3 := z3
    have e0 := zbeq q0
    subst e0
    have e1 := zbeq q1
    subst e1
    rw [zdo_16] at h
    exact zs_vret hx hb (hr.trans (of_decide_eq_true q2)) hlocks hAe (zdk_ok q3) h h9
  replace hc := zb_or hc
  rcases hc with ⟨-, z0⟩ | hc
  · unfold zkf_98 at z0
    obtain ⟨q0, z1⟩ := zb_and z0
    obtain ⟨q1, z2⟩ := zb_and z1
    have q2 := z2
    have e0 := zbeq q0
    subst e0
    rw [zdo_25] at h
    exact zs_throw hx hb hml hfl hown hts hF hlocks hAe (htb.trans (of_decide_eq_true q2)) hRf hRl hcs (zthrB_ok q1) h h9
  replace hc := zb_or hc
  rcases hc with ⟨-, z0⟩ | hc
  · unfold zkf_99 at z0
    obtain ⟨q0, z1⟩ := zb_and z0
    obtain ⟨q1, z2⟩ := zb_and z1
    have q2 := z2
    have e0 := zbeq q0
    subst e0
    rw [zdo_25] at h
    exact zs_throw hx hb hml hfl hown hts hF hlocks hAe (htb.trans (of_decide_eq_true q2)) hRf hRl hcs (zthrB_ok q1) h h9
  replace hc := zb_or hc
  rcases hc with ⟨-, z0⟩ | hc
  · unfold zkf_100 at z0
    have q0 := z0
    have e0 := zbeq q0
    subst e0
    rw [zdo_99] at h
    exact (zgd_no (zgd_X (rest := rest) (full := full) (w := w)) h h9).elim
  cases hc
end ZFF
