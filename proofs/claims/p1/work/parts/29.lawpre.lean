/-! ===== the law's own table holds, by pieces ===== -/
noncomputable def zchkC (own : String) (cc : ByteArray) (nL : Nat) (ini : Bool) (tb : List ExceptionTableEntry) (ret : Option FieldType) (fs : List zF) (es : List zE) (n : Nat) : Bool :=
  List.rec (motive := fun _ => List zF → Bool) (fun fs => List.rec (motive := fun _ => Bool) true (fun _ _ _ => false) fs)
    (fun e r ih fs => List.rec (motive := fun _ => Bool) false (fun f ft _ => zb (zchk own cc nL ini tb ret f e.1 e.2.1 e.2.2.1 e.2.2.2.1 e.2.2.2.2 (List.rec (motive := fun _ => Nat) n (fun h _ _ => h.1) r)) (ih ft) false) fs) es fs
theorem zP_chunk {own : String} {cc : ByteArray} {nL : Nat} {ini : Bool} {tb : List ExceptionTableEntry} {ret : Option FieldType} {n : Nat} {ys : List zE} : ∀ {xs : List zE} {fs : List zF}, zchkC own cc nL ini tb ret fs xs n = true → zP own cc nL ini tb ret ys → zpc ys = n → zP own cc nL ini tb ret (xs ++ ys)
  | [], _, _, h, _ => h
  | e :: r, [], h, _, _ => Bool.noConfusion h
  | e :: r, f :: ft, h, hy, hn => by
    obtain ⟨h1, h2⟩ := zb_and (show zb (zchk own cc nL ini tb ret f e.1 e.2.1 e.2.2.1 e.2.2.2.1 e.2.2.2.2 (List.rec (motive := fun _ => Nat) n (fun h _ _ => h.1) r)) (zchkC own cc nL ini tb ret ft r n) false = true from h)
    obtain ⟨gs, hg⟩ := zP_chunk h2 hy hn
    refine ⟨f :: gs, ?_⟩
    show zb (zchk own cc nL ini tb ret f e.1 e.2.1 e.2.2.1 e.2.2.2.1 e.2.2.2.2 (zpc (r ++ ys))) (zchkT own cc nL ini tb ret gs (r ++ ys)) false = true
    have e1 : zpc (r ++ ys) = List.rec (motive := fun _ => Nat) n (fun h _ _ => h.1) r := by
      cases r with
      | nil => exact hn
      | cons h t => rfl
    rw [e1, h1, hg]
    rfl

