/-! ===== a small abstract machine: ints as numbers or ranges, cells newest first; forced as it goes, so that the kernel runs it ===== -/
abbrev zV : Type := Nat × Nat × Nat
abbrev zA : Type := List (Nat × zV)
abbrev zC : Type := Nat × Nat × zV × zA
abbrev zW : Type := Nat × List zC × Nat × Nat
abbrev zE : Type := Nat × Nat × Nat × Nat × List Nat
abbrev zS : Type := List zE × zA × List zV × zW
abbrev zR : Type := Nat × zV × zW
abbrev zO : Type := zS ⊕ zR
noncomputable def zb {α : Type} (b : Bool) (t e : α) : α := Bool.rec e t b
noncomputable def zfN {α : Type} (n : Nat) (k : Nat → α) : α := Nat.rec (k (nat_lit 0)) (fun m _ => k (Nat.succ m)) n
noncomputable def zfV {α : Type} (v : zV) (k : zV → α) : α := Prod.rec (fun t q => Prod.rec (fun x y => k (t, x, y)) q) v
noncomputable def zget (l : zA) (k : Nat) (d : zV) : zV := List.rec (motive := fun _ => zV) d (fun h _ ih => zb (Nat.beq h.1 k) h.2 ih) l
noncomputable def zsetK {α : Type} (l : zA) (k : Nat) (v : zV) (c : zA → α) : α := List.rec (motive := fun _ => (zA → α) → α) (fun c => c [(k, v)]) (fun h t ih c => zb (Nat.beq h.1 k) (c ((k, v) :: t)) (ih (fun r => c (h :: r)))) l c
noncomputable def zcat2 (v : zV) : Bool := zb (Nat.beq v.1 (nat_lit 2)) true (zb (Nat.beq v.1 (nat_lit 3)) true (Nat.beq v.1 (nat_lit 7)))
noncomputable def zgone (i : Nat) (c2 : Bool) (h : Nat × zV) : Bool := zb (Nat.beq h.1 i) true (zb (Nat.beq (Nat.succ h.1) i) (zcat2 h.2) (zb c2 (Nat.beq h.1 (Nat.succ i)) false))
noncomputable def zremK {α : Type} (l : zA) (i : Nat) (c2 : Bool) (c : zA → α) : α := List.rec (motive := fun _ => (zA → α) → α) (fun c => c []) (fun h _ ih c => zb (zgone i c2 h) (ih c) (ih (fun r => c (h :: r)))) l c
noncomputable def znth (l : List zC) (p : Nat) : zC := List.rec (motive := fun _ => Nat → zC) (fun _ => ((nat_lit 999), (nat_lit 0), ((nat_lit 99), (nat_lit 0), (nat_lit 0)), [])) (fun h _ ih p => Nat.rec (motive := fun _ => zC) h (fun m _ => ih m) p) l p
noncomputable def zputK {α : Type} (l : List zC) (p : Nat) (x : zC) (c : List zC → α) : α := List.rec (motive := fun _ => Nat → (List zC → α) → α) (fun _ c => c []) (fun h t ih p c => Nat.rec (motive := fun _ => α) (c (x :: t)) (fun m _ => ih m (fun r => c (h :: r))) p) l p c
noncomputable def zcs (st : List zV) : Nat := List.rec (motive := fun _ => Nat) (nat_lit 0) (fun h _ ih => ih + (zb (zcat2 h) (nat_lit 2) (nat_lit 1))) st
/-- of a type: 0 int, 1 long, 2 float, 3 double, 4 reference -/
noncomputable def zis (t : Nat) (v : zV) : Bool :=
  zb (Nat.beq t (nat_lit 0)) (Nat.ble v.1 (nat_lit 1)) (zb (Nat.beq t (nat_lit 4)) (zb (Nat.beq v.1 (nat_lit 4)) true (zb (Nat.beq v.1 (nat_lit 5)) true (zb (Nat.beq v.1 (nat_lit 8)) true (Nat.beq v.1 (nat_lit 9))))) (zb (Nat.beq t (nat_lit 1)) (zb (Nat.beq v.1 (nat_lit 2)) true (Nat.beq v.1 (nat_lit 3))) (zb (Nat.beq t (nat_lit 2)) (Nat.beq v.1 (nat_lit 6)) (zb (Nat.beq t (nat_lit 3)) (Nat.beq v.1 (nat_lit 7)) false))))
noncomputable def zlo (v : zV) : Nat := zb (Nat.beq v.1 (nat_lit 0)) ((v.2.1 + (nat_lit 2147483648)) % (nat_lit 4294967296)) v.2.1
noncomputable def zhi (v : zV) : Nat := zb (Nat.beq v.1 (nat_lit 0)) ((v.2.1 + (nat_lit 2147483648)) % (nat_lit 4294967296)) v.2.2
noncomputable def zlo64 (v : zV) : Nat := zb (Nat.beq v.1 (nat_lit 2)) ((v.2.1 + (nat_lit 9223372036854775808)) % (nat_lit 18446744073709551616)) (v.2.1 + (nat_lit 9223372034707292160))
noncomputable def zhi64 (v : zV) : Nat := zb (Nat.beq v.1 (nat_lit 2)) ((v.2.1 + (nat_lit 9223372036854775808)) % (nat_lit 18446744073709551616)) (v.2.2 + (nat_lit 9223372034707292160))
/-- kept by a field or array of a small type -/
noncomputable def zsmall (ft : Nat) (u : zV) : Bool :=
  zb (Nat.beq ft (nat_lit 5)) (zb (Nat.beq u.1 (nat_lit 0)) (Nat.ble u.2.1 (nat_lit 1)) false)
    (zb (Nat.beq u.1 (nat_lit 0)) (zb (Nat.ble u.2.1 (nat_lit 127)) true (zb (Nat.ble (nat_lit 4294967168) u.2.1) (Nat.ble u.2.1 (nat_lit 4294967295)) false)) (zb (Nat.beq u.1 (nat_lit 1)) (zb (Nat.ble (nat_lit 2147483520) u.2.1) (Nat.ble u.2.2 (nat_lit 2147483775)) false) false))
noncomputable def zfit (ft : Nat) (u : zV) : Bool := zb (Nat.ble ft (nat_lit 4)) (zis ft u) (zsmall ft u)
noncomputable def zeq (u v : zV) : Bool := zb (Nat.beq u.1 v.1) (zb (Nat.beq u.2.1 v.2.1) (Nat.beq u.2.2 v.2.2) false) false
noncomputable def zR0 : zR := ((nat_lit 9), ((nat_lit 0), (nat_lit 0), (nat_lit 0)), ((nat_lit 0), [], (nat_lit 0), (nat_lit 0)))
noncomputable def zX : zO := Sum.inr zR0
noncomputable def zfindK (l : List zE) (t : Nat) (c : List zE → zO) : zO := List.rec (motive := fun _ => zO) zX (fun h r ih => zb (Nat.beq h.1 t) (c (h :: r)) ih) l
noncomputable def zfindS (l : List zE) (t : Nat) : List zE := List.rec (motive := fun _ => List zE) [] (fun h r ih => zb (Nat.beq h.1 t) (h :: r) ih) l
noncomputable def zgo (full : List zE) (t : Nat) (ls : zA) (st : List zV) (w : zW) : zO := zfindK full t (fun code => Sum.inl (code, ls, st, w))
/-- a comparison of two ints: 0 is it equal, 2 is it less -/
noncomputable def zcmpB (c a1 a2 b1 b2 : Nat) (k : Bool → zO) : zO :=
  zb (Nat.beq c (nat_lit 2)) (zb (Nat.ble (Nat.succ a2) b1) (k true) (zb (Nat.ble b2 a1) (k false) zX))
    (zb (Nat.ble (Nat.succ a2) b1) (k false) (zb (Nat.ble (Nat.succ b2) a1) (k false) (zb (Nat.beq a1 a2) (zb (Nat.beq b1 b2) (zb (Nat.beq a1 b1) (k true) zX) zX) zX)))
noncomputable def zcmp (c : Nat) (x y : zV) (k : Bool → zO) : zO :=
  zb (zis (nat_lit 0) x) (zb (zis (nat_lit 0) y)
    (zb (Nat.beq c (nat_lit 0)) (zcmpB (nat_lit 0) (zlo x) (zhi x) (zlo y) (zhi y) k)
    (zb (Nat.beq c (nat_lit 1)) (zcmpB (nat_lit 0) (zlo x) (zhi x) (zlo y) (zhi y) (fun b => k (not b)))
    (zb (Nat.beq c (nat_lit 2)) (zcmpB (nat_lit 2) (zlo x) (zhi x) (zlo y) (zhi y) k)
    (zb (Nat.beq c (nat_lit 3)) (zcmpB (nat_lit 2) (zlo x) (zhi x) (zlo y) (zhi y) (fun b => k (not b)))
    (zb (Nat.beq c (nat_lit 4)) (zcmpB (nat_lit 2) (zlo y) (zhi y) (zlo x) (zhi x) k)
    (zb (Nat.beq c (nat_lit 5)) (zcmpB (nat_lit 2) (zlo y) (zhi y) (zlo x) (zhi x) (fun b => k (not b))) zX)))))) zX) zX
noncomputable def zfC {α : Type} (c : zC) (k : Nat → Nat → zV → zA → α) : α := Prod.rec (fun kd q => Prod.rec (fun sz q => Prod.rec (fun d as => k kd sz d as) q) q) c
noncomputable def zfR {α : Type} (r : zR) (k : Nat → zV → Nat → List zC → Nat → Nat → α) : α := Prod.rec (fun kd q => Prod.rec (fun v q => Prod.rec (fun n q => Prod.rec (fun cs q => Prod.rec (fun nc ns => k kd v n cs nc ns) q) q) q) q) r
noncomputable def zfW {α : Type} (w : zW) (k : Nat → List zC → Nat → Nat → α) : α := Prod.rec (fun n q => Prod.rec (fun cs q => Prod.rec (fun nc ns => k n cs nc ns) q) q) w
noncomputable def zcellK (w : zW) (v : zV) (k : Nat → Nat → Nat → zV → zA → zO) : zO := zb (Nat.beq v.1 (nat_lit 4)) (zfN (w.1 - (Nat.succ v.2.1)) (fun p => zfC (znth w.2.1 p) (fun kd sz d as => k p kd sz d as))) zX
section ZOPS
variable (rest : List zE) (ls : zA) (st : List zV) (w : zW)
noncomputable def zoLoad (a b : Nat) : zO := zfV (zget ls a ((nat_lit 99), (nat_lit 0), (nat_lit 0))) (fun v => zb (zis b v) (Sum.inl (rest, ls, v :: st, w)) zX)
noncomputable def zoConst (l : List Nat) : zO := match l with
  | [t, x, y] => Sum.inl (rest, ls, (t, x, y) :: st, w)
  | _ => zX
noncomputable def zoStore (a b : Nat) : zO := match st with
  | v :: st' => zb (zis b v) (zremK ls a (zb (Nat.beq b (nat_lit 1)) true (Nat.beq b (nat_lit 3))) (fun ls' => Sum.inl (rest, (a, v) :: ls', st', w))) zX
  | [] => zX
noncomputable def zoInc (a : Nat) (l : List Nat) : zO := match l with
  | [x] => zfV (zget ls a ((nat_lit 99), (nat_lit 0), (nat_lit 0))) (fun v => zb (Nat.beq v.1 (nat_lit 0)) (zfN ((v.2.1 + x) % (nat_lit 4294967296)) (fun r => zremK ls a false (fun ls' => Sum.inl (rest, (a, ((nat_lit 0), r, (nat_lit 0))) :: ls', st, w)))) zX)
  | _ => zX
noncomputable def zar (a x y : Nat) (k : Nat → zO) : zO :=
  zb (Nat.beq a (nat_lit 0)) (zfN ((x + y) % (nat_lit 4294967296)) k)
  (zb (Nat.beq a (nat_lit 1)) (zfN ((x + ((nat_lit 4294967296) - (y % (nat_lit 4294967296)))) % (nat_lit 4294967296)) k)
  (zb (Nat.beq a (nat_lit 2)) (zfN ((x * y) % (nat_lit 4294967296)) k)
  (zb (Nat.beq a (nat_lit 3)) (zb (Nat.ble x (nat_lit 2147483647)) (zb (Nat.ble (nat_lit 1) y) (zb (Nat.ble y (nat_lit 2147483647)) (zfN (x / y) k) zX) zX) zX)
  (zb (Nat.beq a (nat_lit 4)) (zb (Nat.ble x (nat_lit 2147483647)) (zb (Nat.ble (nat_lit 1) y) (zb (Nat.ble y (nat_lit 2147483647)) (zfN (x % y) k) zX) zX) zX)
  (zb (Nat.beq a (nat_lit 5)) (zfN (x &&& y) k)
  (zb (Nat.beq a (nat_lit 6)) (zb (Nat.beq y (nat_lit 0)) (k x) zX) zX))))))
noncomputable def zoArith (a : Nat) : zO := match st with
  | y :: x :: st' =>
    zb (Nat.beq x.1 (nat_lit 0)) (zb (Nat.beq y.1 (nat_lit 0)) (zar a x.2.1 y.2.1 (fun r => Sum.inl (rest, ls, ((nat_lit 0), r, (nat_lit 0)) :: st', w)))
      (zb (zis (nat_lit 0) y) (zb (Nat.beq a (nat_lit 5)) (Sum.inl (rest, ls, ((nat_lit 1), (nat_lit 0), (nat_lit 4294967295)) :: st', w)) zX) zX))
    (zb (Nat.beq x.1 (nat_lit 2)) (zb (Nat.beq y.1 (nat_lit 2)) (zb (Nat.beq a (nat_lit 10)) (zfN ((x.2.1 + y.2.1) % (nat_lit 18446744073709551616)) (fun r => Sum.inl (rest, ls, ((nat_lit 2), r, (nat_lit 0)) :: st', w)))
      (zb (Nat.beq a (nat_lit 11)) (zfN ((x.2.1 * y.2.1) % (nat_lit 18446744073709551616)) (fun r => Sum.inl (rest, ls, ((nat_lit 2), r, (nat_lit 0)) :: st', w))) zX)) zX)
    (zb (zis (nat_lit 0) x) (zb (zis (nat_lit 0) y) (zb (Nat.beq a (nat_lit 5)) (Sum.inl (rest, ls, ((nat_lit 1), (nat_lit 0), (nat_lit 4294967295)) :: st', w)) (zb (Nat.beq a (nat_lit 7)) (Sum.inl (rest, ls, ((nat_lit 1), (nat_lit 0), (nat_lit 4294967295)) :: st', w)) zX)) zX) zX))
  | _ => zX
noncomputable def zoIf (full : List zE) (a b : Nat) : zO := match st with
  | x :: st' => zcmp b x ((nat_lit 0), (nat_lit 0), (nat_lit 0)) (fun t => zb t (zgo full a ls st' w) (Sum.inl (rest, ls, st', w)))
  | _ => zX
noncomputable def zoIcmp (full : List zE) (a b : Nat) : zO := match st with
  | y :: x :: st' => zcmp b x y (fun t => zb t (zgo full a ls st' w) (Sum.inl (rest, ls, st', w)))
  | _ => zX
noncomputable def zoGetf (a b : Nat) : zO := match st with
  | v :: st' => zcellK w v (fun _ kd _ d as => zb (Nat.beq kd a) (zfV (zget as b d) (fun u => Sum.inl (rest, ls, u :: st', w))) zX)
  | _ => zX
noncomputable def zoPutf (a b : Nat) (l : List Nat) : zO := match st with
  | u :: v :: st' => (match l with
    | [ft] => zcellK w v (fun p kd sz d as => zb (Nat.beq kd a) (zb (zfit ft u) (zsetK as b u (fun as => zputK w.2.1 p (kd, sz, d, as) (fun cs => Sum.inl (rest, ls, st', (w.1, cs, w.2.2.1, w.2.2.2))))) zX) zX)
    | _ => zX)
  | _ => zX
noncomputable def zkind (b kd : Nat) : Bool := zb (Nat.beq kd b) true (zb (Nat.beq b (nat_lit 101)) (Nat.beq kd (nat_lit 102)) false)
noncomputable def zscr (scr : List zV) (i : Nat) : zV := List.rec (motive := fun _ => Nat → zV) (fun _ => ((nat_lit 99), (nat_lit 0), (nat_lit 0))) (fun h _ ih p => Nat.rec (motive := fun _ => zV) h (fun m _ => ih m) p) scr i
noncomputable def zoAload (scr : List zV) (b : Nat) : zO := match st with
  | i :: v :: st' => zb (Nat.beq i.1 (nat_lit 0))
      (zb (Nat.beq v.1 (nat_lit 8)) (zb (Nat.beq b (nat_lit 100)) (zfV (zscr scr i.2.1) (fun u => zb (zis (nat_lit 0) u) (Sum.inl (rest, ls, u :: st', w)) zX)) zX)
        (zcellK w v (fun _ kd sz d as => zb (zkind b kd) (zb (Nat.ble (Nat.succ i.2.1) sz) (zfV (zget as i.2.1 d) (fun u => Sum.inl (rest, ls, u :: st', w))) zX) zX))) zX
  | _ => zX
noncomputable def zelem (kd : Nat) (u : zV) : Bool :=
  zb (Nat.beq kd (nat_lit 100)) (zis (nat_lit 0) u) (zb (Nat.beq kd (nat_lit 103)) (zis (nat_lit 1) u) (zb (Nat.beq kd (nat_lit 101)) (zsmall (nat_lit 6) u) (zb (Nat.beq kd (nat_lit 102)) (zsmall (nat_lit 5) u) (zb (Nat.beq kd (nat_lit 104)) (zis (nat_lit 3) u) (zb (Nat.beq kd (nat_lit 105)) (Nat.beq u.1 (nat_lit 4)) false)))))
noncomputable def zisState (w : zW) (u : zV) (k : zO) : zO := zcellK w u (fun _ kd _ _ _ => zb (Nat.beq kd (nat_lit 6)) k zX)
noncomputable def zoAstore (b : Nat) : zO := match st with
  | u :: i :: v :: st' => zb (Nat.beq i.1 (nat_lit 0))
      (zcellK w v (fun p kd sz d as => zb (zkind b kd) (zb (Nat.ble (Nat.succ i.2.1) sz) (zb (zelem kd u)
        ((fun k => zb (Nat.beq kd (nat_lit 105)) (zisState w u k) k)
          (zfV (zget as i.2.1 d) (fun q => zb (zeq q u) (Sum.inl (rest, ls, st', w))
            (zsetK as i.2.1 u (fun as => zputK w.2.1 p (kd, sz, d, as) (fun cs => Sum.inl (rest, ls, st', (w.1, cs, w.2.2.1, w.2.2.2))))))))
        zX) zX) zX)) zX
  | _ => zX
noncomputable def zoLen (scr : List zV) : zO := match st with
  | v :: st' => zb (Nat.beq v.1 (nat_lit 8)) (zfN scr.length (fun n => zb (Nat.beq n (nat_lit 0)) zX (Sum.inl (rest, ls, ((nat_lit 0), n, (nat_lit 0)) :: st', w))))
      (zcellK w v (fun _ kd sz _ _ => zb (Nat.ble (nat_lit 100) kd) (zfN sz (fun n => Sum.inl (rest, ls, ((nat_lit 0), n, (nat_lit 0)) :: st', w))) zX))
  | _ => zX
/-- the classes' objects when new: how many fields, what each holds -/
noncomputable def zobjK (objs : List (Nat × zA)) (a : Nat) (k : Nat → zA → zO) : zO := List.rec (motive := fun _ => Nat → zO) (fun _ => zX) (fun h _ ih p => Nat.rec (motive := fun _ => zO) (k h.1 h.2) (fun m _ => ih m) p) objs a
noncomputable def zoNew (objs : List (Nat × zA)) (a : Nat) : zO := zobjK objs a (fun N fs => zfN (Nat.succ w.1) (fun n => zfN (Nat.succ w.2.2.1) (fun nc => zfN (w.2.2.2 + N) (fun ns => Sum.inl (rest, ls, ((nat_lit 4), w.1, (nat_lit 0)) :: st, (n, (a, N, ((nat_lit 5), (nat_lit 0), (nat_lit 0)), fs) :: w.2.1, nc, ns))))))
noncomputable def zdf (a : Nat) : zV := zb (Nat.beq a (nat_lit 103)) ((nat_lit 2), (nat_lit 0), (nat_lit 0)) (zb (Nat.beq a (nat_lit 104)) ((nat_lit 7), (nat_lit 0), (nat_lit 0)) (zb (Nat.beq a (nat_lit 105)) ((nat_lit 5), (nat_lit 0), (nat_lit 0)) ((nat_lit 0), (nat_lit 0), (nat_lit 0))))
noncomputable def zoNewarr (a : Nat) : zO := match st with
  | v :: st' => zb (Nat.beq v.1 (nat_lit 0)) (zb (Nat.ble v.2.1 (nat_lit 60000)) (zfV (zdf a) (fun d => zfN (Nat.succ w.1) (fun n => zfN (Nat.succ w.2.2.1) (fun nc => zfN (w.2.2.2 + v.2.1) (fun ns => Sum.inl (rest, ls, ((nat_lit 4), w.1, (nat_lit 0)) :: st', (n, (a, v.2.1, d, []) :: w.2.1, nc, ns))))))) zX) zX
  | _ => zX
noncomputable def zpopK (n : Nat) (st : List zV) (acc : List zV) (k : List zV → List zV → zO) : zO := Nat.rec (motive := fun _ => List zV → List zV → zO) (fun st acc => k acc st) (fun _ ih st acc => List.rec (motive := fun _ => zO) zX (fun h t _ => ih t (h :: acc)) st) n st acc
noncomputable def zhand (full : List zE) (hs : List Nat) (v : zV) (w2 : zW) : zO := match hs with
  | e1 :: t1 :: hs1 => zb (Nat.beq e1 v.1) (zgo full t1 ls [((nat_lit 9), (nat_lit 0), (nat_lit 0))] w2) (match hs1 with
    | e2 :: t2 :: _ => zb (Nat.beq e2 v.1) (zgo full t2 ls [((nat_lit 9), (nat_lit 0), (nat_lit 0))] w2) zX
    | _ => zX)
  | _ => Sum.inr ((nat_lit 2), v, w2)
/-- the receiver: kind 0 a virtual call, 2 and 3 constructors, 1 and 4 static -/
noncomputable def zrecv (kd rc : Nat) (w : zW) (as : List zV) (k : zO) : zO := zb (Nat.beq kd (nat_lit 1)) k (zb (Nat.beq kd (nat_lit 4)) k (match as with
  | r :: _ => zcellK w r (fun _ ck _ _ _ => zb (Nat.beq kd (nat_lit 0)) (zb (Nat.beq ck rc) k zX) k)
  | [] => zX))
noncomputable def zoInvoke (rec : Nat → List zV → zW → zR) (full : List zE) (a b : Nat) (l : List Nat) : zO := match l with
  | kd :: rc :: hs => zpopK b st [] (fun as st' => zb (Nat.ble (zcs st') (nat_lit 8)) (zrecv kd rc w as
      (zfW w (fun n0 cs0 nc0 ns0 => zfR (rec a as (n0, cs0, (nat_lit 0), (nat_lit 0))) (fun rk v n cs mc ms => zfN (nc0 + mc) (fun nc => zfN (ns0 + ms) (fun ns =>
        zb (Nat.beq rk (nat_lit 0)) (Sum.inl (rest, ls, st', (n, cs, nc, ns)))
        (zb (Nat.beq rk (nat_lit 1)) (zfV v (fun v => Sum.inl (rest, ls, v :: st', (n, cs, nc, ns))))
        (zb (Nat.beq rk (nat_lit 2)) (zhand ls full hs v (n, cs, nc, ns)) zX)))))))) zX)
  | _ => zX
noncomputable def zoRet (b : Nat) : zO := zb (Nat.beq b (nat_lit 5)) (match st with
    | [] => Sum.inr ((nat_lit 0), ((nat_lit 0), (nat_lit 0), (nat_lit 0)), w)
    | _ => zX)
  (match st with
    | [v] => zb (zb (Nat.beq b (nat_lit 6)) (zsmall (nat_lit 5) v) (zis b v)) (Sum.inr ((nat_lit 1), v, w)) zX
    | _ => zX)
noncomputable def zoDup : zO := match st with
  | v :: st' => zb (zcat2 v) zX (Sum.inl (rest, ls, v :: v :: st', w))
  | _ => zX
noncomputable def zoPop : zO := match st with
  | v :: st' => zb (zcat2 v) zX (Sum.inl (rest, ls, st', w))
  | _ => zX
noncomputable def zoDup2 : zO := match st with
  | u :: v :: st' => zb (zcat2 u) zX (zb (zcat2 v) zX (Sum.inl (rest, ls, u :: v :: u :: v :: st', w)))
  | _ => zX
noncomputable def zoConv (a : Nat) : zO := match st with
  | v :: st' =>
    zb (Nat.beq a (nat_lit 0)) (zb (Nat.beq v.1 (nat_lit 0)) (zb (Nat.ble v.2.1 (nat_lit 2147483647)) (Sum.inl (rest, ls, ((nat_lit 2), v.2.1, (nat_lit 0)) :: st', w)) (zb (Nat.ble v.2.1 (nat_lit 4294967295)) (zfN (v.2.1 + (nat_lit 18446744069414584320)) (fun n => Sum.inl (rest, ls, ((nat_lit 2), n, (nat_lit 0)) :: st', w))) zX))
      (zb (Nat.beq v.1 (nat_lit 1)) (Sum.inl (rest, ls, ((nat_lit 3), v.2.1, v.2.2) :: st', w)) zX))
    (zb (Nat.beq a (nat_lit 1)) (zb (Nat.beq v.1 (nat_lit 2)) (zfN (v.2.1 % (nat_lit 4294967296)) (fun n => Sum.inl (rest, ls, ((nat_lit 0), n, (nat_lit 0)) :: st', w))) zX)
    (zb (Nat.beq a (nat_lit 2)) (zb (Nat.beq v.1 (nat_lit 1)) (Sum.inl (rest, ls, ((nat_lit 1), (nat_lit 2147483520), (nat_lit 2147483775)) :: st', w)) zX)
    (zb (Nat.beq a (nat_lit 3)) (zb (zeq v ((nat_lit 6), (nat_lit 0), (nat_lit 0))) (Sum.inl (rest, ls, ((nat_lit 7), (nat_lit 0), (nat_lit 0)) :: st', w)) zX) zX)))
  | _ => zX
noncomputable def zlcB (a1 a2 b1 b2 : Nat) (k : zV → zO) : zO :=
  zb (Nat.ble (Nat.succ a2) b1) (k ((nat_lit 0), (nat_lit 4294967295), (nat_lit 0))) (zb (Nat.ble (Nat.succ b2) a1) (k ((nat_lit 0), (nat_lit 1), (nat_lit 0)))
    (zb (zb (Nat.beq a1 a2) (zb (Nat.beq b1 b2) (Nat.beq a1 b1) false) false) (k ((nat_lit 0), (nat_lit 0), (nat_lit 0)))
    (zb (Nat.ble b2 a1) (k ((nat_lit 1), (nat_lit 2147483648), (nat_lit 2147483649))) (zb (Nat.ble a2 b1) (k ((nat_lit 1), (nat_lit 2147483647), (nat_lit 2147483648))) zX))))
noncomputable def zoLcmp : zO := match st with
  | y :: x :: st' => zb (zis (nat_lit 1) x) (zb (zis (nat_lit 1) y) (zlcB (zlo64 x) (zhi64 x) (zlo64 y) (zhi64 y) (fun v => Sum.inl (rest, ls, v :: st', w))) zX) zX
  | _ => zX
noncomputable def zoFcmp (b : Nat) : zO := match st with
  | y :: x :: st' => zb (zb (Nat.beq b (nat_lit 2)) (zb (zeq x ((nat_lit 6), (nat_lit 0), (nat_lit 0))) (zeq y ((nat_lit 6), (nat_lit 0), (nat_lit 0))) false) (zb (zeq x ((nat_lit 7), (nat_lit 0), (nat_lit 0))) (zeq y ((nat_lit 7), (nat_lit 0), (nat_lit 0))) false)) (Sum.inl (rest, ls, ((nat_lit 0), (nat_lit 0), (nat_lit 0)) :: st', w)) zX
  | _ => zX
noncomputable def zoNull (full : List zE) (a : Nat) : zO := match st with
  | v :: st' => zb (Nat.beq v.1 (nat_lit 5)) (zgo full a ls st' w) (zb (Nat.beq v.1 (nat_lit 4)) (Sum.inl (rest, ls, st', w)) zX)
  | _ => zX
noncomputable def ztgt (l : List Nat) (p d : Nat) : Nat := List.rec (motive := fun _ => Nat → Nat) (fun _ => d) (fun h _ ih p => Nat.rec (motive := fun _ => Nat) h (fun m _ => ih m) p) l p
noncomputable def zoSwitch (full : List zE) (a b : Nat) (l : List Nat) : zO := match st with
  | v :: st' => zb (Nat.beq v.1 (nat_lit 0)) (zb (Nat.ble v.2.1 (nat_lit 2147483647)) (zb (Nat.ble a v.2.1) (zfN (ztgt l (v.2.1 - a) b) (fun t => zgo full t ls st' w)) (zgo full b ls st' w)) zX) zX
  | _ => zX
noncomputable def zoThrow (D a : Nat) : zO := zb (Nat.ble (nat_lit 6) D) (zb (Nat.ble (zcs st) (nat_lit 8)) (zfN (Nat.succ w.2.2.1) (fun nc => zfN (w.2.2.2 + (nat_lit 6)) (fun ns => Sum.inr ((nat_lit 2), (a, (nat_lit 0), (nat_lit 0)), (w.1, w.2.1, nc, ns))))) zX) zX
noncomputable def zoInit : zO := match st with
  | v :: st' => zb (Nat.beq v.1 (nat_lit 4)) (zb (Nat.ble (zcs st') (nat_lit 8)) (Sum.inl (rest, ls, st', w)) zX) zX
  | _ => zX
noncomputable def zoMath (a : Nat) : zO := match st with
  | y :: x :: st' => zb (Nat.beq x.1 (nat_lit 0)) (zb (Nat.beq y.1 (nat_lit 0)) (zb (Nat.ble (zcs st') (nat_lit 8))
      (zb (Nat.beq a (nat_lit 0)) (zcmpB (nat_lit 2) (zlo x) (zhi x) (zlo y) (zhi y) (fun t => zb t (Sum.inl (rest, ls, y :: st', w)) (Sum.inl (rest, ls, x :: st', w))))
        (zcmpB (nat_lit 2) (zlo y) (zhi y) (zlo x) (zhi x) (fun t => zb t (Sum.inl (rest, ls, y :: st', w)) (Sum.inl (rest, ls, x :: st', w))))) zX) zX) zX
  | _ => zX
noncomputable def znil (l : zA) : Bool := List.rec (motive := fun _ => Bool) true (fun _ _ _ => false) l
noncomputable def zoCopy : zO := match st with
  | n :: dp :: d :: sp :: s :: st' => zb (Nat.beq n.1 (nat_lit 0)) (zb (Nat.beq dp.1 (nat_lit 0)) (zb (Nat.beq sp.1 (nat_lit 0)) (zb (Nat.ble (zcs st') (nat_lit 8))
      (zcellK w s (fun _ k0 n0 d0 a0 => zcellK w d (fun _ k1 n1 d1 a1 => zb (Nat.beq k0 k1) (zb (zb (Nat.beq k0 (nat_lit 100)) true (Nat.beq k0 (nat_lit 103))) (zb (Nat.ble (sp.2.1 + n.2.1) n0) (zb (Nat.ble (dp.2.1 + n.2.1) n1)
        (zb (zb (Nat.beq n.2.1 (nat_lit 0)) true (zb (znil a0) (zb (znil a1) (zeq d0 d1) false) false)) (Sum.inl (rest, ls, st', w)) zX) zX) zX) zX) zX))) zX) zX) zX) zX
  | _ => zX
end ZOPS
noncomputable def zdo (objs : List (Nat × zA)) (rec : Nat → List zV → zW → zR) (D : Nat) (full : List zE) (scr : List zV) (op a b : Nat) (l : List Nat) (rest : List zE) (ls : zA) (st : List zV) (w : zW) : zO :=
  zb (Nat.ble op (nat_lit 7))
    (zb (Nat.ble op (nat_lit 3)) (zb (Nat.ble op (nat_lit 1)) (zb (Nat.ble op (nat_lit 0)) (zoLoad rest ls st w a b) (zoConst rest ls st w l)) (zb (Nat.ble op (nat_lit 2)) (zoStore rest ls st w a b) (zoInc rest ls st w a l)))
      (zb (Nat.ble op (nat_lit 5)) (zb (Nat.ble op (nat_lit 4)) (zoArith rest ls st w a) (zoIf rest ls st w full a b)) (zb (Nat.ble op (nat_lit 6)) (zoIcmp rest ls st w full a b) (zgo full a ls st w))))
    (zb (Nat.ble op (nat_lit 15))
      (zb (Nat.ble op (nat_lit 11)) (zb (Nat.ble op (nat_lit 9)) (zb (Nat.ble op (nat_lit 8)) (zoGetf rest ls st w a b) (zoPutf rest ls st w a b l)) (zb (Nat.ble op (nat_lit 10)) (zoAload rest ls st w scr b) (zoAstore rest ls st w b)))
        (zb (Nat.ble op (nat_lit 13)) (zb (Nat.ble op (nat_lit 12)) (zoLen rest ls st w scr) (zoNew rest ls st w objs a)) (zb (Nat.ble op (nat_lit 14)) (zoNewarr rest ls st w a) (zoInvoke rest ls st w rec full a b l))))
      (zb (Nat.ble op (nat_lit 21))
        (zb (Nat.ble op (nat_lit 18)) (zb (Nat.ble op (nat_lit 16)) (zoRet st w b) (zb (Nat.ble op (nat_lit 17)) (zoDup rest ls st w) (zoPop rest ls st w))) (zb (Nat.ble op (nat_lit 19)) (zoDup2 rest ls st w) (zb (Nat.ble op (nat_lit 20)) (zoConv rest ls st w a) (zoLcmp rest ls st w))))
        (zb (Nat.ble op (nat_lit 24)) (zb (Nat.ble op (nat_lit 22)) (zoFcmp rest ls st w b) (zb (Nat.ble op (nat_lit 23)) (zoNull rest ls st w full a) (zoSwitch ls st w full a b l)))
          (zb (Nat.ble op (nat_lit 26)) (zb (Nat.ble op (nat_lit 25)) (zoThrow st w D a) (zoInit rest ls st w)) (zb (Nat.ble op (nat_lit 27)) (zoMath rest ls st w a) (zb (Nat.ble op (nat_lit 28)) (zoCopy rest ls st w) zX))))))
noncomputable def zstep (objs : List (Nat × zA)) (rec : Nat → List zV → zW → zR) (D : Nat) (full : List zE) (scr : List zV) (S : zS) : zO := match S with
  | ((_, op, a, b, l) :: rest, ls, st, w) => zdo objs rec D full scr op a b l rest ls st w
  | ([], _, _, _) => zX
noncomputable def zit (f : zS → zO) (k : Nat) : zS → zO := Nat.rec (motive := fun _ => zS → zO) f (fun _ ih s => Sum.rec (motive := fun _ => zO) (fun s' => ih s') (fun r => Sum.inr r) (ih s)) k
noncomputable def zend (o : zO) : zR := Sum.rec (motive := fun _ => zR) (fun _ => zR0) (fun r => r) o
noncomputable def zargsK (vs : List zV) (i : Nat) (k : Nat → zA → zR) : zR := List.rec (motive := fun _ => Nat → (Nat → zA → zR) → zR) (fun i k => k i []) (fun v _ ih i k => zb (zcat2 v) (zfN (Nat.succ (Nat.succ i)) (fun j => ih j (fun n r => k n ((i, v) :: r)))) (zfN (Nat.succ i) (fun j => ih j (fun n r => k n ((i, v) :: r))))) vs i k
noncomputable def zselK (codes : List (Nat × List zE)) (i : Nat) (k : Nat × List zE → zR) : zR := List.rec (motive := fun _ => Nat → zR) (fun _ => zR0) (fun h _ ih p => Nat.rec (motive := fun _ => zR) (k h) (fun m _ => ih m) p) codes i
noncomputable def zrun (objs : List (Nat × zA)) (codes : List (Nat × List zE)) (d : Nat) : Nat → List zV → zW → zR := Nat.rec (motive := fun _ => Nat → List zV → zW → zR) (fun _ _ _ => zR0)
  (fun n ih mi as w => zselK codes mi (fun p => Prod.rec (fun nL code => zargsK as (nat_lit 0) (fun i ls => zb (Nat.ble i nL) (zend (zit (zstep objs ih (Nat.succ n) code []) (nat_lit 16) (code, ls, [], w))) zR0)) p)) d
/-! equality by the kernel's numbers -/
noncomputable def zeqL {α : Type} (f : α → α → Bool) (a b : List α) : Bool := List.rec (motive := fun _ => List α → Bool) (fun b => List.rec (motive := fun _ => Bool) true (fun _ _ _ => false) b) (fun h _ ih b => List.rec (motive := fun _ => Bool) false (fun h2 t2 _ => zb (f h h2) (ih t2) false) b) a b
theorem zb_and {a b : Bool} (h : zb a b false = true) : a = true ∧ b = true := by
  cases a
  · exact Bool.noConfusion h
  · exact ⟨rfl, h⟩
theorem zeqL_eq {α : Type} {f : α → α → Bool} (hf : ∀ x y, f x y = true → x = y) : ∀ a b : List α, zeqL f a b = true → a = b
  | [], [], _ => rfl
  | [], _ :: _, h => Bool.noConfusion h
  | _ :: _, [], h => Bool.noConfusion h
  | x :: a, y :: b, h => by
    obtain ⟨h1, h2⟩ := zb_and (show zb (f x y) (zeqL f a b) false = true from h)
    rw [hf x y h1, zeqL_eq hf a b h2]
noncomputable def zeqP {α β : Type} (f : α → α → Bool) (g : β → β → Bool) (x y : α × β) : Bool := zb (f x.1 y.1) (g x.2 y.2) false
theorem zeqP_eq {α β : Type} {f : α → α → Bool} {g : β → β → Bool} (hf : ∀ x y, f x y = true → x = y) (hg : ∀ x y, g x y = true → x = y) : ∀ x y : α × β, zeqP f g x y = true → x = y := fun x y h => by
  obtain ⟨h1, h2⟩ := zb_and h
  exact Prod.ext (hf _ _ h1) (hg _ _ h2)
theorem zeqN_eq : ∀ x y : Nat, Nat.beq x y = true → x = y := fun _ _ h => Nat.eq_of_beq_eq_true h
noncomputable def zeqV : zV → zV → Bool := zeqP Nat.beq (zeqP Nat.beq Nat.beq)
noncomputable def zeqA : zA → zA → Bool := zeqL (zeqP Nat.beq zeqV)
noncomputable def zeqW : zW → zW → Bool := zeqP Nat.beq (zeqP (zeqL (zeqP Nat.beq (zeqP Nat.beq (zeqP zeqV zeqA)))) (zeqP Nat.beq Nat.beq))
noncomputable def zeqE : zE → zE → Bool := zeqP Nat.beq (zeqP Nat.beq (zeqP Nat.beq (zeqP Nat.beq (zeqL Nat.beq))))
noncomputable def zeqS : zS → zS → Bool := zeqP (zeqL zeqE) (zeqP zeqA (zeqP (zeqL zeqV) zeqW))
theorem zeqV_eq : ∀ x y : zV, zeqV x y = true → x = y := zeqP_eq zeqN_eq (zeqP_eq zeqN_eq zeqN_eq)
theorem zeqA_eq : ∀ x y : zA, zeqA x y = true → x = y := zeqL_eq (zeqP_eq zeqN_eq zeqV_eq)
theorem zeqW_eq : ∀ x y : zW, zeqW x y = true → x = y := zeqP_eq zeqN_eq (zeqP_eq (zeqL_eq (zeqP_eq zeqN_eq (zeqP_eq zeqN_eq (zeqP_eq zeqV_eq zeqA_eq)))) (zeqP_eq zeqN_eq zeqN_eq))
theorem zeqS_eq : ∀ x y : zS, zeqS x y = true → x = y := zeqP_eq (zeqL_eq (zeqP_eq zeqN_eq (zeqP_eq zeqN_eq (zeqP_eq zeqN_eq (zeqP_eq zeqN_eq (zeqL_eq zeqN_eq)))))) (zeqP_eq zeqA_eq (zeqP_eq (zeqL_eq zeqV_eq) zeqW_eq))
noncomputable def zsame (o : zO) (s : zS) : Bool := Sum.rec (motive := fun _ => Bool) (fun x => zeqS x s) (fun _ => false) o
theorem zsame_eq {o : zO} {s : zS} (h : zsame o s = true) : o = Sum.inl s := by
  cases o with
  | inl x => rw [zeqS_eq x s h]
  | inr r => exact Bool.noConfusion h
