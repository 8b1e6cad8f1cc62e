theorem zN_1 : zNests.all (fun q => decide (Cond.methodLinkNest q.1 q.2.1 q.2.2.1 q.2.2.2 ∈ lw_tbl)) = true := by decide +kernel
theorem zN_2 : (List.range 3).all (fun e => decide (Cond.castable (zEx e) (zEx e) ∈ lw_tbl)) = true := by decide +kernel
theorem zN_3 : (List.range 3).all (fun e => (List.range 3).all fun f => decide (e = f) || decide (Cond.not (.castable (zEx e) (zEx f)) ∈ flatC (Jvm.Cond.and given_1 narrow_1))) = true := by decide +kernel
theorem zN_4 : zStrs.all (fun q => decide (Cond.stringRef q.1 q.2.1 q.2.2 ∈ lw_tbl)) = true := by decide +kernel
theorem zN_5 : Cond.arrayOver (.object RX6) ∈ lw_tbl := by decide +kernel
theorem zN_6 : Cond.laysStatic Bundle.tN "UNASSIGNED_STACK" Bundle.steD ∈ lw_tbl := by decide +kernel
theorem zN_7 : Cond.laysStatic Bundle.tN "SUPPRESSED_SENTINEL" Bundle.listD ∈ lw_tbl := by decide +kernel
theorem zN_8 : Cond.initialized Bundle.tN ∈ lw_tbl := by decide +kernel
theorem zN_9 : Cond.isRef (.static Bundle.tN "UNASSIGNED_STACK" Bundle.steD) ∈ flatC (Jvm.Cond.and given_1 narrow_1) := by decide +kernel
theorem zN_10 : Cond.isRef (.static Bundle.tN "SUPPRESSED_SENTINEL" Bundle.listD) ∈ flatC (Jvm.Cond.and given_1 narrow_1) := by decide +kernel
theorem zstr_own : ∀ q ∈ zStrs, q.1 = RX9 ∨ q.1 = RX4 ∨ q.1 = RX10 := by decide
theorem zlaw_fx {s : State} {args : Array Value} (hts : ∀ w ∈ lw_tbl, w.before args s = true) (hgv : (Jvm.Cond.and given_1 narrow_1).before args s = true) : zFx (fun q => s.heap.size ≤ q) s := by
  have hfl := flat_of_before _ hgv
  refine ⟨fun q hq => va_Nw.of rfl (hts _ (of_decide_eq_true (List.all_eq_true.mp zN_1 q hq))), fun e he => va_Nw.of rfl (hts _ (of_decide_eq_true (List.all_eq_true.mp zN_2 e (List.mem_range.mpr he)))), fun e f he hf hn => ?_, fun q hq => ?_, va_AO.of (hts _ zN_5), vx_Zqof (hts _ zN_6) (hts _ zN_8) (hfl _ zN_9) (fun a h1 h2 => absurd h1 (Nat.not_lt.mpr h2)), vx_Zqof (hts _ zN_7) (hts _ zN_8) (hfl _ zN_10) (fun a h1 h2 => absurd h1 (Nat.not_lt.mpr h2)), fun y hy => va_Nw.of rfl (hts _ hy)⟩
  · have h1 := List.all_eq_true.mp (List.all_eq_true.mp zN_3 e (List.mem_range.mpr he)) f (List.mem_range.mpr hf)
    rcases Bool.or_eq_true_iff.mp h1 with h1 | h1
    · exact absurd (of_decide_eq_true h1) hn
    · exact va_Nc.of (hfl _ (of_decide_eq_true h1))
  · have h1 := hts _ (of_decide_eq_true (List.all_eq_true.mp zN_4 q hq))
    have hcur : ∃ cur, s.vm.findClass q.1 = some cur := by
      rcases zstr_own q hq with z | z | z
      · obtain ⟨c, k, h2, -⟩ := Cond.instantiable_spec (hts _ (zGd_tbl zin_9)); exact ⟨c, by rw [z]; exact h2⟩
      · obtain ⟨c, k, h2, -⟩ := Cond.instantiable_spec (hts _ (zGd_tbl zin_4)); exact ⟨c, by rw [z]; exact h2⟩
      · obtain ⟨c, k, h2, -⟩ := Cond.instantiable_spec (hts _ (zGd_tbl zin_10)); exact ⟨c, by rw [z]; exact h2⟩
    obtain ⟨cur, hcur⟩ := hcur
    obtain ⟨k, cf, i, a, -, -, -, -, -, h3⟩ := Cond.stringRef_spec hcur h1
    exact ⟨a, vk_R.of h1 h3⟩
/-- the classes are known -/
theorem zlaw_K {s : State} {args : Array Value} (hts : ∀ w ∈ lw_tbl, w.before args s = true) : ∃ D : va_G, va_K D vwCl [] s := by
  have h : ∀ ci : Nat, ∃ x : ClassId × (Nat → Nat), ∀ q : vw_C, vwCl[ci]? = some q → u_Kn s q.1 q.2.1 q.2.2 x.1 x.2 := by
    intro ci
    cases z : vwCl[ci]? with
    | none => exact ⟨(0, fun _ => 0), fun q hq => by cases hq⟩
    | some q =>
      obtain ⟨C, T, N⟩ := q
      obtain ⟨g1, g2, g3, g4, g5, g6, -⟩ := zcls z
      obtain ⟨cC, iS, hK⟩ := u_known (ws := lw_tbl) hts (fun w hw => zGd_tbl (g2 w hw)) (hts _ (zGd_tbl g5))
      exact ⟨(cC, iS), fun q hq => by cases hq; exact hK⟩
  exact ⟨(fun ci => (Classical.choose (h ci)).1, fun ci => (Classical.choose (h ci)).2), fun ci q hq => Classical.choose_spec (h ci) q hq, fun k q hk => by cases hk⟩
