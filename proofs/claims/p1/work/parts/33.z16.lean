/-! ===== an end of the law ===== -/
set_option maxHeartbeats 4000000 in
theorem zchk_16 {own : String} {cc : ByteArray} {nL : Nat} {ini : Bool} {tb : List ExceptionTableEntry} {f : zF} {pc a bb : Nat} {lst : List Nat} {nx : Nat} (hc : zchk own cc nL ini tb (some .boolean) f pc 16 a bb lst nx = true) : decode cc pc = .ok (.ireturn, 1) ∧ bb = 6 := by
  unfold zchk at hc
  replace hc := zb_or hc
  rcases hc with ⟨-, z0⟩ | hc
  · unfold zkf_0 at z0
    exact absurd (zbeq (zb_and z0).1) (by decide)
  replace hc := zb_or hc
  rcases hc with ⟨-, z0⟩ | hc
  · unfold zkf_1 at z0
    exact absurd (zbeq (zb_and z0).1) (by decide)
  replace hc := zb_or hc
  rcases hc with ⟨-, z0⟩ | hc
  · unfold zkf_2 at z0
    exact absurd (zbeq (zb_and z0).1) (by decide)
  replace hc := zb_or hc
  rcases hc with ⟨-, z0⟩ | hc
  · unfold zkf_3 at z0
    exact absurd (zbeq (zb_and z0).1) (by decide)
  replace hc := zb_or hc
  rcases hc with ⟨-, z0⟩ | hc
  · unfold zkf_4 at z0
    exact absurd (zbeq (zb_and z0).1) (by decide)
  replace hc := zb_or hc
  rcases hc with ⟨-, z0⟩ | hc
  · unfold zkf_5 at z0
    exact absurd (zbeq (zb_and z0).1) (by decide)
  replace hc := zb_or hc
  rcases hc with ⟨-, z0⟩ | hc
  · unfold zkf_6 at z0
    exact absurd (zbeq (zb_and z0).1) (by decide)
  replace hc := zb_or hc
  rcases hc with ⟨-, z0⟩ | hc
  · unfold zkf_7 at z0
    exact absurd (zbeq (zb_and z0).1) (by decide)
  replace hc := zb_or hc
  rcases hc with ⟨-, z0⟩ | hc
  · unfold zkf_8 at z0
    exact absurd (zbeq (zb_and z0).1) (by decide)
  replace hc := zb_or hc
  rcases hc with ⟨-, z0⟩ | hc
  · unfold zkf_9 at z0
    exact absurd (zbeq (zb_and z0).1) (by decide)
  replace hc := zb_or hc
  rcases hc with ⟨-, z0⟩ | hc
  · unfold zkf_10 at z0
    exact absurd (zbeq (zb_and z0).1) (by decide)
  replace hc := zb_or hc
  rcases hc with ⟨-, z0⟩ | hc
  · unfold zkf_11 at z0
    exact absurd (zbeq (zb_and z0).1) (by decide)
  replace hc := zb_or hc
  rcases hc with ⟨-, z0⟩ | hc
  · unfold zkf_12 at z0
    exact absurd (zbeq (zb_and z0).1) (by decide)
  replace hc := zb_or hc
  rcases hc with ⟨-, z0⟩ | hc
  · unfold zkf_13 at z0
    exact absurd (zbeq (zb_and z0).1) (by decide)
  replace hc := zb_or hc
  rcases hc with ⟨-, z0⟩ | hc
  · unfold zkf_14 at z0
    exact absurd (zbeq (zb_and z0).1) (by decide)
  replace hc := zb_or hc
  rcases hc with ⟨-, z0⟩ | hc
  · unfold zkf_15 at z0
    exact absurd (zbeq (zb_and z0).1) (by decide)
  replace hc := zb_or hc
  rcases hc with ⟨-, z0⟩ | hc
  · unfold zkf_16 at z0
    exact absurd (zbeq (zb_and z0).1) (by decide)
  replace hc := zb_or hc
  rcases hc with ⟨-, z0⟩ | hc
  · unfold zkf_17 at z0
    exact absurd (zbeq (zb_and z0).1) (by decide)
  replace hc := zb_or hc
  rcases hc with ⟨-, z0⟩ | hc
  · unfold zkf_18 at z0
    exact absurd (zbeq (zb_and z0).1) (by decide)
  replace hc := zb_or hc
  rcases hc with ⟨-, z0⟩ | hc
  · unfold zkf_19 at z0
    exact absurd (zbeq (zb_and z0).1) (by decide)
  replace hc := zb_or hc
  rcases hc with ⟨-, z0⟩ | hc
  · unfold zkf_20 at z0
    exact absurd (zbeq (zb_and z0).1) (by decide)
  replace hc := zb_or hc
  rcases hc with ⟨-, z0⟩ | hc
  · unfold zkf_21 at z0
    exact absurd (zbeq (zb_and z0).1) (by decide)
  replace hc := zb_or hc
  rcases hc with ⟨-, z0⟩ | hc
  · unfold zkf_22 at z0
    exact absurd (zbeq (zb_and z0).1) (by decide)
  replace hc := zb_or hc
  rcases hc with ⟨-, z0⟩ | hc
  · unfold zkf_23 at z0
    exact absurd (zbeq (zb_and z0).1) (by decide)
  replace hc := zb_or hc
  rcases hc with ⟨-, z0⟩ | hc
  · unfold zkf_24 at z0
    exact absurd (zbeq (zb_and z0).1) (by decide)
  replace hc := zb_or hc
  rcases hc with ⟨-, z0⟩ | hc
  · unfold zkf_25 at z0
    exact absurd (zbeq (zb_and z0).1) (by decide)
  replace hc := zb_or hc
  rcases hc with ⟨-, z0⟩ | hc
  · unfold zkf_26 at z0
    exact absurd (zbeq (zb_and z0).1) (by decide)
  replace hc := zb_or hc
  rcases hc with ⟨-, z0⟩ | hc
  · unfold zkf_27 at z0
    exact absurd (zbeq (zb_and z0).1) (by decide)
  replace hc := zb_or hc
  rcases hc with ⟨-, z0⟩ | hc
  · unfold zkf_28 at z0
    exact absurd (zbeq (zb_and z0).1) (by decide)
  replace hc := zb_or hc
  rcases hc with ⟨-, z0⟩ | hc
  · unfold zkf_29 at z0
    exact absurd (zbeq (zb_and z0).1) (by decide)
  replace hc := zb_or hc
  rcases hc with ⟨-, z0⟩ | hc
  · unfold zkf_30 at z0
    exact absurd (zbeq (zb_and z0).1) (by decide)
  replace hc := zb_or hc
  rcases hc with ⟨-, z0⟩ | hc
  · unfold zkf_31 at z0
    exact absurd (zbeq (zb_and z0).1) (by decide)
  replace hc := zb_or hc
  rcases hc with ⟨-, z0⟩ | hc
  · unfold zkf_32 at z0
    exact absurd (zbeq (zb_and z0).1) (by decide)
  replace hc := zb_or hc
  rcases hc with ⟨-, z0⟩ | hc
  · unfold zkf_33 at z0
    exact absurd (zbeq (zb_and z0).1) (by decide)
  replace hc := zb_or hc
  rcases hc with ⟨-, z0⟩ | hc
  · unfold zkf_34 at z0
    exact absurd (zbeq (zb_and z0).1) (by decide)
  replace hc := zb_or hc
  rcases hc with ⟨-, z0⟩ | hc
  · unfold zkf_35 at z0
    exact absurd (zbeq (zb_and z0).1) (by decide)
  replace hc := zb_or hc
  rcases hc with ⟨-, z0⟩ | hc
  · unfold zkf_36 at z0
    exact absurd (zbeq (zb_and z0).1) (by decide)
  replace hc := zb_or hc
  rcases hc with ⟨-, z0⟩ | hc
  · unfold zkf_37 at z0
    exact absurd (zbeq (zb_and z0).1) (by decide)
  replace hc := zb_or hc
  rcases hc with ⟨-, z0⟩ | hc
  · unfold zkf_38 at z0
    exact absurd (zbeq (zb_and z0).1) (by decide)
  replace hc := zb_or hc
  rcases hc with ⟨-, z0⟩ | hc
  · unfold zkf_39 at z0
    exact absurd (zbeq (zb_and z0).1) (by decide)
  replace hc := zb_or hc
  rcases hc with ⟨-, z0⟩ | hc
  · unfold zkf_40 at z0
    exact absurd (zbeq (zb_and z0).1) (by decide)
  replace hc := zb_or hc
  rcases hc with ⟨-, z0⟩ | hc
  · unfold zkf_41 at z0
    exact absurd (zbeq (zb_and z0).1) (by decide)
  replace hc := zb_or hc
  rcases hc with ⟨-, z0⟩ | hc
  · unfold zkf_42 at z0
    exact absurd (zbeq (zb_and z0).1) (by decide)
  replace hc := zb_or hc
  rcases hc with ⟨-, z0⟩ | hc
  · unfold zkf_43 at z0
    exact absurd (zbeq (zb_and z0).1) (by decide)
  replace hc := zb_or hc
  rcases hc with ⟨-, z0⟩ | hc
  · unfold zkf_44 at z0
    exact absurd (zbeq (zb_and z0).1) (by decide)
  replace hc := zb_or hc
  rcases hc with ⟨-, z0⟩ | hc
  · unfold zkf_45 at z0
    exact absurd (zbeq (zb_and z0).1) (by decide)
  replace hc := zb_or hc
  rcases hc with ⟨-, z0⟩ | hc
  · unfold zkf_46 at z0
    exact absurd (zbeq (zb_and z0).1) (by decide)
  replace hc := zb_or hc
  rcases hc with ⟨-, z0⟩ | hc
  · unfold zkf_47 at z0
    exact absurd (zbeq (zb_and z0).1) (by decide)
  replace hc := zb_or hc
  rcases hc with ⟨-, z0⟩ | hc
  · unfold zkf_48 at z0
    exact absurd (zbeq (zb_and z0).1) (by decide)
  replace hc := zb_or hc
  rcases hc with ⟨-, z0⟩ | hc
  · unfold zkf_49 at z0
    exact absurd (zbeq (zb_and z0).1) (by decide)
  replace hc := zb_or hc
  rcases hc with ⟨-, z0⟩ | hc
  · unfold zkf_50 at z0
    exact absurd (zbeq (zb_and z0).1) (by decide)
  replace hc := zb_or hc
  rcases hc with ⟨-, z0⟩ | hc
  · unfold zkf_51 at z0
    exact absurd (zbeq (zb_and z0).1) (by decide)
  replace hc := zb_or hc
  rcases hc with ⟨-, z0⟩ | hc
  · unfold zkf_52 at z0
    exact absurd (zbeq (zb_and z0).1) (by decide)
  replace hc := zb_or hc
  rcases hc with ⟨-, z0⟩ | hc
  · unfold zkf_53 at z0
    exact absurd (zbeq (zb_and z0).1) (by decide)
  replace hc := zb_or hc
  rcases hc with ⟨-, z0⟩ | hc
  · unfold zkf_54 at z0
    exact absurd (zbeq (zb_and z0).1) (by decide)
  replace hc := zb_or hc
  rcases hc with ⟨-, z0⟩ | hc
  · unfold zkf_55 at z0
    exact absurd (zbeq (zb_and z0).1) (by decide)
  replace hc := zb_or hc
  rcases hc with ⟨-, z0⟩ | hc
  · unfold zkf_56 at z0
    exact absurd (zbeq (zb_and z0).1) (by decide)
  replace hc := zb_or hc
  rcases hc with ⟨-, z0⟩ | hc
  · unfold zkf_57 at z0
    exact absurd (zbeq (zb_and z0).1) (by decide)
  replace hc := zb_or hc
  rcases hc with ⟨-, z0⟩ | hc
  · unfold zkf_58 at z0
    exact absurd (zbeq (zb_and z0).1) (by decide)
  replace hc := zb_or hc
  rcases hc with ⟨-, z0⟩ | hc
  · unfold zkf_59 at z0
    exact absurd (zbeq (zb_and z0).1) (by decide)
  replace hc := zb_or hc
  rcases hc with ⟨-, z0⟩ | hc
  · unfold zkf_60 at z0
    exact absurd (zbeq (zb_and z0).1) (by decide)
  replace hc := zb_or hc
  rcases hc with ⟨-, z0⟩ | hc
  · unfold zkf_61 at z0
    exact absurd (zbeq (zb_and z0).1) (by decide)
  replace hc := zb_or hc
  rcases hc with ⟨-, z0⟩ | hc
  · unfold zkf_62 at z0
    exact absurd (zbeq (zb_and z0).1) (by decide)
  replace hc := zb_or hc
  rcases hc with ⟨-, z0⟩ | hc
  · unfold zkf_63 at z0
    exact absurd (zbeq (zb_and z0).1) (by decide)
  replace hc := zb_or hc
  rcases hc with ⟨-, z0⟩ | hc
  · unfold zkf_64 at z0
    exact absurd (zbeq (zb_and z0).1) (by decide)
  replace hc := zb_or hc
  rcases hc with ⟨-, z0⟩ | hc
  · unfold zkf_65 at z0
    exact absurd (zbeq (zb_and z0).1) (by decide)
  replace hc := zb_or hc
  rcases hc with ⟨-, z0⟩ | hc
  · unfold zkf_66 at z0
    exact absurd (zbeq (zb_and z0).1) (by decide)
  replace hc := zb_or hc
  rcases hc with ⟨-, z0⟩ | hc
  · unfold zkf_67 at z0
    exact absurd (zbeq (zb_and z0).1) (by decide)
  replace hc := zb_or hc
  rcases hc with ⟨-, z0⟩ | hc
  · unfold zkf_68 at z0
    exact absurd (zbeq (zb_and z0).1) (by decide)
  replace hc := zb_or hc
  rcases hc with ⟨-, z0⟩ | hc
  · unfold zkf_69 at z0
    exact absurd (zbeq (zb_and z0).1) (by decide)
  replace hc := zb_or hc
  rcases hc with ⟨-, z0⟩ | hc
  · unfold zkf_70 at z0
    exact absurd (zbeq (zb_and z0).1) (by decide)
  replace hc := zb_or hc
  rcases hc with ⟨-, z0⟩ | hc
  · unfold zkf_71 at z0
    exact absurd (zbeq (zb_and z0).1) (by decide)
  replace hc := zb_or hc
  rcases hc with ⟨-, z0⟩ | hc
  · unfold zkf_72 at z0
    exact absurd (zbeq (zb_and z0).1) (by decide)
  replace hc := zb_or hc
  rcases hc with ⟨-, z0⟩ | hc
  · unfold zkf_73 at z0
    exact absurd (zbeq (zb_and z0).1) (by decide)
  replace hc := zb_or hc
  rcases hc with ⟨-, z0⟩ | hc
  · unfold zkf_74 at z0
    exact absurd (zbeq (zb_and z0).1) (by decide)
  replace hc := zb_or hc
  rcases hc with ⟨-, z0⟩ | hc
  · unfold zkf_75 at z0
    exact absurd (zbeq (zb_and z0).1) (by decide)
  replace hc := zb_or hc
  rcases hc with ⟨-, z0⟩ | hc
  · unfold zkf_76 at z0
    exact absurd (zbeq (zb_and z0).1) (by decide)
  replace hc := zb_or hc
  rcases hc with ⟨-, z0⟩ | hc
  · unfold zkf_77 at z0
    exact absurd (zbeq (zb_and z0).1) (by decide)
  replace hc := zb_or hc
  rcases hc with ⟨-, z0⟩ | hc
  · unfold zkf_78 at z0
    exact absurd (zbeq (zb_and z0).1) (by decide)
  replace hc := zb_or hc
  rcases hc with ⟨-, z0⟩ | hc
  · unfold zkf_79 at z0
    exact absurd (zbeq (zb_and z0).1) (by decide)
  replace hc := zb_or hc
  rcases hc with ⟨-, z0⟩ | hc
  · unfold zkf_80 at z0
    exact absurd (zbeq (zb_and z0).1) (by decide)
  replace hc := zb_or hc
  rcases hc with ⟨-, z0⟩ | hc
  · unfold zkf_81 at z0
    exact absurd (zbeq (zb_and z0).1) (by decide)
  replace hc := zb_or hc
  rcases hc with ⟨-, z0⟩ | hc
  · unfold zkf_82 at z0
    exact absurd (zbeq (zb_and z0).1) (by decide)
  replace hc := zb_or hc
  rcases hc with ⟨-, z0⟩ | hc
  · unfold zkf_83 at z0
    exact absurd (zbeq (zb_and z0).1) (by decide)
  replace hc := zb_or hc
  rcases hc with ⟨-, z0⟩ | hc
  · unfold zkf_84 at z0
    exact absurd (zbeq (zb_and z0).1) (by decide)
  replace hc := zb_or hc
  rcases hc with ⟨-, z0⟩ | hc
  · unfold zkf_85 at z0
    exact absurd (zbeq (zb_and z0).1) (by decide)
  replace hc := zb_or hc
  rcases hc with ⟨-, z0⟩ | hc
  · unfold zkf_86 at z0
    exact absurd (zbeq (zb_and z0).1) (by decide)
  replace hc := zb_or hc
  rcases hc with ⟨-, z0⟩ | hc
  · unfold zkf_87 at z0
    exact absurd (zbeq (zb_and z0).1) (by decide)
  replace hc := zb_or hc
  rcases hc with ⟨-, z0⟩ | hc
  · unfold zkf_88 at z0
    exact absurd (zbeq (zb_and z0).1) (by decide)
  replace hc := zb_or hc
  rcases hc with ⟨-, z0⟩ | hc
  · unfold zkf_89 at z0
    exact absurd (zbeq (zb_and z0).1) (by decide)
  replace hc := zb_or hc
  rcases hc with ⟨-, z0⟩ | hc
  · unfold zkf_90 at z0
    exact absurd (zbeq (zb_and z0).1) (by decide)
  replace hc := zb_or hc
  rcases hc with ⟨-, z0⟩ | hc
  · unfold zkf_91 at z0
    obtain ⟨q0, z1⟩ := zb_and z0
    obtain ⟨q1, z2⟩ := zb_and z1
    obtain ⟨q2, z3⟩ := zb_and z2
    exact absurd (of_decide_eq_true q2) (by decide)
  replace hc := zb_or hc
  rcases hc with ⟨-, z0⟩ | hc
  · unfold zkf_92 at z0
    obtain ⟨q0, z1⟩ := zb_and z0
    obtain ⟨q1, z2⟩ := zb_and z1
    obtain ⟨q2, z3⟩ := zb_and z2
    exact absurd (of_decide_eq_true q2) (by decide)
  replace hc := zb_or hc
  rcases hc with ⟨-, z0⟩ | hc
  · unfold zkf_93 at z0
    obtain ⟨q0, z1⟩ := zb_and z0
    obtain ⟨q1, z2⟩ := zb_and z1
    obtain ⟨q2, z3⟩ := zb_and z2
    exact absurd (of_decide_eq_true q2) (by decide)
  replace hc := zb_or hc
  rcases hc with ⟨-, z0⟩ | hc
  · unfold zkf_94 at z0
    obtain ⟨q0, z1⟩ := zb_and z0
    obtain ⟨q1, z2⟩ := zb_and z1
    obtain ⟨q2, z3⟩ := zb_and z2
    exact absurd (of_decide_eq_true q2) (by decide)
  replace hc := zb_or hc
  rcases hc with ⟨-, z0⟩ | hc
  · unfold zkf_95 at z0
    obtain ⟨q0, z1⟩ := zb_and z0
    obtain ⟨q1, z2⟩ := zb_and z1
    obtain ⟨q2, z3⟩ := zb_and z2
    exact ⟨zdk_ok z3, zbeq q1⟩
  replace hc := zb_or hc
  rcases hc with ⟨-, z0⟩ | hc
  · unfold zkf_96 at z0
    obtain ⟨q0, z1⟩ := zb_and z0
    obtain ⟨q1, z2⟩ := zb_and z1
    obtain ⟨q2, z3⟩ := zb_and z2
    exact Bool.noConfusion q2
  replace hc := zb_or hc
  rcases hc with ⟨-, z0⟩ | hc
  · unfold zkf_97 at z0
    obtain ⟨q0, z1⟩ := zb_and z0
    obtain ⟨q1, z2⟩ := zb_and z1
    obtain ⟨q2, z3⟩ := zb_and z2
    exact absurd (of_decide_eq_true q2) (by decide)
  replace hc := zb_or hc
  rcases hc with ⟨-, z0⟩ | hc
  · unfold zkf_98 at z0
    exact absurd (zbeq (zb_and z0).1) (by decide)
  replace hc := zb_or hc
  rcases hc with ⟨-, z0⟩ | hc
  · unfold zkf_99 at z0
    exact absurd (zbeq (zb_and z0).1) (by decide)
  replace hc := zb_or hc
  rcases hc with ⟨-, z0⟩ | hc
  · unfold zkf_100 at z0
    exact absurd (zbeq z0) (by decide)
  cases hc
