/-! HandsLetModel.putOff()I -/
theorem D212_0 : decode prog_12_method_86_code 0 = .ok (.aload_n 0, 1) := by decide +kernel
theorem D212_1 : decode prog_12_method_86_code 1 = .ok (.iconst 0, 1) := by decide +kernel
theorem D212_2 : decode prog_12_method_86_code 2 = .ok (.putfield 151, 3) := by decide +kernel
theorem D212_5 : decode prog_12_method_86_code 5 = .ok (.iconst 0, 1) := by decide +kernel
theorem D212_6 : decode prog_12_method_86_code 6 = .ok (.istore_n 1, 1) := by decide +kernel
theorem D212_7 : decode prog_12_method_86_code 7 = .ok (.iconst 0, 1) := by decide +kernel
theorem D212_8 : decode prog_12_method_86_code 8 = .ok (.istore_n 2, 1) := by decide +kernel
theorem D212_9 : decode prog_12_method_86_code 9 = .ok (.iload_n 2, 1) := by decide +kernel
theorem D212_10 : decode prog_12_method_86_code 10 = .ok (.aload_n 0, 1) := by decide +kernel
theorem D212_11 : decode prog_12_method_86_code 11 = .ok (.getfield 13, 3) := by decide +kernel
theorem D212_14 : decode prog_12_method_86_code 14 = .ok (.iconst 2, 1) := by decide +kernel
theorem D212_15 : decode prog_12_method_86_code 15 = .ok (.iaload, 1) := by decide +kernel
theorem D212_16 : decode prog_12_method_86_code 16 = .ok (.if_icmp .ge 16, 3) := by decide +kernel
theorem D212_19 : decode prog_12_method_86_code 19 = .ok (.aload_n 0, 1) := by decide +kernel
theorem D212_20 : decode prog_12_method_86_code 20 = .ok (.getfield 120, 3) := by decide +kernel
theorem D212_23 : decode prog_12_method_86_code 23 = .ok (.iload_n 2, 1) := by decide +kernel
theorem D212_24 : decode prog_12_method_86_code 24 = .ok (.iconst (-1), 1) := by decide +kernel
theorem D212_25 : decode prog_12_method_86_code 25 = .ok (.iastore, 1) := by decide +kernel
theorem D212_26 : decode prog_12_method_86_code 26 = .ok (.iinc 2 1, 3) := by decide +kernel
theorem D212_29 : decode prog_12_method_86_code 29 = .ok (.goto (-20), 3) := by decide +kernel
theorem D212_32 : decode prog_12_method_86_code 32 = .ok (.aload_n 0, 1) := by decide +kernel
theorem D212_33 : decode prog_12_method_86_code 33 = .ok (.getfield 72, 3) := by decide +kernel
theorem D212_36 : decode prog_12_method_86_code 36 = .ok (.iconst 0, 1) := by decide +kernel
theorem D212_37 : decode prog_12_method_86_code 37 = .ok (.iaload, 1) := by decide +kernel
theorem D212_38 : decode prog_12_method_86_code 38 = .ok (.istore_n 2, 1) := by decide +kernel
theorem D212_39 : decode prog_12_method_86_code 39 = .ok (.iload_n 2, 1) := by decide +kernel
theorem D212_40 : decode prog_12_method_86_code 40 = .ok (.bipush 99, 2) := by decide +kernel
theorem D212_42 : decode prog_12_method_86_code 42 = .ok (.if_icmp .gt 80, 3) := by decide +kernel
theorem D212_45 : decode prog_12_method_86_code 45 = .ok (.iconst 0, 1) := by decide +kernel
theorem D212_46 : decode prog_12_method_86_code 46 = .ok (.istore_n 3, 1) := by decide +kernel
theorem D212_47 : decode prog_12_method_86_code 47 = .ok (.iload_n 3, 1) := by decide +kernel
theorem D212_48 : decode prog_12_method_86_code 48 = .ok (.aload_n 0, 1) := by decide +kernel
theorem D212_49 : decode prog_12_method_86_code 49 = .ok (.getfield 13, 3) := by decide +kernel
theorem D212_52 : decode prog_12_method_86_code 52 = .ok (.iconst 2, 1) := by decide +kernel
theorem D212_53 : decode prog_12_method_86_code 53 = .ok (.iaload, 1) := by decide +kernel
theorem D212_54 : decode prog_12_method_86_code 54 = .ok (.if_icmp .ge 62, 3) := by decide +kernel
theorem D212_57 : decode prog_12_method_86_code 57 = .ok (.aload_n 0, 1) := by decide +kernel
theorem D212_58 : decode prog_12_method_86_code 58 = .ok (.getfield 46, 3) := by decide +kernel
theorem D212_61 : decode prog_12_method_86_code 61 = .ok (.iload_n 3, 1) := by decide +kernel
theorem D212_62 : decode prog_12_method_86_code 62 = .ok (.iaload, 1) := by decide +kernel
theorem D212_63 : decode prog_12_method_86_code 63 = .ok (.iload_n 2, 1) := by decide +kernel
theorem D212_64 : decode prog_12_method_86_code 64 = .ok (.if_icmp .eq 6, 3) := by decide +kernel
theorem D212_67 : decode prog_12_method_86_code 67 = .ok (.goto 43, 3) := by decide +kernel
theorem D212_70 : decode prog_12_method_86_code 70 = .ok (.iload_n 2, 1) := by decide +kernel
theorem D212_71 : decode prog_12_method_86_code 71 = .ok (.istore 4, 2) := by decide +kernel
theorem D212_73 : decode prog_12_method_86_code 73 = .ok (.aload_n 0, 1) := by decide +kernel
theorem D212_74 : decode prog_12_method_86_code 74 = .ok (.aload_n 0, 1) := by decide +kernel
theorem D212_75 : decode prog_12_method_86_code 75 = .ok (.getfield 43, 3) := by decide +kernel
theorem D212_78 : decode prog_12_method_86_code 78 = .ok (.iload_n 3, 1) := by decide +kernel
theorem D212_79 : decode prog_12_method_86_code 79 = .ok (.iaload, 1) := by decide +kernel
theorem D212_80 : decode prog_12_method_86_code 80 = .ok (.iload 4, 2) := by decide +kernel
theorem D212_82 : decode prog_12_method_86_code 82 = .ok (.iload_n 3, 1) := by decide +kernel
theorem D212_83 : decode prog_12_method_86_code 83 = .ok (.invokevirtual 460, 3) := by decide +kernel
theorem D212_86 : decode prog_12_method_86_code 86 = .ok (.ifCond .eq 9, 3) := by decide +kernel
theorem D212_89 : decode prog_12_method_86_code 89 = .ok (.iinc 4 1, 3) := by decide +kernel
theorem D212_92 : decode prog_12_method_86_code 92 = .ok (.goto (-19), 3) := by decide +kernel
theorem D212_95 : decode prog_12_method_86_code 95 = .ok (.aload_n 0, 1) := by decide +kernel
theorem D212_96 : decode prog_12_method_86_code 96 = .ok (.getfield 120, 3) := by decide +kernel
theorem D212_99 : decode prog_12_method_86_code 99 = .ok (.iload_n 3, 1) := by decide +kernel
theorem D212_100 : decode prog_12_method_86_code 100 = .ok (.iload 4, 2) := by decide +kernel
theorem D212_102 : decode prog_12_method_86_code 102 = .ok (.iastore, 1) := by decide +kernel
theorem D212_103 : decode prog_12_method_86_code 103 = .ok (.iload_n 1, 1) := by decide +kernel
theorem D212_104 : decode prog_12_method_86_code 104 = .ok (.iload 4, 2) := by decide +kernel
theorem D212_106 : decode prog_12_method_86_code 106 = .ok (.iload_n 2, 1) := by decide +kernel
theorem D212_107 : decode prog_12_method_86_code 107 = .ok (.isub, 1) := by decide +kernel
theorem D212_108 : decode prog_12_method_86_code 108 = .ok (.iadd, 1) := by decide +kernel
theorem D212_109 : decode prog_12_method_86_code 109 = .ok (.istore_n 1, 1) := by decide +kernel
theorem D212_110 : decode prog_12_method_86_code 110 = .ok (.iinc 3 1, 3) := by decide +kernel
theorem D212_113 : decode prog_12_method_86_code 113 = .ok (.goto (-66), 3) := by decide +kernel
theorem D212_116 : decode prog_12_method_86_code 116 = .ok (.iinc 2 1, 3) := by decide +kernel
theorem D212_119 : decode prog_12_method_86_code 119 = .ok (.goto (-80), 3) := by decide +kernel
theorem D212_122 : decode prog_12_method_86_code 122 = .ok (.iload_n 1, 1) := by decide +kernel
theorem D212_123 : decode prog_12_method_86_code 123 = .ok (.ireturn, 1) := by decide +kernel

theorem b212_0 {d : Nat}  {ia : Nat → Nat → Int32} {la : Nat → Nat → Int64} {pl dr : Nat} {cp : Option Nat} {cw : Option Nat} {rp : Option Nat} {K : Option Value → zHP → Prop}  : zWP d 212 0 [some (.ref 127), none, none, none, none] [] (ia, la, zRA pl dr cp cw rp) K = zWP d 212 9 [some (.ref 127), some (.int (0 : Int32)), some (.int (0 : Int32)), none, none] [] ((zu ia 127 0 (0 : Int32)), la, zRA pl dr cp cw rp) K := by
  refine (Q_aload_n zm_212 (Or.inl (by decide)) D212_0 rfl).trans ?_
  refine (Q_iconst (v := 0) zm_212 (Or.inl (by decide)) D212_1 (by decide)).trans ?_
  refine (Q_putI zm_212 (Or.inl (by decide)) D212_2 zf_10_151 zs_10_0 rfl zk_127.1).trans ?_
  refine (Q_iconst (v := 0) zm_212 (Or.inl (by decide)) D212_5 (by decide)).trans ?_
  refine (Q_istore_n (ls' := [some (.ref 127), some (.int (0 : Int32)), none, none, none]) zm_212 (Or.inl (by decide)) D212_6 rfl (Nat.le_of_ble_eq_true rfl) rfl).trans ?_
  refine (Q_iconst (v := 0) zm_212 (Or.inl (by decide)) D212_7 (by decide)).trans ?_
  refine (Q_istore_n (ls' := [some (.ref 127), some (.int (0 : Int32)), some (.int (0 : Int32)), none, none]) zm_212 (Or.inl (by decide)) D212_8 rfl (Nat.le_of_ble_eq_true rfl) rfl).trans ?_
  rfl

theorem b212_9 {d : Nat} {i1 : Int32} {i2 : Int32} {ia : Nat → Nat → Int32} {la : Nat → Nat → Int64} {pl dr : Nat} {cp : Option Nat} {cw : Option Nat} {rp : Option Nat} {K : Option Value → zHP → Prop}  : zWP d 212 9 [some (.ref 127), some (.int i1), some (.int i2), none, none] [] (ia, la, zRA pl dr cp cw rp) K = (if (ia 129 2) ≤ i2 then zWP d 212 39 [some (.ref 127), some (.int i1), some (.int (ia 147 0)), none, none] [] (ia, la, zRA pl dr cp cw rp) K else (vp_in i2 12 ∧ zWP d 212 9 [some (.ref 127), some (.int i1), some (.int (i2 + (1 : Int32))), none, none] [] ((zu ia 161 (i2).toNatClampNeg (-1 : Int32)), la, zRA pl dr cp cw rp) K)) := by
  refine (Q_iload_n zm_212 (Or.inl (by decide)) D212_9 rfl).trans ?_
  refine (Q_aload_n zm_212 (Or.inl (by decide)) D212_10 rfl).trans ?_
  refine (Q_getR (q := 129) zm_212 (Or.inl (by decide)) D212_11 zf_10_13 zs_10_3 zk_127.1 rfl).trans ?_
  refine (Q_iconst (v := 2) zm_212 (Or.inl (by decide)) D212_14 (by decide)).trans ?_
  refine ((Q_iaload zm_212 (Or.inl (by decide)) D212_15 zk_129.1 zk_129.2).trans (zdrop (zin_spec (by decide)))).trans ?_
  refine (Q_ic_ge (tgt := 32) zm_212 (Or.inl (by decide)) D212_16 (by decide)).trans ?_
  refine zif_c (fun h0_ => ?_) (fun h0_ => ?_)
  · refine (Q_aload_n zm_212 (Or.inl (by decide)) D212_32 rfl).trans ?_
    refine (Q_getR (q := 147) zm_212 (Or.inl (by decide)) D212_33 zf_10_72 zs_10_35 zk_127.1 rfl).trans ?_
    refine (Q_iconst (v := 0) zm_212 (Or.inl (by decide)) D212_36 (by decide)).trans ?_
    refine ((Q_iaload zm_212 (Or.inl (by decide)) D212_37 zk_147.1 zk_147.2).trans (zdrop (zin_spec (by decide)))).trans ?_
    refine (Q_istore_n (ls' := [some (.ref 127), some (.int i1), some (.int (ia 147 0)), none, none]) zm_212 (Or.inl (by decide)) D212_38 rfl (Nat.le_of_ble_eq_true rfl) rfl).trans ?_
    rfl
  · refine (Q_aload_n zm_212 (Or.inl (by decide)) D212_19 rfl).trans ?_
    refine (Q_getR (q := 161) zm_212 (Or.inl (by decide)) D212_20 zf_10_120 zs_10_56 zk_127.1 rfl).trans ?_
    refine (Q_iload_n zm_212 (Or.inl (by decide)) D212_23 rfl).trans ?_
    refine (Q_iconst (v := -1) zm_212 (Or.inl (by decide)) D212_24 (by decide)).trans ?_
    refine (Q_iastore zm_212 (Or.inl (by decide)) D212_25 zk_161.1 zk_161.2).trans ?_
    refine zand_c (fun h1_ => ?_)
    refine (Q_iinc (v := 1) (ls' := [some (.ref 127), some (.int i1), some (.int (i2 + (1 : Int32))), none, none]) zm_212 (Or.inl (by decide)) D212_26 rfl rfl (by decide) rfl).trans ?_
    refine (Q_goto (tgt := 9) zm_212 (Or.inl (by decide)) D212_29 (by decide)).trans ?_
    rfl

theorem b212_39 {d : Nat} {i1 : Int32} {i2 : Int32} {a3 : Option Value} {a4 : Option Value} {ia : Nat → Nat → Int32} {la : Nat → Nat → Int64} {pl dr : Nat} {cp : Option Nat} {cw : Option Nat} {rp : Option Nat} {K : Option Value → zHP → Prop}  : zWP d 212 39 [some (.ref 127), some (.int i1), some (.int i2), a3, a4] [] (ia, la, zRA pl dr cp cw rp) K = (if (99 : Int32) < i2 then K (some (.int i1)) (ia, la, zRA pl dr cp cw rp) else zWP d 212 47 [some (.ref 127), some (.int i1), some (.int i2), some (.int (0 : Int32)), a4] [] (ia, la, zRA pl dr cp cw rp) K) := by
  refine (Q_iload_n zm_212 (Or.inl (by decide)) D212_39 rfl).trans ?_
  refine (Q_bipush (v := 99) zm_212 (Or.inl (by decide)) D212_40 (by decide)).trans ?_
  refine (Q_ic_gt (tgt := 122) zm_212 (Or.inl (by decide)) D212_42 (by decide)).trans ?_
  refine zif_c (fun h0_ => ?_) (fun h0_ => ?_)
  · refine (Q_iload_n zm_212 (Or.inl (by decide)) D212_122 rfl).trans ?_
    exact Q_ireturn zm_212 (Or.inl (by decide)) D212_123 rfl
  · refine (Q_iconst (v := 0) zm_212 (Or.inl (by decide)) D212_45 (by decide)).trans ?_
    refine (Q_istore_n (ls' := [some (.ref 127), some (.int i1), some (.int i2), some (.int (0 : Int32)), a4]) zm_212 (Or.inl (by decide)) D212_46 rfl (Nat.le_of_ble_eq_true rfl) rfl).trans ?_
    rfl

theorem b212_47 {d : Nat} {i1 : Int32} {i2 : Int32} {i3 : Int32} {a4 : Option Value} {ia : Nat → Nat → Int32} {la : Nat → Nat → Int64} {pl dr : Nat} {cp : Option Nat} {cw : Option Nat} {rp : Option Nat} {K : Option Value → zHP → Prop}  : zWP d 212 47 [some (.ref 127), some (.int i1), some (.int i2), some (.int i3), a4] [] (ia, la, zRA pl dr cp cw rp) K = (if (ia 129 2) ≤ i3 then zWP d 212 39 [some (.ref 127), some (.int i1), some (.int (i2 + (1 : Int32))), some (.int i3), a4] [] (ia, la, zRA pl dr cp cw rp) K else (vp_in i3 24 ∧ (if (ia 140 (i3).toNatClampNeg) = i2 then zWP d 212 73 [some (.ref 127), some (.int i1), some (.int i2), some (.int i3), some (.int i2)] [] (ia, la, zRA pl dr cp cw rp) K else zWP d 212 47 [some (.ref 127), some (.int i1), some (.int i2), some (.int (i3 + (1 : Int32))), a4] [] (ia, la, zRA pl dr cp cw rp) K))) := by
  refine (Q_iload_n zm_212 (Or.inl (by decide)) D212_47 rfl).trans ?_
  refine (Q_aload_n zm_212 (Or.inl (by decide)) D212_48 rfl).trans ?_
  refine (Q_getR (q := 129) zm_212 (Or.inl (by decide)) D212_49 zf_10_13 zs_10_3 zk_127.1 rfl).trans ?_
  refine (Q_iconst (v := 2) zm_212 (Or.inl (by decide)) D212_52 (by decide)).trans ?_
  refine ((Q_iaload zm_212 (Or.inl (by decide)) D212_53 zk_129.1 zk_129.2).trans (zdrop (zin_spec (by decide)))).trans ?_
  refine (Q_ic_ge (tgt := 116) zm_212 (Or.inl (by decide)) D212_54 (by decide)).trans ?_
  refine zif_c (fun h0_ => ?_) (fun h0_ => ?_)
  · refine (Q_iinc (v := 1) (ls' := [some (.ref 127), some (.int i1), some (.int (i2 + (1 : Int32))), some (.int i3), a4]) zm_212 (Or.inl (by decide)) D212_116 rfl rfl (by decide) rfl).trans ?_
    refine (Q_goto (tgt := 39) zm_212 (Or.inl (by decide)) D212_119 (by decide)).trans ?_
    rfl
  · refine (Q_aload_n zm_212 (Or.inl (by decide)) D212_57 rfl).trans ?_
    refine (Q_getR (q := 140) zm_212 (Or.inl (by decide)) D212_58 zf_10_46 zs_10_14 zk_127.1 rfl).trans ?_
    refine (Q_iload_n zm_212 (Or.inl (by decide)) D212_61 rfl).trans ?_
    refine (Q_iaload zm_212 (Or.inl (by decide)) D212_62 zk_140.1 zk_140.2).trans ?_
    refine zand_c (fun h1_ => ?_)
    refine (Q_iload_n zm_212 (Or.inl (by decide)) D212_63 rfl).trans ?_
    refine (Q_ic_eq (tgt := 70) zm_212 (Or.inl (by decide)) D212_64 (by decide)).trans ?_
    refine zif_c (fun h2_ => ?_) (fun h2_ => ?_)
    · refine (Q_iload_n zm_212 (Or.inl (by decide)) D212_70 rfl).trans ?_
      refine (Q_istore (ls' := [some (.ref 127), some (.int i1), some (.int i2), some (.int i3), some (.int i2)]) zm_212 (Or.inl (by decide)) D212_71 rfl (Nat.le_of_ble_eq_true rfl) rfl).trans ?_
      rfl
    · refine (Q_goto (tgt := 110) zm_212 (Or.inl (by decide)) D212_67 (by decide)).trans ?_
      refine (Q_iinc (v := 1) (ls' := [some (.ref 127), some (.int i1), some (.int i2), some (.int (i3 + (1 : Int32))), a4]) zm_212 (Or.inl (by decide)) D212_110 rfl rfl (by decide) rfl).trans ?_
      refine (Q_goto (tgt := 47) zm_212 (Or.inl (by decide)) D212_113 (by decide)).trans ?_
      rfl

theorem b212_73 {d : Nat} {i1 : Int32} {i2 : Int32} {i3 : Int32} {i4 : Int32} {ia : Nat → Nat → Int32} {la : Nat → Nat → Int64} {pl dr : Nat} {cp : Option Nat} {cw : Option Nat} {rp : Option Nat} {K : Option Value → zHP → Prop}  : zWP (d + 1) 212 73 [some (.ref 127), some (.int i1), some (.int i2), some (.int i3), some (.int i4)] [] (ia, la, zRA pl dr cp cw rp) K = (vp_in i3 24 ∧ zWM d 211 [.ref 127, .int (ia 139 (i3).toNatClampNeg), .int i4, .int i3] (ia, la, zRA pl dr cp cw rp) (zK (d + 1) 212 86 [some (.ref 127), some (.int i1), some (.int i2), some (.int i3), some (.int i4)] [] K)) := by
  refine (Q_aload_n zm_212 (Or.inl (by decide)) D212_73 rfl).trans ?_
  refine (Q_aload_n zm_212 (Or.inl (by decide)) D212_74 rfl).trans ?_
  refine (Q_getR (q := 139) zm_212 (Or.inl (by decide)) D212_75 zf_10_43 zs_10_13 zk_127.1 rfl).trans ?_
  refine (Q_iload_n zm_212 (Or.inl (by decide)) D212_78 rfl).trans ?_
  refine (Q_iaload zm_212 (Or.inl (by decide)) D212_79 zk_139.1 zk_139.2).trans ?_
  refine zand_c (fun h0_ => ?_)
  refine (Q_iload zm_212 (Or.inl (by decide)) D212_80 rfl).trans ?_
  refine (Q_iload_n zm_212 (Or.inl (by decide)) D212_82 rfl).trans ?_
  exact Q_callv (as := [.int (ia 139 (i3).toNatClampNeg), .int i4, .int i3]) (b := 127) (rest := []) zm_212 (Or.inl (by decide)) D212_83 zc_10_460 rfl zk_127.1 (by decide) (by decide +kernel) (by decide) (by simp [zcat, Value.category]) zm_211 rfl

theorem b212_86 {d : Nat} {i1 : Int32} {i2 : Int32} {i3 : Int32} {i4 : Int32} {s0 : Int32} {ia : Nat → Nat → Int32} {la : Nat → Nat → Int64} {pl dr : Nat} {cp : Option Nat} {cw : Option Nat} {rp : Option Nat} {K : Option Value → zHP → Prop}  : zWP d 212 86 [some (.ref 127), some (.int i1), some (.int i2), some (.int i3), some (.int i4)] [.int s0] (ia, la, zRA pl dr cp cw rp) K = (if s0 = 0 then (vp_in i3 12 ∧ zWP d 212 47 [some (.ref 127), some (.int (i1 + (i4 - i2))), some (.int i2), some (.int (i3 + (1 : Int32))), some (.int i4)] [] ((zu ia 161 (i3).toNatClampNeg i4), la, zRA pl dr cp cw rp) K) else zWP d 212 73 [some (.ref 127), some (.int i1), some (.int i2), some (.int i3), some (.int (i4 + (1 : Int32)))] [] (ia, la, zRA pl dr cp cw rp) K) := by
  refine (Q_if_eq (tgt := 95) zm_212 (Or.inl (by decide)) D212_86 (by decide)).trans ?_
  refine zif_c (fun h0_ => ?_) (fun h0_ => ?_)
  · refine (Q_aload_n zm_212 (Or.inl (by decide)) D212_95 rfl).trans ?_
    refine (Q_getR (q := 161) zm_212 (Or.inl (by decide)) D212_96 zf_10_120 zs_10_56 zk_127.1 rfl).trans ?_
    refine (Q_iload_n zm_212 (Or.inl (by decide)) D212_99 rfl).trans ?_
    refine (Q_iload zm_212 (Or.inl (by decide)) D212_100 rfl).trans ?_
    refine (Q_iastore zm_212 (Or.inl (by decide)) D212_102 zk_161.1 zk_161.2).trans ?_
    refine zand_c (fun h1_ => ?_)
    refine (Q_iload_n zm_212 (Or.inl (by decide)) D212_103 rfl).trans ?_
    refine (Q_iload zm_212 (Or.inl (by decide)) D212_104 rfl).trans ?_
    refine (Q_iload_n zm_212 (Or.inl (by decide)) D212_106 rfl).trans ?_
    refine (Q_isub zm_212 (Or.inl (by decide)) D212_107).trans ?_
    refine (Q_iadd zm_212 (Or.inl (by decide)) D212_108).trans ?_
    refine (Q_istore_n (ls' := [some (.ref 127), some (.int (i1 + (i4 - i2))), some (.int i2), some (.int i3), some (.int i4)]) zm_212 (Or.inl (by decide)) D212_109 rfl (Nat.le_of_ble_eq_true rfl) rfl).trans ?_
    refine (Q_iinc (v := 1) (ls' := [some (.ref 127), some (.int (i1 + (i4 - i2))), some (.int i2), some (.int (i3 + (1 : Int32))), some (.int i4)]) zm_212 (Or.inl (by decide)) D212_110 rfl rfl (by decide) rfl).trans ?_
    refine (Q_goto (tgt := 47) zm_212 (Or.inl (by decide)) D212_113 (by decide)).trans ?_
    rfl
  · refine (Q_iinc (v := 1) (ls' := [some (.ref 127), some (.int i1), some (.int i2), some (.int i3), some (.int (i4 + (1 : Int32)))]) zm_212 (Or.inl (by decide)) D212_89 rfl rfl (by decide) rfl).trans ?_
    refine (Q_goto (tgt := 73) zm_212 (Or.inl (by decide)) D212_92 (by decide)).trans ?_
    rfl

/-! HandsLetModel.ring(II)I -/
theorem D213_0 : decode prog_12_method_87_code 0 = .ok (.aload_n 0, 1) := by decide +kernel
theorem D213_1 : decode prog_12_method_87_code 1 = .ok (.iconst 0, 1) := by decide +kernel
theorem D213_2 : decode prog_12_method_87_code 2 = .ok (.putfield 151, 3) := by decide +kernel
theorem D213_5 : decode prog_12_method_87_code 5 = .ok (.aload_n 0, 1) := by decide +kernel
theorem D213_6 : decode prog_12_method_87_code 6 = .ok (.iload_n 1, 1) := by decide +kernel
theorem D213_7 : decode prog_12_method_87_code 7 = .ok (.invokevirtual 413, 3) := by decide +kernel
theorem D213_10 : decode prog_12_method_87_code 10 = .ok (.ifCond .eq 12, 3) := by decide +kernel
theorem D213_13 : decode prog_12_method_87_code 13 = .ok (.iload_n 2, 1) := by decide +kernel
theorem D213_14 : decode prog_12_method_87_code 14 = .ok (.ifCond .lt 8, 3) := by decide +kernel
theorem D213_17 : decode prog_12_method_87_code 17 = .ok (.iload_n 2, 1) := by decide +kernel
theorem D213_18 : decode prog_12_method_87_code 18 = .ok (.iconst 2, 1) := by decide +kernel
theorem D213_19 : decode prog_12_method_87_code 19 = .ok (.if_icmp .le 5, 3) := by decide +kernel
theorem D213_22 : decode prog_12_method_87_code 22 = .ok (.iconst (-1), 1) := by decide +kernel
theorem D213_23 : decode prog_12_method_87_code 23 = .ok (.ireturn, 1) := by decide +kernel
theorem D213_24 : decode prog_12_method_87_code 24 = .ok (.iload_n 1, 1) := by decide +kernel
theorem D213_25 : decode prog_12_method_87_code 25 = .ok (.istore_n 3, 1) := by decide +kernel
theorem D213_26 : decode prog_12_method_87_code 26 = .ok (.iconst 1, 1) := by decide +kernel
theorem D213_27 : decode prog_12_method_87_code 27 = .ok (.iload_n 1, 1) := by decide +kernel
theorem D213_28 : decode prog_12_method_87_code 28 = .ok (.ishl, 1) := by decide +kernel
theorem D213_29 : decode prog_12_method_87_code 29 = .ok (.istore 4, 2) := by decide +kernel
theorem D213_31 : decode prog_12_method_87_code 31 = .ok (.iconst 0, 1) := by decide +kernel
theorem D213_32 : decode prog_12_method_87_code 32 = .ok (.istore 5, 2) := by decide +kernel
theorem D213_34 : decode prog_12_method_87_code 34 = .ok (.iconst 0, 1) := by decide +kernel
theorem D213_35 : decode prog_12_method_87_code 35 = .ok (.istore 6, 2) := by decide +kernel
theorem D213_37 : decode prog_12_method_87_code 37 = .ok (.iload 6, 2) := by decide +kernel
theorem D213_39 : decode prog_12_method_87_code 39 = .ok (.ifCond .ne 55, 3) := by decide +kernel
theorem D213_42 : decode prog_12_method_87_code 42 = .ok (.aload_n 0, 1) := by decide +kernel
theorem D213_43 : decode prog_12_method_87_code 43 = .ok (.iconst 0, 1) := by decide +kernel
theorem D213_44 : decode prog_12_method_87_code 44 = .ok (.iload_n 3, 1) := by decide +kernel
theorem D213_45 : decode prog_12_method_87_code 45 = .ok (.invokevirtual 340, 3) := by decide +kernel
theorem D213_48 : decode prog_12_method_87_code 48 = .ok (.ifCond .eq 46, 3) := by decide +kernel
theorem D213_51 : decode prog_12_method_87_code 51 = .ok (.aload_n 0, 1) := by decide +kernel
theorem D213_52 : decode prog_12_method_87_code 52 = .ok (.getfield 90, 3) := by decide +kernel
theorem D213_55 : decode prog_12_method_87_code 55 = .ok (.iload_n 3, 1) := by decide +kernel
theorem D213_56 : decode prog_12_method_87_code 56 = .ok (.iaload, 1) := by decide +kernel
theorem D213_57 : decode prog_12_method_87_code 57 = .ok (.istore_n 3, 1) := by decide +kernel
theorem D213_58 : decode prog_12_method_87_code 58 = .ok (.iinc 5 1, 3) := by decide +kernel
theorem D213_61 : decode prog_12_method_87_code 61 = .ok (.iload 4, 2) := by decide +kernel
theorem D213_63 : decode prog_12_method_87_code 63 = .ok (.iload_n 3, 1) := by decide +kernel
theorem D213_64 : decode prog_12_method_87_code 64 = .ok (.ishr, 1) := by decide +kernel
theorem D213_65 : decode prog_12_method_87_code 65 = .ok (.iconst 1, 1) := by decide +kernel
theorem D213_66 : decode prog_12_method_87_code 66 = .ok (.iand, 1) := by decide +kernel
theorem D213_67 : decode prog_12_method_87_code 67 = .ok (.iconst 1, 1) := by decide +kernel
theorem D213_68 : decode prog_12_method_87_code 68 = .ok (.if_icmp .ne 15, 3) := by decide +kernel
theorem D213_71 : decode prog_12_method_87_code 71 = .ok (.iload_n 3, 1) := by decide +kernel
theorem D213_72 : decode prog_12_method_87_code 72 = .ok (.iload_n 1, 1) := by decide +kernel
theorem D213_73 : decode prog_12_method_87_code 73 = .ok (.if_icmp .ne 7, 3) := by decide +kernel
theorem D213_76 : decode prog_12_method_87_code 76 = .ok (.iconst 1, 1) := by decide +kernel
theorem D213_77 : decode prog_12_method_87_code 77 = .ok (.goto 4, 3) := by decide +kernel
theorem D213_80 : decode prog_12_method_87_code 80 = .ok (.iconst 2, 1) := by decide +kernel
theorem D213_81 : decode prog_12_method_87_code 81 = .ok (.istore 6, 2) := by decide +kernel
theorem D213_83 : decode prog_12_method_87_code 83 = .ok (.iload 4, 2) := by decide +kernel
theorem D213_85 : decode prog_12_method_87_code 85 = .ok (.iconst 1, 1) := by decide +kernel
theorem D213_86 : decode prog_12_method_87_code 86 = .ok (.iload_n 3, 1) := by decide +kernel
theorem D213_87 : decode prog_12_method_87_code 87 = .ok (.ishl, 1) := by decide +kernel
theorem D213_88 : decode prog_12_method_87_code 88 = .ok (.ior, 1) := by decide +kernel
theorem D213_89 : decode prog_12_method_87_code 89 = .ok (.istore 4, 2) := by decide +kernel
theorem D213_91 : decode prog_12_method_87_code 91 = .ok (.goto (-54), 3) := by decide +kernel
theorem D213_94 : decode prog_12_method_87_code 94 = .ok (.iload_n 2, 1) := by decide +kernel
theorem D213_95 : decode prog_12_method_87_code 95 = .ok (.ifCond .ne 8, 3) := by decide +kernel
theorem D213_98 : decode prog_12_method_87_code 98 = .ok (.iload 6, 2) := by decide +kernel
theorem D213_100 : decode prog_12_method_87_code 100 = .ok (.goto 15, 3) := by decide +kernel
theorem D213_103 : decode prog_12_method_87_code 103 = .ok (.iload_n 2, 1) := by decide +kernel
theorem D213_104 : decode prog_12_method_87_code 104 = .ok (.iconst 1, 1) := by decide +kernel
theorem D213_105 : decode prog_12_method_87_code 105 = .ok (.if_icmp .ne 8, 3) := by decide +kernel
theorem D213_108 : decode prog_12_method_87_code 108 = .ok (.iload 5, 2) := by decide +kernel
theorem D213_110 : decode prog_12_method_87_code 110 = .ok (.goto 5, 3) := by decide +kernel
theorem D213_113 : decode prog_12_method_87_code 113 = .ok (.iload 4, 2) := by decide +kernel
theorem D213_115 : decode prog_12_method_87_code 115 = .ok (.ireturn, 1) := by decide +kernel

theorem b213_0 {d : Nat} {i1 : Int32} {i2 : Int32} {ia : Nat → Nat → Int32} {la : Nat → Nat → Int64} {pl dr : Nat} {cp : Option Nat} {cw : Option Nat} {rp : Option Nat} {K : Option Value → zHP → Prop}  : zWP (d + 1) 213 0 [some (.ref 127), some (.int i1), some (.int i2), none, none, none, none] [] (ia, la, zRA pl dr cp cw rp) K = zWM d 171 [.ref 127, .int i1] ((zu ia 127 0 (0 : Int32)), la, zRA pl dr cp cw rp) (zK (d + 1) 213 10 [some (.ref 127), some (.int i1), some (.int i2), none, none, none, none] [] K) := by
  refine (Q_aload_n zm_213 (Or.inl (by decide)) D213_0 rfl).trans ?_
  refine (Q_iconst (v := 0) zm_213 (Or.inl (by decide)) D213_1 (by decide)).trans ?_
  refine (Q_putI zm_213 (Or.inl (by decide)) D213_2 zf_10_151 zs_10_0 rfl zk_127.1).trans ?_
  refine (Q_aload_n zm_213 (Or.inl (by decide)) D213_5 rfl).trans ?_
  refine (Q_iload_n zm_213 (Or.inl (by decide)) D213_6 rfl).trans ?_
  exact Q_callv (as := [.int i1]) (b := 127) (rest := []) zm_213 (Or.inl (by decide)) D213_7 zc_10_413 rfl zk_127.1 (by decide) (by decide +kernel) (by decide) (by simp [zcat, Value.category]) zm_171 rfl

theorem b213_10 {d : Nat} {i1 : Int32} {i2 : Int32} {s0 : Int32} {ia : Nat → Nat → Int32} {la : Nat → Nat → Int64} {pl dr : Nat} {cp : Option Nat} {cw : Option Nat} {rp : Option Nat} {K : Option Value → zHP → Prop}  : zWP d 213 10 [some (.ref 127), some (.int i1), some (.int i2), none, none, none, none] [.int s0] (ia, la, zRA pl dr cp cw rp) K = (if s0 = 0 then K (some (.int (-1 : Int32))) (ia, la, zRA pl dr cp cw rp) else (if i2 < 0 then K (some (.int (-1 : Int32))) (ia, la, zRA pl dr cp cw rp) else (if i2 ≤ (2 : Int32) then zWP d 213 37 [some (.ref 127), some (.int i1), some (.int i2), some (.int i1), some (.int ((1 : Int32) <<< (i1 &&& 31))), some (.int (0 : Int32)), some (.int (0 : Int32))] [] (ia, la, zRA pl dr cp cw rp) K else K (some (.int (-1 : Int32))) (ia, la, zRA pl dr cp cw rp)))) := by
  refine (Q_if_eq (tgt := 22) zm_213 (Or.inl (by decide)) D213_10 (by decide)).trans ?_
  refine zif_c (fun h0_ => ?_) (fun h0_ => ?_)
  · refine (Q_iconst (v := -1) zm_213 (Or.inl (by decide)) D213_22 (by decide)).trans ?_
    exact Q_ireturn zm_213 (Or.inl (by decide)) D213_23 rfl
  · refine (Q_iload_n zm_213 (Or.inl (by decide)) D213_13 rfl).trans ?_
    refine (Q_if_lt (tgt := 22) zm_213 (Or.inl (by decide)) D213_14 (by decide)).trans ?_
    refine zif_c (fun h1_ => ?_) (fun h1_ => ?_)
    · refine (Q_iconst (v := -1) zm_213 (Or.inl (by decide)) D213_22 (by decide)).trans ?_
      exact Q_ireturn zm_213 (Or.inl (by decide)) D213_23 rfl
    · refine (Q_iload_n zm_213 (Or.inl (by decide)) D213_17 rfl).trans ?_
      refine (Q_iconst (v := 2) zm_213 (Or.inl (by decide)) D213_18 (by decide)).trans ?_
      refine (Q_ic_le (tgt := 24) zm_213 (Or.inl (by decide)) D213_19 (by decide)).trans ?_
      refine zif_c (fun h2_ => ?_) (fun h2_ => ?_)
      · refine (Q_iload_n zm_213 (Or.inl (by decide)) D213_24 rfl).trans ?_
        refine (Q_istore_n (ls' := [some (.ref 127), some (.int i1), some (.int i2), some (.int i1), none, none, none]) zm_213 (Or.inl (by decide)) D213_25 rfl (Nat.le_of_ble_eq_true rfl) rfl).trans ?_
        refine (Q_iconst (v := 1) zm_213 (Or.inl (by decide)) D213_26 (by decide)).trans ?_
        refine (Q_iload_n zm_213 (Or.inl (by decide)) D213_27 rfl).trans ?_
        refine (Q_ishl zm_213 (Or.inl (by decide)) D213_28).trans ?_
        refine (Q_istore (ls' := [some (.ref 127), some (.int i1), some (.int i2), some (.int i1), some (.int ((1 : Int32) <<< (i1 &&& 31))), none, none]) zm_213 (Or.inl (by decide)) D213_29 rfl (Nat.le_of_ble_eq_true rfl) rfl).trans ?_
        refine (Q_iconst (v := 0) zm_213 (Or.inl (by decide)) D213_31 (by decide)).trans ?_
        refine (Q_istore (ls' := [some (.ref 127), some (.int i1), some (.int i2), some (.int i1), some (.int ((1 : Int32) <<< (i1 &&& 31))), some (.int (0 : Int32)), none]) zm_213 (Or.inl (by decide)) D213_32 rfl (Nat.le_of_ble_eq_true rfl) rfl).trans ?_
        refine (Q_iconst (v := 0) zm_213 (Or.inl (by decide)) D213_34 (by decide)).trans ?_
        refine (Q_istore (ls' := [some (.ref 127), some (.int i1), some (.int i2), some (.int i1), some (.int ((1 : Int32) <<< (i1 &&& 31))), some (.int (0 : Int32)), some (.int (0 : Int32))]) zm_213 (Or.inl (by decide)) D213_35 rfl (Nat.le_of_ble_eq_true rfl) rfl).trans ?_
        rfl
      · refine (Q_iconst (v := -1) zm_213 (Or.inl (by decide)) D213_22 (by decide)).trans ?_
        exact Q_ireturn zm_213 (Or.inl (by decide)) D213_23 rfl

theorem b213_37 {d : Nat} {i1 : Int32} {i2 : Int32} {i3 : Int32} {i4 : Int32} {i5 : Int32} {i6 : Int32} {ia : Nat → Nat → Int32} {la : Nat → Nat → Int64} {pl dr : Nat} {cp : Option Nat} {cw : Option Nat} {rp : Option Nat} {K : Option Value → zHP → Prop}  : zWP (d + 1) 213 37 [some (.ref 127), some (.int i1), some (.int i2), some (.int i3), some (.int i4), some (.int i5), some (.int i6)] [] (ia, la, zRA pl dr cp cw rp) K = (if ¬ i6 = 0 then zWP (d + 1) 213 94 [some (.ref 127), some (.int i1), some (.int i2), some (.int i3), some (.int i4), some (.int i5), some (.int i6)] [] (ia, la, zRA pl dr cp cw rp) K else zWM d 172 [.ref 127, .int (0 : Int32), .int i3] (ia, la, zRA pl dr cp cw rp) (zK (d + 1) 213 48 [some (.ref 127), some (.int i1), some (.int i2), some (.int i3), some (.int i4), some (.int i5), some (.int i6)] [] K)) := by
  refine (Q_iload zm_213 (Or.inl (by decide)) D213_37 rfl).trans ?_
  refine (Q_if_ne (tgt := 94) zm_213 (Or.inl (by decide)) D213_39 (by decide)).trans ?_
  refine zif_c (fun h0_ => ?_) (fun h0_ => ?_)
  · rfl
  · refine (Q_aload_n zm_213 (Or.inl (by decide)) D213_42 rfl).trans ?_
    refine (Q_iconst (v := 0) zm_213 (Or.inl (by decide)) D213_43 (by decide)).trans ?_
    refine (Q_iload_n zm_213 (Or.inl (by decide)) D213_44 rfl).trans ?_
    exact Q_callv (as := [.int (0 : Int32), .int i3]) (b := 127) (rest := []) zm_213 (Or.inl (by decide)) D213_45 zc_10_340 rfl zk_127.1 (by decide) (by decide +kernel) (by decide) (by simp [zcat, Value.category]) zm_172 rfl

theorem b213_94 {d : Nat} {i1 : Int32} {i2 : Int32} {i3 : Int32} {i4 : Int32} {i5 : Int32} {i6 : Int32} {ia : Nat → Nat → Int32} {la : Nat → Nat → Int64} {pl dr : Nat} {cp : Option Nat} {cw : Option Nat} {rp : Option Nat} {K : Option Value → zHP → Prop}  : zWP d 213 94 [some (.ref 127), some (.int i1), some (.int i2), some (.int i3), some (.int i4), some (.int i5), some (.int i6)] [] (ia, la, zRA pl dr cp cw rp) K = (if ¬ i2 = 0 then (if ¬ i2 = (1 : Int32) then K (some (.int i4)) (ia, la, zRA pl dr cp cw rp) else K (some (.int i5)) (ia, la, zRA pl dr cp cw rp)) else K (some (.int i6)) (ia, la, zRA pl dr cp cw rp)) := by
  refine (Q_iload_n zm_213 (Or.inl (by decide)) D213_94 rfl).trans ?_
  refine (Q_if_ne (tgt := 103) zm_213 (Or.inl (by decide)) D213_95 (by decide)).trans ?_
  refine zif_c (fun h0_ => ?_) (fun h0_ => ?_)
  · refine (Q_iload_n zm_213 (Or.inl (by decide)) D213_103 rfl).trans ?_
    refine (Q_iconst (v := 1) zm_213 (Or.inl (by decide)) D213_104 (by decide)).trans ?_
    refine (Q_ic_ne (tgt := 113) zm_213 (Or.inl (by decide)) D213_105 (by decide)).trans ?_
    refine zif_c (fun h1_ => ?_) (fun h1_ => ?_)
    · refine (Q_iload zm_213 (Or.inl (by decide)) D213_113 rfl).trans ?_
      exact Q_ireturn zm_213 (Or.inl (by decide)) D213_115 rfl
    · refine (Q_iload zm_213 (Or.inl (by decide)) D213_108 rfl).trans ?_
      refine (Q_goto (tgt := 115) zm_213 (Or.inl (by decide)) D213_110 (by decide)).trans ?_
      exact Q_ireturn zm_213 (Or.inl (by decide)) D213_115 rfl
  · refine (Q_iload zm_213 (Or.inl (by decide)) D213_98 rfl).trans ?_
    refine (Q_goto (tgt := 115) zm_213 (Or.inl (by decide)) D213_100 (by decide)).trans ?_
    exact Q_ireturn zm_213 (Or.inl (by decide)) D213_115 rfl

theorem b213_48 {d : Nat} {i1 : Int32} {i2 : Int32} {i3 : Int32} {i4 : Int32} {i5 : Int32} {i6 : Int32} {s0 : Int32} {ia : Nat → Nat → Int32} {la : Nat → Nat → Int64} {pl dr : Nat} {cp : Option Nat} {cw : Option Nat} {rp : Option Nat} {K : Option Value → zHP → Prop}  : zWP d 213 48 [some (.ref 127), some (.int i1), some (.int i2), some (.int i3), some (.int i4), some (.int i5), some (.int i6)] [.int s0] (ia, la, zRA pl dr cp cw rp) K = (if s0 = 0 then zWP d 213 94 [some (.ref 127), some (.int i1), some (.int i2), some (.int i3), some (.int i4), some (.int i5), some (.int i6)] [] (ia, la, zRA pl dr cp cw rp) K else (vp_in i3 138 ∧ (if ¬ ((i4 >>> ((ia 153 (i3).toNatClampNeg) &&& 31)) &&& (1 : Int32)) = (1 : Int32) then zWP d 213 37 [some (.ref 127), some (.int i1), some (.int i2), some (.int (ia 153 (i3).toNatClampNeg)), some (.int (i4 ||| ((1 : Int32) <<< ((ia 153 (i3).toNatClampNeg) &&& 31)))), some (.int (i5 + (1 : Int32))), some (.int i6)] [] (ia, la, zRA pl dr cp cw rp) K else (if ¬ (ia 153 (i3).toNatClampNeg) = i1 then zWP d 213 37 [some (.ref 127), some (.int i1), some (.int i2), some (.int (ia 153 (i3).toNatClampNeg)), some (.int (i4 ||| ((1 : Int32) <<< ((ia 153 (i3).toNatClampNeg) &&& 31)))), some (.int (i5 + (1 : Int32))), some (.int (2 : Int32))] [] (ia, la, zRA pl dr cp cw rp) K else zWP d 213 37 [some (.ref 127), some (.int i1), some (.int i2), some (.int (ia 153 (i3).toNatClampNeg)), some (.int (i4 ||| ((1 : Int32) <<< ((ia 153 (i3).toNatClampNeg) &&& 31)))), some (.int (i5 + (1 : Int32))), some (.int (1 : Int32))] [] (ia, la, zRA pl dr cp cw rp) K)))) := by
  refine (Q_if_eq (tgt := 94) zm_213 (Or.inl (by decide)) D213_48 (by decide)).trans ?_
  refine zif_c (fun h0_ => ?_) (fun h0_ => ?_)
  · rfl
  · refine (Q_aload_n zm_213 (Or.inl (by decide)) D213_51 rfl).trans ?_
    refine (Q_getR (q := 153) zm_213 (Or.inl (by decide)) D213_52 zf_10_90 zs_10_41 zk_127.1 rfl).trans ?_
    refine (Q_iload_n zm_213 (Or.inl (by decide)) D213_55 rfl).trans ?_
    refine (Q_iaload zm_213 (Or.inl (by decide)) D213_56 zk_153.1 zk_153.2).trans ?_
    refine zand_c (fun h1_ => ?_)
    refine (Q_istore_n (ls' := [some (.ref 127), some (.int i1), some (.int i2), some (.int (ia 153 (i3).toNatClampNeg)), some (.int i4), some (.int i5), some (.int i6)]) zm_213 (Or.inl (by decide)) D213_57 rfl (Nat.le_of_ble_eq_true rfl) rfl).trans ?_
    refine (Q_iinc (v := 1) (ls' := [some (.ref 127), some (.int i1), some (.int i2), some (.int (ia 153 (i3).toNatClampNeg)), some (.int i4), some (.int (i5 + (1 : Int32))), some (.int i6)]) zm_213 (Or.inl (by decide)) D213_58 rfl rfl (by decide) rfl).trans ?_
    refine (Q_iload zm_213 (Or.inl (by decide)) D213_61 rfl).trans ?_
    refine (Q_iload_n zm_213 (Or.inl (by decide)) D213_63 rfl).trans ?_
    refine (Q_ishr zm_213 (Or.inl (by decide)) D213_64).trans ?_
    refine (Q_iconst (v := 1) zm_213 (Or.inl (by decide)) D213_65 (by decide)).trans ?_
    refine (Q_iand zm_213 (Or.inl (by decide)) D213_66).trans ?_
    refine (Q_iconst (v := 1) zm_213 (Or.inl (by decide)) D213_67 (by decide)).trans ?_
    refine (Q_ic_ne (tgt := 83) zm_213 (Or.inl (by decide)) D213_68 (by decide)).trans ?_
    refine zif_c (fun h2_ => ?_) (fun h2_ => ?_)
    · refine (Q_iload zm_213 (Or.inl (by decide)) D213_83 rfl).trans ?_
      refine (Q_iconst (v := 1) zm_213 (Or.inl (by decide)) D213_85 (by decide)).trans ?_
      refine (Q_iload_n zm_213 (Or.inl (by decide)) D213_86 rfl).trans ?_
      refine (Q_ishl zm_213 (Or.inl (by decide)) D213_87).trans ?_
      refine (Q_ior zm_213 (Or.inl (by decide)) D213_88).trans ?_
      refine (Q_istore (ls' := [some (.ref 127), some (.int i1), some (.int i2), some (.int (ia 153 (i3).toNatClampNeg)), some (.int (i4 ||| ((1 : Int32) <<< ((ia 153 (i3).toNatClampNeg) &&& 31)))), some (.int (i5 + (1 : Int32))), some (.int i6)]) zm_213 (Or.inl (by decide)) D213_89 rfl (Nat.le_of_ble_eq_true rfl) rfl).trans ?_
      refine (Q_goto (tgt := 37) zm_213 (Or.inl (by decide)) D213_91 (by decide)).trans ?_
      rfl
    · refine (Q_iload_n zm_213 (Or.inl (by decide)) D213_71 rfl).trans ?_
      refine (Q_iload_n zm_213 (Or.inl (by decide)) D213_72 rfl).trans ?_
      refine (Q_ic_ne (tgt := 80) zm_213 (Or.inl (by decide)) D213_73 (by decide)).trans ?_
      refine zif_c (fun h3_ => ?_) (fun h3_ => ?_)
      · refine (Q_iconst (v := 2) zm_213 (Or.inl (by decide)) D213_80 (by decide)).trans ?_
        refine (Q_istore (ls' := [some (.ref 127), some (.int i1), some (.int i2), some (.int (ia 153 (i3).toNatClampNeg)), some (.int i4), some (.int (i5 + (1 : Int32))), some (.int (2 : Int32))]) zm_213 (Or.inl (by decide)) D213_81 rfl (Nat.le_of_ble_eq_true rfl) rfl).trans ?_
        refine (Q_iload zm_213 (Or.inl (by decide)) D213_83 rfl).trans ?_
        refine (Q_iconst (v := 1) zm_213 (Or.inl (by decide)) D213_85 (by decide)).trans ?_
        refine (Q_iload_n zm_213 (Or.inl (by decide)) D213_86 rfl).trans ?_
        refine (Q_ishl zm_213 (Or.inl (by decide)) D213_87).trans ?_
        refine (Q_ior zm_213 (Or.inl (by decide)) D213_88).trans ?_
        refine (Q_istore (ls' := [some (.ref 127), some (.int i1), some (.int i2), some (.int (ia 153 (i3).toNatClampNeg)), some (.int (i4 ||| ((1 : Int32) <<< ((ia 153 (i3).toNatClampNeg) &&& 31)))), some (.int (i5 + (1 : Int32))), some (.int (2 : Int32))]) zm_213 (Or.inl (by decide)) D213_89 rfl (Nat.le_of_ble_eq_true rfl) rfl).trans ?_
        refine (Q_goto (tgt := 37) zm_213 (Or.inl (by decide)) D213_91 (by decide)).trans ?_
        rfl
      · refine (Q_iconst (v := 1) zm_213 (Or.inl (by decide)) D213_76 (by decide)).trans ?_
        refine (Q_goto (tgt := 81) zm_213 (Or.inl (by decide)) D213_77 (by decide)).trans ?_
        refine (Q_istore (ls' := [some (.ref 127), some (.int i1), some (.int i2), some (.int (ia 153 (i3).toNatClampNeg)), some (.int i4), some (.int (i5 + (1 : Int32))), some (.int (1 : Int32))]) zm_213 (Or.inl (by decide)) D213_81 rfl (Nat.le_of_ble_eq_true rfl) rfl).trans ?_
        refine (Q_iload zm_213 (Or.inl (by decide)) D213_83 rfl).trans ?_
        refine (Q_iconst (v := 1) zm_213 (Or.inl (by decide)) D213_85 (by decide)).trans ?_
        refine (Q_iload_n zm_213 (Or.inl (by decide)) D213_86 rfl).trans ?_
        refine (Q_ishl zm_213 (Or.inl (by decide)) D213_87).trans ?_
        refine (Q_ior zm_213 (Or.inl (by decide)) D213_88).trans ?_
        refine (Q_istore (ls' := [some (.ref 127), some (.int i1), some (.int i2), some (.int (ia 153 (i3).toNatClampNeg)), some (.int (i4 ||| ((1 : Int32) <<< ((ia 153 (i3).toNatClampNeg) &&& 31)))), some (.int (i5 + (1 : Int32))), some (.int (1 : Int32))]) zm_213 (Or.inl (by decide)) D213_89 rfl (Nat.le_of_ble_eq_true rfl) rfl).trans ?_
        refine (Q_goto (tgt := 37) zm_213 (Or.inl (by decide)) D213_91 (by decide)).trans ?_
        rfl

/-! HandsLetModel.isTaught(I)Z -/
theorem D214_0 : decode prog_12_method_88_code 0 = .ok (.iconst 0, 1) := by decide +kernel
theorem D214_1 : decode prog_12_method_88_code 1 = .ok (.istore_n 2, 1) := by decide +kernel
theorem D214_2 : decode prog_12_method_88_code 2 = .ok (.iload_n 2, 1) := by decide +kernel
theorem D214_3 : decode prog_12_method_88_code 3 = .ok (.iconst 3, 1) := by decide +kernel
theorem D214_4 : decode prog_12_method_88_code 4 = .ok (.if_icmp .ge 48, 3) := by decide +kernel
theorem D214_7 : decode prog_12_method_88_code 7 = .ok (.aload_n 0, 1) := by decide +kernel
theorem D214_8 : decode prog_12_method_88_code 8 = .ok (.getfield 87, 3) := by decide +kernel
theorem D214_11 : decode prog_12_method_88_code 11 = .ok (.iconst 3, 1) := by decide +kernel
theorem D214_12 : decode prog_12_method_88_code 12 = .ok (.bipush 6, 2) := by decide +kernel
theorem D214_14 : decode prog_12_method_88_code 14 = .ok (.iload_n 1, 1) := by decide +kernel
theorem D214_15 : decode prog_12_method_88_code 15 = .ok (.iadd, 1) := by decide +kernel
theorem D214_16 : decode prog_12_method_88_code 16 = .ok (.imul, 1) := by decide +kernel
theorem D214_17 : decode prog_12_method_88_code 17 = .ok (.iload_n 2, 1) := by decide +kernel
theorem D214_18 : decode prog_12_method_88_code 18 = .ok (.iadd, 1) := by decide +kernel
theorem D214_19 : decode prog_12_method_88_code 19 = .ok (.iaload, 1) := by decide +kernel
theorem D214_20 : decode prog_12_method_88_code 20 = .ok (.sipush 1000, 3) := by decide +kernel
theorem D214_23 : decode prog_12_method_88_code 23 = .ok (.aload_n 0, 1) := by decide +kernel
theorem D214_24 : decode prog_12_method_88_code 24 = .ok (.getfield 19, 3) := by decide +kernel
theorem D214_27 : decode prog_12_method_88_code 27 = .ok (.iconst 3, 1) := by decide +kernel
theorem D214_28 : decode prog_12_method_88_code 28 = .ok (.iload_n 1, 1) := by decide +kernel
theorem D214_29 : decode prog_12_method_88_code 29 = .ok (.imul, 1) := by decide +kernel
theorem D214_30 : decode prog_12_method_88_code 30 = .ok (.iload_n 2, 1) := by decide +kernel
theorem D214_31 : decode prog_12_method_88_code 31 = .ok (.iadd, 1) := by decide +kernel
theorem D214_32 : decode prog_12_method_88_code 32 = .ok (.iaload, 1) := by decide +kernel
theorem D214_33 : decode prog_12_method_88_code 33 = .ok (.imul, 1) := by decide +kernel
theorem D214_34 : decode prog_12_method_88_code 34 = .ok (.isub, 1) := by decide +kernel
theorem D214_35 : decode prog_12_method_88_code 35 = .ok (.invokestatic 411, 3) := by decide +kernel
theorem D214_38 : decode prog_12_method_88_code 38 = .ok (.sipush 1000, 3) := by decide +kernel
theorem D214_41 : decode prog_12_method_88_code 41 = .ok (.if_icmp .lt 5, 3) := by decide +kernel
theorem D214_44 : decode prog_12_method_88_code 44 = .ok (.iconst 0, 1) := by decide +kernel
theorem D214_45 : decode prog_12_method_88_code 45 = .ok (.ireturn, 1) := by decide +kernel
theorem D214_46 : decode prog_12_method_88_code 46 = .ok (.iinc 2 1, 3) := by decide +kernel
theorem D214_49 : decode prog_12_method_88_code 49 = .ok (.goto (-47), 3) := by decide +kernel
theorem D214_52 : decode prog_12_method_88_code 52 = .ok (.iconst 1, 1) := by decide +kernel
theorem D214_53 : decode prog_12_method_88_code 53 = .ok (.ireturn, 1) := by decide +kernel

theorem b214_0 {d : Nat} {i1 : Int32} {ia : Nat → Nat → Int32} {la : Nat → Nat → Int64} {pl dr : Nat} {cp : Option Nat} {cw : Option Nat} {rp : Option Nat} {K : Option Value → zHP → Prop}  : zWP d 214 0 [some (.ref 127), some (.int i1), none] [] (ia, la, zRA pl dr cp cw rp) K = zWP d 214 2 [some (.ref 127), some (.int i1), some (.int (0 : Int32))] [] (ia, la, zRA pl dr cp cw rp) K := by
  refine (Q_iconst (v := 0) zm_214 (Or.inl (by decide)) D214_0 (by decide)).trans ?_
  refine (Q_istore_n (ls' := [some (.ref 127), some (.int i1), some (.int (0 : Int32))]) zm_214 (Or.inl (by decide)) D214_1 rfl (Nat.le_of_ble_eq_true rfl) rfl).trans ?_
  rfl

theorem b214_2 {d : Nat} {i1 : Int32} {i2 : Int32} {ia : Nat → Nat → Int32} {la : Nat → Nat → Int64} {pl dr : Nat} {cp : Option Nat} {cw : Option Nat} {rp : Option Nat} {K : Option Value → zHP → Prop}  : zWP (d + 5) 214 2 [some (.ref 127), some (.int i1), some (.int i2)] [] (ia, la, zRA pl dr cp cw rp) K = (if (3 : Int32) ≤ i2 then K (some (.int (1 : Int32))) (ia, la, zRA pl dr cp cw rp) else (vp_in (((3 : Int32) * ((6 : Int32) + i1)) + i2) 414 ∧ (vp_in (((3 : Int32) * i1) + i2) 36 ∧ (if (if 0 ≤ ((ia 152 ((((3 : Int32) * ((6 : Int32) + i1)) + i2)).toNatClampNeg) - ((1000 : Int32) * (ia 131 ((((3 : Int32) * i1) + i2)).toNatClampNeg))) then ((ia 152 ((((3 : Int32) * ((6 : Int32) + i1)) + i2)).toNatClampNeg) - ((1000 : Int32) * (ia 131 ((((3 : Int32) * i1) + i2)).toNatClampNeg))) else 0 - ((ia 152 ((((3 : Int32) * ((6 : Int32) + i1)) + i2)).toNatClampNeg) - ((1000 : Int32) * (ia 131 ((((3 : Int32) * i1) + i2)).toNatClampNeg)))) < (1000 : Int32) then zWP (d + 5) 214 2 [some (.ref 127), some (.int i1), some (.int (i2 + (1 : Int32)))] [] (ia, la, zRA pl dr cp cw rp) K else K (some (.int (0 : Int32))) (ia, la, zRA pl dr cp cw rp))))) := by
  refine (Q_iload_n zm_214 (Or.inl (by decide)) D214_2 rfl).trans ?_
  refine (Q_iconst (v := 3) zm_214 (Or.inl (by decide)) D214_3 (by decide)).trans ?_
  refine (Q_ic_ge (tgt := 52) zm_214 (Or.inl (by decide)) D214_4 (by decide)).trans ?_
  refine zif_c (fun h0_ => ?_) (fun h0_ => ?_)
  · refine (Q_iconst (v := 1) zm_214 (Or.inl (by decide)) D214_52 (by decide)).trans ?_
    exact Q_zreturn zm_214 (Or.inl (by decide)) D214_53 rfl (by decide)
  · refine (Q_aload_n zm_214 (Or.inl (by decide)) D214_7 rfl).trans ?_
    refine (Q_getR (q := 152) zm_214 (Or.inl (by decide)) D214_8 zf_10_87 zs_10_40 zk_127.1 rfl).trans ?_
    refine (Q_iconst (v := 3) zm_214 (Or.inl (by decide)) D214_11 (by decide)).trans ?_
    refine (Q_bipush (v := 6) zm_214 (Or.inl (by decide)) D214_12 (by decide)).trans ?_
    refine (Q_iload_n zm_214 (Or.inl (by decide)) D214_14 rfl).trans ?_
    refine (Q_iadd zm_214 (Or.inl (by decide)) D214_15).trans ?_
    refine (Q_imul zm_214 (Or.inl (by decide)) D214_16).trans ?_
    refine (Q_iload_n zm_214 (Or.inl (by decide)) D214_17 rfl).trans ?_
    refine (Q_iadd zm_214 (Or.inl (by decide)) D214_18).trans ?_
    refine (Q_iaload zm_214 (Or.inl (by decide)) D214_19 zk_152.1 zk_152.2).trans ?_
    refine zand_c (fun h1_ => ?_)
    refine (Q_sipush (v := 1000) zm_214 (Or.inl (by decide)) D214_20 (by decide)).trans ?_
    refine (Q_aload_n zm_214 (Or.inl (by decide)) D214_23 rfl).trans ?_
    refine (Q_getR (q := 131) zm_214 (Or.inl (by decide)) D214_24 zf_10_19 zs_10_5 zk_127.1 rfl).trans ?_
    refine (Q_iconst (v := 3) zm_214 (Or.inl (by decide)) D214_27 (by decide)).trans ?_
    refine (Q_iload_n zm_214 (Or.inl (by decide)) D214_28 rfl).trans ?_
    refine (Q_imul zm_214 (Or.inl (by decide)) D214_29).trans ?_
    refine (Q_iload_n zm_214 (Or.inl (by decide)) D214_30 rfl).trans ?_
    refine (Q_iadd zm_214 (Or.inl (by decide)) D214_31).trans ?_
    refine (Q_iaload zm_214 (Or.inl (by decide)) D214_32 zk_131.1 zk_131.2).trans ?_
    refine zand_c (fun h2_ => ?_)
    refine (Q_imul zm_214 (Or.inl (by decide)) D214_33).trans ?_
    refine (Q_isub zm_214 (Or.inl (by decide)) D214_34).trans ?_
    refine (Q_bis (as := [.int ((ia 152 ((((3 : Int32) * ((6 : Int32) + i1)) + i2)).toNatClampNeg) - ((1000 : Int32) * (ia 131 ((((3 : Int32) * i1) + i2)).toNatClampNeg)))]) (rest := []) zm_214 (Or.inl (by decide)) D214_35 zc_10_411 rfl (by decide) (by simp [zcat, Value.category]) rfl).trans ?_
    refine (Q_sipush (v := 1000) zm_214 (Or.inl (by decide)) D214_38 (by decide)).trans ?_
    refine (Q_ic_lt (tgt := 46) zm_214 (Or.inl (by decide)) D214_41 (by decide)).trans ?_
    refine zif_c (fun h3_ => ?_) (fun h3_ => ?_)
    · refine (Q_iinc (v := 1) (ls' := [some (.ref 127), some (.int i1), some (.int (i2 + (1 : Int32)))]) zm_214 (Or.inl (by decide)) D214_46 rfl rfl (by decide) rfl).trans ?_
      refine (Q_goto (tgt := 2) zm_214 (Or.inl (by decide)) D214_49 (by decide)).trans ?_
      rfl
    · refine (Q_iconst (v := 0) zm_214 (Or.inl (by decide)) D214_44 (by decide)).trans ?_
      exact Q_zreturn zm_214 (Or.inl (by decide)) D214_45 rfl (by decide)

/-! HandsLetModel.lessons(I)I -/
theorem D215_0 : decode prog_12_method_89_code 0 = .ok (.aload_n 0, 1) := by decide +kernel
theorem D215_1 : decode prog_12_method_89_code 1 = .ok (.iconst 0, 1) := by decide +kernel
theorem D215_2 : decode prog_12_method_89_code 2 = .ok (.putfield 151, 3) := by decide +kernel
theorem D215_5 : decode prog_12_method_89_code 5 = .ok (.aload_n 0, 1) := by decide +kernel
theorem D215_6 : decode prog_12_method_89_code 6 = .ok (.iload_n 1, 1) := by decide +kernel
theorem D215_7 : decode prog_12_method_89_code 7 = .ok (.invokevirtual 413, 3) := by decide +kernel
theorem D215_10 : decode prog_12_method_89_code 10 = .ok (.ifCond .ne 5, 3) := by decide +kernel
theorem D215_13 : decode prog_12_method_89_code 13 = .ok (.iconst (-1), 1) := by decide +kernel
theorem D215_14 : decode prog_12_method_89_code 14 = .ok (.ireturn, 1) := by decide +kernel
theorem D215_15 : decode prog_12_method_89_code 15 = .ok (.aload_n 0, 1) := by decide +kernel
theorem D215_16 : decode prog_12_method_89_code 16 = .ok (.iconst 1, 1) := by decide +kernel
theorem D215_17 : decode prog_12_method_89_code 17 = .ok (.iconst 0, 1) := by decide +kernel
theorem D215_18 : decode prog_12_method_89_code 18 = .ok (.invokevirtual 429, 3) := by decide +kernel
theorem D215_21 : decode prog_12_method_89_code 21 = .ok (.iconst 0, 1) := by decide +kernel
theorem D215_22 : decode prog_12_method_89_code 22 = .ok (.istore_n 2, 1) := by decide +kernel
theorem D215_23 : decode prog_12_method_89_code 23 = .ok (.aload_n 0, 1) := by decide +kernel
theorem D215_24 : decode prog_12_method_89_code 24 = .ok (.iload_n 1, 1) := by decide +kernel
theorem D215_25 : decode prog_12_method_89_code 25 = .ok (.invokevirtual 464, 3) := by decide +kernel
theorem D215_28 : decode prog_12_method_89_code 28 = .ok (.ifCond .ne 15, 3) := by decide +kernel
theorem D215_31 : decode prog_12_method_89_code 31 = .ok (.aload_n 0, 1) := by decide +kernel
theorem D215_32 : decode prog_12_method_89_code 32 = .ok (.iconst 1, 1) := by decide +kernel
theorem D215_33 : decode prog_12_method_89_code 33 = .ok (.iload_n 1, 1) := by decide +kernel
theorem D215_34 : decode prog_12_method_89_code 34 = .ok (.invokevirtual 435, 3) := by decide +kernel
theorem D215_37 : decode prog_12_method_89_code 37 = .ok (.iinc 2 1, 3) := by decide +kernel
theorem D215_40 : decode prog_12_method_89_code 40 = .ok (.goto (-17), 3) := by decide +kernel
theorem D215_43 : decode prog_12_method_89_code 43 = .ok (.iload_n 2, 1) := by decide +kernel
theorem D215_44 : decode prog_12_method_89_code 44 = .ok (.ireturn, 1) := by decide +kernel

theorem b215_0 {d : Nat} {i1 : Int32} {ia : Nat → Nat → Int32} {la : Nat → Nat → Int64} {pl dr : Nat} {cp : Option Nat} {cw : Option Nat} {rp : Option Nat} {K : Option Value → zHP → Prop}  : zWP (d + 1) 215 0 [some (.ref 127), some (.int i1), none] [] (ia, la, zRA pl dr cp cw rp) K = zWM d 171 [.ref 127, .int i1] ((zu ia 127 0 (0 : Int32)), la, zRA pl dr cp cw rp) (zK (d + 1) 215 10 [some (.ref 127), some (.int i1), none] [] K) := by
  refine (Q_aload_n zm_215 (Or.inl (by decide)) D215_0 rfl).trans ?_
  refine (Q_iconst (v := 0) zm_215 (Or.inl (by decide)) D215_1 (by decide)).trans ?_
  refine (Q_putI zm_215 (Or.inl (by decide)) D215_2 zf_10_151 zs_10_0 rfl zk_127.1).trans ?_
  refine (Q_aload_n zm_215 (Or.inl (by decide)) D215_5 rfl).trans ?_
  refine (Q_iload_n zm_215 (Or.inl (by decide)) D215_6 rfl).trans ?_
  exact Q_callv (as := [.int i1]) (b := 127) (rest := []) zm_215 (Or.inl (by decide)) D215_7 zc_10_413 rfl zk_127.1 (by decide) (by decide +kernel) (by decide) (by simp [zcat, Value.category]) zm_171 rfl

theorem b215_10 {d : Nat} {i1 : Int32} {s0 : Int32} {ia : Nat → Nat → Int32} {la : Nat → Nat → Int64} {pl dr : Nat} {cp : Option Nat} {cw : Option Nat} {rp : Option Nat} {K : Option Value → zHP → Prop}  : zWP (d + 1) 215 10 [some (.ref 127), some (.int i1), none] [.int s0] (ia, la, zRA pl dr cp cw rp) K = (if ¬ s0 = 0 then zWM d 170 [.ref 127, .int (1 : Int32), .int (0 : Int32)] (ia, la, zRA pl dr cp cw rp) (zK (d + 1) 215 21 [some (.ref 127), some (.int i1), none] [] K) else K (some (.int (-1 : Int32))) (ia, la, zRA pl dr cp cw rp)) := by
  refine (Q_if_ne (tgt := 15) zm_215 (Or.inl (by decide)) D215_10 (by decide)).trans ?_
  refine zif_c (fun h0_ => ?_) (fun h0_ => ?_)
  · refine (Q_aload_n zm_215 (Or.inl (by decide)) D215_15 rfl).trans ?_
    refine (Q_iconst (v := 1) zm_215 (Or.inl (by decide)) D215_16 (by decide)).trans ?_
    refine (Q_iconst (v := 0) zm_215 (Or.inl (by decide)) D215_17 (by decide)).trans ?_
    exact Q_callv (as := [.int (1 : Int32), .int (0 : Int32)]) (b := 127) (rest := []) zm_215 (Or.inl (by decide)) D215_18 zc_10_429 rfl zk_127.1 (by decide) (by decide +kernel) (by decide) (by simp [zcat, Value.category]) zm_170 rfl
  · refine (Q_iconst (v := -1) zm_215 (Or.inl (by decide)) D215_13 (by decide)).trans ?_
    exact Q_ireturn zm_215 (Or.inl (by decide)) D215_14 rfl

theorem b215_21 {d : Nat} {i1 : Int32} {ia : Nat → Nat → Int32} {la : Nat → Nat → Int64} {pl dr : Nat} {cp : Option Nat} {cw : Option Nat} {rp : Option Nat} {K : Option Value → zHP → Prop}  : zWP d 215 21 [some (.ref 127), some (.int i1), none] [] (ia, la, zRA pl dr cp cw rp) K = zWP d 215 23 [some (.ref 127), some (.int i1), some (.int (0 : Int32))] [] (ia, la, zRA pl dr cp cw rp) K := by
  refine (Q_iconst (v := 0) zm_215 (Or.inl (by decide)) D215_21 (by decide)).trans ?_
  refine (Q_istore_n (ls' := [some (.ref 127), some (.int i1), some (.int (0 : Int32))]) zm_215 (Or.inl (by decide)) D215_22 rfl (Nat.le_of_ble_eq_true rfl) rfl).trans ?_
  rfl

theorem b215_23 {d : Nat} {i1 : Int32} {i2 : Int32} {ia : Nat → Nat → Int32} {la : Nat → Nat → Int64} {pl dr : Nat} {cp : Option Nat} {cw : Option Nat} {rp : Option Nat} {K : Option Value → zHP → Prop}  : zWP (d + 1) 215 23 [some (.ref 127), some (.int i1), some (.int i2)] [] (ia, la, zRA pl dr cp cw rp) K = zWM d 214 [.ref 127, .int i1] (ia, la, zRA pl dr cp cw rp) (zK (d + 1) 215 28 [some (.ref 127), some (.int i1), some (.int i2)] [] K) := by
  refine (Q_aload_n zm_215 (Or.inl (by decide)) D215_23 rfl).trans ?_
  refine (Q_iload_n zm_215 (Or.inl (by decide)) D215_24 rfl).trans ?_
  exact Q_callv (as := [.int i1]) (b := 127) (rest := []) zm_215 (Or.inl (by decide)) D215_25 zc_10_464 rfl zk_127.1 (by decide) (by decide +kernel) (by decide) (by simp [zcat, Value.category]) zm_214 rfl

theorem b215_28 {d : Nat} {i1 : Int32} {i2 : Int32} {s0 : Int32} {ia : Nat → Nat → Int32} {la : Nat → Nat → Int64} {pl dr : Nat} {cp : Option Nat} {cw : Option Nat} {rp : Option Nat} {K : Option Value → zHP → Prop}  : zWP (d + 1) 215 28 [some (.ref 127), some (.int i1), some (.int i2)] [.int s0] (ia, la, zRA pl dr cp cw rp) K = (if ¬ s0 = 0 then K (some (.int i2)) (ia, la, zRA pl dr cp cw rp) else zWM d 199 [.ref 127, .int (1 : Int32), .int i1] (ia, la, zRA pl dr cp cw rp) (zK (d + 1) 215 37 [some (.ref 127), some (.int i1), some (.int i2)] [] K)) := by
  refine (Q_if_ne (tgt := 43) zm_215 (Or.inl (by decide)) D215_28 (by decide)).trans ?_
  refine zif_c (fun h0_ => ?_) (fun h0_ => ?_)
  · refine (Q_iload_n zm_215 (Or.inl (by decide)) D215_43 rfl).trans ?_
    exact Q_ireturn zm_215 (Or.inl (by decide)) D215_44 rfl
  · refine (Q_aload_n zm_215 (Or.inl (by decide)) D215_31 rfl).trans ?_
    refine (Q_iconst (v := 1) zm_215 (Or.inl (by decide)) D215_32 (by decide)).trans ?_
    refine (Q_iload_n zm_215 (Or.inl (by decide)) D215_33 rfl).trans ?_
    exact Q_callv (as := [.int (1 : Int32), .int i1]) (b := 127) (rest := []) zm_215 (Or.inl (by decide)) D215_34 zc_10_435 rfl zk_127.1 (by decide) (by decide +kernel) (by decide) (by simp [zcat, Value.category]) zm_199 rfl

theorem b215_37 {d : Nat} {i1 : Int32} {i2 : Int32} {ia : Nat → Nat → Int32} {la : Nat → Nat → Int64} {pl dr : Nat} {cp : Option Nat} {cw : Option Nat} {rp : Option Nat} {K : Option Value → zHP → Prop}  : zWP d 215 37 [some (.ref 127), some (.int i1), some (.int i2)] [] (ia, la, zRA pl dr cp cw rp) K = zWP d 215 23 [some (.ref 127), some (.int i1), some (.int (i2 + (1 : Int32)))] [] (ia, la, zRA pl dr cp cw rp) K := by
  refine (Q_iinc (v := 1) (ls' := [some (.ref 127), some (.int i1), some (.int (i2 + (1 : Int32)))]) zm_215 (Or.inl (by decide)) D215_37 rfl rfl (by decide) rfl).trans ?_
  refine (Q_goto (tgt := 23) zm_215 (Or.inl (by decide)) D215_40 (by decide)).trans ?_
  rfl

/-! HandsLetModel.hasOf(IIII)I -/
theorem D216_0 : decode prog_12_method_90_code 0 = .ok (.iload_n 3, 1) := by decide +kernel
theorem D216_1 : decode prog_12_method_90_code 1 = .ok (.ifCond .ne 14, 3) := by decide +kernel
theorem D216_4 : decode prog_12_method_90_code 4 = .ok (.iload 4, 2) := by decide +kernel
theorem D216_6 : decode prog_12_method_90_code 6 = .ok (.ifCond .ne 7, 3) := by decide +kernel
theorem D216_9 : decode prog_12_method_90_code 9 = .ok (.iconst 2, 1) := by decide +kernel
theorem D216_10 : decode prog_12_method_90_code 10 = .ok (.goto 4, 3) := by decide +kernel
theorem D216_13 : decode prog_12_method_90_code 13 = .ok (.iconst 1, 1) := by decide +kernel
theorem D216_14 : decode prog_12_method_90_code 14 = .ok (.ireturn, 1) := by decide +kernel
theorem D216_15 : decode prog_12_method_90_code 15 = .ok (.iload 4, 2) := by decide +kernel
theorem D216_17 : decode prog_12_method_90_code 17 = .ok (.ifCond .ne 15, 3) := by decide +kernel
theorem D216_20 : decode prog_12_method_90_code 20 = .ok (.aload_n 0, 1) := by decide +kernel
theorem D216_21 : decode prog_12_method_90_code 21 = .ok (.getfield 99, 3) := by decide +kernel
theorem D216_24 : decode prog_12_method_90_code 24 = .ok (.iload_n 2, 1) := by decide +kernel
theorem D216_25 : decode prog_12_method_90_code 25 = .ok (.iaload, 1) := by decide +kernel
theorem D216_26 : decode prog_12_method_90_code 26 = .ok (.bipush 10, 2) := by decide +kernel
theorem D216_28 : decode prog_12_method_90_code 28 = .ok (.idiv, 1) := by decide +kernel
theorem D216_29 : decode prog_12_method_90_code 29 = .ok (.goto 14, 3) := by decide +kernel
theorem D216_32 : decode prog_12_method_90_code 32 = .ok (.aload_n 0, 1) := by decide +kernel
theorem D216_33 : decode prog_12_method_90_code 33 = .ok (.iconst 0, 1) := by decide +kernel
theorem D216_34 : decode prog_12_method_90_code 34 = .ok (.iload_n 1, 1) := by decide +kernel
theorem D216_35 : decode prog_12_method_90_code 35 = .ok (.iload_n 2, 1) := by decide +kernel
theorem D216_36 : decode prog_12_method_90_code 36 = .ok (.invokevirtual 438, 3) := by decide +kernel
theorem D216_39 : decode prog_12_method_90_code 39 = .ok (.sipush 20000, 3) := by decide +kernel
theorem D216_42 : decode prog_12_method_90_code 42 = .ok (.idiv, 1) := by decide +kernel
theorem D216_43 : decode prog_12_method_90_code 43 = .ok (.ireturn, 1) := by decide +kernel

theorem b216_0 {d : Nat} {i1 : Int32} {i2 : Int32} {i3 : Int32} {i4 : Int32} {ia : Nat → Nat → Int32} {la : Nat → Nat → Int64} {pl dr : Nat} {cp : Option Nat} {cw : Option Nat} {rp : Option Nat} {K : Option Value → zHP → Prop}  : zWP (d + 1) 216 0 [some (.ref 127), some (.int i1), some (.int i2), some (.int i3), some (.int i4)] [] (ia, la, zRA pl dr cp cw rp) K = (if ¬ i3 = 0 then (if ¬ i4 = 0 then zWM d 189 [.ref 127, .int (0 : Int32), .int i1, .int i2] (ia, la, zRA pl dr cp cw rp) (zK (d + 1) 216 39 [some (.ref 127), some (.int i1), some (.int i2), some (.int i3), some (.int i4)] [] K) else (vp_in i2 138 ∧ K (some (.int ((ia 156 (i2).toNatClampNeg) / (10 : Int32)))) (ia, la, zRA pl dr cp cw rp))) else (if ¬ i4 = 0 then K (some (.int (1 : Int32))) (ia, la, zRA pl dr cp cw rp) else K (some (.int (2 : Int32))) (ia, la, zRA pl dr cp cw rp))) := by
  refine (Q_iload_n zm_216 (Or.inl (by decide)) D216_0 rfl).trans ?_
  refine (Q_if_ne (tgt := 15) zm_216 (Or.inl (by decide)) D216_1 (by decide)).trans ?_
  refine zif_c (fun h0_ => ?_) (fun h0_ => ?_)
  · refine (Q_iload zm_216 (Or.inl (by decide)) D216_15 rfl).trans ?_
    refine (Q_if_ne (tgt := 32) zm_216 (Or.inl (by decide)) D216_17 (by decide)).trans ?_
    refine zif_c (fun h1_ => ?_) (fun h1_ => ?_)
    · refine (Q_aload_n zm_216 (Or.inl (by decide)) D216_32 rfl).trans ?_
      refine (Q_iconst (v := 0) zm_216 (Or.inl (by decide)) D216_33 (by decide)).trans ?_
      refine (Q_iload_n zm_216 (Or.inl (by decide)) D216_34 rfl).trans ?_
      refine (Q_iload_n zm_216 (Or.inl (by decide)) D216_35 rfl).trans ?_
      exact Q_callv (as := [.int (0 : Int32), .int i1, .int i2]) (b := 127) (rest := []) zm_216 (Or.inl (by decide)) D216_36 zc_10_438 rfl zk_127.1 (by decide) (by decide +kernel) (by decide) (by simp [zcat, Value.category]) zm_189 rfl
    · refine (Q_aload_n zm_216 (Or.inl (by decide)) D216_20 rfl).trans ?_
      refine (Q_getR (q := 156) zm_216 (Or.inl (by decide)) D216_21 zf_10_99 zs_10_44 zk_127.1 rfl).trans ?_
      refine (Q_iload_n zm_216 (Or.inl (by decide)) D216_24 rfl).trans ?_
      refine (Q_iaload zm_216 (Or.inl (by decide)) D216_25 zk_156.1 zk_156.2).trans ?_
      refine zand_c (fun h2_ => ?_)
      refine (Q_bipush (v := 10) zm_216 (Or.inl (by decide)) D216_26 (by decide)).trans ?_
      refine (Q_idiv zm_216 (Or.inl (by decide)) D216_28 (by decide)).trans ?_
      refine (Q_goto (tgt := 43) zm_216 (Or.inl (by decide)) D216_29 (by decide)).trans ?_
      exact Q_ireturn zm_216 (Or.inl (by decide)) D216_43 rfl
  · refine (Q_iload zm_216 (Or.inl (by decide)) D216_4 rfl).trans ?_
    refine (Q_if_ne (tgt := 13) zm_216 (Or.inl (by decide)) D216_6 (by decide)).trans ?_
    refine zif_c (fun h3_ => ?_) (fun h3_ => ?_)
    · refine (Q_iconst (v := 1) zm_216 (Or.inl (by decide)) D216_13 (by decide)).trans ?_
      exact Q_ireturn zm_216 (Or.inl (by decide)) D216_14 rfl
    · refine (Q_iconst (v := 2) zm_216 (Or.inl (by decide)) D216_9 (by decide)).trans ?_
      refine (Q_goto (tgt := 14) zm_216 (Or.inl (by decide)) D216_10 (by decide)).trans ?_
      exact Q_ireturn zm_216 (Or.inl (by decide)) D216_14 rfl

theorem b216_39 {d : Nat} {i1 : Int32} {i2 : Int32} {i3 : Int32} {i4 : Int32} {s0 : Int32} {ia : Nat → Nat → Int32} {la : Nat → Nat → Int64} {pl dr : Nat} {cp : Option Nat} {cw : Option Nat} {rp : Option Nat} {K : Option Value → zHP → Prop}  : zWP d 216 39 [some (.ref 127), some (.int i1), some (.int i2), some (.int i3), some (.int i4)] [.int s0] (ia, la, zRA pl dr cp cw rp) K = K (some (.int (s0 / (20000 : Int32)))) (ia, la, zRA pl dr cp cw rp) := by
  refine (Q_sipush (v := 20000) zm_216 (Or.inl (by decide)) D216_39 (by decide)).trans ?_
  refine (Q_idiv zm_216 (Or.inl (by decide)) D216_42 (by decide)).trans ?_
  exact Q_ireturn zm_216 (Or.inl (by decide)) D216_43 rfl

/-! HandsLetModel.isRest(III)Z -/
theorem D217_0 : decode prog_12_method_91_code 0 = .ok (.iload_n 3, 1) := by decide +kernel
theorem D217_1 : decode prog_12_method_91_code 1 = .ok (.iconst 2, 1) := by decide +kernel
theorem D217_2 : decode prog_12_method_91_code 2 = .ok (.idiv, 1) := by decide +kernel
theorem D217_3 : decode prog_12_method_91_code 3 = .ok (.istore 4, 2) := by decide +kernel
theorem D217_5 : decode prog_12_method_91_code 5 = .ok (.iload_n 3, 1) := by decide +kernel
theorem D217_6 : decode prog_12_method_91_code 6 = .ok (.iconst 2, 1) := by decide +kernel
theorem D217_7 : decode prog_12_method_91_code 7 = .ok (.irem, 1) := by decide +kernel
theorem D217_8 : decode prog_12_method_91_code 8 = .ok (.istore 5, 2) := by decide +kernel
theorem D217_10 : decode prog_12_method_91_code 10 = .ok (.aload_n 0, 1) := by decide +kernel
theorem D217_11 : decode prog_12_method_91_code 11 = .ok (.iload_n 1, 1) := by decide +kernel
theorem D217_12 : decode prog_12_method_91_code 12 = .ok (.iload_n 2, 1) := by decide +kernel
theorem D217_13 : decode prog_12_method_91_code 13 = .ok (.iconst 1, 1) := by decide +kernel
theorem D217_14 : decode prog_12_method_91_code 14 = .ok (.iload 4, 2) := by decide +kernel
theorem D217_16 : decode prog_12_method_91_code 16 = .ok (.isub, 1) := by decide +kernel
theorem D217_17 : decode prog_12_method_91_code 17 = .ok (.iload 5, 2) := by decide +kernel
theorem D217_19 : decode prog_12_method_91_code 19 = .ok (.invokevirtual 467, 3) := by decide +kernel
theorem D217_22 : decode prog_12_method_91_code 22 = .ok (.aload_n 0, 1) := by decide +kernel
theorem D217_23 : decode prog_12_method_91_code 23 = .ok (.iload_n 1, 1) := by decide +kernel
theorem D217_24 : decode prog_12_method_91_code 24 = .ok (.iload_n 2, 1) := by decide +kernel
theorem D217_25 : decode prog_12_method_91_code 25 = .ok (.iload 4, 2) := by decide +kernel
theorem D217_27 : decode prog_12_method_91_code 27 = .ok (.iload 5, 2) := by decide +kernel
theorem D217_29 : decode prog_12_method_91_code 29 = .ok (.invokevirtual 467, 3) := by decide +kernel
theorem D217_32 : decode prog_12_method_91_code 32 = .ok (.if_icmp .gt 32, 3) := by decide +kernel
theorem D217_35 : decode prog_12_method_91_code 35 = .ok (.aload_n 0, 1) := by decide +kernel
theorem D217_36 : decode prog_12_method_91_code 36 = .ok (.iload_n 2, 1) := by decide +kernel
theorem D217_37 : decode prog_12_method_91_code 37 = .ok (.iload_n 1, 1) := by decide +kernel
theorem D217_38 : decode prog_12_method_91_code 38 = .ok (.iconst 1, 1) := by decide +kernel
theorem D217_39 : decode prog_12_method_91_code 39 = .ok (.iload 5, 2) := by decide +kernel
theorem D217_41 : decode prog_12_method_91_code 41 = .ok (.isub, 1) := by decide +kernel
theorem D217_42 : decode prog_12_method_91_code 42 = .ok (.iload 4, 2) := by decide +kernel
theorem D217_44 : decode prog_12_method_91_code 44 = .ok (.invokevirtual 467, 3) := by decide +kernel
theorem D217_47 : decode prog_12_method_91_code 47 = .ok (.aload_n 0, 1) := by decide +kernel
theorem D217_48 : decode prog_12_method_91_code 48 = .ok (.iload_n 2, 1) := by decide +kernel
theorem D217_49 : decode prog_12_method_91_code 49 = .ok (.iload_n 1, 1) := by decide +kernel
theorem D217_50 : decode prog_12_method_91_code 50 = .ok (.iload 5, 2) := by decide +kernel
theorem D217_52 : decode prog_12_method_91_code 52 = .ok (.iload 4, 2) := by decide +kernel
theorem D217_54 : decode prog_12_method_91_code 54 = .ok (.invokevirtual 467, 3) := by decide +kernel
theorem D217_57 : decode prog_12_method_91_code 57 = .ok (.if_icmp .gt 7, 3) := by decide +kernel
theorem D217_60 : decode prog_12_method_91_code 60 = .ok (.iconst 1, 1) := by decide +kernel
theorem D217_61 : decode prog_12_method_91_code 61 = .ok (.goto 4, 3) := by decide +kernel
theorem D217_64 : decode prog_12_method_91_code 64 = .ok (.iconst 0, 1) := by decide +kernel
theorem D217_65 : decode prog_12_method_91_code 65 = .ok (.ireturn, 1) := by decide +kernel

theorem b217_0 {d : Nat} {i1 : Int32} {i2 : Int32} {i3 : Int32} {ia : Nat → Nat → Int32} {la : Nat → Nat → Int64} {pl dr : Nat} {cp : Option Nat} {cw : Option Nat} {rp : Option Nat} {K : Option Value → zHP → Prop}  : zWP (d + 1) 217 0 [some (.ref 127), some (.int i1), some (.int i2), some (.int i3), none, none] [] (ia, la, zRA pl dr cp cw rp) K = zWM d 216 [.ref 127, .int i1, .int i2, .int ((1 : Int32) - (i3 / (2 : Int32))), .int (i3 - i3 / (2 : Int32) * (2 : Int32))] (ia, la, zRA pl dr cp cw rp) (zK (d + 1) 217 22 [some (.ref 127), some (.int i1), some (.int i2), some (.int i3), some (.int (i3 / (2 : Int32))), some (.int (i3 - i3 / (2 : Int32) * (2 : Int32)))] [] K) := by
  refine (Q_iload_n zm_217 (Or.inl (by decide)) D217_0 rfl).trans ?_
  refine (Q_iconst (v := 2) zm_217 (Or.inl (by decide)) D217_1 (by decide)).trans ?_
  refine (Q_idiv zm_217 (Or.inl (by decide)) D217_2 (by decide)).trans ?_
  refine (Q_istore (ls' := [some (.ref 127), some (.int i1), some (.int i2), some (.int i3), some (.int (i3 / (2 : Int32))), none]) zm_217 (Or.inl (by decide)) D217_3 rfl (Nat.le_of_ble_eq_true rfl) rfl).trans ?_
  refine (Q_iload_n zm_217 (Or.inl (by decide)) D217_5 rfl).trans ?_
  refine (Q_iconst (v := 2) zm_217 (Or.inl (by decide)) D217_6 (by decide)).trans ?_
  refine (Q_irem zm_217 (Or.inl (by decide)) D217_7 (by decide)).trans ?_
  refine (Q_istore (ls' := [some (.ref 127), some (.int i1), some (.int i2), some (.int i3), some (.int (i3 / (2 : Int32))), some (.int (i3 - i3 / (2 : Int32) * (2 : Int32)))]) zm_217 (Or.inl (by decide)) D217_8 rfl (Nat.le_of_ble_eq_true rfl) rfl).trans ?_
  refine (Q_aload_n zm_217 (Or.inl (by decide)) D217_10 rfl).trans ?_
  refine (Q_iload_n zm_217 (Or.inl (by decide)) D217_11 rfl).trans ?_
  refine (Q_iload_n zm_217 (Or.inl (by decide)) D217_12 rfl).trans ?_
  refine (Q_iconst (v := 1) zm_217 (Or.inl (by decide)) D217_13 (by decide)).trans ?_
  refine (Q_iload zm_217 (Or.inl (by decide)) D217_14 rfl).trans ?_
  refine (Q_isub zm_217 (Or.inl (by decide)) D217_16).trans ?_
  refine (Q_iload zm_217 (Or.inl (by decide)) D217_17 rfl).trans ?_
  exact Q_callv (as := [.int i1, .int i2, .int ((1 : Int32) - (i3 / (2 : Int32))), .int (i3 - i3 / (2 : Int32) * (2 : Int32))]) (b := 127) (rest := []) zm_217 (Or.inl (by decide)) D217_19 zc_10_467 rfl zk_127.1 (by decide) (by decide +kernel) (by decide) (by simp [zcat, Value.category]) zm_216 rfl

theorem b217_22 {d : Nat} {i1 : Int32} {i2 : Int32} {i3 : Int32} {i4 : Int32} {i5 : Int32} {s0 : Int32} {ia : Nat → Nat → Int32} {la : Nat → Nat → Int64} {pl dr : Nat} {cp : Option Nat} {cw : Option Nat} {rp : Option Nat} {K : Option Value → zHP → Prop}  : zWP (d + 1) 217 22 [some (.ref 127), some (.int i1), some (.int i2), some (.int i3), some (.int i4), some (.int i5)] [.int s0] (ia, la, zRA pl dr cp cw rp) K = zWM d 216 [.ref 127, .int i1, .int i2, .int i4, .int i5] (ia, la, zRA pl dr cp cw rp) (zK (d + 1) 217 32 [some (.ref 127), some (.int i1), some (.int i2), some (.int i3), some (.int i4), some (.int i5)] [.int s0] K) := by
  refine (Q_aload_n zm_217 (Or.inl (by decide)) D217_22 rfl).trans ?_
  refine (Q_iload_n zm_217 (Or.inl (by decide)) D217_23 rfl).trans ?_
  refine (Q_iload_n zm_217 (Or.inl (by decide)) D217_24 rfl).trans ?_
  refine (Q_iload zm_217 (Or.inl (by decide)) D217_25 rfl).trans ?_
  refine (Q_iload zm_217 (Or.inl (by decide)) D217_27 rfl).trans ?_
  exact Q_callv (as := [.int i1, .int i2, .int i4, .int i5]) (b := 127) (rest := [.int s0]) zm_217 (Or.inl (by decide)) D217_29 zc_10_467 rfl zk_127.1 (by decide) (by decide +kernel) (by decide) (by simp [zcat, Value.category]) zm_216 rfl

theorem b217_32 {d : Nat} {i1 : Int32} {i2 : Int32} {i3 : Int32} {i4 : Int32} {i5 : Int32} {s0 : Int32} {s1 : Int32} {ia : Nat → Nat → Int32} {la : Nat → Nat → Int64} {pl dr : Nat} {cp : Option Nat} {cw : Option Nat} {rp : Option Nat} {K : Option Value → zHP → Prop}  : zWP (d + 1) 217 32 [some (.ref 127), some (.int i1), some (.int i2), some (.int i3), some (.int i4), some (.int i5)] [.int s1, .int s0] (ia, la, zRA pl dr cp cw rp) K = (if s1 < s0 then K (some (.int (0 : Int32))) (ia, la, zRA pl dr cp cw rp) else zWM d 216 [.ref 127, .int i2, .int i1, .int ((1 : Int32) - i5), .int i4] (ia, la, zRA pl dr cp cw rp) (zK (d + 1) 217 47 [some (.ref 127), some (.int i1), some (.int i2), some (.int i3), some (.int i4), some (.int i5)] [] K)) := by
  refine (Q_ic_gt (tgt := 64) zm_217 (Or.inl (by decide)) D217_32 (by decide)).trans ?_
  refine zif_c (fun h0_ => ?_) (fun h0_ => ?_)
  · refine (Q_iconst (v := 0) zm_217 (Or.inl (by decide)) D217_64 (by decide)).trans ?_
    exact Q_zreturn zm_217 (Or.inl (by decide)) D217_65 rfl (by decide)
  · refine (Q_aload_n zm_217 (Or.inl (by decide)) D217_35 rfl).trans ?_
    refine (Q_iload_n zm_217 (Or.inl (by decide)) D217_36 rfl).trans ?_
    refine (Q_iload_n zm_217 (Or.inl (by decide)) D217_37 rfl).trans ?_
    refine (Q_iconst (v := 1) zm_217 (Or.inl (by decide)) D217_38 (by decide)).trans ?_
    refine (Q_iload zm_217 (Or.inl (by decide)) D217_39 rfl).trans ?_
    refine (Q_isub zm_217 (Or.inl (by decide)) D217_41).trans ?_
    refine (Q_iload zm_217 (Or.inl (by decide)) D217_42 rfl).trans ?_
    exact Q_callv (as := [.int i2, .int i1, .int ((1 : Int32) - i5), .int i4]) (b := 127) (rest := []) zm_217 (Or.inl (by decide)) D217_44 zc_10_467 rfl zk_127.1 (by decide) (by decide +kernel) (by decide) (by simp [zcat, Value.category]) zm_216 rfl

theorem b217_47 {d : Nat} {i1 : Int32} {i2 : Int32} {i3 : Int32} {i4 : Int32} {i5 : Int32} {s0 : Int32} {ia : Nat → Nat → Int32} {la : Nat → Nat → Int64} {pl dr : Nat} {cp : Option Nat} {cw : Option Nat} {rp : Option Nat} {K : Option Value → zHP → Prop}  : zWP (d + 1) 217 47 [some (.ref 127), some (.int i1), some (.int i2), some (.int i3), some (.int i4), some (.int i5)] [.int s0] (ia, la, zRA pl dr cp cw rp) K = zWM d 216 [.ref 127, .int i2, .int i1, .int i5, .int i4] (ia, la, zRA pl dr cp cw rp) (zK (d + 1) 217 57 [some (.ref 127), some (.int i1), some (.int i2), some (.int i3), some (.int i4), some (.int i5)] [.int s0] K) := by
  refine (Q_aload_n zm_217 (Or.inl (by decide)) D217_47 rfl).trans ?_
  refine (Q_iload_n zm_217 (Or.inl (by decide)) D217_48 rfl).trans ?_
  refine (Q_iload_n zm_217 (Or.inl (by decide)) D217_49 rfl).trans ?_
  refine (Q_iload zm_217 (Or.inl (by decide)) D217_50 rfl).trans ?_
  refine (Q_iload zm_217 (Or.inl (by decide)) D217_52 rfl).trans ?_
  exact Q_callv (as := [.int i2, .int i1, .int i5, .int i4]) (b := 127) (rest := [.int s0]) zm_217 (Or.inl (by decide)) D217_54 zc_10_467 rfl zk_127.1 (by decide) (by decide +kernel) (by decide) (by simp [zcat, Value.category]) zm_216 rfl

theorem b217_57 {d : Nat} {i1 : Int32} {i2 : Int32} {i3 : Int32} {i4 : Int32} {i5 : Int32} {s0 : Int32} {s1 : Int32} {ia : Nat → Nat → Int32} {la : Nat → Nat → Int64} {pl dr : Nat} {cp : Option Nat} {cw : Option Nat} {rp : Option Nat} {K : Option Value → zHP → Prop}  : zWP d 217 57 [some (.ref 127), some (.int i1), some (.int i2), some (.int i3), some (.int i4), some (.int i5)] [.int s1, .int s0] (ia, la, zRA pl dr cp cw rp) K = (if s1 < s0 then K (some (.int (0 : Int32))) (ia, la, zRA pl dr cp cw rp) else K (some (.int (1 : Int32))) (ia, la, zRA pl dr cp cw rp)) := by
  refine (Q_ic_gt (tgt := 64) zm_217 (Or.inl (by decide)) D217_57 (by decide)).trans ?_
  refine zif_c (fun h0_ => ?_) (fun h0_ => ?_)
  · refine (Q_iconst (v := 0) zm_217 (Or.inl (by decide)) D217_64 (by decide)).trans ?_
    exact Q_zreturn zm_217 (Or.inl (by decide)) D217_65 rfl (by decide)
  · refine (Q_iconst (v := 1) zm_217 (Or.inl (by decide)) D217_60 (by decide)).trans ?_
    refine (Q_goto (tgt := 65) zm_217 (Or.inl (by decide)) D217_61 (by decide)).trans ?_
    exact Q_zreturn zm_217 (Or.inl (by decide)) D217_65 rfl (by decide)

/-! HandsLetModel.restOf(III)I -/
theorem D218_0 : decode prog_12_method_92_code 0 = .ok (.iconst 0, 1) := by decide +kernel
theorem D218_1 : decode prog_12_method_92_code 1 = .ok (.istore 4, 2) := by decide +kernel
theorem D218_3 : decode prog_12_method_92_code 3 = .ok (.iconst 0, 1) := by decide +kernel
theorem D218_4 : decode prog_12_method_92_code 4 = .ok (.istore 5, 2) := by decide +kernel
theorem D218_6 : decode prog_12_method_92_code 6 = .ok (.iload 5, 2) := by decide +kernel
theorem D218_8 : decode prog_12_method_92_code 8 = .ok (.iconst 4, 1) := by decide +kernel
theorem D218_9 : decode prog_12_method_92_code 9 = .ok (.if_icmp .ge 45, 3) := by decide +kernel
theorem D218_12 : decode prog_12_method_92_code 12 = .ok (.aload_n 0, 1) := by decide +kernel
theorem D218_13 : decode prog_12_method_92_code 13 = .ok (.iload_n 1, 1) := by decide +kernel
theorem D218_14 : decode prog_12_method_92_code 14 = .ok (.iload_n 2, 1) := by decide +kernel
theorem D218_15 : decode prog_12_method_92_code 15 = .ok (.iload 5, 2) := by decide +kernel
theorem D218_17 : decode prog_12_method_92_code 17 = .ok (.invokevirtual 470, 3) := by decide +kernel
theorem D218_20 : decode prog_12_method_92_code 20 = .ok (.ifCond .ne 6, 3) := by decide +kernel
theorem D218_23 : decode prog_12_method_92_code 23 = .ok (.goto 25, 3) := by decide +kernel
theorem D218_26 : decode prog_12_method_92_code 26 = .ok (.iload 4, 2) := by decide +kernel
theorem D218_28 : decode prog_12_method_92_code 28 = .ok (.iload_n 3, 1) := by decide +kernel
theorem D218_29 : decode prog_12_method_92_code 29 = .ok (.if_icmp .ne 16, 3) := by decide +kernel
theorem D218_32 : decode prog_12_method_92_code 32 = .ok (.bipush 10, 2) := by decide +kernel
theorem D218_34 : decode prog_12_method_92_code 34 = .ok (.iload 5, 2) := by decide +kernel
theorem D218_36 : decode prog_12_method_92_code 36 = .ok (.iconst 2, 1) := by decide +kernel
theorem D218_37 : decode prog_12_method_92_code 37 = .ok (.idiv, 1) := by decide +kernel
theorem D218_38 : decode prog_12_method_92_code 38 = .ok (.imul, 1) := by decide +kernel
theorem D218_39 : decode prog_12_method_92_code 39 = .ok (.iload 5, 2) := by decide +kernel
theorem D218_41 : decode prog_12_method_92_code 41 = .ok (.iconst 2, 1) := by decide +kernel
theorem D218_42 : decode prog_12_method_92_code 42 = .ok (.irem, 1) := by decide +kernel
theorem D218_43 : decode prog_12_method_92_code 43 = .ok (.iadd, 1) := by decide +kernel
theorem D218_44 : decode prog_12_method_92_code 44 = .ok (.ireturn, 1) := by decide +kernel
theorem D218_45 : decode prog_12_method_92_code 45 = .ok (.iinc 4 1, 3) := by decide +kernel
theorem D218_48 : decode prog_12_method_92_code 48 = .ok (.iinc 5 1, 3) := by decide +kernel
theorem D218_51 : decode prog_12_method_92_code 51 = .ok (.goto (-45), 3) := by decide +kernel
theorem D218_54 : decode prog_12_method_92_code 54 = .ok (.iload_n 3, 1) := by decide +kernel
theorem D218_55 : decode prog_12_method_92_code 55 = .ok (.iconst (-1), 1) := by decide +kernel
theorem D218_56 : decode prog_12_method_92_code 56 = .ok (.if_icmp .ne 8, 3) := by decide +kernel
theorem D218_59 : decode prog_12_method_92_code 59 = .ok (.iload 4, 2) := by decide +kernel
theorem D218_61 : decode prog_12_method_92_code 61 = .ok (.goto 5, 3) := by decide +kernel
theorem D218_64 : decode prog_12_method_92_code 64 = .ok (.bipush (-2), 2) := by decide +kernel
theorem D218_66 : decode prog_12_method_92_code 66 = .ok (.ireturn, 1) := by decide +kernel

theorem b218_0 {d : Nat} {i1 : Int32} {i2 : Int32} {i3 : Int32} {ia : Nat → Nat → Int32} {la : Nat → Nat → Int64} {pl dr : Nat} {cp : Option Nat} {cw : Option Nat} {rp : Option Nat} {K : Option Value → zHP → Prop}  : zWP d 218 0 [some (.ref 127), some (.int i1), some (.int i2), some (.int i3), none, none] [] (ia, la, zRA pl dr cp cw rp) K = zWP d 218 6 [some (.ref 127), some (.int i1), some (.int i2), some (.int i3), some (.int (0 : Int32)), some (.int (0 : Int32))] [] (ia, la, zRA pl dr cp cw rp) K := by
  refine (Q_iconst (v := 0) zm_218 (Or.inl (by decide)) D218_0 (by decide)).trans ?_
  refine (Q_istore (ls' := [some (.ref 127), some (.int i1), some (.int i2), some (.int i3), some (.int (0 : Int32)), none]) zm_218 (Or.inl (by decide)) D218_1 rfl (Nat.le_of_ble_eq_true rfl) rfl).trans ?_
  refine (Q_iconst (v := 0) zm_218 (Or.inl (by decide)) D218_3 (by decide)).trans ?_
  refine (Q_istore (ls' := [some (.ref 127), some (.int i1), some (.int i2), some (.int i3), some (.int (0 : Int32)), some (.int (0 : Int32))]) zm_218 (Or.inl (by decide)) D218_4 rfl (Nat.le_of_ble_eq_true rfl) rfl).trans ?_
  rfl

theorem b218_6 {d : Nat} {i1 : Int32} {i2 : Int32} {i3 : Int32} {i4 : Int32} {i5 : Int32} {ia : Nat → Nat → Int32} {la : Nat → Nat → Int64} {pl dr : Nat} {cp : Option Nat} {cw : Option Nat} {rp : Option Nat} {K : Option Value → zHP → Prop}  : zWP (d + 1) 218 6 [some (.ref 127), some (.int i1), some (.int i2), some (.int i3), some (.int i4), some (.int i5)] [] (ia, la, zRA pl dr cp cw rp) K = (if (4 : Int32) ≤ i5 then (if ¬ i3 = (-1 : Int32) then K (some (.int (-2 : Int32))) (ia, la, zRA pl dr cp cw rp) else K (some (.int i4)) (ia, la, zRA pl dr cp cw rp)) else zWM d 217 [.ref 127, .int i1, .int i2, .int i5] (ia, la, zRA pl dr cp cw rp) (zK (d + 1) 218 20 [some (.ref 127), some (.int i1), some (.int i2), some (.int i3), some (.int i4), some (.int i5)] [] K)) := by
  refine (Q_iload zm_218 (Or.inl (by decide)) D218_6 rfl).trans ?_
  refine (Q_iconst (v := 4) zm_218 (Or.inl (by decide)) D218_8 (by decide)).trans ?_
  refine (Q_ic_ge (tgt := 54) zm_218 (Or.inl (by decide)) D218_9 (by decide)).trans ?_
  refine zif_c (fun h0_ => ?_) (fun h0_ => ?_)
  · refine (Q_iload_n zm_218 (Or.inl (by decide)) D218_54 rfl).trans ?_
    refine (Q_iconst (v := -1) zm_218 (Or.inl (by decide)) D218_55 (by decide)).trans ?_
    refine (Q_ic_ne (tgt := 64) zm_218 (Or.inl (by decide)) D218_56 (by decide)).trans ?_
    refine zif_c (fun h1_ => ?_) (fun h1_ => ?_)
    · refine (Q_bipush (v := -2) zm_218 (Or.inl (by decide)) D218_64 (by decide)).trans ?_
      exact Q_ireturn zm_218 (Or.inl (by decide)) D218_66 rfl
    · refine (Q_iload zm_218 (Or.inl (by decide)) D218_59 rfl).trans ?_
      refine (Q_goto (tgt := 66) zm_218 (Or.inl (by decide)) D218_61 (by decide)).trans ?_
      exact Q_ireturn zm_218 (Or.inl (by decide)) D218_66 rfl
  · refine (Q_aload_n zm_218 (Or.inl (by decide)) D218_12 rfl).trans ?_
    refine (Q_iload_n zm_218 (Or.inl (by decide)) D218_13 rfl).trans ?_
    refine (Q_iload_n zm_218 (Or.inl (by decide)) D218_14 rfl).trans ?_
    refine (Q_iload zm_218 (Or.inl (by decide)) D218_15 rfl).trans ?_
    exact Q_callv (as := [.int i1, .int i2, .int i5]) (b := 127) (rest := []) zm_218 (Or.inl (by decide)) D218_17 zc_10_470 rfl zk_127.1 (by decide) (by decide +kernel) (by decide) (by simp [zcat, Value.category]) zm_217 rfl

theorem b218_20 {d : Nat} {i1 : Int32} {i2 : Int32} {i3 : Int32} {i4 : Int32} {i5 : Int32} {s0 : Int32} {ia : Nat → Nat → Int32} {la : Nat → Nat → Int64} {pl dr : Nat} {cp : Option Nat} {cw : Option Nat} {rp : Option Nat} {K : Option Value → zHP → Prop}  : zWP d 218 20 [some (.ref 127), some (.int i1), some (.int i2), some (.int i3), some (.int i4), some (.int i5)] [.int s0] (ia, la, zRA pl dr cp cw rp) K = (if ¬ s0 = 0 then (if ¬ i4 = i3 then zWP d 218 6 [some (.ref 127), some (.int i1), some (.int i2), some (.int i3), some (.int (i4 + (1 : Int32))), some (.int (i5 + (1 : Int32)))] [] (ia, la, zRA pl dr cp cw rp) K else K (some (.int (((10 : Int32) * (i5 / (2 : Int32))) + (i5 - i5 / (2 : Int32) * (2 : Int32))))) (ia, la, zRA pl dr cp cw rp)) else zWP d 218 6 [some (.ref 127), some (.int i1), some (.int i2), some (.int i3), some (.int i4), some (.int (i5 + (1 : Int32)))] [] (ia, la, zRA pl dr cp cw rp) K) := by
  refine (Q_if_ne (tgt := 26) zm_218 (Or.inl (by decide)) D218_20 (by decide)).trans ?_
  refine zif_c (fun h0_ => ?_) (fun h0_ => ?_)
  · refine (Q_iload zm_218 (Or.inl (by decide)) D218_26 rfl).trans ?_
    refine (Q_iload_n zm_218 (Or.inl (by decide)) D218_28 rfl).trans ?_
    refine (Q_ic_ne (tgt := 45) zm_218 (Or.inl (by decide)) D218_29 (by decide)).trans ?_
    refine zif_c (fun h1_ => ?_) (fun h1_ => ?_)
    · refine (Q_iinc (v := 1) (ls' := [some (.ref 127), some (.int i1), some (.int i2), some (.int i3), some (.int (i4 + (1 : Int32))), some (.int i5)]) zm_218 (Or.inl (by decide)) D218_45 rfl rfl (by decide) rfl).trans ?_
      refine (Q_iinc (v := 1) (ls' := [some (.ref 127), some (.int i1), some (.int i2), some (.int i3), some (.int (i4 + (1 : Int32))), some (.int (i5 + (1 : Int32)))]) zm_218 (Or.inl (by decide)) D218_48 rfl rfl (by decide) rfl).trans ?_
      refine (Q_goto (tgt := 6) zm_218 (Or.inl (by decide)) D218_51 (by decide)).trans ?_
      rfl
    · refine (Q_bipush (v := 10) zm_218 (Or.inl (by decide)) D218_32 (by decide)).trans ?_
      refine (Q_iload zm_218 (Or.inl (by decide)) D218_34 rfl).trans ?_
      refine (Q_iconst (v := 2) zm_218 (Or.inl (by decide)) D218_36 (by decide)).trans ?_
      refine (Q_idiv zm_218 (Or.inl (by decide)) D218_37 (by decide)).trans ?_
      refine (Q_imul zm_218 (Or.inl (by decide)) D218_38).trans ?_
      refine (Q_iload zm_218 (Or.inl (by decide)) D218_39 rfl).trans ?_
      refine (Q_iconst (v := 2) zm_218 (Or.inl (by decide)) D218_41 (by decide)).trans ?_
      refine (Q_irem zm_218 (Or.inl (by decide)) D218_42 (by decide)).trans ?_
      refine (Q_iadd zm_218 (Or.inl (by decide)) D218_43).trans ?_
      exact Q_ireturn zm_218 (Or.inl (by decide)) D218_44 rfl
  · refine (Q_goto (tgt := 48) zm_218 (Or.inl (by decide)) D218_23 (by decide)).trans ?_
    refine (Q_iinc (v := 1) (ls' := [some (.ref 127), some (.int i1), some (.int i2), some (.int i3), some (.int i4), some (.int (i5 + (1 : Int32)))]) zm_218 (Or.inl (by decide)) D218_48 rfl rfl (by decide) rfl).trans ?_
    refine (Q_goto (tgt := 6) zm_218 (Or.inl (by decide)) D218_51 (by decide)).trans ?_
    rfl

/-! HandsLetModel.areTwo(II)Z -/
theorem D219_0 : decode prog_12_method_93_code 0 = .ok (.aload_n 0, 1) := by decide +kernel
theorem D219_1 : decode prog_12_method_93_code 1 = .ok (.iload_n 1, 1) := by decide +kernel
theorem D219_2 : decode prog_12_method_93_code 2 = .ok (.invokevirtual 413, 3) := by decide +kernel
theorem D219_5 : decode prog_12_method_93_code 5 = .ok (.ifCond .eq 20, 3) := by decide +kernel
theorem D219_8 : decode prog_12_method_93_code 8 = .ok (.aload_n 0, 1) := by decide +kernel
theorem D219_9 : decode prog_12_method_93_code 9 = .ok (.iload_n 2, 1) := by decide +kernel
theorem D219_10 : decode prog_12_method_93_code 10 = .ok (.invokevirtual 413, 3) := by decide +kernel
theorem D219_13 : decode prog_12_method_93_code 13 = .ok (.ifCond .eq 12, 3) := by decide +kernel
theorem D219_16 : decode prog_12_method_93_code 16 = .ok (.iload_n 1, 1) := by decide +kernel
theorem D219_17 : decode prog_12_method_93_code 17 = .ok (.iload_n 2, 1) := by decide +kernel
theorem D219_18 : decode prog_12_method_93_code 18 = .ok (.if_icmp .eq 7, 3) := by decide +kernel
theorem D219_21 : decode prog_12_method_93_code 21 = .ok (.iconst 1, 1) := by decide +kernel
theorem D219_22 : decode prog_12_method_93_code 22 = .ok (.goto 4, 3) := by decide +kernel
theorem D219_25 : decode prog_12_method_93_code 25 = .ok (.iconst 0, 1) := by decide +kernel
theorem D219_26 : decode prog_12_method_93_code 26 = .ok (.ireturn, 1) := by decide +kernel

theorem b219_0 {d : Nat} {i1 : Int32} {i2 : Int32} {ia : Nat → Nat → Int32} {la : Nat → Nat → Int64} {pl dr : Nat} {cp : Option Nat} {cw : Option Nat} {rp : Option Nat} {K : Option Value → zHP → Prop}  : zWP (d + 1) 219 0 [some (.ref 127), some (.int i1), some (.int i2)] [] (ia, la, zRA pl dr cp cw rp) K = zWM d 171 [.ref 127, .int i1] (ia, la, zRA pl dr cp cw rp) (zK (d + 1) 219 5 [some (.ref 127), some (.int i1), some (.int i2)] [] K) := by
  refine (Q_aload_n zm_219 (Or.inl (by decide)) D219_0 rfl).trans ?_
  refine (Q_iload_n zm_219 (Or.inl (by decide)) D219_1 rfl).trans ?_
  exact Q_callv (as := [.int i1]) (b := 127) (rest := []) zm_219 (Or.inl (by decide)) D219_2 zc_10_413 rfl zk_127.1 (by decide) (by decide +kernel) (by decide) (by simp [zcat, Value.category]) zm_171 rfl

theorem b219_5 {d : Nat} {i1 : Int32} {i2 : Int32} {s0 : Int32} {ia : Nat → Nat → Int32} {la : Nat → Nat → Int64} {pl dr : Nat} {cp : Option Nat} {cw : Option Nat} {rp : Option Nat} {K : Option Value → zHP → Prop}  : zWP (d + 1) 219 5 [some (.ref 127), some (.int i1), some (.int i2)] [.int s0] (ia, la, zRA pl dr cp cw rp) K = (if s0 = 0 then K (some (.int (0 : Int32))) (ia, la, zRA pl dr cp cw rp) else zWM d 171 [.ref 127, .int i2] (ia, la, zRA pl dr cp cw rp) (zK (d + 1) 219 13 [some (.ref 127), some (.int i1), some (.int i2)] [] K)) := by
  refine (Q_if_eq (tgt := 25) zm_219 (Or.inl (by decide)) D219_5 (by decide)).trans ?_
  refine zif_c (fun h0_ => ?_) (fun h0_ => ?_)
  · refine (Q_iconst (v := 0) zm_219 (Or.inl (by decide)) D219_25 (by decide)).trans ?_
    exact Q_zreturn zm_219 (Or.inl (by decide)) D219_26 rfl (by decide)
  · refine (Q_aload_n zm_219 (Or.inl (by decide)) D219_8 rfl).trans ?_
    refine (Q_iload_n zm_219 (Or.inl (by decide)) D219_9 rfl).trans ?_
    exact Q_callv (as := [.int i2]) (b := 127) (rest := []) zm_219 (Or.inl (by decide)) D219_10 zc_10_413 rfl zk_127.1 (by decide) (by decide +kernel) (by decide) (by simp [zcat, Value.category]) zm_171 rfl

theorem b219_13 {d : Nat} {i1 : Int32} {i2 : Int32} {s0 : Int32} {ia : Nat → Nat → Int32} {la : Nat → Nat → Int64} {pl dr : Nat} {cp : Option Nat} {cw : Option Nat} {rp : Option Nat} {K : Option Value → zHP → Prop}  : zWP d 219 13 [some (.ref 127), some (.int i1), some (.int i2)] [.int s0] (ia, la, zRA pl dr cp cw rp) K = (if s0 = 0 then K (some (.int (0 : Int32))) (ia, la, zRA pl dr cp cw rp) else (if i1 = i2 then K (some (.int (0 : Int32))) (ia, la, zRA pl dr cp cw rp) else K (some (.int (1 : Int32))) (ia, la, zRA pl dr cp cw rp))) := by
  refine (Q_if_eq (tgt := 25) zm_219 (Or.inl (by decide)) D219_13 (by decide)).trans ?_
  refine zif_c (fun h0_ => ?_) (fun h0_ => ?_)
  · refine (Q_iconst (v := 0) zm_219 (Or.inl (by decide)) D219_25 (by decide)).trans ?_
    exact Q_zreturn zm_219 (Or.inl (by decide)) D219_26 rfl (by decide)
  · refine (Q_iload_n zm_219 (Or.inl (by decide)) D219_16 rfl).trans ?_
    refine (Q_iload_n zm_219 (Or.inl (by decide)) D219_17 rfl).trans ?_
    refine (Q_ic_eq (tgt := 25) zm_219 (Or.inl (by decide)) D219_18 (by decide)).trans ?_
    refine zif_c (fun h1_ => ?_) (fun h1_ => ?_)
    · refine (Q_iconst (v := 0) zm_219 (Or.inl (by decide)) D219_25 (by decide)).trans ?_
      exact Q_zreturn zm_219 (Or.inl (by decide)) D219_26 rfl (by decide)
    · refine (Q_iconst (v := 1) zm_219 (Or.inl (by decide)) D219_21 (by decide)).trans ?_
      refine (Q_goto (tgt := 26) zm_219 (Or.inl (by decide)) D219_22 (by decide)).trans ?_
      exact Q_zreturn zm_219 (Or.inl (by decide)) D219_26 rfl (by decide)

/-! HandsLetModel.rests(II)I -/
theorem D220_0 : decode prog_12_method_94_code 0 = .ok (.aload_n 0, 1) := by decide +kernel
theorem D220_1 : decode prog_12_method_94_code 1 = .ok (.iconst 0, 1) := by decide +kernel
theorem D220_2 : decode prog_12_method_94_code 2 = .ok (.putfield 151, 3) := by decide +kernel
theorem D220_5 : decode prog_12_method_94_code 5 = .ok (.aload_n 0, 1) := by decide +kernel
theorem D220_6 : decode prog_12_method_94_code 6 = .ok (.iload_n 1, 1) := by decide +kernel
theorem D220_7 : decode prog_12_method_94_code 7 = .ok (.iload_n 2, 1) := by decide +kernel
theorem D220_8 : decode prog_12_method_94_code 8 = .ok (.invokevirtual 473, 3) := by decide +kernel
theorem D220_11 : decode prog_12_method_94_code 11 = .ok (.ifCond .eq 13, 3) := by decide +kernel
theorem D220_14 : decode prog_12_method_94_code 14 = .ok (.aload_n 0, 1) := by decide +kernel
theorem D220_15 : decode prog_12_method_94_code 15 = .ok (.iload_n 1, 1) := by decide +kernel
theorem D220_16 : decode prog_12_method_94_code 16 = .ok (.iload_n 2, 1) := by decide +kernel
theorem D220_17 : decode prog_12_method_94_code 17 = .ok (.iconst (-1), 1) := by decide +kernel
theorem D220_18 : decode prog_12_method_94_code 18 = .ok (.invokevirtual 476, 3) := by decide +kernel
theorem D220_21 : decode prog_12_method_94_code 21 = .ok (.goto 4, 3) := by decide +kernel
theorem D220_24 : decode prog_12_method_94_code 24 = .ok (.iconst (-1), 1) := by decide +kernel
theorem D220_25 : decode prog_12_method_94_code 25 = .ok (.ireturn, 1) := by decide +kernel

theorem b220_0 {d : Nat} {i1 : Int32} {i2 : Int32} {ia : Nat → Nat → Int32} {la : Nat → Nat → Int64} {pl dr : Nat} {cp : Option Nat} {cw : Option Nat} {rp : Option Nat} {K : Option Value → zHP → Prop}  : zWP (d + 1) 220 0 [some (.ref 127), some (.int i1), some (.int i2)] [] (ia, la, zRA pl dr cp cw rp) K = zWM d 219 [.ref 127, .int i1, .int i2] ((zu ia 127 0 (0 : Int32)), la, zRA pl dr cp cw rp) (zK (d + 1) 220 11 [some (.ref 127), some (.int i1), some (.int i2)] [] K) := by
  refine (Q_aload_n zm_220 (Or.inl (by decide)) D220_0 rfl).trans ?_
  refine (Q_iconst (v := 0) zm_220 (Or.inl (by decide)) D220_1 (by decide)).trans ?_
  refine (Q_putI zm_220 (Or.inl (by decide)) D220_2 zf_10_151 zs_10_0 rfl zk_127.1).trans ?_
  refine (Q_aload_n zm_220 (Or.inl (by decide)) D220_5 rfl).trans ?_
  refine (Q_iload_n zm_220 (Or.inl (by decide)) D220_6 rfl).trans ?_
  refine (Q_iload_n zm_220 (Or.inl (by decide)) D220_7 rfl).trans ?_
  exact Q_callv (as := [.int i1, .int i2]) (b := 127) (rest := []) zm_220 (Or.inl (by decide)) D220_8 zc_10_473 rfl zk_127.1 (by decide) (by decide +kernel) (by decide) (by simp [zcat, Value.category]) zm_219 rfl

theorem b220_11 {d : Nat} {i1 : Int32} {i2 : Int32} {s0 : Int32} {ia : Nat → Nat → Int32} {la : Nat → Nat → Int64} {pl dr : Nat} {cp : Option Nat} {cw : Option Nat} {rp : Option Nat} {K : Option Value → zHP → Prop}  : zWP (d + 1) 220 11 [some (.ref 127), some (.int i1), some (.int i2)] [.int s0] (ia, la, zRA pl dr cp cw rp) K = (if s0 = 0 then K (some (.int (-1 : Int32))) (ia, la, zRA pl dr cp cw rp) else zWM d 218 [.ref 127, .int i1, .int i2, .int (-1 : Int32)] (ia, la, zRA pl dr cp cw rp) (zK (d + 1) 220 21 [some (.ref 127), some (.int i1), some (.int i2)] [] K)) := by
  refine (Q_if_eq (tgt := 24) zm_220 (Or.inl (by decide)) D220_11 (by decide)).trans ?_
  refine zif_c (fun h0_ => ?_) (fun h0_ => ?_)
  · refine (Q_iconst (v := -1) zm_220 (Or.inl (by decide)) D220_24 (by decide)).trans ?_
    exact Q_ireturn zm_220 (Or.inl (by decide)) D220_25 rfl
  · refine (Q_aload_n zm_220 (Or.inl (by decide)) D220_14 rfl).trans ?_
    refine (Q_iload_n zm_220 (Or.inl (by decide)) D220_15 rfl).trans ?_
    refine (Q_iload_n zm_220 (Or.inl (by decide)) D220_16 rfl).trans ?_
    refine (Q_iconst (v := -1) zm_220 (Or.inl (by decide)) D220_17 (by decide)).trans ?_
    exact Q_callv (as := [.int i1, .int i2, .int (-1 : Int32)]) (b := 127) (rest := []) zm_220 (Or.inl (by decide)) D220_18 zc_10_476 rfl zk_127.1 (by decide) (by decide +kernel) (by decide) (by simp [zcat, Value.category]) zm_218 rfl

theorem b220_21 {d : Nat} {i1 : Int32} {i2 : Int32} {s0 : Int32} {ia : Nat → Nat → Int32} {la : Nat → Nat → Int64} {pl dr : Nat} {cp : Option Nat} {cw : Option Nat} {rp : Option Nat} {K : Option Value → zHP → Prop}  : zWP d 220 21 [some (.ref 127), some (.int i1), some (.int i2)] [.int s0] (ia, la, zRA pl dr cp cw rp) K = K (some (.int s0)) (ia, la, zRA pl dr cp cw rp) := by
  refine (Q_goto (tgt := 25) zm_220 (Or.inl (by decide)) D220_21 (by decide)).trans ?_
  exact Q_ireturn zm_220 (Or.inl (by decide)) D220_25 rfl

/-! HandsLetModel.rest(III)I -/
theorem D221_0 : decode prog_12_method_95_code 0 = .ok (.aload_n 0, 1) := by decide +kernel
theorem D221_1 : decode prog_12_method_95_code 1 = .ok (.iconst 0, 1) := by decide +kernel
theorem D221_2 : decode prog_12_method_95_code 2 = .ok (.putfield 151, 3) := by decide +kernel
theorem D221_5 : decode prog_12_method_95_code 5 = .ok (.aload_n 0, 1) := by decide +kernel
theorem D221_6 : decode prog_12_method_95_code 6 = .ok (.iload_n 1, 1) := by decide +kernel
theorem D221_7 : decode prog_12_method_95_code 7 = .ok (.iload_n 2, 1) := by decide +kernel
theorem D221_8 : decode prog_12_method_95_code 8 = .ok (.invokevirtual 473, 3) := by decide +kernel
theorem D221_11 : decode prog_12_method_95_code 11 = .ok (.ifCond .eq 17, 3) := by decide +kernel
theorem D221_14 : decode prog_12_method_95_code 14 = .ok (.iload_n 3, 1) := by decide +kernel
theorem D221_15 : decode prog_12_method_95_code 15 = .ok (.ifCond .lt 13, 3) := by decide +kernel
theorem D221_18 : decode prog_12_method_95_code 18 = .ok (.aload_n 0, 1) := by decide +kernel
theorem D221_19 : decode prog_12_method_95_code 19 = .ok (.iload_n 1, 1) := by decide +kernel
theorem D221_20 : decode prog_12_method_95_code 20 = .ok (.iload_n 2, 1) := by decide +kernel
theorem D221_21 : decode prog_12_method_95_code 21 = .ok (.iload_n 3, 1) := by decide +kernel
theorem D221_22 : decode prog_12_method_95_code 22 = .ok (.invokevirtual 476, 3) := by decide +kernel
theorem D221_25 : decode prog_12_method_95_code 25 = .ok (.goto 4, 3) := by decide +kernel
theorem D221_28 : decode prog_12_method_95_code 28 = .ok (.iconst (-1), 1) := by decide +kernel
theorem D221_29 : decode prog_12_method_95_code 29 = .ok (.ireturn, 1) := by decide +kernel

theorem b221_0 {d : Nat} {i1 : Int32} {i2 : Int32} {i3 : Int32} {ia : Nat → Nat → Int32} {la : Nat → Nat → Int64} {pl dr : Nat} {cp : Option Nat} {cw : Option Nat} {rp : Option Nat} {K : Option Value → zHP → Prop}  : zWP (d + 1) 221 0 [some (.ref 127), some (.int i1), some (.int i2), some (.int i3)] [] (ia, la, zRA pl dr cp cw rp) K = zWM d 219 [.ref 127, .int i1, .int i2] ((zu ia 127 0 (0 : Int32)), la, zRA pl dr cp cw rp) (zK (d + 1) 221 11 [some (.ref 127), some (.int i1), some (.int i2), some (.int i3)] [] K) := by
  refine (Q_aload_n zm_221 (Or.inl (by decide)) D221_0 rfl).trans ?_
  refine (Q_iconst (v := 0) zm_221 (Or.inl (by decide)) D221_1 (by decide)).trans ?_
  refine (Q_putI zm_221 (Or.inl (by decide)) D221_2 zf_10_151 zs_10_0 rfl zk_127.1).trans ?_
  refine (Q_aload_n zm_221 (Or.inl (by decide)) D221_5 rfl).trans ?_
  refine (Q_iload_n zm_221 (Or.inl (by decide)) D221_6 rfl).trans ?_
  refine (Q_iload_n zm_221 (Or.inl (by decide)) D221_7 rfl).trans ?_
  exact Q_callv (as := [.int i1, .int i2]) (b := 127) (rest := []) zm_221 (Or.inl (by decide)) D221_8 zc_10_473 rfl zk_127.1 (by decide) (by decide +kernel) (by decide) (by simp [zcat, Value.category]) zm_219 rfl

theorem b221_11 {d : Nat} {i1 : Int32} {i2 : Int32} {i3 : Int32} {s0 : Int32} {ia : Nat → Nat → Int32} {la : Nat → Nat → Int64} {pl dr : Nat} {cp : Option Nat} {cw : Option Nat} {rp : Option Nat} {K : Option Value → zHP → Prop}  : zWP (d + 1) 221 11 [some (.ref 127), some (.int i1), some (.int i2), some (.int i3)] [.int s0] (ia, la, zRA pl dr cp cw rp) K = (if s0 = 0 then K (some (.int (-1 : Int32))) (ia, la, zRA pl dr cp cw rp) else (if i3 < 0 then K (some (.int (-1 : Int32))) (ia, la, zRA pl dr cp cw rp) else zWM d 218 [.ref 127, .int i1, .int i2, .int i3] (ia, la, zRA pl dr cp cw rp) (zK (d + 1) 221 25 [some (.ref 127), some (.int i1), some (.int i2), some (.int i3)] [] K))) := by
  refine (Q_if_eq (tgt := 28) zm_221 (Or.inl (by decide)) D221_11 (by decide)).trans ?_
  refine zif_c (fun h0_ => ?_) (fun h0_ => ?_)
  · refine (Q_iconst (v := -1) zm_221 (Or.inl (by decide)) D221_28 (by decide)).trans ?_
    exact Q_ireturn zm_221 (Or.inl (by decide)) D221_29 rfl
  · refine (Q_iload_n zm_221 (Or.inl (by decide)) D221_14 rfl).trans ?_
    refine (Q_if_lt (tgt := 28) zm_221 (Or.inl (by decide)) D221_15 (by decide)).trans ?_
    refine zif_c (fun h1_ => ?_) (fun h1_ => ?_)
    · refine (Q_iconst (v := -1) zm_221 (Or.inl (by decide)) D221_28 (by decide)).trans ?_
      exact Q_ireturn zm_221 (Or.inl (by decide)) D221_29 rfl
    · refine (Q_aload_n zm_221 (Or.inl (by decide)) D221_18 rfl).trans ?_
      refine (Q_iload_n zm_221 (Or.inl (by decide)) D221_19 rfl).trans ?_
      refine (Q_iload_n zm_221 (Or.inl (by decide)) D221_20 rfl).trans ?_
      refine (Q_iload_n zm_221 (Or.inl (by decide)) D221_21 rfl).trans ?_
      exact Q_callv (as := [.int i1, .int i2, .int i3]) (b := 127) (rest := []) zm_221 (Or.inl (by decide)) D221_22 zc_10_476 rfl zk_127.1 (by decide) (by decide +kernel) (by decide) (by simp [zcat, Value.category]) zm_218 rfl

theorem b221_25 {d : Nat} {i1 : Int32} {i2 : Int32} {i3 : Int32} {s0 : Int32} {ia : Nat → Nat → Int32} {la : Nat → Nat → Int64} {pl dr : Nat} {cp : Option Nat} {cw : Option Nat} {rp : Option Nat} {K : Option Value → zHP → Prop}  : zWP d 221 25 [some (.ref 127), some (.int i1), some (.int i2), some (.int i3)] [.int s0] (ia, la, zRA pl dr cp cw rp) K = K (some (.int s0)) (ia, la, zRA pl dr cp cw rp) := by
  refine (Q_goto (tgt := 29) zm_221 (Or.inl (by decide)) D221_25 (by decide)).trans ?_
  exact Q_ireturn zm_221 (Or.inl (by decide)) D221_29 rfl

/-! HandsLetModel.common(JJ)J -/
theorem D222_0 : decode prog_12_method_96_code 0 = .ok (.lload_n 0, 1) := by decide +kernel
theorem D222_1 : decode prog_12_method_96_code 1 = .ok (.lstore 4, 2) := by decide +kernel
theorem D222_3 : decode prog_12_method_96_code 3 = .ok (.lload_n 2, 1) := by decide +kernel
theorem D222_4 : decode prog_12_method_96_code 4 = .ok (.lstore 6, 2) := by decide +kernel
theorem D222_6 : decode prog_12_method_96_code 6 = .ok (.lload 6, 2) := by decide +kernel
theorem D222_8 : decode prog_12_method_96_code 8 = .ok (.lconst 0, 1) := by decide +kernel
theorem D222_9 : decode prog_12_method_96_code 9 = .ok (.lcmp, 1) := by decide +kernel
theorem D222_10 : decode prog_12_method_96_code 10 = .ok (.ifCond .eq 21, 3) := by decide +kernel
theorem D222_13 : decode prog_12_method_96_code 13 = .ok (.lload 4, 2) := by decide +kernel
theorem D222_15 : decode prog_12_method_96_code 15 = .ok (.lload 6, 2) := by decide +kernel
theorem D222_17 : decode prog_12_method_96_code 17 = .ok (.lrem, 1) := by decide +kernel
theorem D222_18 : decode prog_12_method_96_code 18 = .ok (.lstore 8, 2) := by decide +kernel
theorem D222_20 : decode prog_12_method_96_code 20 = .ok (.lload 6, 2) := by decide +kernel
theorem D222_22 : decode prog_12_method_96_code 22 = .ok (.lstore 4, 2) := by decide +kernel
theorem D222_24 : decode prog_12_method_96_code 24 = .ok (.lload 8, 2) := by decide +kernel
theorem D222_26 : decode prog_12_method_96_code 26 = .ok (.lstore 6, 2) := by decide +kernel
theorem D222_28 : decode prog_12_method_96_code 28 = .ok (.goto (-22), 3) := by decide +kernel
theorem D222_31 : decode prog_12_method_96_code 31 = .ok (.lload 4, 2) := by decide +kernel
theorem D222_33 : decode prog_12_method_96_code 33 = .ok (.lreturn, 1) := by decide +kernel

theorem b222_0 {d : Nat} {j0 : Int64} {j2 : Int64} {ia : Nat → Nat → Int32} {la : Nat → Nat → Int64} {pl dr : Nat} {cp : Option Nat} {cw : Option Nat} {rp : Option Nat} {K : Option Value → zHP → Prop}  : zWP d 222 0 [some (.long j0), none, some (.long j2), none, none, none, none, none, none, none] [] (ia, la, zRA pl dr cp cw rp) K = zWP d 222 6 [some (.long j0), none, some (.long j2), none, some (.long j0), none, some (.long j2), none, none, none] [] (ia, la, zRA pl dr cp cw rp) K := by
  refine (Q_lload_n zm_222 (Or.inl (by decide)) D222_0 rfl).trans ?_
  refine (Q_lstore (ls' := [some (.long j0), none, some (.long j2), none, some (.long j0), none, none, none, none, none]) zm_222 (Or.inl (by decide)) D222_1 rfl (Nat.le_of_ble_eq_true rfl) rfl).trans ?_
  refine (Q_lload_n zm_222 (Or.inl (by decide)) D222_3 rfl).trans ?_
  refine (Q_lstore (ls' := [some (.long j0), none, some (.long j2), none, some (.long j0), none, some (.long j2), none, none, none]) zm_222 (Or.inl (by decide)) D222_4 rfl (Nat.le_of_ble_eq_true rfl) rfl).trans ?_
  rfl

theorem b222_6 {d : Nat} {j0 : Int64} {j2 : Int64} {j4 : Int64} {j6 : Int64} {a8 : Option Value} {ia : Nat → Nat → Int32} {la : Nat → Nat → Int64} {pl dr : Nat} {cp : Option Nat} {cw : Option Nat} {rp : Option Nat} {K : Option Value → zHP → Prop}  : zWP d 222 6 [some (.long j0), none, some (.long j2), none, some (.long j4), none, some (.long j6), none, a8, none] [] (ia, la, zRA pl dr cp cw rp) K = (if (lg_cmp j6 (0 : Int64)) = 0 then K (some (.long j4)) (ia, la, zRA pl dr cp cw rp) else (¬ j6 = 0 ∧ zWP d 222 6 [some (.long j0), none, some (.long j2), none, some (.long j6), none, some (.long (j4 - j4 / j6 * j6)), none, some (.long (j4 - j4 / j6 * j6)), none] [] (ia, la, zRA pl dr cp cw rp) K)) := by
  refine (Q_lload zm_222 (Or.inl (by decide)) D222_6 rfl).trans ?_
  refine (Q_lconst (v := 0) zm_222 (Or.inl (by decide)) D222_8 (by decide)).trans ?_
  refine (Q_lcmp zm_222 (Or.inl (by decide)) D222_9).trans ?_
  refine (Q_if_eq (tgt := 31) zm_222 (Or.inl (by decide)) D222_10 (by decide)).trans ?_
  refine zif_c (fun h0_ => ?_) (fun h0_ => ?_)
  · refine (Q_lload zm_222 (Or.inl (by decide)) D222_31 rfl).trans ?_
    exact Q_lreturn zm_222 (Or.inl (by decide)) D222_33 rfl
  · refine (Q_lload zm_222 (Or.inl (by decide)) D222_13 rfl).trans ?_
    refine (Q_lload zm_222 (Or.inl (by decide)) D222_15 rfl).trans ?_
    refine (Q_lremG zm_222 (Or.inl (by decide)) D222_17).trans ?_
    refine zand_c (fun h1_ => ?_)
    refine (Q_lstore (ls' := [some (.long j0), none, some (.long j2), none, some (.long j4), none, some (.long j6), none, some (.long (j4 - j4 / j6 * j6)), none]) zm_222 (Or.inl (by decide)) D222_18 rfl (Nat.le_of_ble_eq_true rfl) rfl).trans ?_
    refine (Q_lload zm_222 (Or.inl (by decide)) D222_20 rfl).trans ?_
    refine (Q_lstore (ls' := [some (.long j0), none, some (.long j2), none, some (.long j6), none, some (.long j6), none, some (.long (j4 - j4 / j6 * j6)), none]) zm_222 (Or.inl (by decide)) D222_22 rfl (Nat.le_of_ble_eq_true rfl) rfl).trans ?_
    refine (Q_lload zm_222 (Or.inl (by decide)) D222_24 rfl).trans ?_
    refine (Q_lstore (ls' := [some (.long j0), none, some (.long j2), none, some (.long j6), none, some (.long (j4 - j4 / j6 * j6)), none, some (.long (j4 - j4 / j6 * j6)), none]) zm_222 (Or.inl (by decide)) D222_26 rfl (Nat.le_of_ble_eq_true rfl) rfl).trans ?_
    refine (Q_goto (tgt := 6) zm_222 (Or.inl (by decide)) D222_28 (by decide)).trans ?_
    rfl

/-! HandsLetModel.quiet(II)J -/
theorem D223_0 : decode prog_12_method_97_code 0 = .ok (.aload_n 0, 1) := by decide +kernel
theorem D223_1 : decode prog_12_method_97_code 1 = .ok (.iconst 0, 1) := by decide +kernel
theorem D223_2 : decode prog_12_method_97_code 2 = .ok (.putfield 151, 3) := by decide +kernel
theorem D223_5 : decode prog_12_method_97_code 5 = .ok (.iload_n 1, 1) := by decide +kernel
theorem D223_6 : decode prog_12_method_97_code 6 = .ok (.ifCond .lt 18, 3) := by decide +kernel
theorem D223_9 : decode prog_12_method_97_code 9 = .ok (.iload_n 1, 1) := by decide +kernel
theorem D223_10 : decode prog_12_method_97_code 10 = .ok (.bipush 6, 2) := by decide +kernel
theorem D223_12 : decode prog_12_method_97_code 12 = .ok (.if_icmp .gt 12, 3) := by decide +kernel
theorem D223_15 : decode prog_12_method_97_code 15 = .ok (.iload_n 2, 1) := by decide +kernel
theorem D223_16 : decode prog_12_method_97_code 16 = .ok (.ifCond .lt 8, 3) := by decide +kernel
theorem D223_19 : decode prog_12_method_97_code 19 = .ok (.iload_n 2, 1) := by decide +kernel
theorem D223_20 : decode prog_12_method_97_code 20 = .ok (.iconst 1, 1) := by decide +kernel
theorem D223_21 : decode prog_12_method_97_code 21 = .ok (.if_icmp .le 7, 3) := by decide +kernel
theorem D223_24 : decode prog_12_method_97_code 24 = .ok (.ldc2_w 479, 3) := by decide +kernel
theorem D223_27 : decode prog_12_method_97_code 27 = .ok (.lreturn, 1) := by decide +kernel
theorem D223_28 : decode prog_12_method_97_code 28 = .ok (.lconst 1, 1) := by decide +kernel
theorem D223_29 : decode prog_12_method_97_code 29 = .ok (.lstore_n 3, 1) := by decide +kernel
theorem D223_30 : decode prog_12_method_97_code 30 = .ok (.lconst 1, 1) := by decide +kernel
theorem D223_31 : decode prog_12_method_97_code 31 = .ok (.lstore 5, 2) := by decide +kernel
theorem D223_33 : decode prog_12_method_97_code 33 = .ok (.iconst 0, 1) := by decide +kernel
theorem D223_34 : decode prog_12_method_97_code 34 = .ok (.istore 7, 2) := by decide +kernel
theorem D223_36 : decode prog_12_method_97_code 36 = .ok (.iload 7, 2) := by decide +kernel
theorem D223_38 : decode prog_12_method_97_code 38 = .ok (.iload_n 1, 1) := by decide +kernel
theorem D223_39 : decode prog_12_method_97_code 39 = .ok (.if_icmp .ge 31, 3) := by decide +kernel
theorem D223_42 : decode prog_12_method_97_code 42 = .ok (.lload_n 3, 1) := by decide +kernel
theorem D223_43 : decode prog_12_method_97_code 43 = .ok (.ldc2_w 481, 3) := by decide +kernel
theorem D223_46 : decode prog_12_method_97_code 46 = .ok (.aload_n 0, 1) := by decide +kernel
theorem D223_47 : decode prog_12_method_97_code 47 = .ok (.getfield 13, 3) := by decide +kernel
theorem D223_50 : decode prog_12_method_97_code 50 = .ok (.iconst 4, 1) := by decide +kernel
theorem D223_51 : decode prog_12_method_97_code 51 = .ok (.iaload, 1) := by decide +kernel
theorem D223_52 : decode prog_12_method_97_code 52 = .ok (.i2l, 1) := by decide +kernel
theorem D223_53 : decode prog_12_method_97_code 53 = .ok (.lsub, 1) := by decide +kernel
theorem D223_54 : decode prog_12_method_97_code 54 = .ok (.lmul, 1) := by decide +kernel
theorem D223_55 : decode prog_12_method_97_code 55 = .ok (.lstore_n 3, 1) := by decide +kernel
theorem D223_56 : decode prog_12_method_97_code 56 = .ok (.lload 5, 2) := by decide +kernel
theorem D223_58 : decode prog_12_method_97_code 58 = .ok (.ldc2_w 481, 3) := by decide +kernel
theorem D223_61 : decode prog_12_method_97_code 61 = .ok (.lmul, 1) := by decide +kernel
theorem D223_62 : decode prog_12_method_97_code 62 = .ok (.lstore 5, 2) := by decide +kernel
theorem D223_64 : decode prog_12_method_97_code 64 = .ok (.iinc 7 1, 3) := by decide +kernel
theorem D223_67 : decode prog_12_method_97_code 67 = .ok (.goto (-31), 3) := by decide +kernel
theorem D223_70 : decode prog_12_method_97_code 70 = .ok (.lload_n 3, 1) := by decide +kernel
theorem D223_71 : decode prog_12_method_97_code 71 = .ok (.lload 5, 2) := by decide +kernel
theorem D223_73 : decode prog_12_method_97_code 73 = .ok (.invokestatic 483, 3) := by decide +kernel
theorem D223_76 : decode prog_12_method_97_code 76 = .ok (.lstore 7, 2) := by decide +kernel
theorem D223_78 : decode prog_12_method_97_code 78 = .ok (.iload_n 2, 1) := by decide +kernel
theorem D223_79 : decode prog_12_method_97_code 79 = .ok (.ifCond .ne 10, 3) := by decide +kernel
theorem D223_82 : decode prog_12_method_97_code 82 = .ok (.lload_n 3, 1) := by decide +kernel
theorem D223_83 : decode prog_12_method_97_code 83 = .ok (.lload 7, 2) := by decide +kernel
theorem D223_85 : decode prog_12_method_97_code 85 = .ok (.ldiv, 1) := by decide +kernel
theorem D223_86 : decode prog_12_method_97_code 86 = .ok (.goto 8, 3) := by decide +kernel
theorem D223_89 : decode prog_12_method_97_code 89 = .ok (.lload 5, 2) := by decide +kernel
theorem D223_91 : decode prog_12_method_97_code 91 = .ok (.lload 7, 2) := by decide +kernel
theorem D223_93 : decode prog_12_method_97_code 93 = .ok (.ldiv, 1) := by decide +kernel
theorem D223_94 : decode prog_12_method_97_code 94 = .ok (.lreturn, 1) := by decide +kernel

theorem b223_0 {d : Nat} {i1 : Int32} {i2 : Int32} {ia : Nat → Nat → Int32} {la : Nat → Nat → Int64} {pl dr : Nat} {cp : Option Nat} {cw : Option Nat} {rp : Option Nat} {K : Option Value → zHP → Prop}  : zWP d 223 0 [some (.ref 127), some (.int i1), some (.int i2), none, none, none, none, none, none] [] (ia, la, zRA pl dr cp cw rp) K = (if i1 < 0 then K (some (.long (-1 : Int64))) ((zu ia 127 0 (0 : Int32)), la, zRA pl dr cp cw rp) else (if (6 : Int32) < i1 then K (some (.long (-1 : Int64))) ((zu ia 127 0 (0 : Int32)), la, zRA pl dr cp cw rp) else (if i2 < 0 then K (some (.long (-1 : Int64))) ((zu ia 127 0 (0 : Int32)), la, zRA pl dr cp cw rp) else (if i2 ≤ (1 : Int32) then zWP d 223 36 [some (.ref 127), some (.int i1), some (.int i2), some (.long (1 : Int64)), none, some (.long (1 : Int64)), none, some (.int (0 : Int32)), none] [] ((zu ia 127 0 (0 : Int32)), la, zRA pl dr cp cw rp) K else K (some (.long (-1 : Int64))) ((zu ia 127 0 (0 : Int32)), la, zRA pl dr cp cw rp))))) := by
  refine (Q_aload_n zm_223 (Or.inl (by decide)) D223_0 rfl).trans ?_
  refine (Q_iconst (v := 0) zm_223 (Or.inl (by decide)) D223_1 (by decide)).trans ?_
  refine (Q_putI zm_223 (Or.inl (by decide)) D223_2 zf_10_151 zs_10_0 rfl zk_127.1).trans ?_
  refine (Q_iload_n zm_223 (Or.inl (by decide)) D223_5 rfl).trans ?_
  refine (Q_if_lt (tgt := 24) zm_223 (Or.inl (by decide)) D223_6 (by decide)).trans ?_
  refine zif_c (fun h0_ => ?_) (fun h0_ => ?_)
  · refine (Q_ldc2_w (v := -1) zm_223 (Or.inl (by decide)) D223_24 (by decide +kernel)).trans ?_
    exact Q_lreturn zm_223 (Or.inl (by decide)) D223_27 rfl
  · refine (Q_iload_n zm_223 (Or.inl (by decide)) D223_9 rfl).trans ?_
    refine (Q_bipush (v := 6) zm_223 (Or.inl (by decide)) D223_10 (by decide)).trans ?_
    refine (Q_ic_gt (tgt := 24) zm_223 (Or.inl (by decide)) D223_12 (by decide)).trans ?_
    refine zif_c (fun h1_ => ?_) (fun h1_ => ?_)
    · refine (Q_ldc2_w (v := -1) zm_223 (Or.inl (by decide)) D223_24 (by decide +kernel)).trans ?_
      exact Q_lreturn zm_223 (Or.inl (by decide)) D223_27 rfl
    · refine (Q_iload_n zm_223 (Or.inl (by decide)) D223_15 rfl).trans ?_
      refine (Q_if_lt (tgt := 24) zm_223 (Or.inl (by decide)) D223_16 (by decide)).trans ?_
      refine zif_c (fun h2_ => ?_) (fun h2_ => ?_)
      · refine (Q_ldc2_w (v := -1) zm_223 (Or.inl (by decide)) D223_24 (by decide +kernel)).trans ?_
        exact Q_lreturn zm_223 (Or.inl (by decide)) D223_27 rfl
      · refine (Q_iload_n zm_223 (Or.inl (by decide)) D223_19 rfl).trans ?_
        refine (Q_iconst (v := 1) zm_223 (Or.inl (by decide)) D223_20 (by decide)).trans ?_
        refine (Q_ic_le (tgt := 28) zm_223 (Or.inl (by decide)) D223_21 (by decide)).trans ?_
        refine zif_c (fun h3_ => ?_) (fun h3_ => ?_)
        · refine (Q_lconst (v := 1) zm_223 (Or.inl (by decide)) D223_28 (by decide)).trans ?_
          refine (Q_lstore_n (ls' := [some (.ref 127), some (.int i1), some (.int i2), some (.long (1 : Int64)), none, none, none, none, none]) zm_223 (Or.inl (by decide)) D223_29 rfl (Nat.le_of_ble_eq_true rfl) rfl).trans ?_
          refine (Q_lconst (v := 1) zm_223 (Or.inl (by decide)) D223_30 (by decide)).trans ?_
          refine (Q_lstore (ls' := [some (.ref 127), some (.int i1), some (.int i2), some (.long (1 : Int64)), none, some (.long (1 : Int64)), none, none, none]) zm_223 (Or.inl (by decide)) D223_31 rfl (Nat.le_of_ble_eq_true rfl) rfl).trans ?_
          refine (Q_iconst (v := 0) zm_223 (Or.inl (by decide)) D223_33 (by decide)).trans ?_
          refine (Q_istore (ls' := [some (.ref 127), some (.int i1), some (.int i2), some (.long (1 : Int64)), none, some (.long (1 : Int64)), none, some (.int (0 : Int32)), none]) zm_223 (Or.inl (by decide)) D223_34 rfl (Nat.le_of_ble_eq_true rfl) rfl).trans ?_
          rfl
        · refine (Q_ldc2_w (v := -1) zm_223 (Or.inl (by decide)) D223_24 (by decide +kernel)).trans ?_
          exact Q_lreturn zm_223 (Or.inl (by decide)) D223_27 rfl

theorem b223_36 {d : Nat} {i1 : Int32} {i2 : Int32} {j3 : Int64} {j5 : Int64} {i7 : Int32} {ia : Nat → Nat → Int32} {la : Nat → Nat → Int64} {pl dr : Nat} {cp : Option Nat} {cw : Option Nat} {rp : Option Nat} {K : Option Value → zHP → Prop}  : zWP (d + 1) 223 36 [some (.ref 127), some (.int i1), some (.int i2), some (.long j3), none, some (.long j5), none, some (.int i7), none] [] (ia, la, zRA pl dr cp cw rp) K = (if i1 ≤ i7 then zWM d 222 [.long j3, .long j5] (ia, la, zRA pl dr cp cw rp) (zK (d + 1) 223 76 [some (.ref 127), some (.int i1), some (.int i2), some (.long j3), none, some (.long j5), none, some (.int i7), none] [] K) else zWP (d + 1) 223 36 [some (.ref 127), some (.int i1), some (.int i2), some (.long (j3 * ((100 : Int64) - ((ia 129 4)).toInt64))), none, some (.long (j5 * (100 : Int64))), none, some (.int (i7 + (1 : Int32))), none] [] (ia, la, zRA pl dr cp cw rp) K) := by
  refine (Q_iload zm_223 (Or.inl (by decide)) D223_36 rfl).trans ?_
  refine (Q_iload_n zm_223 (Or.inl (by decide)) D223_38 rfl).trans ?_
  refine (Q_ic_ge (tgt := 70) zm_223 (Or.inl (by decide)) D223_39 (by decide)).trans ?_
  refine zif_c (fun h0_ => ?_) (fun h0_ => ?_)
  · refine (Q_lload_n zm_223 (Or.inl (by decide)) D223_70 rfl).trans ?_
    refine (Q_lload zm_223 (Or.inl (by decide)) D223_71 rfl).trans ?_
    exact Q_calls (as := [.long j3, .long j5]) (rest := []) zm_223 (Or.inl (by decide)) D223_73 zc_10_483 rfl (by decide) (by simp [zcat, Value.category]) zm_222 rfl
  · refine (Q_lload_n zm_223 (Or.inl (by decide)) D223_42 rfl).trans ?_
    refine (Q_ldc2_w (v := 100) zm_223 (Or.inl (by decide)) D223_43 (by decide +kernel)).trans ?_
    refine (Q_aload_n zm_223 (Or.inl (by decide)) D223_46 rfl).trans ?_
    refine (Q_getR (q := 129) zm_223 (Or.inl (by decide)) D223_47 zf_10_13 zs_10_3 zk_127.1 rfl).trans ?_
    refine (Q_iconst (v := 4) zm_223 (Or.inl (by decide)) D223_50 (by decide)).trans ?_
    refine ((Q_iaload zm_223 (Or.inl (by decide)) D223_51 zk_129.1 zk_129.2).trans (zdrop (zin_spec (by decide)))).trans ?_
    refine (Q_i2l zm_223 (Or.inl (by decide)) D223_52).trans ?_
    refine (Q_lsub zm_223 (Or.inl (by decide)) D223_53).trans ?_
    refine (Q_lmul zm_223 (Or.inl (by decide)) D223_54).trans ?_
    refine (Q_lstore_n (ls' := [some (.ref 127), some (.int i1), some (.int i2), some (.long (j3 * ((100 : Int64) - ((ia 129 4)).toInt64))), none, some (.long j5), none, some (.int i7), none]) zm_223 (Or.inl (by decide)) D223_55 rfl (Nat.le_of_ble_eq_true rfl) rfl).trans ?_
    refine (Q_lload zm_223 (Or.inl (by decide)) D223_56 rfl).trans ?_
    refine (Q_ldc2_w (v := 100) zm_223 (Or.inl (by decide)) D223_58 (by decide +kernel)).trans ?_
    refine (Q_lmul zm_223 (Or.inl (by decide)) D223_61).trans ?_
    refine (Q_lstore (ls' := [some (.ref 127), some (.int i1), some (.int i2), some (.long (j3 * ((100 : Int64) - ((ia 129 4)).toInt64))), none, some (.long (j5 * (100 : Int64))), none, some (.int i7), none]) zm_223 (Or.inl (by decide)) D223_62 rfl (Nat.le_of_ble_eq_true rfl) rfl).trans ?_
    refine (Q_iinc (v := 1) (ls' := [some (.ref 127), some (.int i1), some (.int i2), some (.long (j3 * ((100 : Int64) - ((ia 129 4)).toInt64))), none, some (.long (j5 * (100 : Int64))), none, some (.int (i7 + (1 : Int32))), none]) zm_223 (Or.inl (by decide)) D223_64 rfl rfl (by decide) rfl).trans ?_
    refine (Q_goto (tgt := 36) zm_223 (Or.inl (by decide)) D223_67 (by decide)).trans ?_
    rfl

theorem b223_76 {d : Nat} {i1 : Int32} {i2 : Int32} {j3 : Int64} {j5 : Int64} {i7 : Int32} {t0 : Int64} {ia : Nat → Nat → Int32} {la : Nat → Nat → Int64} {pl dr : Nat} {cp : Option Nat} {cw : Option Nat} {rp : Option Nat} {K : Option Value → zHP → Prop}  : zWP d 223 76 [some (.ref 127), some (.int i1), some (.int i2), some (.long j3), none, some (.long j5), none, some (.int i7), none] [.long t0] (ia, la, zRA pl dr cp cw rp) K = (if ¬ i2 = 0 then (¬ t0 = 0 ∧ K (some (.long (j5 / t0))) (ia, la, zRA pl dr cp cw rp)) else (¬ t0 = 0 ∧ K (some (.long (j3 / t0))) (ia, la, zRA pl dr cp cw rp))) := by
  refine (Q_lstore (ls' := [some (.ref 127), some (.int i1), some (.int i2), some (.long j3), none, some (.long j5), none, some (.long t0), none]) zm_223 (Or.inl (by decide)) D223_76 rfl (Nat.le_of_ble_eq_true rfl) rfl).trans ?_
  refine (Q_iload_n zm_223 (Or.inl (by decide)) D223_78 rfl).trans ?_
  refine (Q_if_ne (tgt := 89) zm_223 (Or.inl (by decide)) D223_79 (by decide)).trans ?_
  refine zif_c (fun h0_ => ?_) (fun h0_ => ?_)
  · refine (Q_lload zm_223 (Or.inl (by decide)) D223_89 rfl).trans ?_
    refine (Q_lload zm_223 (Or.inl (by decide)) D223_91 rfl).trans ?_
    refine (Q_ldivG zm_223 (Or.inl (by decide)) D223_93).trans ?_
    refine zand_c (fun h1_ => ?_)
    exact Q_lreturn zm_223 (Or.inl (by decide)) D223_94 rfl
  · refine (Q_lload_n zm_223 (Or.inl (by decide)) D223_82 rfl).trans ?_
    refine (Q_lload zm_223 (Or.inl (by decide)) D223_83 rfl).trans ?_
    refine (Q_ldivG zm_223 (Or.inl (by decide)) D223_85).trans ?_
    refine zand_c (fun h2_ => ?_)
    refine (Q_goto (tgt := 94) zm_223 (Or.inl (by decide)) D223_86 (by decide)).trans ?_
    exact Q_lreturn zm_223 (Or.inl (by decide)) D223_94 rfl

/-! HandsLetModel.see(IIIIZ)I -/
theorem D224_0 : decode prog_12_method_98_code 0 = .ok (.aload_n 0, 1) := by decide +kernel
theorem D224_1 : decode prog_12_method_98_code 1 = .ok (.iconst 0, 1) := by decide +kernel
theorem D224_2 : decode prog_12_method_98_code 2 = .ok (.putfield 151, 3) := by decide +kernel
theorem D224_5 : decode prog_12_method_98_code 5 = .ok (.iload_n 1, 1) := by decide +kernel
theorem D224_6 : decode prog_12_method_98_code 6 = .ok (.iconst 1, 1) := by decide +kernel
theorem D224_7 : decode prog_12_method_98_code 7 = .ok (.if_icmp .lt 47, 3) := by decide +kernel
theorem D224_10 : decode prog_12_method_98_code 10 = .ok (.iload_n 1, 1) := by decide +kernel
theorem D224_11 : decode prog_12_method_98_code 11 = .ok (.bipush 60, 2) := by decide +kernel
theorem D224_13 : decode prog_12_method_98_code 13 = .ok (.if_icmp .gt 41, 3) := by decide +kernel
theorem D224_16 : decode prog_12_method_98_code 16 = .ok (.aload_n 0, 1) := by decide +kernel
theorem D224_17 : decode prog_12_method_98_code 17 = .ok (.iload_n 2, 1) := by decide +kernel
theorem D224_18 : decode prog_12_method_98_code 18 = .ok (.invokevirtual 413, 3) := by decide +kernel
theorem D224_21 : decode prog_12_method_98_code 21 = .ok (.ifCond .eq 33, 3) := by decide +kernel
theorem D224_24 : decode prog_12_method_98_code 24 = .ok (.iload_n 3, 1) := by decide +kernel
theorem D224_25 : decode prog_12_method_98_code 25 = .ok (.ifCond .lt 29, 3) := by decide +kernel
theorem D224_28 : decode prog_12_method_98_code 28 = .ok (.iload_n 3, 1) := by decide +kernel
theorem D224_29 : decode prog_12_method_98_code 29 = .ok (.iconst 3, 1) := by decide +kernel
theorem D224_30 : decode prog_12_method_98_code 30 = .ok (.if_icmp .ge 24, 3) := by decide +kernel
theorem D224_33 : decode prog_12_method_98_code 33 = .ok (.iload 4, 2) := by decide +kernel
theorem D224_35 : decode prog_12_method_98_code 35 = .ok (.ifCond .lt 19, 3) := by decide +kernel
theorem D224_38 : decode prog_12_method_98_code 38 = .ok (.iload 4, 2) := by decide +kernel
theorem D224_40 : decode prog_12_method_98_code 40 = .ok (.bipush 99, 2) := by decide +kernel
theorem D224_42 : decode prog_12_method_98_code 42 = .ok (.if_icmp .gt 12, 3) := by decide +kernel
theorem D224_45 : decode prog_12_method_98_code 45 = .ok (.aload_n 0, 1) := by decide +kernel
theorem D224_46 : decode prog_12_method_98_code 46 = .ok (.getfield 307, 3) := by decide +kernel
theorem D224_49 : decode prog_12_method_98_code 49 = .ok (.bipush 24, 2) := by decide +kernel
theorem D224_51 : decode prog_12_method_98_code 51 = .ok (.if_icmp .ne 5, 3) := by decide +kernel
theorem D224_54 : decode prog_12_method_98_code 54 = .ok (.iconst (-1), 1) := by decide +kernel
theorem D224_55 : decode prog_12_method_98_code 55 = .ok (.ireturn, 1) := by decide +kernel
theorem D224_56 : decode prog_12_method_98_code 56 = .ok (.aload_n 0, 1) := by decide +kernel
theorem D224_57 : decode prog_12_method_98_code 57 = .ok (.getfield 126, 3) := by decide +kernel
theorem D224_60 : decode prog_12_method_98_code 60 = .ok (.aload_n 0, 1) := by decide +kernel
theorem D224_61 : decode prog_12_method_98_code 61 = .ok (.getfield 307, 3) := by decide +kernel
theorem D224_64 : decode prog_12_method_98_code 64 = .ok (.iload_n 1, 1) := by decide +kernel
theorem D224_65 : decode prog_12_method_98_code 65 = .ok (.iastore, 1) := by decide +kernel
theorem D224_66 : decode prog_12_method_98_code 66 = .ok (.aload_n 0, 1) := by decide +kernel
theorem D224_67 : decode prog_12_method_98_code 67 = .ok (.getfield 129, 3) := by decide +kernel
theorem D224_70 : decode prog_12_method_98_code 70 = .ok (.aload_n 0, 1) := by decide +kernel
theorem D224_71 : decode prog_12_method_98_code 71 = .ok (.getfield 307, 3) := by decide +kernel
theorem D224_74 : decode prog_12_method_98_code 74 = .ok (.iconst 3, 1) := by decide +kernel
theorem D224_75 : decode prog_12_method_98_code 75 = .ok (.iload_n 2, 1) := by decide +kernel
theorem D224_76 : decode prog_12_method_98_code 76 = .ok (.imul, 1) := by decide +kernel
theorem D224_77 : decode prog_12_method_98_code 77 = .ok (.iload_n 3, 1) := by decide +kernel
theorem D224_78 : decode prog_12_method_98_code 78 = .ok (.iadd, 1) := by decide +kernel
theorem D224_79 : decode prog_12_method_98_code 79 = .ok (.iastore, 1) := by decide +kernel
theorem D224_80 : decode prog_12_method_98_code 80 = .ok (.aload_n 0, 1) := by decide +kernel
theorem D224_81 : decode prog_12_method_98_code 81 = .ok (.getfield 132, 3) := by decide +kernel
theorem D224_84 : decode prog_12_method_98_code 84 = .ok (.aload_n 0, 1) := by decide +kernel
theorem D224_85 : decode prog_12_method_98_code 85 = .ok (.getfield 307, 3) := by decide +kernel
theorem D224_88 : decode prog_12_method_98_code 88 = .ok (.iload 4, 2) := by decide +kernel
theorem D224_90 : decode prog_12_method_98_code 90 = .ok (.iastore, 1) := by decide +kernel
theorem D224_91 : decode prog_12_method_98_code 91 = .ok (.aload_n 0, 1) := by decide +kernel
theorem D224_92 : decode prog_12_method_98_code 92 = .ok (.getfield 135, 3) := by decide +kernel
theorem D224_95 : decode prog_12_method_98_code 95 = .ok (.aload_n 0, 1) := by decide +kernel
theorem D224_96 : decode prog_12_method_98_code 96 = .ok (.getfield 307, 3) := by decide +kernel
theorem D224_99 : decode prog_12_method_98_code 99 = .ok (.iload 5, 2) := by decide +kernel
theorem D224_101 : decode prog_12_method_98_code 101 = .ok (.bastore, 1) := by decide +kernel
theorem D224_102 : decode prog_12_method_98_code 102 = .ok (.aload_n 0, 1) := by decide +kernel
theorem D224_103 : decode prog_12_method_98_code 103 = .ok (.getfield 139, 3) := by decide +kernel
theorem D224_106 : decode prog_12_method_98_code 106 = .ok (.aload_n 0, 1) := by decide +kernel
theorem D224_107 : decode prog_12_method_98_code 107 = .ok (.getfield 307, 3) := by decide +kernel
theorem D224_110 : decode prog_12_method_98_code 110 = .ok (.iconst (-1), 1) := by decide +kernel
theorem D224_111 : decode prog_12_method_98_code 111 = .ok (.iastore, 1) := by decide +kernel
theorem D224_112 : decode prog_12_method_98_code 112 = .ok (.aload_n 0, 1) := by decide +kernel
theorem D224_113 : decode prog_12_method_98_code 113 = .ok (.dup, 1) := by decide +kernel
theorem D224_114 : decode prog_12_method_98_code 114 = .ok (.getfield 307, 3) := by decide +kernel
theorem D224_117 : decode prog_12_method_98_code 117 = .ok (.iconst 1, 1) := by decide +kernel
theorem D224_118 : decode prog_12_method_98_code 118 = .ok (.iadd, 1) := by decide +kernel
theorem D224_119 : decode prog_12_method_98_code 119 = .ok (.putfield 307, 3) := by decide +kernel
theorem D224_122 : decode prog_12_method_98_code 122 = .ok (.aload_n 0, 1) := by decide +kernel
theorem D224_123 : decode prog_12_method_98_code 123 = .ok (.getfield 307, 3) := by decide +kernel
theorem D224_126 : decode prog_12_method_98_code 126 = .ok (.iconst 1, 1) := by decide +kernel
theorem D224_127 : decode prog_12_method_98_code 127 = .ok (.isub, 1) := by decide +kernel
theorem D224_128 : decode prog_12_method_98_code 128 = .ok (.ireturn, 1) := by decide +kernel

theorem b224_0 {d : Nat} {i1 : Int32} {i2 : Int32} {i3 : Int32} {i4 : Int32} {i5 : Int32} {ia : Nat → Nat → Int32} {la : Nat → Nat → Int64} {pl dr : Nat} {cp : Option Nat} {cw : Option Nat} {rp : Option Nat} {K : Option Value → zHP → Prop}  : zWP (d + 1) 224 0 [some (.ref 127), some (.int i1), some (.int i2), some (.int i3), some (.int i4), some (.int i5)] [] (ia, la, zRA pl dr cp cw rp) K = (if i1 < (1 : Int32) then K (some (.int (-1 : Int32))) ((zu ia 127 0 (0 : Int32)), la, zRA pl dr cp cw rp) else (if (60 : Int32) < i1 then K (some (.int (-1 : Int32))) ((zu ia 127 0 (0 : Int32)), la, zRA pl dr cp cw rp) else zWM d 171 [.ref 127, .int i2] ((zu ia 127 0 (0 : Int32)), la, zRA pl dr cp cw rp) (zK (d + 1) 224 21 [some (.ref 127), some (.int i1), some (.int i2), some (.int i3), some (.int i4), some (.int i5)] [] K))) := by
  refine (Q_aload_n zm_224 (Or.inl (by decide)) D224_0 rfl).trans ?_
  refine (Q_iconst (v := 0) zm_224 (Or.inl (by decide)) D224_1 (by decide)).trans ?_
  refine (Q_putI zm_224 (Or.inl (by decide)) D224_2 zf_10_151 zs_10_0 rfl zk_127.1).trans ?_
  refine (Q_iload_n zm_224 (Or.inl (by decide)) D224_5 rfl).trans ?_
  refine (Q_iconst (v := 1) zm_224 (Or.inl (by decide)) D224_6 (by decide)).trans ?_
  refine (Q_ic_lt (tgt := 54) zm_224 (Or.inl (by decide)) D224_7 (by decide)).trans ?_
  refine zif_c (fun h0_ => ?_) (fun h0_ => ?_)
  · refine (Q_iconst (v := -1) zm_224 (Or.inl (by decide)) D224_54 (by decide)).trans ?_
    exact Q_ireturn zm_224 (Or.inl (by decide)) D224_55 rfl
  · refine (Q_iload_n zm_224 (Or.inl (by decide)) D224_10 rfl).trans ?_
    refine (Q_bipush (v := 60) zm_224 (Or.inl (by decide)) D224_11 (by decide)).trans ?_
    refine (Q_ic_gt (tgt := 54) zm_224 (Or.inl (by decide)) D224_13 (by decide)).trans ?_
    refine zif_c (fun h1_ => ?_) (fun h1_ => ?_)
    · refine (Q_iconst (v := -1) zm_224 (Or.inl (by decide)) D224_54 (by decide)).trans ?_
      exact Q_ireturn zm_224 (Or.inl (by decide)) D224_55 rfl
    · refine (Q_aload_n zm_224 (Or.inl (by decide)) D224_16 rfl).trans ?_
      refine (Q_iload_n zm_224 (Or.inl (by decide)) D224_17 rfl).trans ?_
      exact Q_callv (as := [.int i2]) (b := 127) (rest := []) zm_224 (Or.inl (by decide)) D224_18 zc_10_413 rfl zk_127.1 (by decide) (by decide +kernel) (by decide) (by simp [zcat, Value.category]) zm_171 rfl

theorem b224_21 {d : Nat} {i1 : Int32} {i2 : Int32} {i3 : Int32} {i4 : Int32} {i5 : Int32} {s0 : Int32} {ia : Nat → Nat → Int32} {la : Nat → Nat → Int64} {pl dr : Nat} {cp : Option Nat} {cw : Option Nat} {rp : Option Nat} {K : Option Value → zHP → Prop}  : zWP d 224 21 [some (.ref 127), some (.int i1), some (.int i2), some (.int i3), some (.int i4), some (.int i5)] [.int s0] (ia, la, zRA pl dr cp cw rp) K = (if s0 = 0 then K (some (.int (-1 : Int32))) (ia, la, zRA pl dr cp cw rp) else (if i3 < 0 then K (some (.int (-1 : Int32))) (ia, la, zRA pl dr cp cw rp) else (if (3 : Int32) ≤ i3 then K (some (.int (-1 : Int32))) (ia, la, zRA pl dr cp cw rp) else (if i4 < 0 then K (some (.int (-1 : Int32))) (ia, la, zRA pl dr cp cw rp) else (if (99 : Int32) < i4 then K (some (.int (-1 : Int32))) (ia, la, zRA pl dr cp cw rp) else (if ¬ (ia 127 57) = (24 : Int32) then (vp_in (ia 127 57) 24 ∧ (vp_in ((zu ia 162 ((ia 127 57)).toNatClampNeg i1) 127 57) 24 ∧ (vp_in ((zu (zu ia 162 ((ia 127 57)).toNatClampNeg i1) 163 (((zu ia 162 ((ia 127 57)).toNatClampNeg i1) 127 57)).toNatClampNeg (((3 : Int32) * i2) + i3)) 127 57) 24 ∧ (vp_in ((zu (zu (zu ia 162 ((ia 127 57)).toNatClampNeg i1) 163 (((zu ia 162 ((ia 127 57)).toNatClampNeg i1) 127 57)).toNatClampNeg (((3 : Int32) * i2) + i3)) 164 (((zu (zu ia 162 ((ia 127 57)).toNatClampNeg i1) 163 (((zu ia 162 ((ia 127 57)).toNatClampNeg i1) 127 57)).toNatClampNeg (((3 : Int32) * i2) + i3)) 127 57)).toNatClampNeg i4) 127 57) 24 ∧ (vp_in ((zu (zu (zu (zu ia 162 ((ia 127 57)).toNatClampNeg i1) 163 (((zu ia 162 ((ia 127 57)).toNatClampNeg i1) 127 57)).toNatClampNeg (((3 : Int32) * i2) + i3)) 164 (((zu (zu ia 162 ((ia 127 57)).toNatClampNeg i1) 163 (((zu ia 162 ((ia 127 57)).toNatClampNeg i1) 127 57)).toNatClampNeg (((3 : Int32) * i2) + i3)) 127 57)).toNatClampNeg i4) 165 (((zu (zu (zu ia 162 ((ia 127 57)).toNatClampNeg i1) 163 (((zu ia 162 ((ia 127 57)).toNatClampNeg i1) 127 57)).toNatClampNeg (((3 : Int32) * i2) + i3)) 164 (((zu (zu ia 162 ((ia 127 57)).toNatClampNeg i1) 163 (((zu ia 162 ((ia 127 57)).toNatClampNeg i1) 127 57)).toNatClampNeg (((3 : Int32) * i2) + i3)) 127 57)).toNatClampNeg i4) 127 57)).toNatClampNeg (vp_nar .boolean i5)) 127 57) 24 ∧ K (some (.int (((zu (zu (zu (zu (zu (zu ia 162 ((ia 127 57)).toNatClampNeg i1) 163 (((zu ia 162 ((ia 127 57)).toNatClampNeg i1) 127 57)).toNatClampNeg (((3 : Int32) * i2) + i3)) 164 (((zu (zu ia 162 ((ia 127 57)).toNatClampNeg i1) 163 (((zu ia 162 ((ia 127 57)).toNatClampNeg i1) 127 57)).toNatClampNeg (((3 : Int32) * i2) + i3)) 127 57)).toNatClampNeg i4) 165 (((zu (zu (zu ia 162 ((ia 127 57)).toNatClampNeg i1) 163 (((zu ia 162 ((ia 127 57)).toNatClampNeg i1) 127 57)).toNatClampNeg (((3 : Int32) * i2) + i3)) 164 (((zu (zu ia 162 ((ia 127 57)).toNatClampNeg i1) 163 (((zu ia 162 ((ia 127 57)).toNatClampNeg i1) 127 57)).toNatClampNeg (((3 : Int32) * i2) + i3)) 127 57)).toNatClampNeg i4) 127 57)).toNatClampNeg (vp_nar .boolean i5)) 166 (((zu (zu (zu (zu ia 162 ((ia 127 57)).toNatClampNeg i1) 163 (((zu ia 162 ((ia 127 57)).toNatClampNeg i1) 127 57)).toNatClampNeg (((3 : Int32) * i2) + i3)) 164 (((zu (zu ia 162 ((ia 127 57)).toNatClampNeg i1) 163 (((zu ia 162 ((ia 127 57)).toNatClampNeg i1) 127 57)).toNatClampNeg (((3 : Int32) * i2) + i3)) 127 57)).toNatClampNeg i4) 165 (((zu (zu (zu ia 162 ((ia 127 57)).toNatClampNeg i1) 163 (((zu ia 162 ((ia 127 57)).toNatClampNeg i1) 127 57)).toNatClampNeg (((3 : Int32) * i2) + i3)) 164 (((zu (zu ia 162 ((ia 127 57)).toNatClampNeg i1) 163 (((zu ia 162 ((ia 127 57)).toNatClampNeg i1) 127 57)).toNatClampNeg (((3 : Int32) * i2) + i3)) 127 57)).toNatClampNeg i4) 127 57)).toNatClampNeg (vp_nar .boolean i5)) 127 57)).toNatClampNeg (-1 : Int32)) 127 57 (((zu (zu (zu (zu (zu ia 162 ((ia 127 57)).toNatClampNeg i1) 163 (((zu ia 162 ((ia 127 57)).toNatClampNeg i1) 127 57)).toNatClampNeg (((3 : Int32) * i2) + i3)) 164 (((zu (zu ia 162 ((ia 127 57)).toNatClampNeg i1) 163 (((zu ia 162 ((ia 127 57)).toNatClampNeg i1) 127 57)).toNatClampNeg (((3 : Int32) * i2) + i3)) 127 57)).toNatClampNeg i4) 165 (((zu (zu (zu ia 162 ((ia 127 57)).toNatClampNeg i1) 163 (((zu ia 162 ((ia 127 57)).toNatClampNeg i1) 127 57)).toNatClampNeg (((3 : Int32) * i2) + i3)) 164 (((zu (zu ia 162 ((ia 127 57)).toNatClampNeg i1) 163 (((zu ia 162 ((ia 127 57)).toNatClampNeg i1) 127 57)).toNatClampNeg (((3 : Int32) * i2) + i3)) 127 57)).toNatClampNeg i4) 127 57)).toNatClampNeg (vp_nar .boolean i5)) 166 (((zu (zu (zu (zu ia 162 ((ia 127 57)).toNatClampNeg i1) 163 (((zu ia 162 ((ia 127 57)).toNatClampNeg i1) 127 57)).toNatClampNeg (((3 : Int32) * i2) + i3)) 164 (((zu (zu ia 162 ((ia 127 57)).toNatClampNeg i1) 163 (((zu ia 162 ((ia 127 57)).toNatClampNeg i1) 127 57)).toNatClampNeg (((3 : Int32) * i2) + i3)) 127 57)).toNatClampNeg i4) 165 (((zu (zu (zu ia 162 ((ia 127 57)).toNatClampNeg i1) 163 (((zu ia 162 ((ia 127 57)).toNatClampNeg i1) 127 57)).toNatClampNeg (((3 : Int32) * i2) + i3)) 164 (((zu (zu ia 162 ((ia 127 57)).toNatClampNeg i1) 163 (((zu ia 162 ((ia 127 57)).toNatClampNeg i1) 127 57)).toNatClampNeg (((3 : Int32) * i2) + i3)) 127 57)).toNatClampNeg i4) 127 57)).toNatClampNeg (vp_nar .boolean i5)) 127 57)).toNatClampNeg (-1 : Int32)) 127 57) + (1 : Int32))) 127 57) - (1 : Int32)))) ((zu (zu (zu (zu (zu (zu ia 162 ((ia 127 57)).toNatClampNeg i1) 163 (((zu ia 162 ((ia 127 57)).toNatClampNeg i1) 127 57)).toNatClampNeg (((3 : Int32) * i2) + i3)) 164 (((zu (zu ia 162 ((ia 127 57)).toNatClampNeg i1) 163 (((zu ia 162 ((ia 127 57)).toNatClampNeg i1) 127 57)).toNatClampNeg (((3 : Int32) * i2) + i3)) 127 57)).toNatClampNeg i4) 165 (((zu (zu (zu ia 162 ((ia 127 57)).toNatClampNeg i1) 163 (((zu ia 162 ((ia 127 57)).toNatClampNeg i1) 127 57)).toNatClampNeg (((3 : Int32) * i2) + i3)) 164 (((zu (zu ia 162 ((ia 127 57)).toNatClampNeg i1) 163 (((zu ia 162 ((ia 127 57)).toNatClampNeg i1) 127 57)).toNatClampNeg (((3 : Int32) * i2) + i3)) 127 57)).toNatClampNeg i4) 127 57)).toNatClampNeg (vp_nar .boolean i5)) 166 (((zu (zu (zu (zu ia 162 ((ia 127 57)).toNatClampNeg i1) 163 (((zu ia 162 ((ia 127 57)).toNatClampNeg i1) 127 57)).toNatClampNeg (((3 : Int32) * i2) + i3)) 164 (((zu (zu ia 162 ((ia 127 57)).toNatClampNeg i1) 163 (((zu ia 162 ((ia 127 57)).toNatClampNeg i1) 127 57)).toNatClampNeg (((3 : Int32) * i2) + i3)) 127 57)).toNatClampNeg i4) 165 (((zu (zu (zu ia 162 ((ia 127 57)).toNatClampNeg i1) 163 (((zu ia 162 ((ia 127 57)).toNatClampNeg i1) 127 57)).toNatClampNeg (((3 : Int32) * i2) + i3)) 164 (((zu (zu ia 162 ((ia 127 57)).toNatClampNeg i1) 163 (((zu ia 162 ((ia 127 57)).toNatClampNeg i1) 127 57)).toNatClampNeg (((3 : Int32) * i2) + i3)) 127 57)).toNatClampNeg i4) 127 57)).toNatClampNeg (vp_nar .boolean i5)) 127 57)).toNatClampNeg (-1 : Int32)) 127 57 (((zu (zu (zu (zu (zu ia 162 ((ia 127 57)).toNatClampNeg i1) 163 (((zu ia 162 ((ia 127 57)).toNatClampNeg i1) 127 57)).toNatClampNeg (((3 : Int32) * i2) + i3)) 164 (((zu (zu ia 162 ((ia 127 57)).toNatClampNeg i1) 163 (((zu ia 162 ((ia 127 57)).toNatClampNeg i1) 127 57)).toNatClampNeg (((3 : Int32) * i2) + i3)) 127 57)).toNatClampNeg i4) 165 (((zu (zu (zu ia 162 ((ia 127 57)).toNatClampNeg i1) 163 (((zu ia 162 ((ia 127 57)).toNatClampNeg i1) 127 57)).toNatClampNeg (((3 : Int32) * i2) + i3)) 164 (((zu (zu ia 162 ((ia 127 57)).toNatClampNeg i1) 163 (((zu ia 162 ((ia 127 57)).toNatClampNeg i1) 127 57)).toNatClampNeg (((3 : Int32) * i2) + i3)) 127 57)).toNatClampNeg i4) 127 57)).toNatClampNeg (vp_nar .boolean i5)) 166 (((zu (zu (zu (zu ia 162 ((ia 127 57)).toNatClampNeg i1) 163 (((zu ia 162 ((ia 127 57)).toNatClampNeg i1) 127 57)).toNatClampNeg (((3 : Int32) * i2) + i3)) 164 (((zu (zu ia 162 ((ia 127 57)).toNatClampNeg i1) 163 (((zu ia 162 ((ia 127 57)).toNatClampNeg i1) 127 57)).toNatClampNeg (((3 : Int32) * i2) + i3)) 127 57)).toNatClampNeg i4) 165 (((zu (zu (zu ia 162 ((ia 127 57)).toNatClampNeg i1) 163 (((zu ia 162 ((ia 127 57)).toNatClampNeg i1) 127 57)).toNatClampNeg (((3 : Int32) * i2) + i3)) 164 (((zu (zu ia 162 ((ia 127 57)).toNatClampNeg i1) 163 (((zu ia 162 ((ia 127 57)).toNatClampNeg i1) 127 57)).toNatClampNeg (((3 : Int32) * i2) + i3)) 127 57)).toNatClampNeg i4) 127 57)).toNatClampNeg (vp_nar .boolean i5)) 127 57)).toNatClampNeg (-1 : Int32)) 127 57) + (1 : Int32))), la, zRA pl dr cp cw rp)))))) else K (some (.int (-1 : Int32))) (ia, la, zRA pl dr cp cw rp))))))) := by
  refine (Q_if_eq (tgt := 54) zm_224 (Or.inl (by decide)) D224_21 (by decide)).trans ?_
  refine zif_c (fun h0_ => ?_) (fun h0_ => ?_)
  · refine (Q_iconst (v := -1) zm_224 (Or.inl (by decide)) D224_54 (by decide)).trans ?_
    exact Q_ireturn zm_224 (Or.inl (by decide)) D224_55 rfl
  · refine (Q_iload_n zm_224 (Or.inl (by decide)) D224_24 rfl).trans ?_
    refine (Q_if_lt (tgt := 54) zm_224 (Or.inl (by decide)) D224_25 (by decide)).trans ?_
    refine zif_c (fun h1_ => ?_) (fun h1_ => ?_)
    · refine (Q_iconst (v := -1) zm_224 (Or.inl (by decide)) D224_54 (by decide)).trans ?_
      exact Q_ireturn zm_224 (Or.inl (by decide)) D224_55 rfl
    · refine (Q_iload_n zm_224 (Or.inl (by decide)) D224_28 rfl).trans ?_
      refine (Q_iconst (v := 3) zm_224 (Or.inl (by decide)) D224_29 (by decide)).trans ?_
      refine (Q_ic_ge (tgt := 54) zm_224 (Or.inl (by decide)) D224_30 (by decide)).trans ?_
      refine zif_c (fun h2_ => ?_) (fun h2_ => ?_)
      · refine (Q_iconst (v := -1) zm_224 (Or.inl (by decide)) D224_54 (by decide)).trans ?_
        exact Q_ireturn zm_224 (Or.inl (by decide)) D224_55 rfl
      · refine (Q_iload zm_224 (Or.inl (by decide)) D224_33 rfl).trans ?_
        refine (Q_if_lt (tgt := 54) zm_224 (Or.inl (by decide)) D224_35 (by decide)).trans ?_
        refine zif_c (fun h3_ => ?_) (fun h3_ => ?_)
        · refine (Q_iconst (v := -1) zm_224 (Or.inl (by decide)) D224_54 (by decide)).trans ?_
          exact Q_ireturn zm_224 (Or.inl (by decide)) D224_55 rfl
        · refine (Q_iload zm_224 (Or.inl (by decide)) D224_38 rfl).trans ?_
          refine (Q_bipush (v := 99) zm_224 (Or.inl (by decide)) D224_40 (by decide)).trans ?_
          refine (Q_ic_gt (tgt := 54) zm_224 (Or.inl (by decide)) D224_42 (by decide)).trans ?_
          refine zif_c (fun h4_ => ?_) (fun h4_ => ?_)
          · refine (Q_iconst (v := -1) zm_224 (Or.inl (by decide)) D224_54 (by decide)).trans ?_
            exact Q_ireturn zm_224 (Or.inl (by decide)) D224_55 rfl
          · refine (Q_aload_n zm_224 (Or.inl (by decide)) D224_45 rfl).trans ?_
            refine (Q_getI zm_224 (Or.inl (by decide)) D224_46 zf_10_307 (Or.inl zs_10_57) zk_127.1).trans ?_
            refine (Q_bipush (v := 24) zm_224 (Or.inl (by decide)) D224_49 (by decide)).trans ?_
            refine (Q_ic_ne (tgt := 56) zm_224 (Or.inl (by decide)) D224_51 (by decide)).trans ?_
            refine zif_c (fun h5_ => ?_) (fun h5_ => ?_)
            · refine (Q_aload_n zm_224 (Or.inl (by decide)) D224_56 rfl).trans ?_
              refine (Q_getR (q := 162) zm_224 (Or.inl (by decide)) D224_57 zf_10_126 zs_10_59 zk_127.1 rfl).trans ?_
              refine (Q_aload_n zm_224 (Or.inl (by decide)) D224_60 rfl).trans ?_
              refine (Q_getI zm_224 (Or.inl (by decide)) D224_61 zf_10_307 (Or.inl zs_10_57) zk_127.1).trans ?_
              refine (Q_iload_n zm_224 (Or.inl (by decide)) D224_64 rfl).trans ?_
              refine (Q_iastore zm_224 (Or.inl (by decide)) D224_65 zk_162.1 zk_162.2).trans ?_
              refine zand_c (fun h6_ => ?_)
              refine (Q_aload_n zm_224 (Or.inl (by decide)) D224_66 rfl).trans ?_
              refine (Q_getR (q := 163) zm_224 (Or.inl (by decide)) D224_67 zf_10_129 zs_10_60 zk_127.1 rfl).trans ?_
              refine (Q_aload_n zm_224 (Or.inl (by decide)) D224_70 rfl).trans ?_
              refine (Q_getI zm_224 (Or.inl (by decide)) D224_71 zf_10_307 (Or.inl zs_10_57) zk_127.1).trans ?_
              refine (Q_iconst (v := 3) zm_224 (Or.inl (by decide)) D224_74 (by decide)).trans ?_
              refine (Q_iload_n zm_224 (Or.inl (by decide)) D224_75 rfl).trans ?_
              refine (Q_imul zm_224 (Or.inl (by decide)) D224_76).trans ?_
              refine (Q_iload_n zm_224 (Or.inl (by decide)) D224_77 rfl).trans ?_
              refine (Q_iadd zm_224 (Or.inl (by decide)) D224_78).trans ?_
              refine (Q_iastore zm_224 (Or.inl (by decide)) D224_79 zk_163.1 zk_163.2).trans ?_
              refine zand_c (fun h7_ => ?_)
              refine (Q_aload_n zm_224 (Or.inl (by decide)) D224_80 rfl).trans ?_
              refine (Q_getR (q := 164) zm_224 (Or.inl (by decide)) D224_81 zf_10_132 zs_10_61 zk_127.1 rfl).trans ?_
              refine (Q_aload_n zm_224 (Or.inl (by decide)) D224_84 rfl).trans ?_
              refine (Q_getI zm_224 (Or.inl (by decide)) D224_85 zf_10_307 (Or.inl zs_10_57) zk_127.1).trans ?_
              refine (Q_iload zm_224 (Or.inl (by decide)) D224_88 rfl).trans ?_
              refine (Q_iastore zm_224 (Or.inl (by decide)) D224_90 zk_164.1 zk_164.2).trans ?_
              refine zand_c (fun h8_ => ?_)
              refine (Q_aload_n zm_224 (Or.inl (by decide)) D224_91 rfl).trans ?_
              refine (Q_getR (q := 165) zm_224 (Or.inl (by decide)) D224_92 zf_10_135 zs_10_62 zk_127.1 rfl).trans ?_
              refine (Q_aload_n zm_224 (Or.inl (by decide)) D224_95 rfl).trans ?_
              refine (Q_getI zm_224 (Or.inl (by decide)) D224_96 zf_10_307 (Or.inl zs_10_57) zk_127.1).trans ?_
              refine (Q_iload zm_224 (Or.inl (by decide)) D224_99 rfl).trans ?_
              refine (Q_zastore zm_224 (Or.inl (by decide)) D224_101 zk_165.1 zk_165.2).trans ?_
              refine zand_c (fun h9_ => ?_)
              refine (Q_aload_n zm_224 (Or.inl (by decide)) D224_102 rfl).trans ?_
              refine (Q_getR (q := 166) zm_224 (Or.inl (by decide)) D224_103 zf_10_139 zs_10_63 zk_127.1 rfl).trans ?_
              refine (Q_aload_n zm_224 (Or.inl (by decide)) D224_106 rfl).trans ?_
              refine (Q_getI zm_224 (Or.inl (by decide)) D224_107 zf_10_307 (Or.inl zs_10_57) zk_127.1).trans ?_
              refine (Q_iconst (v := -1) zm_224 (Or.inl (by decide)) D224_110 (by decide)).trans ?_
              refine (Q_iastore zm_224 (Or.inl (by decide)) D224_111 zk_166.1 zk_166.2).trans ?_
              refine zand_c (fun h10_ => ?_)
              refine (Q_aload_n zm_224 (Or.inl (by decide)) D224_112 rfl).trans ?_
              refine (Q_dup zm_224 (Or.inl (by decide)) D224_113 rfl).trans ?_
              refine (Q_getI zm_224 (Or.inl (by decide)) D224_114 zf_10_307 (Or.inl zs_10_57) zk_127.1).trans ?_
              refine (Q_iconst (v := 1) zm_224 (Or.inl (by decide)) D224_117 (by decide)).trans ?_
              refine (Q_iadd zm_224 (Or.inl (by decide)) D224_118).trans ?_
              refine (Q_putI zm_224 (Or.inl (by decide)) D224_119 zf_10_307 zs_10_57 rfl zk_127.1).trans ?_
              refine (Q_aload_n zm_224 (Or.inl (by decide)) D224_122 rfl).trans ?_
              refine (Q_getI zm_224 (Or.inl (by decide)) D224_123 zf_10_307 (Or.inl zs_10_57) zk_127.1).trans ?_
              refine (Q_iconst (v := 1) zm_224 (Or.inl (by decide)) D224_126 (by decide)).trans ?_
              refine (Q_isub zm_224 (Or.inl (by decide)) D224_127).trans ?_
              exact Q_ireturn zm_224 (Or.inl (by decide)) D224_128 rfl
            · refine (Q_iconst (v := -1) zm_224 (Or.inl (by decide)) D224_54 (by decide)).trans ?_
              exact Q_ireturn zm_224 (Or.inl (by decide)) D224_55 rfl

/-! HandsLetModel.strike(I)I -/
theorem D225_0 : decode prog_12_method_99_code 0 = .ok (.aload_n 0, 1) := by decide +kernel
theorem D225_1 : decode prog_12_method_99_code 1 = .ok (.iconst 0, 1) := by decide +kernel
theorem D225_2 : decode prog_12_method_99_code 2 = .ok (.putfield 151, 3) := by decide +kernel
theorem D225_5 : decode prog_12_method_99_code 5 = .ok (.iload_n 1, 1) := by decide +kernel
theorem D225_6 : decode prog_12_method_99_code 6 = .ok (.ifCond .lt 20, 3) := by decide +kernel
theorem D225_9 : decode prog_12_method_99_code 9 = .ok (.iload_n 1, 1) := by decide +kernel
theorem D225_10 : decode prog_12_method_99_code 10 = .ok (.aload_n 0, 1) := by decide +kernel
theorem D225_11 : decode prog_12_method_99_code 11 = .ok (.getfield 307, 3) := by decide +kernel
theorem D225_14 : decode prog_12_method_99_code 14 = .ok (.if_icmp .ge 12, 3) := by decide +kernel
theorem D225_17 : decode prog_12_method_99_code 17 = .ok (.aload_n 0, 1) := by decide +kernel
theorem D225_18 : decode prog_12_method_99_code 18 = .ok (.getfield 307, 3) := by decide +kernel
theorem D225_21 : decode prog_12_method_99_code 21 = .ok (.bipush 24, 2) := by decide +kernel
theorem D225_23 : decode prog_12_method_99_code 23 = .ok (.if_icmp .ne 5, 3) := by decide +kernel
theorem D225_26 : decode prog_12_method_99_code 26 = .ok (.iconst (-1), 1) := by decide +kernel
theorem D225_27 : decode prog_12_method_99_code 27 = .ok (.ireturn, 1) := by decide +kernel
theorem D225_28 : decode prog_12_method_99_code 28 = .ok (.aload_n 0, 1) := by decide +kernel
theorem D225_29 : decode prog_12_method_99_code 29 = .ok (.getfield 139, 3) := by decide +kernel
theorem D225_32 : decode prog_12_method_99_code 32 = .ok (.aload_n 0, 1) := by decide +kernel
theorem D225_33 : decode prog_12_method_99_code 33 = .ok (.getfield 307, 3) := by decide +kernel
theorem D225_36 : decode prog_12_method_99_code 36 = .ok (.iload_n 1, 1) := by decide +kernel
theorem D225_37 : decode prog_12_method_99_code 37 = .ok (.iastore, 1) := by decide +kernel
theorem D225_38 : decode prog_12_method_99_code 38 = .ok (.aload_n 0, 1) := by decide +kernel
theorem D225_39 : decode prog_12_method_99_code 39 = .ok (.dup, 1) := by decide +kernel
theorem D225_40 : decode prog_12_method_99_code 40 = .ok (.getfield 307, 3) := by decide +kernel
theorem D225_43 : decode prog_12_method_99_code 43 = .ok (.iconst 1, 1) := by decide +kernel
theorem D225_44 : decode prog_12_method_99_code 44 = .ok (.iadd, 1) := by decide +kernel
theorem D225_45 : decode prog_12_method_99_code 45 = .ok (.putfield 307, 3) := by decide +kernel
theorem D225_48 : decode prog_12_method_99_code 48 = .ok (.aload_n 0, 1) := by decide +kernel
theorem D225_49 : decode prog_12_method_99_code 49 = .ok (.getfield 307, 3) := by decide +kernel
theorem D225_52 : decode prog_12_method_99_code 52 = .ok (.iconst 1, 1) := by decide +kernel
theorem D225_53 : decode prog_12_method_99_code 53 = .ok (.isub, 1) := by decide +kernel
theorem D225_54 : decode prog_12_method_99_code 54 = .ok (.ireturn, 1) := by decide +kernel

theorem b225_0 {d : Nat} {i1 : Int32} {ia : Nat → Nat → Int32} {la : Nat → Nat → Int64} {pl dr : Nat} {cp : Option Nat} {cw : Option Nat} {rp : Option Nat} {K : Option Value → zHP → Prop}  : zWP d 225 0 [some (.ref 127), some (.int i1)] [] (ia, la, zRA pl dr cp cw rp) K = (if i1 < 0 then K (some (.int (-1 : Int32))) ((zu ia 127 0 (0 : Int32)), la, zRA pl dr cp cw rp) else (if ((zu ia 127 0 (0 : Int32)) 127 57) ≤ i1 then K (some (.int (-1 : Int32))) ((zu ia 127 0 (0 : Int32)), la, zRA pl dr cp cw rp) else (if ¬ ((zu ia 127 0 (0 : Int32)) 127 57) = (24 : Int32) then (vp_in ((zu ia 127 0 (0 : Int32)) 127 57) 24 ∧ K (some (.int (((zu (zu (zu ia 127 0 (0 : Int32)) 166 (((zu ia 127 0 (0 : Int32)) 127 57)).toNatClampNeg i1) 127 57 (((zu (zu ia 127 0 (0 : Int32)) 166 (((zu ia 127 0 (0 : Int32)) 127 57)).toNatClampNeg i1) 127 57) + (1 : Int32))) 127 57) - (1 : Int32)))) ((zu (zu (zu ia 127 0 (0 : Int32)) 166 (((zu ia 127 0 (0 : Int32)) 127 57)).toNatClampNeg i1) 127 57 (((zu (zu ia 127 0 (0 : Int32)) 166 (((zu ia 127 0 (0 : Int32)) 127 57)).toNatClampNeg i1) 127 57) + (1 : Int32))), la, zRA pl dr cp cw rp)) else K (some (.int (-1 : Int32))) ((zu ia 127 0 (0 : Int32)), la, zRA pl dr cp cw rp)))) := by
  refine (Q_aload_n zm_225 (Or.inl (by decide)) D225_0 rfl).trans ?_
  refine (Q_iconst (v := 0) zm_225 (Or.inl (by decide)) D225_1 (by decide)).trans ?_
  refine (Q_putI zm_225 (Or.inl (by decide)) D225_2 zf_10_151 zs_10_0 rfl zk_127.1).trans ?_
  refine (Q_iload_n zm_225 (Or.inl (by decide)) D225_5 rfl).trans ?_
  refine (Q_if_lt (tgt := 26) zm_225 (Or.inl (by decide)) D225_6 (by decide)).trans ?_
  refine zif_c (fun h0_ => ?_) (fun h0_ => ?_)
  · refine (Q_iconst (v := -1) zm_225 (Or.inl (by decide)) D225_26 (by decide)).trans ?_
    exact Q_ireturn zm_225 (Or.inl (by decide)) D225_27 rfl
  · refine (Q_iload_n zm_225 (Or.inl (by decide)) D225_9 rfl).trans ?_
    refine (Q_aload_n zm_225 (Or.inl (by decide)) D225_10 rfl).trans ?_
    refine (Q_getI zm_225 (Or.inl (by decide)) D225_11 zf_10_307 (Or.inl zs_10_57) zk_127.1).trans ?_
    refine (Q_ic_ge (tgt := 26) zm_225 (Or.inl (by decide)) D225_14 (by decide)).trans ?_
    refine zif_c (fun h1_ => ?_) (fun h1_ => ?_)
    · refine (Q_iconst (v := -1) zm_225 (Or.inl (by decide)) D225_26 (by decide)).trans ?_
      exact Q_ireturn zm_225 (Or.inl (by decide)) D225_27 rfl
    · refine (Q_aload_n zm_225 (Or.inl (by decide)) D225_17 rfl).trans ?_
      refine (Q_getI zm_225 (Or.inl (by decide)) D225_18 zf_10_307 (Or.inl zs_10_57) zk_127.1).trans ?_
      refine (Q_bipush (v := 24) zm_225 (Or.inl (by decide)) D225_21 (by decide)).trans ?_
      refine (Q_ic_ne (tgt := 28) zm_225 (Or.inl (by decide)) D225_23 (by decide)).trans ?_
      refine zif_c (fun h2_ => ?_) (fun h2_ => ?_)
      · refine (Q_aload_n zm_225 (Or.inl (by decide)) D225_28 rfl).trans ?_
        refine (Q_getR (q := 166) zm_225 (Or.inl (by decide)) D225_29 zf_10_139 zs_10_63 zk_127.1 rfl).trans ?_
        refine (Q_aload_n zm_225 (Or.inl (by decide)) D225_32 rfl).trans ?_
        refine (Q_getI zm_225 (Or.inl (by decide)) D225_33 zf_10_307 (Or.inl zs_10_57) zk_127.1).trans ?_
        refine (Q_iload_n zm_225 (Or.inl (by decide)) D225_36 rfl).trans ?_
        refine (Q_iastore zm_225 (Or.inl (by decide)) D225_37 zk_166.1 zk_166.2).trans ?_
        refine zand_c (fun h3_ => ?_)
        refine (Q_aload_n zm_225 (Or.inl (by decide)) D225_38 rfl).trans ?_
        refine (Q_dup zm_225 (Or.inl (by decide)) D225_39 rfl).trans ?_
        refine (Q_getI zm_225 (Or.inl (by decide)) D225_40 zf_10_307 (Or.inl zs_10_57) zk_127.1).trans ?_
        refine (Q_iconst (v := 1) zm_225 (Or.inl (by decide)) D225_43 (by decide)).trans ?_
        refine (Q_iadd zm_225 (Or.inl (by decide)) D225_44).trans ?_
        refine (Q_putI zm_225 (Or.inl (by decide)) D225_45 zf_10_307 zs_10_57 rfl zk_127.1).trans ?_
        refine (Q_aload_n zm_225 (Or.inl (by decide)) D225_48 rfl).trans ?_
        refine (Q_getI zm_225 (Or.inl (by decide)) D225_49 zf_10_307 (Or.inl zs_10_57) zk_127.1).trans ?_
        refine (Q_iconst (v := 1) zm_225 (Or.inl (by decide)) D225_52 (by decide)).trans ?_
        refine (Q_isub zm_225 (Or.inl (by decide)) D225_53).trans ?_
        exact Q_ireturn zm_225 (Or.inl (by decide)) D225_54 rfl
      · refine (Q_iconst (v := -1) zm_225 (Or.inl (by decide)) D225_26 (by decide)).trans ?_
        exact Q_ireturn zm_225 (Or.inl (by decide)) D225_27 rfl

/-! HandsLetModel.known(I)Z -/
theorem D226_0 : decode prog_12_method_100_code 0 = .ok (.aload_n 0, 1) := by decide +kernel
theorem D226_1 : decode prog_12_method_100_code 1 = .ok (.iconst 0, 1) := by decide +kernel
theorem D226_2 : decode prog_12_method_100_code 2 = .ok (.putfield 151, 3) := by decide +kernel
theorem D226_5 : decode prog_12_method_100_code 5 = .ok (.iload_n 1, 1) := by decide +kernel
theorem D226_6 : decode prog_12_method_100_code 6 = .ok (.iconst (-1), 1) := by decide +kernel
theorem D226_7 : decode prog_12_method_100_code 7 = .ok (.if_icmp .lt 11, 3) := by decide +kernel
theorem D226_10 : decode prog_12_method_100_code 10 = .ok (.iload_n 1, 1) := by decide +kernel
theorem D226_11 : decode prog_12_method_100_code 11 = .ok (.aload_n 0, 1) := by decide +kernel
theorem D226_12 : decode prog_12_method_100_code 12 = .ok (.getfield 307, 3) := by decide +kernel
theorem D226_15 : decode prog_12_method_100_code 15 = .ok (.if_icmp .le 5, 3) := by decide +kernel
theorem D226_18 : decode prog_12_method_100_code 18 = .ok (.iconst 0, 1) := by decide +kernel
theorem D226_19 : decode prog_12_method_100_code 19 = .ok (.ireturn, 1) := by decide +kernel
theorem D226_20 : decode prog_12_method_100_code 20 = .ok (.aload_n 0, 1) := by decide +kernel
theorem D226_21 : decode prog_12_method_100_code 21 = .ok (.iload_n 1, 1) := by decide +kernel
theorem D226_22 : decode prog_12_method_100_code 22 = .ok (.putfield 123, 3) := by decide +kernel
theorem D226_25 : decode prog_12_method_100_code 25 = .ok (.iconst 1, 1) := by decide +kernel
theorem D226_26 : decode prog_12_method_100_code 26 = .ok (.ireturn, 1) := by decide +kernel

theorem b226_0 {d : Nat} {i1 : Int32} {ia : Nat → Nat → Int32} {la : Nat → Nat → Int64} {pl dr : Nat} {cp : Option Nat} {cw : Option Nat} {rp : Option Nat} {K : Option Value → zHP → Prop}  : zWP d 226 0 [some (.ref 127), some (.int i1)] [] (ia, la, zRA pl dr cp cw rp) K = (if i1 < (-1 : Int32) then K (some (.int (0 : Int32))) ((zu ia 127 0 (0 : Int32)), la, zRA pl dr cp cw rp) else (if i1 ≤ ((zu ia 127 0 (0 : Int32)) 127 57) then K (some (.int (1 : Int32))) ((zu (zu ia 127 0 (0 : Int32)) 127 58 i1), la, zRA pl dr cp cw rp) else K (some (.int (0 : Int32))) ((zu ia 127 0 (0 : Int32)), la, zRA pl dr cp cw rp))) := by
  refine (Q_aload_n zm_226 (Or.inl (by decide)) D226_0 rfl).trans ?_
  refine (Q_iconst (v := 0) zm_226 (Or.inl (by decide)) D226_1 (by decide)).trans ?_
  refine (Q_putI zm_226 (Or.inl (by decide)) D226_2 zf_10_151 zs_10_0 rfl zk_127.1).trans ?_
  refine (Q_iload_n zm_226 (Or.inl (by decide)) D226_5 rfl).trans ?_
  refine (Q_iconst (v := -1) zm_226 (Or.inl (by decide)) D226_6 (by decide)).trans ?_
  refine (Q_ic_lt (tgt := 18) zm_226 (Or.inl (by decide)) D226_7 (by decide)).trans ?_
  refine zif_c (fun h0_ => ?_) (fun h0_ => ?_)
  · refine (Q_iconst (v := 0) zm_226 (Or.inl (by decide)) D226_18 (by decide)).trans ?_
    exact Q_zreturn zm_226 (Or.inl (by decide)) D226_19 rfl (by decide)
  · refine (Q_iload_n zm_226 (Or.inl (by decide)) D226_10 rfl).trans ?_
    refine (Q_aload_n zm_226 (Or.inl (by decide)) D226_11 rfl).trans ?_
    refine (Q_getI zm_226 (Or.inl (by decide)) D226_12 zf_10_307 (Or.inl zs_10_57) zk_127.1).trans ?_
    refine (Q_ic_le (tgt := 20) zm_226 (Or.inl (by decide)) D226_15 (by decide)).trans ?_
    refine zif_c (fun h1_ => ?_) (fun h1_ => ?_)
    · refine (Q_aload_n zm_226 (Or.inl (by decide)) D226_20 rfl).trans ?_
      refine (Q_iload_n zm_226 (Or.inl (by decide)) D226_21 rfl).trans ?_
      refine (Q_putI zm_226 (Or.inl (by decide)) D226_22 zf_10_123 zs_10_58 rfl zk_127.1).trans ?_
      refine (Q_iconst (v := 1) zm_226 (Or.inl (by decide)) D226_25 (by decide)).trans ?_
      exact Q_zreturn zm_226 (Or.inl (by decide)) D226_26 rfl (by decide)
    · refine (Q_iconst (v := 0) zm_226 (Or.inl (by decide)) D226_18 (by decide)).trans ?_
      exact Q_zreturn zm_226 (Or.inl (by decide)) D226_19 rfl (by decide)

/-! HandsLetModel.knownMany()I -/
theorem D227_0 : decode prog_12_method_101_code 0 = .ok (.aload_n 0, 1) := by decide +kernel
theorem D227_1 : decode prog_12_method_101_code 1 = .ok (.getfield 123, 3) := by decide +kernel
theorem D227_4 : decode prog_12_method_101_code 4 = .ok (.iconst (-1), 1) := by decide +kernel
theorem D227_5 : decode prog_12_method_101_code 5 = .ok (.if_icmp .ne 10, 3) := by decide +kernel
theorem D227_8 : decode prog_12_method_101_code 8 = .ok (.aload_n 0, 1) := by decide +kernel
theorem D227_9 : decode prog_12_method_101_code 9 = .ok (.getfield 307, 3) := by decide +kernel
theorem D227_12 : decode prog_12_method_101_code 12 = .ok (.goto 7, 3) := by decide +kernel
theorem D227_15 : decode prog_12_method_101_code 15 = .ok (.aload_n 0, 1) := by decide +kernel
theorem D227_16 : decode prog_12_method_101_code 16 = .ok (.getfield 123, 3) := by decide +kernel
theorem D227_19 : decode prog_12_method_101_code 19 = .ok (.ireturn, 1) := by decide +kernel

theorem b227_0 {d : Nat}  {ia : Nat → Nat → Int32} {la : Nat → Nat → Int64} {pl dr : Nat} {cp : Option Nat} {cw : Option Nat} {rp : Option Nat} {K : Option Value → zHP → Prop}  : zWP d 227 0 [some (.ref 127)] [] (ia, la, zRA pl dr cp cw rp) K = (if ¬ (ia 127 58) = (-1 : Int32) then K (some (.int (ia 127 58))) (ia, la, zRA pl dr cp cw rp) else K (some (.int (ia 127 57))) (ia, la, zRA pl dr cp cw rp)) := by
  refine (Q_aload_n zm_227 (Or.inl (by decide)) D227_0 rfl).trans ?_
  refine (Q_getI zm_227 (Or.inl (by decide)) D227_1 zf_10_123 (Or.inl zs_10_58) zk_127.1).trans ?_
  refine (Q_iconst (v := -1) zm_227 (Or.inl (by decide)) D227_4 (by decide)).trans ?_
  refine (Q_ic_ne (tgt := 15) zm_227 (Or.inl (by decide)) D227_5 (by decide)).trans ?_
  refine zif_c (fun h0_ => ?_) (fun h0_ => ?_)
  · refine (Q_aload_n zm_227 (Or.inl (by decide)) D227_15 rfl).trans ?_
    refine (Q_getI zm_227 (Or.inl (by decide)) D227_16 zf_10_123 (Or.inl zs_10_58) zk_127.1).trans ?_
    exact Q_ireturn zm_227 (Or.inl (by decide)) D227_19 rfl
  · refine (Q_aload_n zm_227 (Or.inl (by decide)) D227_8 rfl).trans ?_
    refine (Q_getI zm_227 (Or.inl (by decide)) D227_9 zf_10_307 (Or.inl zs_10_57) zk_127.1).trans ?_
    refine (Q_goto (tgt := 19) zm_227 (Or.inl (by decide)) D227_12 (by decide)).trans ?_
    exact Q_ireturn zm_227 (Or.inl (by decide)) D227_19 rfl

/-! HandsLetModel.isSo(I)Z -/
theorem D228_0 : decode prog_12_method_102_code 0 = .ok (.iconst 0, 1) := by decide +kernel
theorem D228_1 : decode prog_12_method_102_code 1 = .ok (.istore_n 2, 1) := by decide +kernel
theorem D228_2 : decode prog_12_method_102_code 2 = .ok (.iload_n 2, 1) := by decide +kernel
theorem D228_3 : decode prog_12_method_102_code 3 = .ok (.aload_n 0, 1) := by decide +kernel
theorem D228_4 : decode prog_12_method_102_code 4 = .ok (.invokevirtual 486, 3) := by decide +kernel
theorem D228_7 : decode prog_12_method_102_code 7 = .ok (.if_icmp .ge 84, 3) := by decide +kernel
theorem D228_10 : decode prog_12_method_102_code 10 = .ok (.aload_n 0, 1) := by decide +kernel
theorem D228_11 : decode prog_12_method_102_code 11 = .ok (.getfield 142, 3) := by decide +kernel
theorem D228_14 : decode prog_12_method_102_code 14 = .ok (.iload_n 2, 1) := by decide +kernel
theorem D228_15 : decode prog_12_method_102_code 15 = .ok (.baload, 1) := by decide +kernel
theorem D228_16 : decode prog_12_method_102_code 16 = .ok (.ifCond .ne 69, 3) := by decide +kernel
theorem D228_19 : decode prog_12_method_102_code 19 = .ok (.aload_n 0, 1) := by decide +kernel
theorem D228_20 : decode prog_12_method_102_code 20 = .ok (.getfield 139, 3) := by decide +kernel
theorem D228_23 : decode prog_12_method_102_code 23 = .ok (.iload_n 2, 1) := by decide +kernel
theorem D228_24 : decode prog_12_method_102_code 24 = .ok (.iaload, 1) := by decide +kernel
theorem D228_25 : decode prog_12_method_102_code 25 = .ok (.iconst (-1), 1) := by decide +kernel
theorem D228_26 : decode prog_12_method_102_code 26 = .ok (.if_icmp .ne 59, 3) := by decide +kernel
theorem D228_29 : decode prog_12_method_102_code 29 = .ok (.aload_n 0, 1) := by decide +kernel
theorem D228_30 : decode prog_12_method_102_code 30 = .ok (.getfield 126, 3) := by decide +kernel
theorem D228_33 : decode prog_12_method_102_code 33 = .ok (.iload_n 2, 1) := by decide +kernel
theorem D228_34 : decode prog_12_method_102_code 34 = .ok (.iaload, 1) := by decide +kernel
theorem D228_35 : decode prog_12_method_102_code 35 = .ok (.iload_n 1, 1) := by decide +kernel
theorem D228_36 : decode prog_12_method_102_code 36 = .ok (.if_icmp .eq 6, 3) := by decide +kernel
theorem D228_39 : decode prog_12_method_102_code 39 = .ok (.goto 46, 3) := by decide +kernel
theorem D228_42 : decode prog_12_method_102_code 42 = .ok (.aload_n 0, 1) := by decide +kernel
theorem D228_43 : decode prog_12_method_102_code 43 = .ok (.getfield 87, 3) := by decide +kernel
theorem D228_46 : decode prog_12_method_102_code 46 = .ok (.bipush 18, 2) := by decide +kernel
theorem D228_48 : decode prog_12_method_102_code 48 = .ok (.aload_n 0, 1) := by decide +kernel
theorem D228_49 : decode prog_12_method_102_code 49 = .ok (.getfield 129, 3) := by decide +kernel
theorem D228_52 : decode prog_12_method_102_code 52 = .ok (.iload_n 2, 1) := by decide +kernel
theorem D228_53 : decode prog_12_method_102_code 53 = .ok (.iaload, 1) := by decide +kernel
theorem D228_54 : decode prog_12_method_102_code 54 = .ok (.iadd, 1) := by decide +kernel
theorem D228_55 : decode prog_12_method_102_code 55 = .ok (.iaload, 1) := by decide +kernel
theorem D228_56 : decode prog_12_method_102_code 56 = .ok (.sipush 1000, 3) := by decide +kernel
theorem D228_59 : decode prog_12_method_102_code 59 = .ok (.idiv, 1) := by decide +kernel
theorem D228_60 : decode prog_12_method_102_code 60 = .ok (.aload_n 0, 1) := by decide +kernel
theorem D228_61 : decode prog_12_method_102_code 61 = .ok (.getfield 132, 3) := by decide +kernel
theorem D228_64 : decode prog_12_method_102_code 64 = .ok (.iload_n 2, 1) := by decide +kernel
theorem D228_65 : decode prog_12_method_102_code 65 = .ok (.iaload, 1) := by decide +kernel
theorem D228_66 : decode prog_12_method_102_code 66 = .ok (.if_icmp .lt 7, 3) := by decide +kernel
theorem D228_69 : decode prog_12_method_102_code 69 = .ok (.iconst 1, 1) := by decide +kernel
theorem D228_70 : decode prog_12_method_102_code 70 = .ok (.goto 4, 3) := by decide +kernel
theorem D228_73 : decode prog_12_method_102_code 73 = .ok (.iconst 0, 1) := by decide +kernel
theorem D228_74 : decode prog_12_method_102_code 74 = .ok (.aload_n 0, 1) := by decide +kernel
theorem D228_75 : decode prog_12_method_102_code 75 = .ok (.getfield 135, 3) := by decide +kernel
theorem D228_78 : decode prog_12_method_102_code 78 = .ok (.iload_n 2, 1) := by decide +kernel
theorem D228_79 : decode prog_12_method_102_code 79 = .ok (.baload, 1) := by decide +kernel
theorem D228_80 : decode prog_12_method_102_code 80 = .ok (.if_icmp .eq 5, 3) := by decide +kernel
theorem D228_83 : decode prog_12_method_102_code 83 = .ok (.iconst 0, 1) := by decide +kernel
theorem D228_84 : decode prog_12_method_102_code 84 = .ok (.ireturn, 1) := by decide +kernel
theorem D228_85 : decode prog_12_method_102_code 85 = .ok (.iinc 2 1, 3) := by decide +kernel
theorem D228_88 : decode prog_12_method_102_code 88 = .ok (.goto (-86), 3) := by decide +kernel
theorem D228_91 : decode prog_12_method_102_code 91 = .ok (.iconst 1, 1) := by decide +kernel
theorem D228_92 : decode prog_12_method_102_code 92 = .ok (.ireturn, 1) := by decide +kernel

theorem b228_0 {d : Nat} {i1 : Int32} {ia : Nat → Nat → Int32} {la : Nat → Nat → Int64} {pl dr : Nat} {cp : Option Nat} {cw : Option Nat} {rp : Option Nat} {K : Option Value → zHP → Prop}  : zWP d 228 0 [some (.ref 127), some (.int i1), none] [] (ia, la, zRA pl dr cp cw rp) K = zWP d 228 2 [some (.ref 127), some (.int i1), some (.int (0 : Int32))] [] (ia, la, zRA pl dr cp cw rp) K := by
  refine (Q_iconst (v := 0) zm_228 (Or.inl (by decide)) D228_0 (by decide)).trans ?_
  refine (Q_istore_n (ls' := [some (.ref 127), some (.int i1), some (.int (0 : Int32))]) zm_228 (Or.inl (by decide)) D228_1 rfl (Nat.le_of_ble_eq_true rfl) rfl).trans ?_
  rfl

theorem b228_2 {d : Nat} {i1 : Int32} {i2 : Int32} {ia : Nat → Nat → Int32} {la : Nat → Nat → Int64} {pl dr : Nat} {cp : Option Nat} {cw : Option Nat} {rp : Option Nat} {K : Option Value → zHP → Prop}  : zWP (d + 1) 228 2 [some (.ref 127), some (.int i1), some (.int i2)] [] (ia, la, zRA pl dr cp cw rp) K = zWM d 227 [.ref 127] (ia, la, zRA pl dr cp cw rp) (zK (d + 1) 228 7 [some (.ref 127), some (.int i1), some (.int i2)] [.int i2] K) := by
  refine (Q_iload_n zm_228 (Or.inl (by decide)) D228_2 rfl).trans ?_
  refine (Q_aload_n zm_228 (Or.inl (by decide)) D228_3 rfl).trans ?_
  exact Q_callv (as := []) (b := 127) (rest := [.int i2]) zm_228 (Or.inl (by decide)) D228_4 zc_10_486 rfl zk_127.1 (by decide) (by decide +kernel) (by decide) (by simp [zcat, Value.category]) zm_227 rfl

theorem b228_7 {d : Nat} {i1 : Int32} {i2 : Int32} {s0 : Int32} {s1 : Int32} {ia : Nat → Nat → Int32} {la : Nat → Nat → Int64} {pl dr : Nat} {cp : Option Nat} {cw : Option Nat} {rp : Option Nat} {K : Option Value → zHP → Prop}  : zWP d 228 7 [some (.ref 127), some (.int i1), some (.int i2)] [.int s1, .int s0] (ia, la, zRA pl dr cp cw rp) K = (if s1 ≤ s0 then K (some (.int (1 : Int32))) (ia, la, zRA pl dr cp cw rp) else (vp_in i2 24 ∧ (if ¬ (ia 167 (i2).toNatClampNeg) = 0 then zWP d 228 2 [some (.ref 127), some (.int i1), some (.int (i2 + (1 : Int32)))] [] (ia, la, zRA pl dr cp cw rp) K else (if ¬ (ia 166 (i2).toNatClampNeg) = (-1 : Int32) then zWP d 228 2 [some (.ref 127), some (.int i1), some (.int (i2 + (1 : Int32)))] [] (ia, la, zRA pl dr cp cw rp) K else (if (ia 162 (i2).toNatClampNeg) = i1 then (vp_in ((18 : Int32) + (ia 163 (i2).toNatClampNeg)) 414 ∧ (if ((ia 152 (((18 : Int32) + (ia 163 (i2).toNatClampNeg))).toNatClampNeg) / (1000 : Int32)) < (ia 164 (i2).toNatClampNeg) then (if (0 : Int32) = (ia 165 (i2).toNatClampNeg) then zWP d 228 2 [some (.ref 127), some (.int i1), some (.int (i2 + (1 : Int32)))] [] (ia, la, zRA pl dr cp cw rp) K else K (some (.int (0 : Int32))) (ia, la, zRA pl dr cp cw rp)) else (if (1 : Int32) = (ia 165 (i2).toNatClampNeg) then zWP d 228 2 [some (.ref 127), some (.int i1), some (.int (i2 + (1 : Int32)))] [] (ia, la, zRA pl dr cp cw rp) K else K (some (.int (0 : Int32))) (ia, la, zRA pl dr cp cw rp)))) else zWP d 228 2 [some (.ref 127), some (.int i1), some (.int (i2 + (1 : Int32)))] [] (ia, la, zRA pl dr cp cw rp) K))))) := by
  refine (Q_ic_ge (tgt := 91) zm_228 (Or.inl (by decide)) D228_7 (by decide)).trans ?_
  refine zif_c (fun h0_ => ?_) (fun h0_ => ?_)
  · refine (Q_iconst (v := 1) zm_228 (Or.inl (by decide)) D228_91 (by decide)).trans ?_
    exact Q_zreturn zm_228 (Or.inl (by decide)) D228_92 rfl (by decide)
  · refine (Q_aload_n zm_228 (Or.inl (by decide)) D228_10 rfl).trans ?_
    refine (Q_getR (q := 167) zm_228 (Or.inl (by decide)) D228_11 zf_10_142 zs_10_64 zk_127.1 rfl).trans ?_
    refine (Q_iload_n zm_228 (Or.inl (by decide)) D228_14 rfl).trans ?_
    refine (Q_baload zm_228 (Or.inl (by decide)) D228_15 zk_167.1 (by decide) zk_167.2).trans ?_
    refine zand_c (fun h1_ => ?_)
    refine (Q_if_ne (tgt := 85) zm_228 (Or.inl (by decide)) D228_16 (by decide)).trans ?_
    refine zif_c (fun h2_ => ?_) (fun h2_ => ?_)
    · refine (Q_iinc (v := 1) (ls' := [some (.ref 127), some (.int i1), some (.int (i2 + (1 : Int32)))]) zm_228 (Or.inl (by decide)) D228_85 rfl rfl (by decide) rfl).trans ?_
      refine (Q_goto (tgt := 2) zm_228 (Or.inl (by decide)) D228_88 (by decide)).trans ?_
      rfl
    · refine (Q_aload_n zm_228 (Or.inl (by decide)) D228_19 rfl).trans ?_
      refine (Q_getR (q := 166) zm_228 (Or.inl (by decide)) D228_20 zf_10_139 zs_10_63 zk_127.1 rfl).trans ?_
      refine (Q_iload_n zm_228 (Or.inl (by decide)) D228_23 rfl).trans ?_
      refine ((Q_iaload zm_228 (Or.inl (by decide)) D228_24 zk_166.1 zk_166.2).trans (zdrop h1_)).trans ?_
      refine (Q_iconst (v := -1) zm_228 (Or.inl (by decide)) D228_25 (by decide)).trans ?_
      refine (Q_ic_ne (tgt := 85) zm_228 (Or.inl (by decide)) D228_26 (by decide)).trans ?_
      refine zif_c (fun h3_ => ?_) (fun h3_ => ?_)
      · refine (Q_iinc (v := 1) (ls' := [some (.ref 127), some (.int i1), some (.int (i2 + (1 : Int32)))]) zm_228 (Or.inl (by decide)) D228_85 rfl rfl (by decide) rfl).trans ?_
        refine (Q_goto (tgt := 2) zm_228 (Or.inl (by decide)) D228_88 (by decide)).trans ?_
        rfl
      · refine (Q_aload_n zm_228 (Or.inl (by decide)) D228_29 rfl).trans ?_
        refine (Q_getR (q := 162) zm_228 (Or.inl (by decide)) D228_30 zf_10_126 zs_10_59 zk_127.1 rfl).trans ?_
        refine (Q_iload_n zm_228 (Or.inl (by decide)) D228_33 rfl).trans ?_
        refine ((Q_iaload zm_228 (Or.inl (by decide)) D228_34 zk_162.1 zk_162.2).trans (zdrop h1_)).trans ?_
        refine (Q_iload_n zm_228 (Or.inl (by decide)) D228_35 rfl).trans ?_
        refine (Q_ic_eq (tgt := 42) zm_228 (Or.inl (by decide)) D228_36 (by decide)).trans ?_
        refine zif_c (fun h4_ => ?_) (fun h4_ => ?_)
        · refine (Q_aload_n zm_228 (Or.inl (by decide)) D228_42 rfl).trans ?_
          refine (Q_getR (q := 152) zm_228 (Or.inl (by decide)) D228_43 zf_10_87 zs_10_40 zk_127.1 rfl).trans ?_
          refine (Q_bipush (v := 18) zm_228 (Or.inl (by decide)) D228_46 (by decide)).trans ?_
          refine (Q_aload_n zm_228 (Or.inl (by decide)) D228_48 rfl).trans ?_
          refine (Q_getR (q := 163) zm_228 (Or.inl (by decide)) D228_49 zf_10_129 zs_10_60 zk_127.1 rfl).trans ?_
          refine (Q_iload_n zm_228 (Or.inl (by decide)) D228_52 rfl).trans ?_
          refine ((Q_iaload zm_228 (Or.inl (by decide)) D228_53 zk_163.1 zk_163.2).trans (zdrop h1_)).trans ?_
          refine (Q_iadd zm_228 (Or.inl (by decide)) D228_54).trans ?_
          refine (Q_iaload zm_228 (Or.inl (by decide)) D228_55 zk_152.1 zk_152.2).trans ?_
          refine zand_c (fun h5_ => ?_)
          refine (Q_sipush (v := 1000) zm_228 (Or.inl (by decide)) D228_56 (by decide)).trans ?_
          refine (Q_idiv zm_228 (Or.inl (by decide)) D228_59 (by decide)).trans ?_
          refine (Q_aload_n zm_228 (Or.inl (by decide)) D228_60 rfl).trans ?_
          refine (Q_getR (q := 164) zm_228 (Or.inl (by decide)) D228_61 zf_10_132 zs_10_61 zk_127.1 rfl).trans ?_
          refine (Q_iload_n zm_228 (Or.inl (by decide)) D228_64 rfl).trans ?_
          refine ((Q_iaload zm_228 (Or.inl (by decide)) D228_65 zk_164.1 zk_164.2).trans (zdrop h1_)).trans ?_
          refine (Q_ic_lt (tgt := 73) zm_228 (Or.inl (by decide)) D228_66 (by decide)).trans ?_
          refine zif_c (fun h6_ => ?_) (fun h6_ => ?_)
          · refine (Q_iconst (v := 0) zm_228 (Or.inl (by decide)) D228_73 (by decide)).trans ?_
            refine (Q_aload_n zm_228 (Or.inl (by decide)) D228_74 rfl).trans ?_
            refine (Q_getR (q := 165) zm_228 (Or.inl (by decide)) D228_75 zf_10_135 zs_10_62 zk_127.1 rfl).trans ?_
            refine (Q_iload_n zm_228 (Or.inl (by decide)) D228_78 rfl).trans ?_
            refine ((Q_baload zm_228 (Or.inl (by decide)) D228_79 zk_165.1 (by decide) zk_165.2).trans (zdrop h1_)).trans ?_
            refine (Q_ic_eq (tgt := 85) zm_228 (Or.inl (by decide)) D228_80 (by decide)).trans ?_
            refine zif_c (fun h7_ => ?_) (fun h7_ => ?_)
            · refine (Q_iinc (v := 1) (ls' := [some (.ref 127), some (.int i1), some (.int (i2 + (1 : Int32)))]) zm_228 (Or.inl (by decide)) D228_85 rfl rfl (by decide) rfl).trans ?_
              refine (Q_goto (tgt := 2) zm_228 (Or.inl (by decide)) D228_88 (by decide)).trans ?_
              rfl
            · refine (Q_iconst (v := 0) zm_228 (Or.inl (by decide)) D228_83 (by decide)).trans ?_
              exact Q_zreturn zm_228 (Or.inl (by decide)) D228_84 rfl (by decide)
          · refine (Q_iconst (v := 1) zm_228 (Or.inl (by decide)) D228_69 (by decide)).trans ?_
            refine (Q_goto (tgt := 74) zm_228 (Or.inl (by decide)) D228_70 (by decide)).trans ?_
            refine (Q_aload_n zm_228 (Or.inl (by decide)) D228_74 rfl).trans ?_
            refine (Q_getR (q := 165) zm_228 (Or.inl (by decide)) D228_75 zf_10_135 zs_10_62 zk_127.1 rfl).trans ?_
            refine (Q_iload_n zm_228 (Or.inl (by decide)) D228_78 rfl).trans ?_
            refine ((Q_baload zm_228 (Or.inl (by decide)) D228_79 zk_165.1 (by decide) zk_165.2).trans (zdrop h1_)).trans ?_
            refine (Q_ic_eq (tgt := 85) zm_228 (Or.inl (by decide)) D228_80 (by decide)).trans ?_
            refine zif_c (fun h8_ => ?_) (fun h8_ => ?_)
            · refine (Q_iinc (v := 1) (ls' := [some (.ref 127), some (.int i1), some (.int (i2 + (1 : Int32)))]) zm_228 (Or.inl (by decide)) D228_85 rfl rfl (by decide) rfl).trans ?_
              refine (Q_goto (tgt := 2) zm_228 (Or.inl (by decide)) D228_88 (by decide)).trans ?_
              rfl
            · refine (Q_iconst (v := 0) zm_228 (Or.inl (by decide)) D228_83 (by decide)).trans ?_
              exact Q_zreturn zm_228 (Or.inl (by decide)) D228_84 rfl (by decide)
        · refine (Q_goto (tgt := 85) zm_228 (Or.inl (by decide)) D228_39 (by decide)).trans ?_
          refine (Q_iinc (v := 1) (ls' := [some (.ref 127), some (.int i1), some (.int (i2 + (1 : Int32)))]) zm_228 (Or.inl (by decide)) D228_85 rfl rfl (by decide) rfl).trans ?_
          refine (Q_goto (tgt := 2) zm_228 (Or.inl (by decide)) D228_88 (by decide)).trans ?_
          rfl

/-! HandsLetModel.fitsWear(I)Z -/
theorem D229_0 : decode prog_12_method_103_code 0 = .ok (.aload_n 0, 1) := by decide +kernel
theorem D229_1 : decode prog_12_method_103_code 1 = .ok (.iconst 1, 1) := by decide +kernel
theorem D229_2 : decode prog_12_method_103_code 2 = .ok (.invokevirtual 337, 3) := by decide +kernel
theorem D229_5 : decode prog_12_method_103_code 5 = .ok (.iconst 1, 1) := by decide +kernel
theorem D229_6 : decode prog_12_method_103_code 6 = .ok (.istore_n 2, 1) := by decide +kernel
theorem D229_7 : decode prog_12_method_103_code 7 = .ok (.iload_n 2, 1) := by decide +kernel
theorem D229_8 : decode prog_12_method_103_code 8 = .ok (.iload_n 1, 1) := by decide +kernel
theorem D229_9 : decode prog_12_method_103_code 9 = .ok (.if_icmp .gt 25, 3) := by decide +kernel
theorem D229_12 : decode prog_12_method_103_code 12 = .ok (.aload_n 0, 1) := by decide +kernel
theorem D229_13 : decode prog_12_method_103_code 13 = .ok (.iconst 1, 1) := by decide +kernel
theorem D229_14 : decode prog_12_method_103_code 14 = .ok (.iconst 0, 1) := by decide +kernel
theorem D229_15 : decode prog_12_method_103_code 15 = .ok (.invokevirtual 407, 3) := by decide +kernel
theorem D229_18 : decode prog_12_method_103_code 18 = .ok (.aload_n 0, 1) := by decide +kernel
theorem D229_19 : decode prog_12_method_103_code 19 = .ok (.iload_n 2, 1) := by decide +kernel
theorem D229_20 : decode prog_12_method_103_code 20 = .ok (.invokevirtual 489, 3) := by decide +kernel
theorem D229_23 : decode prog_12_method_103_code 23 = .ok (.ifCond .ne 5, 3) := by decide +kernel
theorem D229_26 : decode prog_12_method_103_code 26 = .ok (.iconst 0, 1) := by decide +kernel
theorem D229_27 : decode prog_12_method_103_code 27 = .ok (.ireturn, 1) := by decide +kernel
theorem D229_28 : decode prog_12_method_103_code 28 = .ok (.iinc 2 1, 3) := by decide +kernel
theorem D229_31 : decode prog_12_method_103_code 31 = .ok (.goto (-24), 3) := by decide +kernel
theorem D229_34 : decode prog_12_method_103_code 34 = .ok (.iconst 1, 1) := by decide +kernel
theorem D229_35 : decode prog_12_method_103_code 35 = .ok (.ireturn, 1) := by decide +kernel

theorem b229_0 {d : Nat} {i1 : Int32} {ia : Nat → Nat → Int32} {la : Nat → Nat → Int64} {pl dr : Nat} {cp : Option Nat} {cw : Option Nat} {rp : Option Nat} {K : Option Value → zHP → Prop}  : zWP (d + 1) 229 0 [some (.ref 127), some (.int i1), none] [] (ia, la, zRA pl dr cp cw rp) K = zWM d 168 [.ref 127, .int (1 : Int32)] (ia, la, zRA pl dr cp cw rp) (zK (d + 1) 229 5 [some (.ref 127), some (.int i1), none] [] K) := by
  refine (Q_aload_n zm_229 (Or.inl (by decide)) D229_0 rfl).trans ?_
  refine (Q_iconst (v := 1) zm_229 (Or.inl (by decide)) D229_1 (by decide)).trans ?_
  exact Q_callv (as := [.int (1 : Int32)]) (b := 127) (rest := []) zm_229 (Or.inl (by decide)) D229_2 zc_10_337 rfl zk_127.1 (by decide) (by decide +kernel) (by decide) (by simp [zcat, Value.category]) zm_168 rfl

theorem b229_5 {d : Nat} {i1 : Int32} {ia : Nat → Nat → Int32} {la : Nat → Nat → Int64} {pl dr : Nat} {cp : Option Nat} {cw : Option Nat} {rp : Option Nat} {K : Option Value → zHP → Prop}  : zWP d 229 5 [some (.ref 127), some (.int i1), none] [] (ia, la, zRA pl dr cp cw rp) K = zWP d 229 7 [some (.ref 127), some (.int i1), some (.int (1 : Int32))] [] (ia, la, zRA pl dr cp cw rp) K := by
  refine (Q_iconst (v := 1) zm_229 (Or.inl (by decide)) D229_5 (by decide)).trans ?_
  refine (Q_istore_n (ls' := [some (.ref 127), some (.int i1), some (.int (1 : Int32))]) zm_229 (Or.inl (by decide)) D229_6 rfl (Nat.le_of_ble_eq_true rfl) rfl).trans ?_
  rfl

theorem b229_7 {d : Nat} {i1 : Int32} {i2 : Int32} {ia : Nat → Nat → Int32} {la : Nat → Nat → Int64} {pl dr : Nat} {cp : Option Nat} {cw : Option Nat} {rp : Option Nat} {K : Option Value → zHP → Prop}  : zWP (d + 1) 229 7 [some (.ref 127), some (.int i1), some (.int i2)] [] (ia, la, zRA pl dr cp cw rp) K = (if i1 < i2 then K (some (.int (1 : Int32))) (ia, la, zRA pl dr cp cw rp) else zWM d 185 [.ref 127, .int (1 : Int32), .int (0 : Int32)] (ia, la, zRA pl dr cp cw rp) (zK (d + 1) 229 18 [some (.ref 127), some (.int i1), some (.int i2)] [] K)) := by
  refine (Q_iload_n zm_229 (Or.inl (by decide)) D229_7 rfl).trans ?_
  refine (Q_iload_n zm_229 (Or.inl (by decide)) D229_8 rfl).trans ?_
  refine (Q_ic_gt (tgt := 34) zm_229 (Or.inl (by decide)) D229_9 (by decide)).trans ?_
  refine zif_c (fun h0_ => ?_) (fun h0_ => ?_)
  · refine (Q_iconst (v := 1) zm_229 (Or.inl (by decide)) D229_34 (by decide)).trans ?_
    exact Q_zreturn zm_229 (Or.inl (by decide)) D229_35 rfl (by decide)
  · refine (Q_aload_n zm_229 (Or.inl (by decide)) D229_12 rfl).trans ?_
    refine (Q_iconst (v := 1) zm_229 (Or.inl (by decide)) D229_13 (by decide)).trans ?_
    refine (Q_iconst (v := 0) zm_229 (Or.inl (by decide)) D229_14 (by decide)).trans ?_
    exact Q_callv (as := [.int (1 : Int32), .int (0 : Int32)]) (b := 127) (rest := []) zm_229 (Or.inl (by decide)) D229_15 zc_10_407 rfl zk_127.1 (by decide) (by decide +kernel) (by decide) (by simp [zcat, Value.category]) zm_185 rfl

theorem b229_18 {d : Nat} {i1 : Int32} {i2 : Int32} {ia : Nat → Nat → Int32} {la : Nat → Nat → Int64} {pl dr : Nat} {cp : Option Nat} {cw : Option Nat} {rp : Option Nat} {K : Option Value → zHP → Prop}  : zWP (d + 1) 229 18 [some (.ref 127), some (.int i1), some (.int i2)] [] (ia, la, zRA pl dr cp cw rp) K = zWM d 228 [.ref 127, .int i2] (ia, la, zRA pl dr cp cw rp) (zK (d + 1) 229 23 [some (.ref 127), some (.int i1), some (.int i2)] [] K) := by
  refine (Q_aload_n zm_229 (Or.inl (by decide)) D229_18 rfl).trans ?_
  refine (Q_iload_n zm_229 (Or.inl (by decide)) D229_19 rfl).trans ?_
  exact Q_callv (as := [.int i2]) (b := 127) (rest := []) zm_229 (Or.inl (by decide)) D229_20 zc_10_489 rfl zk_127.1 (by decide) (by decide +kernel) (by decide) (by simp [zcat, Value.category]) zm_228 rfl

theorem b229_23 {d : Nat} {i1 : Int32} {i2 : Int32} {s0 : Int32} {ia : Nat → Nat → Int32} {la : Nat → Nat → Int64} {pl dr : Nat} {cp : Option Nat} {cw : Option Nat} {rp : Option Nat} {K : Option Value → zHP → Prop}  : zWP d 229 23 [some (.ref 127), some (.int i1), some (.int i2)] [.int s0] (ia, la, zRA pl dr cp cw rp) K = (if ¬ s0 = 0 then zWP d 229 7 [some (.ref 127), some (.int i1), some (.int (i2 + (1 : Int32)))] [] (ia, la, zRA pl dr cp cw rp) K else K (some (.int (0 : Int32))) (ia, la, zRA pl dr cp cw rp)) := by
  refine (Q_if_ne (tgt := 28) zm_229 (Or.inl (by decide)) D229_23 (by decide)).trans ?_
  refine zif_c (fun h0_ => ?_) (fun h0_ => ?_)
  · refine (Q_iinc (v := 1) (ls' := [some (.ref 127), some (.int i1), some (.int (i2 + (1 : Int32)))]) zm_229 (Or.inl (by decide)) D229_28 rfl rfl (by decide) rfl).trans ?_
    refine (Q_goto (tgt := 7) zm_229 (Or.inl (by decide)) D229_31 (by decide)).trans ?_
    rfl
  · refine (Q_iconst (v := 0) zm_229 (Or.inl (by decide)) D229_26 (by decide)).trans ?_
    exact Q_zreturn zm_229 (Or.inl (by decide)) D229_27 rfl (by decide)

/-! HandsLetModel.wearsNow()I -/
theorem D230_0 : decode prog_12_method_104_code 0 = .ok (.iconst 0, 1) := by decide +kernel
theorem D230_1 : decode prog_12_method_104_code 1 = .ok (.istore_n 1, 1) := by decide +kernel
theorem D230_2 : decode prog_12_method_104_code 2 = .ok (.iconst 0, 1) := by decide +kernel
theorem D230_3 : decode prog_12_method_104_code 3 = .ok (.istore_n 2, 1) := by decide +kernel
theorem D230_4 : decode prog_12_method_104_code 4 = .ok (.iload_n 2, 1) := by decide +kernel
theorem D230_5 : decode prog_12_method_104_code 5 = .ok (.aload_n 0, 1) := by decide +kernel
theorem D230_6 : decode prog_12_method_104_code 6 = .ok (.invokevirtual 486, 3) := by decide +kernel
theorem D230_9 : decode prog_12_method_104_code 9 = .ok (.if_icmp .ge 16, 3) := by decide +kernel
theorem D230_12 : decode prog_12_method_104_code 12 = .ok (.aload_n 0, 1) := by decide +kernel
theorem D230_13 : decode prog_12_method_104_code 13 = .ok (.getfield 142, 3) := by decide +kernel
theorem D230_16 : decode prog_12_method_104_code 16 = .ok (.iload_n 2, 1) := by decide +kernel
theorem D230_17 : decode prog_12_method_104_code 17 = .ok (.iconst 0, 1) := by decide +kernel
theorem D230_18 : decode prog_12_method_104_code 18 = .ok (.bastore, 1) := by decide +kernel
theorem D230_19 : decode prog_12_method_104_code 19 = .ok (.iinc 2 1, 3) := by decide +kernel
theorem D230_22 : decode prog_12_method_104_code 22 = .ok (.goto (-18), 3) := by decide +kernel
theorem D230_25 : decode prog_12_method_104_code 25 = .ok (.aload_n 0, 1) := by decide +kernel
theorem D230_26 : decode prog_12_method_104_code 26 = .ok (.invokevirtual 486, 3) := by decide +kernel
theorem D230_29 : decode prog_12_method_104_code 29 = .ok (.iconst 1, 1) := by decide +kernel
theorem D230_30 : decode prog_12_method_104_code 30 = .ok (.isub, 1) := by decide +kernel
theorem D230_31 : decode prog_12_method_104_code 31 = .ok (.istore_n 2, 1) := by decide +kernel
theorem D230_32 : decode prog_12_method_104_code 32 = .ok (.iload_n 2, 1) := by decide +kernel
theorem D230_33 : decode prog_12_method_104_code 33 = .ok (.ifCond .lt 40, 3) := by decide +kernel
theorem D230_36 : decode prog_12_method_104_code 36 = .ok (.aload_n 0, 1) := by decide +kernel
theorem D230_37 : decode prog_12_method_104_code 37 = .ok (.getfield 142, 3) := by decide +kernel
theorem D230_40 : decode prog_12_method_104_code 40 = .ok (.iload_n 2, 1) := by decide +kernel
theorem D230_41 : decode prog_12_method_104_code 41 = .ok (.baload, 1) := by decide +kernel
theorem D230_42 : decode prog_12_method_104_code 42 = .ok (.ifCond .ne 25, 3) := by decide +kernel
theorem D230_45 : decode prog_12_method_104_code 45 = .ok (.aload_n 0, 1) := by decide +kernel
theorem D230_46 : decode prog_12_method_104_code 46 = .ok (.getfield 139, 3) := by decide +kernel
theorem D230_49 : decode prog_12_method_104_code 49 = .ok (.iload_n 2, 1) := by decide +kernel
theorem D230_50 : decode prog_12_method_104_code 50 = .ok (.iaload, 1) := by decide +kernel
theorem D230_51 : decode prog_12_method_104_code 51 = .ok (.iconst (-1), 1) := by decide +kernel
theorem D230_52 : decode prog_12_method_104_code 52 = .ok (.if_icmp .eq 15, 3) := by decide +kernel
theorem D230_55 : decode prog_12_method_104_code 55 = .ok (.aload_n 0, 1) := by decide +kernel
theorem D230_56 : decode prog_12_method_104_code 56 = .ok (.getfield 142, 3) := by decide +kernel
theorem D230_59 : decode prog_12_method_104_code 59 = .ok (.aload_n 0, 1) := by decide +kernel
theorem D230_60 : decode prog_12_method_104_code 60 = .ok (.getfield 139, 3) := by decide +kernel
theorem D230_63 : decode prog_12_method_104_code 63 = .ok (.iload_n 2, 1) := by decide +kernel
theorem D230_64 : decode prog_12_method_104_code 64 = .ok (.iaload, 1) := by decide +kernel
theorem D230_65 : decode prog_12_method_104_code 65 = .ok (.iconst 1, 1) := by decide +kernel
theorem D230_66 : decode prog_12_method_104_code 66 = .ok (.bastore, 1) := by decide +kernel
theorem D230_67 : decode prog_12_method_104_code 67 = .ok (.iinc 2 (-1), 3) := by decide +kernel
theorem D230_70 : decode prog_12_method_104_code 70 = .ok (.goto (-38), 3) := by decide +kernel
theorem D230_73 : decode prog_12_method_104_code 73 = .ok (.iconst 0, 1) := by decide +kernel
theorem D230_74 : decode prog_12_method_104_code 74 = .ok (.istore_n 2, 1) := by decide +kernel
theorem D230_75 : decode prog_12_method_104_code 75 = .ok (.iload_n 2, 1) := by decide +kernel
theorem D230_76 : decode prog_12_method_104_code 76 = .ok (.aload_n 0, 1) := by decide +kernel
theorem D230_77 : decode prog_12_method_104_code 77 = .ok (.invokevirtual 486, 3) := by decide +kernel
theorem D230_80 : decode prog_12_method_104_code 80 = .ok (.if_icmp .ge 39, 3) := by decide +kernel
theorem D230_83 : decode prog_12_method_104_code 83 = .ok (.aload_n 0, 1) := by decide +kernel
theorem D230_84 : decode prog_12_method_104_code 84 = .ok (.getfield 142, 3) := by decide +kernel
theorem D230_87 : decode prog_12_method_104_code 87 = .ok (.iload_n 2, 1) := by decide +kernel
theorem D230_88 : decode prog_12_method_104_code 88 = .ok (.baload, 1) := by decide +kernel
theorem D230_89 : decode prog_12_method_104_code 89 = .ok (.ifCond .ne 24, 3) := by decide +kernel
theorem D230_92 : decode prog_12_method_104_code 92 = .ok (.aload_n 0, 1) := by decide +kernel
theorem D230_93 : decode prog_12_method_104_code 93 = .ok (.getfield 139, 3) := by decide +kernel
theorem D230_96 : decode prog_12_method_104_code 96 = .ok (.iload_n 2, 1) := by decide +kernel
theorem D230_97 : decode prog_12_method_104_code 97 = .ok (.iaload, 1) := by decide +kernel
theorem D230_98 : decode prog_12_method_104_code 98 = .ok (.iconst (-1), 1) := by decide +kernel
theorem D230_99 : decode prog_12_method_104_code 99 = .ok (.if_icmp .ne 14, 3) := by decide +kernel
theorem D230_102 : decode prog_12_method_104_code 102 = .ok (.iload_n 1, 1) := by decide +kernel
theorem D230_103 : decode prog_12_method_104_code 103 = .ok (.aload_n 0, 1) := by decide +kernel
theorem D230_104 : decode prog_12_method_104_code 104 = .ok (.getfield 126, 3) := by decide +kernel
theorem D230_107 : decode prog_12_method_104_code 107 = .ok (.iload_n 2, 1) := by decide +kernel
theorem D230_108 : decode prog_12_method_104_code 108 = .ok (.iaload, 1) := by decide +kernel
theorem D230_109 : decode prog_12_method_104_code 109 = .ok (.invokestatic 384, 3) := by decide +kernel
theorem D230_112 : decode prog_12_method_104_code 112 = .ok (.istore_n 1, 1) := by decide +kernel
theorem D230_113 : decode prog_12_method_104_code 113 = .ok (.iinc 2 1, 3) := by decide +kernel
theorem D230_116 : decode prog_12_method_104_code 116 = .ok (.goto (-41), 3) := by decide +kernel
theorem D230_119 : decode prog_12_method_104_code 119 = .ok (.iconst 0, 1) := by decide +kernel
theorem D230_120 : decode prog_12_method_104_code 120 = .ok (.istore_n 2, 1) := by decide +kernel
theorem D230_121 : decode prog_12_method_104_code 121 = .ok (.iconst 0, 1) := by decide +kernel
theorem D230_122 : decode prog_12_method_104_code 122 = .ok (.istore_n 3, 1) := by decide +kernel
theorem D230_123 : decode prog_12_method_104_code 123 = .ok (.iload_n 3, 1) := by decide +kernel
theorem D230_124 : decode prog_12_method_104_code 124 = .ok (.bipush 10, 2) := by decide +kernel
theorem D230_126 : decode prog_12_method_104_code 126 = .ok (.if_icmp .gt 35, 3) := by decide +kernel
theorem D230_129 : decode prog_12_method_104_code 129 = .ok (.aload_n 0, 1) := by decide +kernel
theorem D230_130 : decode prog_12_method_104_code 130 = .ok (.bipush 10, 2) := by decide +kernel
theorem D230_132 : decode prog_12_method_104_code 132 = .ok (.iload_n 3, 1) := by decide +kernel
theorem D230_133 : decode prog_12_method_104_code 133 = .ok (.imul, 1) := by decide +kernel
theorem D230_134 : decode prog_12_method_104_code 134 = .ok (.putfield 111, 3) := by decide +kernel
theorem D230_137 : decode prog_12_method_104_code 137 = .ok (.iload_n 2, 1) := by decide +kernel
theorem D230_138 : decode prog_12_method_104_code 138 = .ok (.aload_n 0, 1) := by decide +kernel
theorem D230_139 : decode prog_12_method_104_code 139 = .ok (.iload_n 1, 1) := by decide +kernel
theorem D230_140 : decode prog_12_method_104_code 140 = .ok (.invokevirtual 492, 3) := by decide +kernel
theorem D230_143 : decode prog_12_method_104_code 143 = .ok (.ifCond .eq 9, 3) := by decide +kernel
theorem D230_146 : decode prog_12_method_104_code 146 = .ok (.iconst 1, 1) := by decide +kernel
theorem D230_147 : decode prog_12_method_104_code 147 = .ok (.iload_n 3, 1) := by decide +kernel
theorem D230_148 : decode prog_12_method_104_code 148 = .ok (.ishl, 1) := by decide +kernel
theorem D230_149 : decode prog_12_method_104_code 149 = .ok (.goto 4, 3) := by decide +kernel
theorem D230_152 : decode prog_12_method_104_code 152 = .ok (.iconst 0, 1) := by decide +kernel
theorem D230_153 : decode prog_12_method_104_code 153 = .ok (.ior, 1) := by decide +kernel
theorem D230_154 : decode prog_12_method_104_code 154 = .ok (.istore_n 2, 1) := by decide +kernel
theorem D230_155 : decode prog_12_method_104_code 155 = .ok (.iinc 3 1, 3) := by decide +kernel
theorem D230_158 : decode prog_12_method_104_code 158 = .ok (.goto (-35), 3) := by decide +kernel
theorem D230_161 : decode prog_12_method_104_code 161 = .ok (.aload_n 0, 1) := by decide +kernel
theorem D230_162 : decode prog_12_method_104_code 162 = .ok (.iconst (-1), 1) := by decide +kernel
theorem D230_163 : decode prog_12_method_104_code 163 = .ok (.putfield 111, 3) := by decide +kernel
theorem D230_166 : decode prog_12_method_104_code 166 = .ok (.iload_n 2, 1) := by decide +kernel
theorem D230_167 : decode prog_12_method_104_code 167 = .ok (.ireturn, 1) := by decide +kernel

theorem b230_0 {d : Nat}  {ia : Nat → Nat → Int32} {la : Nat → Nat → Int64} {pl dr : Nat} {cp : Option Nat} {cw : Option Nat} {rp : Option Nat} {K : Option Value → zHP → Prop}  : zWP d 230 0 [some (.ref 127), none, none, none] [] (ia, la, zRA pl dr cp cw rp) K = zWP d 230 4 [some (.ref 127), some (.int (0 : Int32)), some (.int (0 : Int32)), none] [] (ia, la, zRA pl dr cp cw rp) K := by
  refine (Q_iconst (v := 0) zm_230 (Or.inl (by decide)) D230_0 (by decide)).trans ?_
  refine (Q_istore_n (ls' := [some (.ref 127), some (.int (0 : Int32)), none, none]) zm_230 (Or.inl (by decide)) D230_1 rfl (Nat.le_of_ble_eq_true rfl) rfl).trans ?_
  refine (Q_iconst (v := 0) zm_230 (Or.inl (by decide)) D230_2 (by decide)).trans ?_
  refine (Q_istore_n (ls' := [some (.ref 127), some (.int (0 : Int32)), some (.int (0 : Int32)), none]) zm_230 (Or.inl (by decide)) D230_3 rfl (Nat.le_of_ble_eq_true rfl) rfl).trans ?_
  rfl

theorem b230_4 {d : Nat} {i1 : Int32} {i2 : Int32} {ia : Nat → Nat → Int32} {la : Nat → Nat → Int64} {pl dr : Nat} {cp : Option Nat} {cw : Option Nat} {rp : Option Nat} {K : Option Value → zHP → Prop}  : zWP (d + 1) 230 4 [some (.ref 127), some (.int i1), some (.int i2), none] [] (ia, la, zRA pl dr cp cw rp) K = zWM d 227 [.ref 127] (ia, la, zRA pl dr cp cw rp) (zK (d + 1) 230 9 [some (.ref 127), some (.int i1), some (.int i2), none] [.int i2] K) := by
  refine (Q_iload_n zm_230 (Or.inl (by decide)) D230_4 rfl).trans ?_
  refine (Q_aload_n zm_230 (Or.inl (by decide)) D230_5 rfl).trans ?_
  exact Q_callv (as := []) (b := 127) (rest := [.int i2]) zm_230 (Or.inl (by decide)) D230_6 zc_10_486 rfl zk_127.1 (by decide) (by decide +kernel) (by decide) (by simp [zcat, Value.category]) zm_227 rfl

theorem b230_9 {d : Nat} {i1 : Int32} {i2 : Int32} {s0 : Int32} {s1 : Int32} {ia : Nat → Nat → Int32} {la : Nat → Nat → Int64} {pl dr : Nat} {cp : Option Nat} {cw : Option Nat} {rp : Option Nat} {K : Option Value → zHP → Prop}  : zWP (d + 1) 230 9 [some (.ref 127), some (.int i1), some (.int i2), none] [.int s1, .int s0] (ia, la, zRA pl dr cp cw rp) K = (if s1 ≤ s0 then zWM d 227 [.ref 127] (ia, la, zRA pl dr cp cw rp) (zK (d + 1) 230 29 [some (.ref 127), some (.int i1), some (.int i2), none] [] K) else (vp_in i2 24 ∧ zWP (d + 1) 230 4 [some (.ref 127), some (.int i1), some (.int (i2 + (1 : Int32))), none] [] ((zu ia 167 (i2).toNatClampNeg (vp_nar .boolean (0 : Int32))), la, zRA pl dr cp cw rp) K)) := by
  refine (Q_ic_ge (tgt := 25) zm_230 (Or.inl (by decide)) D230_9 (by decide)).trans ?_
  refine zif_c (fun h0_ => ?_) (fun h0_ => ?_)
  · refine (Q_aload_n zm_230 (Or.inl (by decide)) D230_25 rfl).trans ?_
    exact Q_callv (as := []) (b := 127) (rest := []) zm_230 (Or.inl (by decide)) D230_26 zc_10_486 rfl zk_127.1 (by decide) (by decide +kernel) (by decide) (by simp [zcat, Value.category]) zm_227 rfl
  · refine (Q_aload_n zm_230 (Or.inl (by decide)) D230_12 rfl).trans ?_
    refine (Q_getR (q := 167) zm_230 (Or.inl (by decide)) D230_13 zf_10_142 zs_10_64 zk_127.1 rfl).trans ?_
    refine (Q_iload_n zm_230 (Or.inl (by decide)) D230_16 rfl).trans ?_
    refine (Q_iconst (v := 0) zm_230 (Or.inl (by decide)) D230_17 (by decide)).trans ?_
    refine (Q_zastore zm_230 (Or.inl (by decide)) D230_18 zk_167.1 zk_167.2).trans ?_
    refine zand_c (fun h1_ => ?_)
    refine (Q_iinc (v := 1) (ls' := [some (.ref 127), some (.int i1), some (.int (i2 + (1 : Int32))), none]) zm_230 (Or.inl (by decide)) D230_19 rfl rfl (by decide) rfl).trans ?_
    refine (Q_goto (tgt := 4) zm_230 (Or.inl (by decide)) D230_22 (by decide)).trans ?_
    rfl

theorem b230_29 {d : Nat} {i1 : Int32} {i2 : Int32} {s0 : Int32} {ia : Nat → Nat → Int32} {la : Nat → Nat → Int64} {pl dr : Nat} {cp : Option Nat} {cw : Option Nat} {rp : Option Nat} {K : Option Value → zHP → Prop}  : zWP d 230 29 [some (.ref 127), some (.int i1), some (.int i2), none] [.int s0] (ia, la, zRA pl dr cp cw rp) K = zWP d 230 32 [some (.ref 127), some (.int i1), some (.int (s0 - (1 : Int32))), none] [] (ia, la, zRA pl dr cp cw rp) K := by
  refine (Q_iconst (v := 1) zm_230 (Or.inl (by decide)) D230_29 (by decide)).trans ?_
  refine (Q_isub zm_230 (Or.inl (by decide)) D230_30).trans ?_
  refine (Q_istore_n (ls' := [some (.ref 127), some (.int i1), some (.int (s0 - (1 : Int32))), none]) zm_230 (Or.inl (by decide)) D230_31 rfl (Nat.le_of_ble_eq_true rfl) rfl).trans ?_
  rfl

theorem b230_32 {d : Nat} {i1 : Int32} {i2 : Int32} {ia : Nat → Nat → Int32} {la : Nat → Nat → Int64} {pl dr : Nat} {cp : Option Nat} {cw : Option Nat} {rp : Option Nat} {K : Option Value → zHP → Prop}  : zWP d 230 32 [some (.ref 127), some (.int i1), some (.int i2), none] [] (ia, la, zRA pl dr cp cw rp) K = (if i2 < 0 then zWP d 230 75 [some (.ref 127), some (.int i1), some (.int (0 : Int32)), none] [] (ia, la, zRA pl dr cp cw rp) K else (vp_in i2 24 ∧ (if ¬ (ia 167 (i2).toNatClampNeg) = 0 then zWP d 230 32 [some (.ref 127), some (.int i1), some (.int (i2 + (-1 : Int32))), none] [] (ia, la, zRA pl dr cp cw rp) K else (if (ia 166 (i2).toNatClampNeg) = (-1 : Int32) then zWP d 230 32 [some (.ref 127), some (.int i1), some (.int (i2 + (-1 : Int32))), none] [] (ia, la, zRA pl dr cp cw rp) K else (vp_in (ia 166 (i2).toNatClampNeg) 24 ∧ zWP d 230 32 [some (.ref 127), some (.int i1), some (.int (i2 + (-1 : Int32))), none] [] ((zu ia 167 ((ia 166 (i2).toNatClampNeg)).toNatClampNeg (vp_nar .boolean (1 : Int32))), la, zRA pl dr cp cw rp) K))))) := by
  refine (Q_iload_n zm_230 (Or.inl (by decide)) D230_32 rfl).trans ?_
  refine (Q_if_lt (tgt := 73) zm_230 (Or.inl (by decide)) D230_33 (by decide)).trans ?_
  refine zif_c (fun h0_ => ?_) (fun h0_ => ?_)
  · refine (Q_iconst (v := 0) zm_230 (Or.inl (by decide)) D230_73 (by decide)).trans ?_
    refine (Q_istore_n (ls' := [some (.ref 127), some (.int i1), some (.int (0 : Int32)), none]) zm_230 (Or.inl (by decide)) D230_74 rfl (Nat.le_of_ble_eq_true rfl) rfl).trans ?_
    rfl
  · refine (Q_aload_n zm_230 (Or.inl (by decide)) D230_36 rfl).trans ?_
    refine (Q_getR (q := 167) zm_230 (Or.inl (by decide)) D230_37 zf_10_142 zs_10_64 zk_127.1 rfl).trans ?_
    refine (Q_iload_n zm_230 (Or.inl (by decide)) D230_40 rfl).trans ?_
    refine (Q_baload zm_230 (Or.inl (by decide)) D230_41 zk_167.1 (by decide) zk_167.2).trans ?_
    refine zand_c (fun h1_ => ?_)
    refine (Q_if_ne (tgt := 67) zm_230 (Or.inl (by decide)) D230_42 (by decide)).trans ?_
    refine zif_c (fun h2_ => ?_) (fun h2_ => ?_)
    · refine (Q_iinc (v := -1) (ls' := [some (.ref 127), some (.int i1), some (.int (i2 + (-1 : Int32))), none]) zm_230 (Or.inl (by decide)) D230_67 rfl rfl (by decide) rfl).trans ?_
      refine (Q_goto (tgt := 32) zm_230 (Or.inl (by decide)) D230_70 (by decide)).trans ?_
      rfl
    · refine (Q_aload_n zm_230 (Or.inl (by decide)) D230_45 rfl).trans ?_
      refine (Q_getR (q := 166) zm_230 (Or.inl (by decide)) D230_46 zf_10_139 zs_10_63 zk_127.1 rfl).trans ?_
      refine (Q_iload_n zm_230 (Or.inl (by decide)) D230_49 rfl).trans ?_
      refine ((Q_iaload zm_230 (Or.inl (by decide)) D230_50 zk_166.1 zk_166.2).trans (zdrop h1_)).trans ?_
      refine (Q_iconst (v := -1) zm_230 (Or.inl (by decide)) D230_51 (by decide)).trans ?_
      refine (Q_ic_eq (tgt := 67) zm_230 (Or.inl (by decide)) D230_52 (by decide)).trans ?_
      refine zif_c (fun h3_ => ?_) (fun h3_ => ?_)
      · refine (Q_iinc (v := -1) (ls' := [some (.ref 127), some (.int i1), some (.int (i2 + (-1 : Int32))), none]) zm_230 (Or.inl (by decide)) D230_67 rfl rfl (by decide) rfl).trans ?_
        refine (Q_goto (tgt := 32) zm_230 (Or.inl (by decide)) D230_70 (by decide)).trans ?_
        rfl
      · refine (Q_aload_n zm_230 (Or.inl (by decide)) D230_55 rfl).trans ?_
        refine (Q_getR (q := 167) zm_230 (Or.inl (by decide)) D230_56 zf_10_142 zs_10_64 zk_127.1 rfl).trans ?_
        refine (Q_aload_n zm_230 (Or.inl (by decide)) D230_59 rfl).trans ?_
        refine (Q_getR (q := 166) zm_230 (Or.inl (by decide)) D230_60 zf_10_139 zs_10_63 zk_127.1 rfl).trans ?_
        refine (Q_iload_n zm_230 (Or.inl (by decide)) D230_63 rfl).trans ?_
        refine ((Q_iaload zm_230 (Or.inl (by decide)) D230_64 zk_166.1 zk_166.2).trans (zdrop h1_)).trans ?_
        refine (Q_iconst (v := 1) zm_230 (Or.inl (by decide)) D230_65 (by decide)).trans ?_
        refine (Q_zastore zm_230 (Or.inl (by decide)) D230_66 zk_167.1 zk_167.2).trans ?_
        refine zand_c (fun h4_ => ?_)
        refine (Q_iinc (v := -1) (ls' := [some (.ref 127), some (.int i1), some (.int (i2 + (-1 : Int32))), none]) zm_230 (Or.inl (by decide)) D230_67 rfl rfl (by decide) rfl).trans ?_
        refine (Q_goto (tgt := 32) zm_230 (Or.inl (by decide)) D230_70 (by decide)).trans ?_
        rfl

theorem b230_75 {d : Nat} {i1 : Int32} {i2 : Int32} {ia : Nat → Nat → Int32} {la : Nat → Nat → Int64} {pl dr : Nat} {cp : Option Nat} {cw : Option Nat} {rp : Option Nat} {K : Option Value → zHP → Prop}  : zWP (d + 1) 230 75 [some (.ref 127), some (.int i1), some (.int i2), none] [] (ia, la, zRA pl dr cp cw rp) K = zWM d 227 [.ref 127] (ia, la, zRA pl dr cp cw rp) (zK (d + 1) 230 80 [some (.ref 127), some (.int i1), some (.int i2), none] [.int i2] K) := by
  refine (Q_iload_n zm_230 (Or.inl (by decide)) D230_75 rfl).trans ?_
  refine (Q_aload_n zm_230 (Or.inl (by decide)) D230_76 rfl).trans ?_
  exact Q_callv (as := []) (b := 127) (rest := [.int i2]) zm_230 (Or.inl (by decide)) D230_77 zc_10_486 rfl zk_127.1 (by decide) (by decide +kernel) (by decide) (by simp [zcat, Value.category]) zm_227 rfl

theorem b230_80 {d : Nat} {i1 : Int32} {i2 : Int32} {s0 : Int32} {s1 : Int32} {ia : Nat → Nat → Int32} {la : Nat → Nat → Int64} {pl dr : Nat} {cp : Option Nat} {cw : Option Nat} {rp : Option Nat} {K : Option Value → zHP → Prop}  : zWP (d + 5) 230 80 [some (.ref 127), some (.int i1), some (.int i2), none] [.int s1, .int s0] (ia, la, zRA pl dr cp cw rp) K = (if s1 ≤ s0 then zWP (d + 5) 230 123 [some (.ref 127), some (.int i1), some (.int (0 : Int32)), some (.int (0 : Int32))] [] (ia, la, zRA pl dr cp cw rp) K else (vp_in i2 24 ∧ (if ¬ (ia 167 (i2).toNatClampNeg) = 0 then zWP (d + 5) 230 75 [some (.ref 127), some (.int i1), some (.int (i2 + (1 : Int32))), none] [] (ia, la, zRA pl dr cp cw rp) K else (if ¬ (ia 166 (i2).toNatClampNeg) = (-1 : Int32) then zWP (d + 5) 230 75 [some (.ref 127), some (.int i1), some (.int (i2 + (1 : Int32))), none] [] (ia, la, zRA pl dr cp cw rp) K else zWP (d + 5) 230 75 [some (.ref 127), some (.int (if i1 < (ia 162 (i2).toNatClampNeg) then (ia 162 (i2).toNatClampNeg) else i1)), some (.int (i2 + (1 : Int32))), none] [] (ia, la, zRA pl dr cp cw rp) K)))) := by
  refine (Q_ic_ge (tgt := 119) zm_230 (Or.inl (by decide)) D230_80 (by decide)).trans ?_
  refine zif_c (fun h0_ => ?_) (fun h0_ => ?_)
  · refine (Q_iconst (v := 0) zm_230 (Or.inl (by decide)) D230_119 (by decide)).trans ?_
    refine (Q_istore_n (ls' := [some (.ref 127), some (.int i1), some (.int (0 : Int32)), none]) zm_230 (Or.inl (by decide)) D230_120 rfl (Nat.le_of_ble_eq_true rfl) rfl).trans ?_
    refine (Q_iconst (v := 0) zm_230 (Or.inl (by decide)) D230_121 (by decide)).trans ?_
    refine (Q_istore_n (ls' := [some (.ref 127), some (.int i1), some (.int (0 : Int32)), some (.int (0 : Int32))]) zm_230 (Or.inl (by decide)) D230_122 rfl (Nat.le_of_ble_eq_true rfl) rfl).trans ?_
    rfl
  · refine (Q_aload_n zm_230 (Or.inl (by decide)) D230_83 rfl).trans ?_
    refine (Q_getR (q := 167) zm_230 (Or.inl (by decide)) D230_84 zf_10_142 zs_10_64 zk_127.1 rfl).trans ?_
    refine (Q_iload_n zm_230 (Or.inl (by decide)) D230_87 rfl).trans ?_
    refine (Q_baload zm_230 (Or.inl (by decide)) D230_88 zk_167.1 (by decide) zk_167.2).trans ?_
    refine zand_c (fun h1_ => ?_)
    refine (Q_if_ne (tgt := 113) zm_230 (Or.inl (by decide)) D230_89 (by decide)).trans ?_
    refine zif_c (fun h2_ => ?_) (fun h2_ => ?_)
    · refine (Q_iinc (v := 1) (ls' := [some (.ref 127), some (.int i1), some (.int (i2 + (1 : Int32))), none]) zm_230 (Or.inl (by decide)) D230_113 rfl rfl (by decide) rfl).trans ?_
      refine (Q_goto (tgt := 75) zm_230 (Or.inl (by decide)) D230_116 (by decide)).trans ?_
      rfl
    · refine (Q_aload_n zm_230 (Or.inl (by decide)) D230_92 rfl).trans ?_
      refine (Q_getR (q := 166) zm_230 (Or.inl (by decide)) D230_93 zf_10_139 zs_10_63 zk_127.1 rfl).trans ?_
      refine (Q_iload_n zm_230 (Or.inl (by decide)) D230_96 rfl).trans ?_
      refine ((Q_iaload zm_230 (Or.inl (by decide)) D230_97 zk_166.1 zk_166.2).trans (zdrop h1_)).trans ?_
      refine (Q_iconst (v := -1) zm_230 (Or.inl (by decide)) D230_98 (by decide)).trans ?_
      refine (Q_ic_ne (tgt := 113) zm_230 (Or.inl (by decide)) D230_99 (by decide)).trans ?_
      refine zif_c (fun h3_ => ?_) (fun h3_ => ?_)
      · refine (Q_iinc (v := 1) (ls' := [some (.ref 127), some (.int i1), some (.int (i2 + (1 : Int32))), none]) zm_230 (Or.inl (by decide)) D230_113 rfl rfl (by decide) rfl).trans ?_
        refine (Q_goto (tgt := 75) zm_230 (Or.inl (by decide)) D230_116 (by decide)).trans ?_
        rfl
      · refine (Q_iload_n zm_230 (Or.inl (by decide)) D230_102 rfl).trans ?_
        refine (Q_aload_n zm_230 (Or.inl (by decide)) D230_103 rfl).trans ?_
        refine (Q_getR (q := 162) zm_230 (Or.inl (by decide)) D230_104 zf_10_126 zs_10_59 zk_127.1 rfl).trans ?_
        refine (Q_iload_n zm_230 (Or.inl (by decide)) D230_107 rfl).trans ?_
        refine ((Q_iaload zm_230 (Or.inl (by decide)) D230_108 zk_162.1 zk_162.2).trans (zdrop h1_)).trans ?_
        refine (Q_bis (as := [.int i1, .int (ia 162 (i2).toNatClampNeg)]) (rest := []) zm_230 (Or.inl (by decide)) D230_109 zc_10_384 rfl (by decide) (by simp [zcat, Value.category]) rfl).trans ?_
        refine (Q_istore_n (ls' := [some (.ref 127), some (.int (if i1 < (ia 162 (i2).toNatClampNeg) then (ia 162 (i2).toNatClampNeg) else i1)), some (.int i2), none]) zm_230 (Or.inl (by decide)) D230_112 rfl (Nat.le_of_ble_eq_true rfl) rfl).trans ?_
        refine (Q_iinc (v := 1) (ls' := [some (.ref 127), some (.int (if i1 < (ia 162 (i2).toNatClampNeg) then (ia 162 (i2).toNatClampNeg) else i1)), some (.int (i2 + (1 : Int32))), none]) zm_230 (Or.inl (by decide)) D230_113 rfl rfl (by decide) rfl).trans ?_
        refine (Q_goto (tgt := 75) zm_230 (Or.inl (by decide)) D230_116 (by decide)).trans ?_
        rfl

theorem b230_123 {d : Nat} {i1 : Int32} {i2 : Int32} {i3 : Int32} {ia : Nat → Nat → Int32} {la : Nat → Nat → Int64} {pl dr : Nat} {cp : Option Nat} {cw : Option Nat} {rp : Option Nat} {K : Option Value → zHP → Prop}  : zWP (d + 1) 230 123 [some (.ref 127), some (.int i1), some (.int i2), some (.int i3)] [] (ia, la, zRA pl dr cp cw rp) K = (if (10 : Int32) < i3 then K (some (.int i2)) ((zu ia 127 51 (-1 : Int32)), la, zRA pl dr cp cw rp) else zWM d 229 [.ref 127, .int i1] ((zu ia 127 51 ((10 : Int32) * i3)), la, zRA pl dr cp cw rp) (zK (d + 1) 230 143 [some (.ref 127), some (.int i1), some (.int i2), some (.int i3)] [.int i2] K)) := by
  refine (Q_iload_n zm_230 (Or.inl (by decide)) D230_123 rfl).trans ?_
  refine (Q_bipush (v := 10) zm_230 (Or.inl (by decide)) D230_124 (by decide)).trans ?_
  refine (Q_ic_gt (tgt := 161) zm_230 (Or.inl (by decide)) D230_126 (by decide)).trans ?_
  refine zif_c (fun h0_ => ?_) (fun h0_ => ?_)
  · refine (Q_aload_n zm_230 (Or.inl (by decide)) D230_161 rfl).trans ?_
    refine (Q_iconst (v := -1) zm_230 (Or.inl (by decide)) D230_162 (by decide)).trans ?_
    refine (Q_putI zm_230 (Or.inl (by decide)) D230_163 zf_10_111 zs_10_51 rfl zk_127.1).trans ?_
    refine (Q_iload_n zm_230 (Or.inl (by decide)) D230_166 rfl).trans ?_
    exact Q_ireturn zm_230 (Or.inl (by decide)) D230_167 rfl
  · refine (Q_aload_n zm_230 (Or.inl (by decide)) D230_129 rfl).trans ?_
    refine (Q_bipush (v := 10) zm_230 (Or.inl (by decide)) D230_130 (by decide)).trans ?_
    refine (Q_iload_n zm_230 (Or.inl (by decide)) D230_132 rfl).trans ?_
    refine (Q_imul zm_230 (Or.inl (by decide)) D230_133).trans ?_
    refine (Q_putI zm_230 (Or.inl (by decide)) D230_134 zf_10_111 zs_10_51 rfl zk_127.1).trans ?_
    refine (Q_iload_n zm_230 (Or.inl (by decide)) D230_137 rfl).trans ?_
    refine (Q_aload_n zm_230 (Or.inl (by decide)) D230_138 rfl).trans ?_
    refine (Q_iload_n zm_230 (Or.inl (by decide)) D230_139 rfl).trans ?_
    exact Q_callv (as := [.int i1]) (b := 127) (rest := [.int i2]) zm_230 (Or.inl (by decide)) D230_140 zc_10_492 rfl zk_127.1 (by decide) (by decide +kernel) (by decide) (by simp [zcat, Value.category]) zm_229 rfl

theorem b230_143 {d : Nat} {i1 : Int32} {i2 : Int32} {i3 : Int32} {s0 : Int32} {s1 : Int32} {ia : Nat → Nat → Int32} {la : Nat → Nat → Int64} {pl dr : Nat} {cp : Option Nat} {cw : Option Nat} {rp : Option Nat} {K : Option Value → zHP → Prop}  : zWP d 230 143 [some (.ref 127), some (.int i1), some (.int i2), some (.int i3)] [.int s1, .int s0] (ia, la, zRA pl dr cp cw rp) K = (if s1 = 0 then zWP d 230 123 [some (.ref 127), some (.int i1), some (.int (s0 ||| (0 : Int32))), some (.int (i3 + (1 : Int32)))] [] (ia, la, zRA pl dr cp cw rp) K else zWP d 230 123 [some (.ref 127), some (.int i1), some (.int (s0 ||| ((1 : Int32) <<< (i3 &&& 31)))), some (.int (i3 + (1 : Int32)))] [] (ia, la, zRA pl dr cp cw rp) K) := by
  refine (Q_if_eq (tgt := 152) zm_230 (Or.inl (by decide)) D230_143 (by decide)).trans ?_
  refine zif_c (fun h0_ => ?_) (fun h0_ => ?_)
  · refine (Q_iconst (v := 0) zm_230 (Or.inl (by decide)) D230_152 (by decide)).trans ?_
    refine (Q_ior zm_230 (Or.inl (by decide)) D230_153).trans ?_
    refine (Q_istore_n (ls' := [some (.ref 127), some (.int i1), some (.int (s0 ||| (0 : Int32))), some (.int i3)]) zm_230 (Or.inl (by decide)) D230_154 rfl (Nat.le_of_ble_eq_true rfl) rfl).trans ?_
    refine (Q_iinc (v := 1) (ls' := [some (.ref 127), some (.int i1), some (.int (s0 ||| (0 : Int32))), some (.int (i3 + (1 : Int32)))]) zm_230 (Or.inl (by decide)) D230_155 rfl rfl (by decide) rfl).trans ?_
    refine (Q_goto (tgt := 123) zm_230 (Or.inl (by decide)) D230_158 (by decide)).trans ?_
    rfl
  · refine (Q_iconst (v := 1) zm_230 (Or.inl (by decide)) D230_146 (by decide)).trans ?_
    refine (Q_iload_n zm_230 (Or.inl (by decide)) D230_147 rfl).trans ?_
    refine (Q_ishl zm_230 (Or.inl (by decide)) D230_148).trans ?_
    refine (Q_goto (tgt := 153) zm_230 (Or.inl (by decide)) D230_149 (by decide)).trans ?_
    refine (Q_ior zm_230 (Or.inl (by decide)) D230_153).trans ?_
    refine (Q_istore_n (ls' := [some (.ref 127), some (.int i1), some (.int (s0 ||| ((1 : Int32) <<< (i3 &&& 31)))), some (.int i3)]) zm_230 (Or.inl (by decide)) D230_154 rfl (Nat.le_of_ble_eq_true rfl) rfl).trans ?_
    refine (Q_iinc (v := 1) (ls' := [some (.ref 127), some (.int i1), some (.int (s0 ||| ((1 : Int32) <<< (i3 &&& 31)))), some (.int (i3 + (1 : Int32)))]) zm_230 (Or.inl (by decide)) D230_155 rfl rfl (by decide) rfl).trans ?_
    refine (Q_goto (tgt := 123) zm_230 (Or.inl (by decide)) D230_158 (by decide)).trans ?_
    rfl

/-! HandsLetModel.wears()I -/
theorem D231_0 : decode prog_12_method_105_code 0 = .ok (.aload_n 0, 1) := by decide +kernel
theorem D231_1 : decode prog_12_method_105_code 1 = .ok (.iconst 0, 1) := by decide +kernel
theorem D231_2 : decode prog_12_method_105_code 2 = .ok (.putfield 151, 3) := by decide +kernel
theorem D231_5 : decode prog_12_method_105_code 5 = .ok (.aload_n 0, 1) := by decide +kernel
theorem D231_6 : decode prog_12_method_105_code 6 = .ok (.invokevirtual 495, 3) := by decide +kernel
theorem D231_9 : decode prog_12_method_105_code 9 = .ok (.ireturn, 1) := by decide +kernel

theorem b231_0 {d : Nat}  {ia : Nat → Nat → Int32} {la : Nat → Nat → Int64} {pl dr : Nat} {cp : Option Nat} {cw : Option Nat} {rp : Option Nat} {K : Option Value → zHP → Prop}  : zWP (d + 1) 231 0 [some (.ref 127)] [] (ia, la, zRA pl dr cp cw rp) K = zWM d 230 [.ref 127] ((zu ia 127 0 (0 : Int32)), la, zRA pl dr cp cw rp) (zK (d + 1) 231 9 [some (.ref 127)] [] K) := by
  refine (Q_aload_n zm_231 (Or.inl (by decide)) D231_0 rfl).trans ?_
  refine (Q_iconst (v := 0) zm_231 (Or.inl (by decide)) D231_1 (by decide)).trans ?_
  refine (Q_putI zm_231 (Or.inl (by decide)) D231_2 zf_10_151 zs_10_0 rfl zk_127.1).trans ?_
  refine (Q_aload_n zm_231 (Or.inl (by decide)) D231_5 rfl).trans ?_
  exact Q_callv (as := []) (b := 127) (rest := []) zm_231 (Or.inl (by decide)) D231_6 zc_10_495 rfl zk_127.1 (by decide) (by decide +kernel) (by decide) (by simp [zcat, Value.category]) zm_230 rfl

theorem b231_9 {d : Nat} {s0 : Int32} {ia : Nat → Nat → Int32} {la : Nat → Nat → Int64} {pl dr : Nat} {cp : Option Nat} {cw : Option Nat} {rp : Option Nat} {K : Option Value → zHP → Prop}  : zWP d 231 9 [some (.ref 127)] [.int s0] (ia, la, zRA pl dr cp cw rp) K = K (some (.int s0)) (ia, la, zRA pl dr cp cw rp) := by
  exact Q_ireturn zm_231 (Or.inl (by decide)) D231_9 rfl

/-! HandsLetModel.ask(II)I -/
theorem D232_0 : decode prog_12_method_106_code 0 = .ok (.aload_n 0, 1) := by decide +kernel
theorem D232_1 : decode prog_12_method_106_code 1 = .ok (.iconst 0, 1) := by decide +kernel
theorem D232_2 : decode prog_12_method_106_code 2 = .ok (.putfield 151, 3) := by decide +kernel
theorem D232_5 : decode prog_12_method_106_code 5 = .ok (.aload_n 0, 1) := by decide +kernel
theorem D232_6 : decode prog_12_method_106_code 6 = .ok (.iload_n 1, 1) := by decide +kernel
theorem D232_7 : decode prog_12_method_106_code 7 = .ok (.invokevirtual 413, 3) := by decide +kernel
theorem D232_10 : decode prog_12_method_106_code 10 = .ok (.ifCond .eq 12, 3) := by decide +kernel
theorem D232_13 : decode prog_12_method_106_code 13 = .ok (.iload_n 2, 1) := by decide +kernel
theorem D232_14 : decode prog_12_method_106_code 14 = .ok (.ifCond .lt 8, 3) := by decide +kernel
theorem D232_17 : decode prog_12_method_106_code 17 = .ok (.iload_n 2, 1) := by decide +kernel
theorem D232_18 : decode prog_12_method_106_code 18 = .ok (.iconst 1, 1) := by decide +kernel
theorem D232_19 : decode prog_12_method_106_code 19 = .ok (.if_icmp .le 5, 3) := by decide +kernel
theorem D232_22 : decode prog_12_method_106_code 22 = .ok (.iconst (-1), 1) := by decide +kernel
theorem D232_23 : decode prog_12_method_106_code 23 = .ok (.ireturn, 1) := by decide +kernel
theorem D232_24 : decode prog_12_method_106_code 24 = .ok (.aload_n 0, 1) := by decide +kernel
theorem D232_25 : decode prog_12_method_106_code 25 = .ok (.invokevirtual 495, 3) := by decide +kernel
theorem D232_28 : decode prog_12_method_106_code 28 = .ok (.istore_n 3, 1) := by decide +kernel
theorem D232_29 : decode prog_12_method_106_code 29 = .ok (.iconst 0, 1) := by decide +kernel
theorem D232_30 : decode prog_12_method_106_code 30 = .ok (.istore 4, 2) := by decide +kernel
theorem D232_32 : decode prog_12_method_106_code 32 = .ok (.iload 4, 2) := by decide +kernel
theorem D232_34 : decode prog_12_method_106_code 34 = .ok (.bipush 10, 2) := by decide +kernel
theorem D232_36 : decode prog_12_method_106_code 36 = .ok (.if_icmp .gt 51, 3) := by decide +kernel
theorem D232_39 : decode prog_12_method_106_code 39 = .ok (.aload_n 0, 1) := by decide +kernel
theorem D232_40 : decode prog_12_method_106_code 40 = .ok (.bipush 10, 2) := by decide +kernel
theorem D232_42 : decode prog_12_method_106_code 42 = .ok (.iload 4, 2) := by decide +kernel
theorem D232_44 : decode prog_12_method_106_code 44 = .ok (.imul, 1) := by decide +kernel
theorem D232_45 : decode prog_12_method_106_code 45 = .ok (.putfield 111, 3) := by decide +kernel
theorem D232_48 : decode prog_12_method_106_code 48 = .ok (.aload_n 0, 1) := by decide +kernel
theorem D232_49 : decode prog_12_method_106_code 49 = .ok (.iconst 1, 1) := by decide +kernel
theorem D232_50 : decode prog_12_method_106_code 50 = .ok (.invokevirtual 337, 3) := by decide +kernel
theorem D232_53 : decode prog_12_method_106_code 53 = .ok (.aload_n 0, 1) := by decide +kernel
theorem D232_54 : decode prog_12_method_106_code 54 = .ok (.bipush 60, 2) := by decide +kernel
theorem D232_56 : decode prog_12_method_106_code 56 = .ok (.invokevirtual 441, 3) := by decide +kernel
theorem D232_59 : decode prog_12_method_106_code 59 = .ok (.aload_n 0, 1) := by decide +kernel
theorem D232_60 : decode prog_12_method_106_code 60 = .ok (.getfield 145, 3) := by decide +kernel
theorem D232_63 : decode prog_12_method_106_code 63 = .ok (.iload 4, 2) := by decide +kernel
theorem D232_65 : decode prog_12_method_106_code 65 = .ok (.aload_n 0, 1) := by decide +kernel
theorem D232_66 : decode prog_12_method_106_code 66 = .ok (.getfield 87, 3) := by decide +kernel
theorem D232_69 : decode prog_12_method_106_code 69 = .ok (.iconst 3, 1) := by decide +kernel
theorem D232_70 : decode prog_12_method_106_code 70 = .ok (.bipush 6, 2) := by decide +kernel
theorem D232_72 : decode prog_12_method_106_code 72 = .ok (.iload_n 1, 1) := by decide +kernel
theorem D232_73 : decode prog_12_method_106_code 73 = .ok (.iadd, 1) := by decide +kernel
theorem D232_74 : decode prog_12_method_106_code 74 = .ok (.imul, 1) := by decide +kernel
theorem D232_75 : decode prog_12_method_106_code 75 = .ok (.iaload, 1) := by decide +kernel
theorem D232_76 : decode prog_12_method_106_code 76 = .ok (.sipush 1000, 3) := by decide +kernel
theorem D232_79 : decode prog_12_method_106_code 79 = .ok (.idiv, 1) := by decide +kernel
theorem D232_80 : decode prog_12_method_106_code 80 = .ok (.iastore, 1) := by decide +kernel
theorem D232_81 : decode prog_12_method_106_code 81 = .ok (.iinc 4 1, 3) := by decide +kernel
theorem D232_84 : decode prog_12_method_106_code 84 = .ok (.goto (-52), 3) := by decide +kernel
theorem D232_87 : decode prog_12_method_106_code 87 = .ok (.aload_n 0, 1) := by decide +kernel
theorem D232_88 : decode prog_12_method_106_code 88 = .ok (.iconst (-1), 1) := by decide +kernel
theorem D232_89 : decode prog_12_method_106_code 89 = .ok (.putfield 111, 3) := by decide +kernel
theorem D232_92 : decode prog_12_method_106_code 92 = .ok (.iconst (-1), 1) := by decide +kernel
theorem D232_93 : decode prog_12_method_106_code 93 = .ok (.istore 4, 2) := by decide +kernel
theorem D232_95 : decode prog_12_method_106_code 95 = .ok (.iconst 0, 1) := by decide +kernel
theorem D232_96 : decode prog_12_method_106_code 96 = .ok (.istore 5, 2) := by decide +kernel
theorem D232_98 : decode prog_12_method_106_code 98 = .ok (.iconst 1, 1) := by decide +kernel
theorem D232_99 : decode prog_12_method_106_code 99 = .ok (.istore 6, 2) := by decide +kernel
theorem D232_101 : decode prog_12_method_106_code 101 = .ok (.iload 6, 2) := by decide +kernel
theorem D232_103 : decode prog_12_method_106_code 103 = .ok (.bipush 99, 2) := by decide +kernel
theorem D232_105 : decode prog_12_method_106_code 105 = .ok (.if_icmp .gt 98, 3) := by decide +kernel
theorem D232_108 : decode prog_12_method_106_code 108 = .ok (.iconst 0, 1) := by decide +kernel
theorem D232_109 : decode prog_12_method_106_code 109 = .ok (.istore 7, 2) := by decide +kernel
theorem D232_111 : decode prog_12_method_106_code 111 = .ok (.iconst 0, 1) := by decide +kernel
theorem D232_112 : decode prog_12_method_106_code 112 = .ok (.istore 8, 2) := by decide +kernel
theorem D232_114 : decode prog_12_method_106_code 114 = .ok (.iload 8, 2) := by decide +kernel
theorem D232_116 : decode prog_12_method_106_code 116 = .ok (.bipush 10, 2) := by decide +kernel
theorem D232_118 : decode prog_12_method_106_code 118 = .ok (.if_icmp .gt 41, 3) := by decide +kernel
theorem D232_121 : decode prog_12_method_106_code 121 = .ok (.iload 7, 2) := by decide +kernel
theorem D232_123 : decode prog_12_method_106_code 123 = .ok (.iload_n 3, 1) := by decide +kernel
theorem D232_124 : decode prog_12_method_106_code 124 = .ok (.iload 8, 2) := by decide +kernel
theorem D232_126 : decode prog_12_method_106_code 126 = .ok (.ishr, 1) := by decide +kernel
theorem D232_127 : decode prog_12_method_106_code 127 = .ok (.iconst 1, 1) := by decide +kernel
theorem D232_128 : decode prog_12_method_106_code 128 = .ok (.iand, 1) := by decide +kernel
theorem D232_129 : decode prog_12_method_106_code 129 = .ok (.iconst 1, 1) := by decide +kernel
theorem D232_130 : decode prog_12_method_106_code 130 = .ok (.if_icmp .ne 19, 3) := by decide +kernel
theorem D232_133 : decode prog_12_method_106_code 133 = .ok (.aload_n 0, 1) := by decide +kernel
theorem D232_134 : decode prog_12_method_106_code 134 = .ok (.getfield 145, 3) := by decide +kernel
theorem D232_137 : decode prog_12_method_106_code 137 = .ok (.iload 8, 2) := by decide +kernel
theorem D232_139 : decode prog_12_method_106_code 139 = .ok (.iaload, 1) := by decide +kernel
theorem D232_140 : decode prog_12_method_106_code 140 = .ok (.iload 6, 2) := by decide +kernel
theorem D232_142 : decode prog_12_method_106_code 142 = .ok (.if_icmp .lt 7, 3) := by decide +kernel
theorem D232_145 : decode prog_12_method_106_code 145 = .ok (.iconst 1, 1) := by decide +kernel
theorem D232_146 : decode prog_12_method_106_code 146 = .ok (.goto 4, 3) := by decide +kernel
theorem D232_149 : decode prog_12_method_106_code 149 = .ok (.iconst 0, 1) := by decide +kernel
theorem D232_150 : decode prog_12_method_106_code 150 = .ok (.iadd, 1) := by decide +kernel
theorem D232_151 : decode prog_12_method_106_code 151 = .ok (.istore 7, 2) := by decide +kernel
theorem D232_153 : decode prog_12_method_106_code 153 = .ok (.iinc 8 1, 3) := by decide +kernel
theorem D232_156 : decode prog_12_method_106_code 156 = .ok (.goto (-42), 3) := by decide +kernel
theorem D232_159 : decode prog_12_method_106_code 159 = .ok (.iload 7, 2) := by decide +kernel
theorem D232_161 : decode prog_12_method_106_code 161 = .ok (.iload_n 3, 1) := by decide +kernel
theorem D232_162 : decode prog_12_method_106_code 162 = .ok (.invokestatic 444, 3) := by decide +kernel
theorem D232_165 : decode prog_12_method_106_code 165 = .ok (.iload 7, 2) := by decide +kernel
theorem D232_167 : decode prog_12_method_106_code 167 = .ok (.isub, 1) := by decide +kernel
theorem D232_168 : decode prog_12_method_106_code 168 = .ok (.invokestatic 384, 3) := by decide +kernel
theorem D232_171 : decode prog_12_method_106_code 171 = .ok (.istore 8, 2) := by decide +kernel
theorem D232_173 : decode prog_12_method_106_code 173 = .ok (.iload 4, 2) := by decide +kernel
theorem D232_175 : decode prog_12_method_106_code 175 = .ok (.iconst (-1), 1) := by decide +kernel
theorem D232_176 : decode prog_12_method_106_code 176 = .ok (.if_icmp .eq 13, 3) := by decide +kernel
theorem D232_179 : decode prog_12_method_106_code 179 = .ok (.iload 8, 2) := by decide +kernel
theorem D232_181 : decode prog_12_method_106_code 181 = .ok (.iload 5, 2) := by decide +kernel
theorem D232_183 : decode prog_12_method_106_code 183 = .ok (.if_icmp .lt 6, 3) := by decide +kernel
theorem D232_186 : decode prog_12_method_106_code 186 = .ok (.goto 11, 3) := by decide +kernel
theorem D232_189 : decode prog_12_method_106_code 189 = .ok (.iload 6, 2) := by decide +kernel
theorem D232_191 : decode prog_12_method_106_code 191 = .ok (.istore 4, 2) := by decide +kernel
theorem D232_193 : decode prog_12_method_106_code 193 = .ok (.iload 8, 2) := by decide +kernel
theorem D232_195 : decode prog_12_method_106_code 195 = .ok (.istore 5, 2) := by decide +kernel
theorem D232_197 : decode prog_12_method_106_code 197 = .ok (.iinc 6 1, 3) := by decide +kernel
theorem D232_200 : decode prog_12_method_106_code 200 = .ok (.goto (-99), 3) := by decide +kernel
theorem D232_203 : decode prog_12_method_106_code 203 = .ok (.iload_n 2, 1) := by decide +kernel
theorem D232_204 : decode prog_12_method_106_code 204 = .ok (.ifCond .ne 8, 3) := by decide +kernel
theorem D232_207 : decode prog_12_method_106_code 207 = .ok (.iload 4, 2) := by decide +kernel
theorem D232_209 : decode prog_12_method_106_code 209 = .ok (.goto 5, 3) := by decide +kernel
theorem D232_212 : decode prog_12_method_106_code 212 = .ok (.iload 5, 2) := by decide +kernel
theorem D232_214 : decode prog_12_method_106_code 214 = .ok (.ireturn, 1) := by decide +kernel

theorem b232_0 {d : Nat} {i1 : Int32} {i2 : Int32} {ia : Nat → Nat → Int32} {la : Nat → Nat → Int64} {pl dr : Nat} {cp : Option Nat} {cw : Option Nat} {rp : Option Nat} {K : Option Value → zHP → Prop}  : zWP (d + 1) 232 0 [some (.ref 127), some (.int i1), some (.int i2), none, none, none, none, none, none] [] (ia, la, zRA pl dr cp cw rp) K = zWM d 171 [.ref 127, .int i1] ((zu ia 127 0 (0 : Int32)), la, zRA pl dr cp cw rp) (zK (d + 1) 232 10 [some (.ref 127), some (.int i1), some (.int i2), none, none, none, none, none, none] [] K) := by
  refine (Q_aload_n zm_232 (Or.inl (by decide)) D232_0 rfl).trans ?_
  refine (Q_iconst (v := 0) zm_232 (Or.inl (by decide)) D232_1 (by decide)).trans ?_
  refine (Q_putI zm_232 (Or.inl (by decide)) D232_2 zf_10_151 zs_10_0 rfl zk_127.1).trans ?_
  refine (Q_aload_n zm_232 (Or.inl (by decide)) D232_5 rfl).trans ?_
  refine (Q_iload_n zm_232 (Or.inl (by decide)) D232_6 rfl).trans ?_
  exact Q_callv (as := [.int i1]) (b := 127) (rest := []) zm_232 (Or.inl (by decide)) D232_7 zc_10_413 rfl zk_127.1 (by decide) (by decide +kernel) (by decide) (by simp [zcat, Value.category]) zm_171 rfl

theorem b232_10 {d : Nat} {i1 : Int32} {i2 : Int32} {s0 : Int32} {ia : Nat → Nat → Int32} {la : Nat → Nat → Int64} {pl dr : Nat} {cp : Option Nat} {cw : Option Nat} {rp : Option Nat} {K : Option Value → zHP → Prop}  : zWP (d + 1) 232 10 [some (.ref 127), some (.int i1), some (.int i2), none, none, none, none, none, none] [.int s0] (ia, la, zRA pl dr cp cw rp) K = (if s0 = 0 then K (some (.int (-1 : Int32))) (ia, la, zRA pl dr cp cw rp) else (if i2 < 0 then K (some (.int (-1 : Int32))) (ia, la, zRA pl dr cp cw rp) else (if i2 ≤ (1 : Int32) then zWM d 230 [.ref 127] (ia, la, zRA pl dr cp cw rp) (zK (d + 1) 232 28 [some (.ref 127), some (.int i1), some (.int i2), none, none, none, none, none, none] [] K) else K (some (.int (-1 : Int32))) (ia, la, zRA pl dr cp cw rp)))) := by
  refine (Q_if_eq (tgt := 22) zm_232 (Or.inl (by decide)) D232_10 (by decide)).trans ?_
  refine zif_c (fun h0_ => ?_) (fun h0_ => ?_)
  · refine (Q_iconst (v := -1) zm_232 (Or.inl (by decide)) D232_22 (by decide)).trans ?_
    exact Q_ireturn zm_232 (Or.inl (by decide)) D232_23 rfl
  · refine (Q_iload_n zm_232 (Or.inl (by decide)) D232_13 rfl).trans ?_
    refine (Q_if_lt (tgt := 22) zm_232 (Or.inl (by decide)) D232_14 (by decide)).trans ?_
    refine zif_c (fun h1_ => ?_) (fun h1_ => ?_)
    · refine (Q_iconst (v := -1) zm_232 (Or.inl (by decide)) D232_22 (by decide)).trans ?_
      exact Q_ireturn zm_232 (Or.inl (by decide)) D232_23 rfl
    · refine (Q_iload_n zm_232 (Or.inl (by decide)) D232_17 rfl).trans ?_
      refine (Q_iconst (v := 1) zm_232 (Or.inl (by decide)) D232_18 (by decide)).trans ?_
      refine (Q_ic_le (tgt := 24) zm_232 (Or.inl (by decide)) D232_19 (by decide)).trans ?_
      refine zif_c (fun h2_ => ?_) (fun h2_ => ?_)
      · refine (Q_aload_n zm_232 (Or.inl (by decide)) D232_24 rfl).trans ?_
        exact Q_callv (as := []) (b := 127) (rest := []) zm_232 (Or.inl (by decide)) D232_25 zc_10_495 rfl zk_127.1 (by decide) (by decide +kernel) (by decide) (by simp [zcat, Value.category]) zm_230 rfl
      · refine (Q_iconst (v := -1) zm_232 (Or.inl (by decide)) D232_22 (by decide)).trans ?_
        exact Q_ireturn zm_232 (Or.inl (by decide)) D232_23 rfl

theorem b232_28 {d : Nat} {i1 : Int32} {i2 : Int32} {s0 : Int32} {ia : Nat → Nat → Int32} {la : Nat → Nat → Int64} {pl dr : Nat} {cp : Option Nat} {cw : Option Nat} {rp : Option Nat} {K : Option Value → zHP → Prop}  : zWP d 232 28 [some (.ref 127), some (.int i1), some (.int i2), none, none, none, none, none, none] [.int s0] (ia, la, zRA pl dr cp cw rp) K = zWP d 232 32 [some (.ref 127), some (.int i1), some (.int i2), some (.int s0), some (.int (0 : Int32)), none, none, none, none] [] (ia, la, zRA pl dr cp cw rp) K := by
  refine (Q_istore_n (ls' := [some (.ref 127), some (.int i1), some (.int i2), some (.int s0), none, none, none, none, none]) zm_232 (Or.inl (by decide)) D232_28 rfl (Nat.le_of_ble_eq_true rfl) rfl).trans ?_
  refine (Q_iconst (v := 0) zm_232 (Or.inl (by decide)) D232_29 (by decide)).trans ?_
  refine (Q_istore (ls' := [some (.ref 127), some (.int i1), some (.int i2), some (.int s0), some (.int (0 : Int32)), none, none, none, none]) zm_232 (Or.inl (by decide)) D232_30 rfl (Nat.le_of_ble_eq_true rfl) rfl).trans ?_
  rfl

theorem b232_32 {d : Nat} {i1 : Int32} {i2 : Int32} {i3 : Int32} {i4 : Int32} {ia : Nat → Nat → Int32} {la : Nat → Nat → Int64} {pl dr : Nat} {cp : Option Nat} {cw : Option Nat} {rp : Option Nat} {K : Option Value → zHP → Prop}  : zWP (d + 1) 232 32 [some (.ref 127), some (.int i1), some (.int i2), some (.int i3), some (.int i4), none, none, none, none] [] (ia, la, zRA pl dr cp cw rp) K = (if (10 : Int32) < i4 then zWP (d + 1) 232 101 [some (.ref 127), some (.int i1), some (.int i2), some (.int i3), some (.int (-1 : Int32)), some (.int (0 : Int32)), some (.int (1 : Int32)), none, none] [] ((zu ia 127 51 (-1 : Int32)), la, zRA pl dr cp cw rp) K else zWM d 168 [.ref 127, .int (1 : Int32)] ((zu ia 127 51 ((10 : Int32) * i4)), la, zRA pl dr cp cw rp) (zK (d + 1) 232 53 [some (.ref 127), some (.int i1), some (.int i2), some (.int i3), some (.int i4), none, none, none, none] [] K)) := by
  refine (Q_iload zm_232 (Or.inl (by decide)) D232_32 rfl).trans ?_
  refine (Q_bipush (v := 10) zm_232 (Or.inl (by decide)) D232_34 (by decide)).trans ?_
  refine (Q_ic_gt (tgt := 87) zm_232 (Or.inl (by decide)) D232_36 (by decide)).trans ?_
  refine zif_c (fun h0_ => ?_) (fun h0_ => ?_)
  · refine (Q_aload_n zm_232 (Or.inl (by decide)) D232_87 rfl).trans ?_
    refine (Q_iconst (v := -1) zm_232 (Or.inl (by decide)) D232_88 (by decide)).trans ?_
    refine (Q_putI zm_232 (Or.inl (by decide)) D232_89 zf_10_111 zs_10_51 rfl zk_127.1).trans ?_
    refine (Q_iconst (v := -1) zm_232 (Or.inl (by decide)) D232_92 (by decide)).trans ?_
    refine (Q_istore (ls' := [some (.ref 127), some (.int i1), some (.int i2), some (.int i3), some (.int (-1 : Int32)), none, none, none, none]) zm_232 (Or.inl (by decide)) D232_93 rfl (Nat.le_of_ble_eq_true rfl) rfl).trans ?_
    refine (Q_iconst (v := 0) zm_232 (Or.inl (by decide)) D232_95 (by decide)).trans ?_
    refine (Q_istore (ls' := [some (.ref 127), some (.int i1), some (.int i2), some (.int i3), some (.int (-1 : Int32)), some (.int (0 : Int32)), none, none, none]) zm_232 (Or.inl (by decide)) D232_96 rfl (Nat.le_of_ble_eq_true rfl) rfl).trans ?_
    refine (Q_iconst (v := 1) zm_232 (Or.inl (by decide)) D232_98 (by decide)).trans ?_
    refine (Q_istore (ls' := [some (.ref 127), some (.int i1), some (.int i2), some (.int i3), some (.int (-1 : Int32)), some (.int (0 : Int32)), some (.int (1 : Int32)), none, none]) zm_232 (Or.inl (by decide)) D232_99 rfl (Nat.le_of_ble_eq_true rfl) rfl).trans ?_
    rfl
  · refine (Q_aload_n zm_232 (Or.inl (by decide)) D232_39 rfl).trans ?_
    refine (Q_bipush (v := 10) zm_232 (Or.inl (by decide)) D232_40 (by decide)).trans ?_
    refine (Q_iload zm_232 (Or.inl (by decide)) D232_42 rfl).trans ?_
    refine (Q_imul zm_232 (Or.inl (by decide)) D232_44).trans ?_
    refine (Q_putI zm_232 (Or.inl (by decide)) D232_45 zf_10_111 zs_10_51 rfl zk_127.1).trans ?_
    refine (Q_aload_n zm_232 (Or.inl (by decide)) D232_48 rfl).trans ?_
    refine (Q_iconst (v := 1) zm_232 (Or.inl (by decide)) D232_49 (by decide)).trans ?_
    exact Q_callv (as := [.int (1 : Int32)]) (b := 127) (rest := []) zm_232 (Or.inl (by decide)) D232_50 zc_10_337 rfl zk_127.1 (by decide) (by decide +kernel) (by decide) (by simp [zcat, Value.category]) zm_168 rfl

theorem b232_101 {d : Nat} {i1 : Int32} {i2 : Int32} {i3 : Int32} {i4 : Int32} {i5 : Int32} {i6 : Int32} {a7 : Option Value} {a8 : Option Value} {ia : Nat → Nat → Int32} {la : Nat → Nat → Int64} {pl dr : Nat} {cp : Option Nat} {cw : Option Nat} {rp : Option Nat} {K : Option Value → zHP → Prop}  : zWP d 232 101 [some (.ref 127), some (.int i1), some (.int i2), some (.int i3), some (.int i4), some (.int i5), some (.int i6), a7, a8] [] (ia, la, zRA pl dr cp cw rp) K = (if (99 : Int32) < i6 then (if ¬ i2 = 0 then K (some (.int i5)) (ia, la, zRA pl dr cp cw rp) else K (some (.int i4)) (ia, la, zRA pl dr cp cw rp)) else zWP d 232 114 [some (.ref 127), some (.int i1), some (.int i2), some (.int i3), some (.int i4), some (.int i5), some (.int i6), some (.int (0 : Int32)), some (.int (0 : Int32))] [] (ia, la, zRA pl dr cp cw rp) K) := by
  refine (Q_iload zm_232 (Or.inl (by decide)) D232_101 rfl).trans ?_
  refine (Q_bipush (v := 99) zm_232 (Or.inl (by decide)) D232_103 (by decide)).trans ?_
  refine (Q_ic_gt (tgt := 203) zm_232 (Or.inl (by decide)) D232_105 (by decide)).trans ?_
  refine zif_c (fun h0_ => ?_) (fun h0_ => ?_)
  · refine (Q_iload_n zm_232 (Or.inl (by decide)) D232_203 rfl).trans ?_
    refine (Q_if_ne (tgt := 212) zm_232 (Or.inl (by decide)) D232_204 (by decide)).trans ?_
    refine zif_c (fun h1_ => ?_) (fun h1_ => ?_)
    · refine (Q_iload zm_232 (Or.inl (by decide)) D232_212 rfl).trans ?_
      exact Q_ireturn zm_232 (Or.inl (by decide)) D232_214 rfl
    · refine (Q_iload zm_232 (Or.inl (by decide)) D232_207 rfl).trans ?_
      refine (Q_goto (tgt := 214) zm_232 (Or.inl (by decide)) D232_209 (by decide)).trans ?_
      exact Q_ireturn zm_232 (Or.inl (by decide)) D232_214 rfl
  · refine (Q_iconst (v := 0) zm_232 (Or.inl (by decide)) D232_108 (by decide)).trans ?_
    refine (Q_istore (ls' := [some (.ref 127), some (.int i1), some (.int i2), some (.int i3), some (.int i4), some (.int i5), some (.int i6), some (.int (0 : Int32)), a8]) zm_232 (Or.inl (by decide)) D232_109 rfl (Nat.le_of_ble_eq_true rfl) rfl).trans ?_
    refine (Q_iconst (v := 0) zm_232 (Or.inl (by decide)) D232_111 (by decide)).trans ?_
    refine (Q_istore (ls' := [some (.ref 127), some (.int i1), some (.int i2), some (.int i3), some (.int i4), some (.int i5), some (.int i6), some (.int (0 : Int32)), some (.int (0 : Int32))]) zm_232 (Or.inl (by decide)) D232_112 rfl (Nat.le_of_ble_eq_true rfl) rfl).trans ?_
    rfl

theorem b232_53 {d : Nat} {i1 : Int32} {i2 : Int32} {i3 : Int32} {i4 : Int32} {ia : Nat → Nat → Int32} {la : Nat → Nat → Int64} {pl dr : Nat} {cp : Option Nat} {cw : Option Nat} {rp : Option Nat} {K : Option Value → zHP → Prop}  : zWP (d + 1) 232 53 [some (.ref 127), some (.int i1), some (.int i2), some (.int i3), some (.int i4), none, none, none, none] [] (ia, la, zRA pl dr cp cw rp) K = zWM d 186 [.ref 127, .int (60 : Int32)] (ia, la, zRA pl dr cp cw rp) (zK (d + 1) 232 59 [some (.ref 127), some (.int i1), some (.int i2), some (.int i3), some (.int i4), none, none, none, none] [] K) := by
  refine (Q_aload_n zm_232 (Or.inl (by decide)) D232_53 rfl).trans ?_
  refine (Q_bipush (v := 60) zm_232 (Or.inl (by decide)) D232_54 (by decide)).trans ?_
  exact Q_callv (as := [.int (60 : Int32)]) (b := 127) (rest := []) zm_232 (Or.inl (by decide)) D232_56 zc_10_441 rfl zk_127.1 (by decide) (by decide +kernel) (by decide) (by simp [zcat, Value.category]) zm_186 rfl

theorem b232_114 {d : Nat} {i1 : Int32} {i2 : Int32} {i3 : Int32} {i4 : Int32} {i5 : Int32} {i6 : Int32} {i7 : Int32} {i8 : Int32} {ia : Nat → Nat → Int32} {la : Nat → Nat → Int64} {pl dr : Nat} {cp : Option Nat} {cw : Option Nat} {rp : Option Nat} {K : Option Value → zHP → Prop}  : zWP (d + 1) 232 114 [some (.ref 127), some (.int i1), some (.int i2), some (.int i3), some (.int i4), some (.int i5), some (.int i6), some (.int i7), some (.int i8)] [] (ia, la, zRA pl dr cp cw rp) K = (if (10 : Int32) < i8 then zWM d 174 [.int i3] (ia, la, zRA pl dr cp cw rp) (zK (d + 1) 232 165 [some (.ref 127), some (.int i1), some (.int i2), some (.int i3), some (.int i4), some (.int i5), some (.int i6), some (.int i7), some (.int i8)] [.int i7] K) else (if ¬ ((i3 >>> (i8 &&& 31)) &&& (1 : Int32)) = (1 : Int32) then zWP (d + 1) 232 114 [some (.ref 127), some (.int i1), some (.int i2), some (.int i3), some (.int i4), some (.int i5), some (.int i6), some (.int (i7 + (0 : Int32))), some (.int (i8 + (1 : Int32)))] [] (ia, la, zRA pl dr cp cw rp) K else (vp_in i8 11 ∧ (if (ia 168 (i8).toNatClampNeg) < i6 then zWP (d + 1) 232 114 [some (.ref 127), some (.int i1), some (.int i2), some (.int i3), some (.int i4), some (.int i5), some (.int i6), some (.int (i7 + (0 : Int32))), some (.int (i8 + (1 : Int32)))] [] (ia, la, zRA pl dr cp cw rp) K else zWP (d + 1) 232 114 [some (.ref 127), some (.int i1), some (.int i2), some (.int i3), some (.int i4), some (.int i5), some (.int i6), some (.int (i7 + (1 : Int32))), some (.int (i8 + (1 : Int32)))] [] (ia, la, zRA pl dr cp cw rp) K)))) := by
  refine (Q_iload zm_232 (Or.inl (by decide)) D232_114 rfl).trans ?_
  refine (Q_bipush (v := 10) zm_232 (Or.inl (by decide)) D232_116 (by decide)).trans ?_
  refine (Q_ic_gt (tgt := 159) zm_232 (Or.inl (by decide)) D232_118 (by decide)).trans ?_
  refine zif_c (fun h0_ => ?_) (fun h0_ => ?_)
  · refine (Q_iload zm_232 (Or.inl (by decide)) D232_159 rfl).trans ?_
    refine (Q_iload_n zm_232 (Or.inl (by decide)) D232_161 rfl).trans ?_
    exact Q_calls (as := [.int i3]) (rest := [.int i7]) zm_232 (Or.inl (by decide)) D232_162 zc_10_444 rfl (by decide) (by simp [zcat, Value.category]) zm_174 rfl
  · refine (Q_iload zm_232 (Or.inl (by decide)) D232_121 rfl).trans ?_
    refine (Q_iload_n zm_232 (Or.inl (by decide)) D232_123 rfl).trans ?_
    refine (Q_iload zm_232 (Or.inl (by decide)) D232_124 rfl).trans ?_
    refine (Q_ishr zm_232 (Or.inl (by decide)) D232_126).trans ?_
    refine (Q_iconst (v := 1) zm_232 (Or.inl (by decide)) D232_127 (by decide)).trans ?_
    refine (Q_iand zm_232 (Or.inl (by decide)) D232_128).trans ?_
    refine (Q_iconst (v := 1) zm_232 (Or.inl (by decide)) D232_129 (by decide)).trans ?_
    refine (Q_ic_ne (tgt := 149) zm_232 (Or.inl (by decide)) D232_130 (by decide)).trans ?_
    refine zif_c (fun h1_ => ?_) (fun h1_ => ?_)
    · refine (Q_iconst (v := 0) zm_232 (Or.inl (by decide)) D232_149 (by decide)).trans ?_
      refine (Q_iadd zm_232 (Or.inl (by decide)) D232_150).trans ?_
      refine (Q_istore (ls' := [some (.ref 127), some (.int i1), some (.int i2), some (.int i3), some (.int i4), some (.int i5), some (.int i6), some (.int (i7 + (0 : Int32))), some (.int i8)]) zm_232 (Or.inl (by decide)) D232_151 rfl (Nat.le_of_ble_eq_true rfl) rfl).trans ?_
      refine (Q_iinc (v := 1) (ls' := [some (.ref 127), some (.int i1), some (.int i2), some (.int i3), some (.int i4), some (.int i5), some (.int i6), some (.int (i7 + (0 : Int32))), some (.int (i8 + (1 : Int32)))]) zm_232 (Or.inl (by decide)) D232_153 rfl rfl (by decide) rfl).trans ?_
      refine (Q_goto (tgt := 114) zm_232 (Or.inl (by decide)) D232_156 (by decide)).trans ?_
      rfl
    · refine (Q_aload_n zm_232 (Or.inl (by decide)) D232_133 rfl).trans ?_
      refine (Q_getR (q := 168) zm_232 (Or.inl (by decide)) D232_134 zf_10_145 zs_10_65 zk_127.1 rfl).trans ?_
      refine (Q_iload zm_232 (Or.inl (by decide)) D232_137 rfl).trans ?_
      refine (Q_iaload zm_232 (Or.inl (by decide)) D232_139 zk_168.1 zk_168.2).trans ?_
      refine zand_c (fun h2_ => ?_)
      refine (Q_iload zm_232 (Or.inl (by decide)) D232_140 rfl).trans ?_
      refine (Q_ic_lt (tgt := 149) zm_232 (Or.inl (by decide)) D232_142 (by decide)).trans ?_
      refine zif_c (fun h3_ => ?_) (fun h3_ => ?_)
      · refine (Q_iconst (v := 0) zm_232 (Or.inl (by decide)) D232_149 (by decide)).trans ?_
        refine (Q_iadd zm_232 (Or.inl (by decide)) D232_150).trans ?_
        refine (Q_istore (ls' := [some (.ref 127), some (.int i1), some (.int i2), some (.int i3), some (.int i4), some (.int i5), some (.int i6), some (.int (i7 + (0 : Int32))), some (.int i8)]) zm_232 (Or.inl (by decide)) D232_151 rfl (Nat.le_of_ble_eq_true rfl) rfl).trans ?_
        refine (Q_iinc (v := 1) (ls' := [some (.ref 127), some (.int i1), some (.int i2), some (.int i3), some (.int i4), some (.int i5), some (.int i6), some (.int (i7 + (0 : Int32))), some (.int (i8 + (1 : Int32)))]) zm_232 (Or.inl (by decide)) D232_153 rfl rfl (by decide) rfl).trans ?_
        refine (Q_goto (tgt := 114) zm_232 (Or.inl (by decide)) D232_156 (by decide)).trans ?_
        rfl
      · refine (Q_iconst (v := 1) zm_232 (Or.inl (by decide)) D232_145 (by decide)).trans ?_
        refine (Q_goto (tgt := 150) zm_232 (Or.inl (by decide)) D232_146 (by decide)).trans ?_
        refine (Q_iadd zm_232 (Or.inl (by decide)) D232_150).trans ?_
        refine (Q_istore (ls' := [some (.ref 127), some (.int i1), some (.int i2), some (.int i3), some (.int i4), some (.int i5), some (.int i6), some (.int (i7 + (1 : Int32))), some (.int i8)]) zm_232 (Or.inl (by decide)) D232_151 rfl (Nat.le_of_ble_eq_true rfl) rfl).trans ?_
        refine (Q_iinc (v := 1) (ls' := [some (.ref 127), some (.int i1), some (.int i2), some (.int i3), some (.int i4), some (.int i5), some (.int i6), some (.int (i7 + (1 : Int32))), some (.int (i8 + (1 : Int32)))]) zm_232 (Or.inl (by decide)) D232_153 rfl rfl (by decide) rfl).trans ?_
        refine (Q_goto (tgt := 114) zm_232 (Or.inl (by decide)) D232_156 (by decide)).trans ?_
        rfl

theorem b232_59 {d : Nat} {i1 : Int32} {i2 : Int32} {i3 : Int32} {i4 : Int32} {ia : Nat → Nat → Int32} {la : Nat → Nat → Int64} {pl dr : Nat} {cp : Option Nat} {cw : Option Nat} {rp : Option Nat} {K : Option Value → zHP → Prop}  : zWP d 232 59 [some (.ref 127), some (.int i1), some (.int i2), some (.int i3), some (.int i4), none, none, none, none] [] (ia, la, zRA pl dr cp cw rp) K = (vp_in ((3 : Int32) * ((6 : Int32) + i1)) 414 ∧ (vp_in i4 11 ∧ zWP d 232 32 [some (.ref 127), some (.int i1), some (.int i2), some (.int i3), some (.int (i4 + (1 : Int32))), none, none, none, none] [] ((zu ia 168 (i4).toNatClampNeg ((ia 152 (((3 : Int32) * ((6 : Int32) + i1))).toNatClampNeg) / (1000 : Int32))), la, zRA pl dr cp cw rp) K)) := by
  refine (Q_aload_n zm_232 (Or.inl (by decide)) D232_59 rfl).trans ?_
  refine (Q_getR (q := 168) zm_232 (Or.inl (by decide)) D232_60 zf_10_145 zs_10_65 zk_127.1 rfl).trans ?_
  refine (Q_iload zm_232 (Or.inl (by decide)) D232_63 rfl).trans ?_
  refine (Q_aload_n zm_232 (Or.inl (by decide)) D232_65 rfl).trans ?_
  refine (Q_getR (q := 152) zm_232 (Or.inl (by decide)) D232_66 zf_10_87 zs_10_40 zk_127.1 rfl).trans ?_
  refine (Q_iconst (v := 3) zm_232 (Or.inl (by decide)) D232_69 (by decide)).trans ?_
  refine (Q_bipush (v := 6) zm_232 (Or.inl (by decide)) D232_70 (by decide)).trans ?_
  refine (Q_iload_n zm_232 (Or.inl (by decide)) D232_72 rfl).trans ?_
  refine (Q_iadd zm_232 (Or.inl (by decide)) D232_73).trans ?_
  refine (Q_imul zm_232 (Or.inl (by decide)) D232_74).trans ?_
  refine (Q_iaload zm_232 (Or.inl (by decide)) D232_75 zk_152.1 zk_152.2).trans ?_
  refine zand_c (fun h0_ => ?_)
  refine (Q_sipush (v := 1000) zm_232 (Or.inl (by decide)) D232_76 (by decide)).trans ?_
  refine (Q_idiv zm_232 (Or.inl (by decide)) D232_79 (by decide)).trans ?_
  refine (Q_iastore zm_232 (Or.inl (by decide)) D232_80 zk_168.1 zk_168.2).trans ?_
  refine zand_c (fun h1_ => ?_)
  refine (Q_iinc (v := 1) (ls' := [some (.ref 127), some (.int i1), some (.int i2), some (.int i3), some (.int (i4 + (1 : Int32))), none, none, none, none]) zm_232 (Or.inl (by decide)) D232_81 rfl rfl (by decide) rfl).trans ?_
  refine (Q_goto (tgt := 32) zm_232 (Or.inl (by decide)) D232_84 (by decide)).trans ?_
  rfl

theorem b232_165 {d : Nat} {i1 : Int32} {i2 : Int32} {i3 : Int32} {i4 : Int32} {i5 : Int32} {i6 : Int32} {i7 : Int32} {i8 : Int32} {s0 : Int32} {s1 : Int32} {ia : Nat → Nat → Int32} {la : Nat → Nat → Int64} {pl dr : Nat} {cp : Option Nat} {cw : Option Nat} {rp : Option Nat} {K : Option Value → zHP → Prop}  : zWP (d + 5) 232 165 [some (.ref 127), some (.int i1), some (.int i2), some (.int i3), some (.int i4), some (.int i5), some (.int i6), some (.int i7), some (.int i8)] [.int s1, .int s0] (ia, la, zRA pl dr cp cw rp) K = (if i4 = (-1 : Int32) then zWP (d + 5) 232 101 [some (.ref 127), some (.int i1), some (.int i2), some (.int i3), some (.int i6), some (.int (if s0 < (s1 - i7) then (s1 - i7) else s0)), some (.int (i6 + (1 : Int32))), some (.int i7), some (.int (if s0 < (s1 - i7) then (s1 - i7) else s0))] [] (ia, la, zRA pl dr cp cw rp) K else (if (if s0 < (s1 - i7) then (s1 - i7) else s0) < i5 then zWP (d + 5) 232 101 [some (.ref 127), some (.int i1), some (.int i2), some (.int i3), some (.int i6), some (.int (if s0 < (s1 - i7) then (s1 - i7) else s0)), some (.int (i6 + (1 : Int32))), some (.int i7), some (.int (if s0 < (s1 - i7) then (s1 - i7) else s0))] [] (ia, la, zRA pl dr cp cw rp) K else zWP (d + 5) 232 101 [some (.ref 127), some (.int i1), some (.int i2), some (.int i3), some (.int i4), some (.int i5), some (.int (i6 + (1 : Int32))), some (.int i7), some (.int (if s0 < (s1 - i7) then (s1 - i7) else s0))] [] (ia, la, zRA pl dr cp cw rp) K)) := by
  refine (Q_iload zm_232 (Or.inl (by decide)) D232_165 rfl).trans ?_
  refine (Q_isub zm_232 (Or.inl (by decide)) D232_167).trans ?_
  refine (Q_bis (as := [.int s0, .int (s1 - i7)]) (rest := []) zm_232 (Or.inl (by decide)) D232_168 zc_10_384 rfl (by decide) (by simp [zcat, Value.category]) rfl).trans ?_
  refine (Q_istore (ls' := [some (.ref 127), some (.int i1), some (.int i2), some (.int i3), some (.int i4), some (.int i5), some (.int i6), some (.int i7), some (.int (if s0 < (s1 - i7) then (s1 - i7) else s0))]) zm_232 (Or.inl (by decide)) D232_171 rfl (Nat.le_of_ble_eq_true rfl) rfl).trans ?_
  refine (Q_iload zm_232 (Or.inl (by decide)) D232_173 rfl).trans ?_
  refine (Q_iconst (v := -1) zm_232 (Or.inl (by decide)) D232_175 (by decide)).trans ?_
  refine (Q_ic_eq (tgt := 189) zm_232 (Or.inl (by decide)) D232_176 (by decide)).trans ?_
  refine zif_c (fun h0_ => ?_) (fun h0_ => ?_)
  · refine (Q_iload zm_232 (Or.inl (by decide)) D232_189 rfl).trans ?_
    refine (Q_istore (ls' := [some (.ref 127), some (.int i1), some (.int i2), some (.int i3), some (.int i6), some (.int i5), some (.int i6), some (.int i7), some (.int (if s0 < (s1 - i7) then (s1 - i7) else s0))]) zm_232 (Or.inl (by decide)) D232_191 rfl (Nat.le_of_ble_eq_true rfl) rfl).trans ?_
    refine (Q_iload zm_232 (Or.inl (by decide)) D232_193 rfl).trans ?_
    refine (Q_istore (ls' := [some (.ref 127), some (.int i1), some (.int i2), some (.int i3), some (.int i6), some (.int (if s0 < (s1 - i7) then (s1 - i7) else s0)), some (.int i6), some (.int i7), some (.int (if s0 < (s1 - i7) then (s1 - i7) else s0))]) zm_232 (Or.inl (by decide)) D232_195 rfl (Nat.le_of_ble_eq_true rfl) rfl).trans ?_
    refine (Q_iinc (v := 1) (ls' := [some (.ref 127), some (.int i1), some (.int i2), some (.int i3), some (.int i6), some (.int (if s0 < (s1 - i7) then (s1 - i7) else s0)), some (.int (i6 + (1 : Int32))), some (.int i7), some (.int (if s0 < (s1 - i7) then (s1 - i7) else s0))]) zm_232 (Or.inl (by decide)) D232_197 rfl rfl (by decide) rfl).trans ?_
    refine (Q_goto (tgt := 101) zm_232 (Or.inl (by decide)) D232_200 (by decide)).trans ?_
    rfl
  · refine (Q_iload zm_232 (Or.inl (by decide)) D232_179 rfl).trans ?_
    refine (Q_iload zm_232 (Or.inl (by decide)) D232_181 rfl).trans ?_
    refine (Q_ic_lt (tgt := 189) zm_232 (Or.inl (by decide)) D232_183 (by decide)).trans ?_
    refine zif_c (fun h1_ => ?_) (fun h1_ => ?_)
    · refine (Q_iload zm_232 (Or.inl (by decide)) D232_189 rfl).trans ?_
      refine (Q_istore (ls' := [some (.ref 127), some (.int i1), some (.int i2), some (.int i3), some (.int i6), some (.int i5), some (.int i6), some (.int i7), some (.int (if s0 < (s1 - i7) then (s1 - i7) else s0))]) zm_232 (Or.inl (by decide)) D232_191 rfl (Nat.le_of_ble_eq_true rfl) rfl).trans ?_
      refine (Q_iload zm_232 (Or.inl (by decide)) D232_193 rfl).trans ?_
      refine (Q_istore (ls' := [some (.ref 127), some (.int i1), some (.int i2), some (.int i3), some (.int i6), some (.int (if s0 < (s1 - i7) then (s1 - i7) else s0)), some (.int i6), some (.int i7), some (.int (if s0 < (s1 - i7) then (s1 - i7) else s0))]) zm_232 (Or.inl (by decide)) D232_195 rfl (Nat.le_of_ble_eq_true rfl) rfl).trans ?_
      refine (Q_iinc (v := 1) (ls' := [some (.ref 127), some (.int i1), some (.int i2), some (.int i3), some (.int i6), some (.int (if s0 < (s1 - i7) then (s1 - i7) else s0)), some (.int (i6 + (1 : Int32))), some (.int i7), some (.int (if s0 < (s1 - i7) then (s1 - i7) else s0))]) zm_232 (Or.inl (by decide)) D232_197 rfl rfl (by decide) rfl).trans ?_
      refine (Q_goto (tgt := 101) zm_232 (Or.inl (by decide)) D232_200 (by decide)).trans ?_
      rfl
    · refine (Q_goto (tgt := 197) zm_232 (Or.inl (by decide)) D232_186 (by decide)).trans ?_
      refine (Q_iinc (v := 1) (ls' := [some (.ref 127), some (.int i1), some (.int i2), some (.int i3), some (.int i4), some (.int i5), some (.int (i6 + (1 : Int32))), some (.int i7), some (.int (if s0 < (s1 - i7) then (s1 - i7) else s0))]) zm_232 (Or.inl (by decide)) D232_197 rfl rfl (by decide) rfl).trans ?_
      refine (Q_goto (tgt := 101) zm_232 (Or.inl (by decide)) D232_200 (by decide)).trans ?_
      rfl

/-! HandsLetModel.chance(III)I -/
theorem D233_0 : decode prog_12_method_107_code 0 = .ok (.aload_n 0, 1) := by decide +kernel
theorem D233_1 : decode prog_12_method_107_code 1 = .ok (.iconst 0, 1) := by decide +kernel
theorem D233_2 : decode prog_12_method_107_code 2 = .ok (.putfield 151, 3) := by decide +kernel
theorem D233_5 : decode prog_12_method_107_code 5 = .ok (.iload_n 1, 1) := by decide +kernel
theorem D233_6 : decode prog_12_method_107_code 6 = .ok (.ifCond .lt 24, 3) := by decide +kernel
theorem D233_9 : decode prog_12_method_107_code 9 = .ok (.iload_n 2, 1) := by decide +kernel
theorem D233_10 : decode prog_12_method_107_code 10 = .ok (.iconst 1, 1) := by decide +kernel
theorem D233_11 : decode prog_12_method_107_code 11 = .ok (.if_icmp .lt 19, 3) := by decide +kernel
theorem D233_14 : decode prog_12_method_107_code 14 = .ok (.iload_n 2, 1) := by decide +kernel
theorem D233_15 : decode prog_12_method_107_code 15 = .ok (.bipush 99, 2) := by decide +kernel
theorem D233_17 : decode prog_12_method_107_code 17 = .ok (.if_icmp .gt 13, 3) := by decide +kernel
theorem D233_20 : decode prog_12_method_107_code 20 = .ok (.iload_n 3, 1) := by decide +kernel
theorem D233_21 : decode prog_12_method_107_code 21 = .ok (.ifCond .lt 9, 3) := by decide +kernel
theorem D233_24 : decode prog_12_method_107_code 24 = .ok (.iload_n 3, 1) := by decide +kernel
theorem D233_25 : decode prog_12_method_107_code 25 = .ok (.bipush 12, 2) := by decide +kernel
theorem D233_27 : decode prog_12_method_107_code 27 = .ok (.if_icmp .le 5, 3) := by decide +kernel
theorem D233_30 : decode prog_12_method_107_code 30 = .ok (.iconst (-1), 1) := by decide +kernel
theorem D233_31 : decode prog_12_method_107_code 31 = .ok (.ireturn, 1) := by decide +kernel
theorem D233_32 : decode prog_12_method_107_code 32 = .ok (.iload_n 1, 1) := by decide +kernel
theorem D233_33 : decode prog_12_method_107_code 33 = .ok (.istore 4, 2) := by decide +kernel
theorem D233_35 : decode prog_12_method_107_code 35 = .ok (.iconst 0, 1) := by decide +kernel
theorem D233_36 : decode prog_12_method_107_code 36 = .ok (.istore 5, 2) := by decide +kernel
theorem D233_38 : decode prog_12_method_107_code 38 = .ok (.iconst 0, 1) := by decide +kernel
theorem D233_39 : decode prog_12_method_107_code 39 = .ok (.istore 6, 2) := by decide +kernel
theorem D233_41 : decode prog_12_method_107_code 41 = .ok (.iload 6, 2) := by decide +kernel
theorem D233_43 : decode prog_12_method_107_code 43 = .ok (.bipush 10, 2) := by decide +kernel
theorem D233_45 : decode prog_12_method_107_code 45 = .ok (.if_icmp .ge 85, 3) := by decide +kernel
theorem D233_48 : decode prog_12_method_107_code 48 = .ok (.aload_n 0, 1) := by decide +kernel
theorem D233_49 : decode prog_12_method_107_code 49 = .ok (.iconst 1, 1) := by decide +kernel
theorem D233_50 : decode prog_12_method_107_code 50 = .ok (.iconst 0, 1) := by decide +kernel
theorem D233_51 : decode prog_12_method_107_code 51 = .ok (.invokevirtual 429, 3) := by decide +kernel
theorem D233_54 : decode prog_12_method_107_code 54 = .ok (.aload_n 0, 1) := by decide +kernel
theorem D233_55 : decode prog_12_method_107_code 55 = .ok (.getfield 75, 3) := by decide +kernel
theorem D233_58 : decode prog_12_method_107_code 58 = .ok (.iconst 1, 1) := by decide +kernel
theorem D233_59 : decode prog_12_method_107_code 59 = .ok (.iload 4, 2) := by decide +kernel
theorem D233_61 : decode prog_12_method_107_code 61 = .ok (.iastore, 1) := by decide +kernel
theorem D233_62 : decode prog_12_method_107_code 62 = .ok (.iconst 0, 1) := by decide +kernel
theorem D233_63 : decode prog_12_method_107_code 63 = .ok (.istore 7, 2) := by decide +kernel
theorem D233_65 : decode prog_12_method_107_code 65 = .ok (.iload 7, 2) := by decide +kernel
theorem D233_67 : decode prog_12_method_107_code 67 = .ok (.iload_n 2, 1) := by decide +kernel
theorem D233_68 : decode prog_12_method_107_code 68 = .ok (.if_icmp .ge 15, 3) := by decide +kernel
theorem D233_71 : decode prog_12_method_107_code 71 = .ok (.aload_n 0, 1) := by decide +kernel
theorem D233_72 : decode prog_12_method_107_code 72 = .ok (.iconst 1, 1) := by decide +kernel
theorem D233_73 : decode prog_12_method_107_code 73 = .ok (.iconst 1, 1) := by decide +kernel
theorem D233_74 : decode prog_12_method_107_code 74 = .ok (.invokevirtual 407, 3) := by decide +kernel
theorem D233_77 : decode prog_12_method_107_code 77 = .ok (.iinc 7 1, 3) := by decide +kernel
theorem D233_80 : decode prog_12_method_107_code 80 = .ok (.goto (-15), 3) := by decide +kernel
theorem D233_83 : decode prog_12_method_107_code 83 = .ok (.aload_n 0, 1) := by decide +kernel
theorem D233_84 : decode prog_12_method_107_code 84 = .ok (.getfield 75, 3) := by decide +kernel
theorem D233_87 : decode prog_12_method_107_code 87 = .ok (.iconst 1, 1) := by decide +kernel
theorem D233_88 : decode prog_12_method_107_code 88 = .ok (.iaload, 1) := by decide +kernel
theorem D233_89 : decode prog_12_method_107_code 89 = .ok (.istore 4, 2) := by decide +kernel
theorem D233_91 : decode prog_12_method_107_code 91 = .ok (.iload 5, 2) := by decide +kernel
theorem D233_93 : decode prog_12_method_107_code 93 = .ok (.aload_n 0, 1) := by decide +kernel
theorem D233_94 : decode prog_12_method_107_code 94 = .ok (.getfield 84, 3) := by decide +kernel
theorem D233_97 : decode prog_12_method_107_code 97 = .ok (.iconst 1, 1) := by decide +kernel
theorem D233_98 : decode prog_12_method_107_code 98 = .ok (.iaload, 1) := by decide +kernel
theorem D233_99 : decode prog_12_method_107_code 99 = .ok (.invokestatic 444, 3) := by decide +kernel
theorem D233_102 : decode prog_12_method_107_code 102 = .ok (.aload_n 0, 1) := by decide +kernel
theorem D233_103 : decode prog_12_method_107_code 103 = .ok (.getfield 84, 3) := by decide +kernel
theorem D233_106 : decode prog_12_method_107_code 106 = .ok (.iconst 0, 1) := by decide +kernel
theorem D233_107 : decode prog_12_method_107_code 107 = .ok (.iaload, 1) := by decide +kernel
theorem D233_108 : decode prog_12_method_107_code 108 = .ok (.invokestatic 444, 3) := by decide +kernel
theorem D233_111 : decode prog_12_method_107_code 111 = .ok (.isub, 1) := by decide +kernel
theorem D233_112 : decode prog_12_method_107_code 112 = .ok (.iload_n 3, 1) := by decide +kernel
theorem D233_113 : decode prog_12_method_107_code 113 = .ok (.if_icmp .lt 7, 3) := by decide +kernel
theorem D233_116 : decode prog_12_method_107_code 116 = .ok (.iconst 1, 1) := by decide +kernel
theorem D233_117 : decode prog_12_method_107_code 117 = .ok (.goto 4, 3) := by decide +kernel
theorem D233_120 : decode prog_12_method_107_code 120 = .ok (.iconst 0, 1) := by decide +kernel
theorem D233_121 : decode prog_12_method_107_code 121 = .ok (.iadd, 1) := by decide +kernel
theorem D233_122 : decode prog_12_method_107_code 122 = .ok (.istore 5, 2) := by decide +kernel
theorem D233_124 : decode prog_12_method_107_code 124 = .ok (.iinc 6 1, 3) := by decide +kernel
theorem D233_127 : decode prog_12_method_107_code 127 = .ok (.goto (-86), 3) := by decide +kernel
theorem D233_130 : decode prog_12_method_107_code 130 = .ok (.iload 5, 2) := by decide +kernel
theorem D233_132 : decode prog_12_method_107_code 132 = .ok (.ireturn, 1) := by decide +kernel

theorem b233_0 {d : Nat} {i1 : Int32} {i2 : Int32} {i3 : Int32} {ia : Nat → Nat → Int32} {la : Nat → Nat → Int64} {pl dr : Nat} {cp : Option Nat} {cw : Option Nat} {rp : Option Nat} {K : Option Value → zHP → Prop}  : zWP d 233 0 [some (.ref 127), some (.int i1), some (.int i2), some (.int i3), none, none, none, none] [] (ia, la, zRA pl dr cp cw rp) K = (if i1 < 0 then K (some (.int (-1 : Int32))) ((zu ia 127 0 (0 : Int32)), la, zRA pl dr cp cw rp) else (if i2 < (1 : Int32) then K (some (.int (-1 : Int32))) ((zu ia 127 0 (0 : Int32)), la, zRA pl dr cp cw rp) else (if (99 : Int32) < i2 then K (some (.int (-1 : Int32))) ((zu ia 127 0 (0 : Int32)), la, zRA pl dr cp cw rp) else (if i3 < 0 then K (some (.int (-1 : Int32))) ((zu ia 127 0 (0 : Int32)), la, zRA pl dr cp cw rp) else (if i3 ≤ (12 : Int32) then zWP d 233 41 [some (.ref 127), some (.int i1), some (.int i2), some (.int i3), some (.int i1), some (.int (0 : Int32)), some (.int (0 : Int32)), none] [] ((zu ia 127 0 (0 : Int32)), la, zRA pl dr cp cw rp) K else K (some (.int (-1 : Int32))) ((zu ia 127 0 (0 : Int32)), la, zRA pl dr cp cw rp)))))) := by
  refine (Q_aload_n zm_233 (Or.inl (by decide)) D233_0 rfl).trans ?_
  refine (Q_iconst (v := 0) zm_233 (Or.inl (by decide)) D233_1 (by decide)).trans ?_
  refine (Q_putI zm_233 (Or.inl (by decide)) D233_2 zf_10_151 zs_10_0 rfl zk_127.1).trans ?_
  refine (Q_iload_n zm_233 (Or.inl (by decide)) D233_5 rfl).trans ?_
  refine (Q_if_lt (tgt := 30) zm_233 (Or.inl (by decide)) D233_6 (by decide)).trans ?_
  refine zif_c (fun h0_ => ?_) (fun h0_ => ?_)
  · refine (Q_iconst (v := -1) zm_233 (Or.inl (by decide)) D233_30 (by decide)).trans ?_
    exact Q_ireturn zm_233 (Or.inl (by decide)) D233_31 rfl
  · refine (Q_iload_n zm_233 (Or.inl (by decide)) D233_9 rfl).trans ?_
    refine (Q_iconst (v := 1) zm_233 (Or.inl (by decide)) D233_10 (by decide)).trans ?_
    refine (Q_ic_lt (tgt := 30) zm_233 (Or.inl (by decide)) D233_11 (by decide)).trans ?_
    refine zif_c (fun h1_ => ?_) (fun h1_ => ?_)
    · refine (Q_iconst (v := -1) zm_233 (Or.inl (by decide)) D233_30 (by decide)).trans ?_
      exact Q_ireturn zm_233 (Or.inl (by decide)) D233_31 rfl
    · refine (Q_iload_n zm_233 (Or.inl (by decide)) D233_14 rfl).trans ?_
      refine (Q_bipush (v := 99) zm_233 (Or.inl (by decide)) D233_15 (by decide)).trans ?_
      refine (Q_ic_gt (tgt := 30) zm_233 (Or.inl (by decide)) D233_17 (by decide)).trans ?_
      refine zif_c (fun h2_ => ?_) (fun h2_ => ?_)
      · refine (Q_iconst (v := -1) zm_233 (Or.inl (by decide)) D233_30 (by decide)).trans ?_
        exact Q_ireturn zm_233 (Or.inl (by decide)) D233_31 rfl
      · refine (Q_iload_n zm_233 (Or.inl (by decide)) D233_20 rfl).trans ?_
        refine (Q_if_lt (tgt := 30) zm_233 (Or.inl (by decide)) D233_21 (by decide)).trans ?_
        refine zif_c (fun h3_ => ?_) (fun h3_ => ?_)
        · refine (Q_iconst (v := -1) zm_233 (Or.inl (by decide)) D233_30 (by decide)).trans ?_
          exact Q_ireturn zm_233 (Or.inl (by decide)) D233_31 rfl
        · refine (Q_iload_n zm_233 (Or.inl (by decide)) D233_24 rfl).trans ?_
          refine (Q_bipush (v := 12) zm_233 (Or.inl (by decide)) D233_25 (by decide)).trans ?_
          refine (Q_ic_le (tgt := 32) zm_233 (Or.inl (by decide)) D233_27 (by decide)).trans ?_
          refine zif_c (fun h4_ => ?_) (fun h4_ => ?_)
          · refine (Q_iload_n zm_233 (Or.inl (by decide)) D233_32 rfl).trans ?_
            refine (Q_istore (ls' := [some (.ref 127), some (.int i1), some (.int i2), some (.int i3), some (.int i1), none, none, none]) zm_233 (Or.inl (by decide)) D233_33 rfl (Nat.le_of_ble_eq_true rfl) rfl).trans ?_
            refine (Q_iconst (v := 0) zm_233 (Or.inl (by decide)) D233_35 (by decide)).trans ?_
            refine (Q_istore (ls' := [some (.ref 127), some (.int i1), some (.int i2), some (.int i3), some (.int i1), some (.int (0 : Int32)), none, none]) zm_233 (Or.inl (by decide)) D233_36 rfl (Nat.le_of_ble_eq_true rfl) rfl).trans ?_
            refine (Q_iconst (v := 0) zm_233 (Or.inl (by decide)) D233_38 (by decide)).trans ?_
            refine (Q_istore (ls' := [some (.ref 127), some (.int i1), some (.int i2), some (.int i3), some (.int i1), some (.int (0 : Int32)), some (.int (0 : Int32)), none]) zm_233 (Or.inl (by decide)) D233_39 rfl (Nat.le_of_ble_eq_true rfl) rfl).trans ?_
            rfl
          · refine (Q_iconst (v := -1) zm_233 (Or.inl (by decide)) D233_30 (by decide)).trans ?_
            exact Q_ireturn zm_233 (Or.inl (by decide)) D233_31 rfl

theorem b233_41 {d : Nat} {i1 : Int32} {i2 : Int32} {i3 : Int32} {i4 : Int32} {i5 : Int32} {i6 : Int32} {a7 : Option Value} {ia : Nat → Nat → Int32} {la : Nat → Nat → Int64} {pl dr : Nat} {cp : Option Nat} {cw : Option Nat} {rp : Option Nat} {K : Option Value → zHP → Prop}  : zWP (d + 1) 233 41 [some (.ref 127), some (.int i1), some (.int i2), some (.int i3), some (.int i4), some (.int i5), some (.int i6), a7] [] (ia, la, zRA pl dr cp cw rp) K = (if (10 : Int32) ≤ i6 then K (some (.int i5)) (ia, la, zRA pl dr cp cw rp) else zWM d 170 [.ref 127, .int (1 : Int32), .int (0 : Int32)] (ia, la, zRA pl dr cp cw rp) (zK (d + 1) 233 54 [some (.ref 127), some (.int i1), some (.int i2), some (.int i3), some (.int i4), some (.int i5), some (.int i6), a7] [] K)) := by
  refine (Q_iload zm_233 (Or.inl (by decide)) D233_41 rfl).trans ?_
  refine (Q_bipush (v := 10) zm_233 (Or.inl (by decide)) D233_43 (by decide)).trans ?_
  refine (Q_ic_ge (tgt := 130) zm_233 (Or.inl (by decide)) D233_45 (by decide)).trans ?_
  refine zif_c (fun h0_ => ?_) (fun h0_ => ?_)
  · refine (Q_iload zm_233 (Or.inl (by decide)) D233_130 rfl).trans ?_
    exact Q_ireturn zm_233 (Or.inl (by decide)) D233_132 rfl
  · refine (Q_aload_n zm_233 (Or.inl (by decide)) D233_48 rfl).trans ?_
    refine (Q_iconst (v := 1) zm_233 (Or.inl (by decide)) D233_49 (by decide)).trans ?_
    refine (Q_iconst (v := 0) zm_233 (Or.inl (by decide)) D233_50 (by decide)).trans ?_
    exact Q_callv (as := [.int (1 : Int32), .int (0 : Int32)]) (b := 127) (rest := []) zm_233 (Or.inl (by decide)) D233_51 zc_10_429 rfl zk_127.1 (by decide) (by decide +kernel) (by decide) (by simp [zcat, Value.category]) zm_170 rfl

theorem b233_54 {d : Nat} {i1 : Int32} {i2 : Int32} {i3 : Int32} {i4 : Int32} {i5 : Int32} {i6 : Int32} {a7 : Option Value} {ia : Nat → Nat → Int32} {la : Nat → Nat → Int64} {pl dr : Nat} {cp : Option Nat} {cw : Option Nat} {rp : Option Nat} {K : Option Value → zHP → Prop}  : zWP d 233 54 [some (.ref 127), some (.int i1), some (.int i2), some (.int i3), some (.int i4), some (.int i5), some (.int i6), a7] [] (ia, la, zRA pl dr cp cw rp) K = zWP d 233 65 [some (.ref 127), some (.int i1), some (.int i2), some (.int i3), some (.int i4), some (.int i5), some (.int i6), some (.int (0 : Int32))] [] ((zu ia 148 1 i4), la, zRA pl dr cp cw rp) K := by
  refine (Q_aload_n zm_233 (Or.inl (by decide)) D233_54 rfl).trans ?_
  refine (Q_getR (q := 148) zm_233 (Or.inl (by decide)) D233_55 zf_10_75 zs_10_36 zk_127.1 rfl).trans ?_
  refine (Q_iconst (v := 1) zm_233 (Or.inl (by decide)) D233_58 (by decide)).trans ?_
  refine (Q_iload zm_233 (Or.inl (by decide)) D233_59 rfl).trans ?_
  refine ((Q_iastore zm_233 (Or.inl (by decide)) D233_61 zk_148.1 zk_148.2).trans (zdrop (zin_spec (by decide)))).trans ?_
  refine (Q_iconst (v := 0) zm_233 (Or.inl (by decide)) D233_62 (by decide)).trans ?_
  refine (Q_istore (ls' := [some (.ref 127), some (.int i1), some (.int i2), some (.int i3), some (.int i4), some (.int i5), some (.int i6), some (.int (0 : Int32))]) zm_233 (Or.inl (by decide)) D233_63 rfl (Nat.le_of_ble_eq_true rfl) rfl).trans ?_
  rfl

theorem b233_65 {d : Nat} {i1 : Int32} {i2 : Int32} {i3 : Int32} {i4 : Int32} {i5 : Int32} {i6 : Int32} {i7 : Int32} {ia : Nat → Nat → Int32} {la : Nat → Nat → Int64} {pl dr : Nat} {cp : Option Nat} {cw : Option Nat} {rp : Option Nat} {K : Option Value → zHP → Prop}  : zWP (d + 1) 233 65 [some (.ref 127), some (.int i1), some (.int i2), some (.int i3), some (.int i4), some (.int i5), some (.int i6), some (.int i7)] [] (ia, la, zRA pl dr cp cw rp) K = (if i2 ≤ i7 then zWM d 174 [.int (ia 151 1)] (ia, la, zRA pl dr cp cw rp) (zK (d + 1) 233 102 [some (.ref 127), some (.int i1), some (.int i2), some (.int i3), some (.int (ia 148 1)), some (.int i5), some (.int i6), some (.int i7)] [.int i5] K) else zWM d 185 [.ref 127, .int (1 : Int32), .int (1 : Int32)] (ia, la, zRA pl dr cp cw rp) (zK (d + 1) 233 77 [some (.ref 127), some (.int i1), some (.int i2), some (.int i3), some (.int i4), some (.int i5), some (.int i6), some (.int i7)] [] K)) := by
  refine (Q_iload zm_233 (Or.inl (by decide)) D233_65 rfl).trans ?_
  refine (Q_iload_n zm_233 (Or.inl (by decide)) D233_67 rfl).trans ?_
  refine (Q_ic_ge (tgt := 83) zm_233 (Or.inl (by decide)) D233_68 (by decide)).trans ?_
  refine zif_c (fun h0_ => ?_) (fun h0_ => ?_)
  · refine (Q_aload_n zm_233 (Or.inl (by decide)) D233_83 rfl).trans ?_
    refine (Q_getR (q := 148) zm_233 (Or.inl (by decide)) D233_84 zf_10_75 zs_10_36 zk_127.1 rfl).trans ?_
    refine (Q_iconst (v := 1) zm_233 (Or.inl (by decide)) D233_87 (by decide)).trans ?_
    refine ((Q_iaload zm_233 (Or.inl (by decide)) D233_88 zk_148.1 zk_148.2).trans (zdrop (zin_spec (by decide)))).trans ?_
    refine (Q_istore (ls' := [some (.ref 127), some (.int i1), some (.int i2), some (.int i3), some (.int (ia 148 1)), some (.int i5), some (.int i6), some (.int i7)]) zm_233 (Or.inl (by decide)) D233_89 rfl (Nat.le_of_ble_eq_true rfl) rfl).trans ?_
    refine (Q_iload zm_233 (Or.inl (by decide)) D233_91 rfl).trans ?_
    refine (Q_aload_n zm_233 (Or.inl (by decide)) D233_93 rfl).trans ?_
    refine (Q_getR (q := 151) zm_233 (Or.inl (by decide)) D233_94 zf_10_84 zs_10_39 zk_127.1 rfl).trans ?_
    refine (Q_iconst (v := 1) zm_233 (Or.inl (by decide)) D233_97 (by decide)).trans ?_
    refine ((Q_iaload zm_233 (Or.inl (by decide)) D233_98 zk_151.1 zk_151.2).trans (zdrop (zin_spec (by decide)))).trans ?_
    exact Q_calls (as := [.int (ia 151 1)]) (rest := [.int i5]) zm_233 (Or.inl (by decide)) D233_99 zc_10_444 rfl (by decide) (by simp [zcat, Value.category]) zm_174 rfl
  · refine (Q_aload_n zm_233 (Or.inl (by decide)) D233_71 rfl).trans ?_
    refine (Q_iconst (v := 1) zm_233 (Or.inl (by decide)) D233_72 (by decide)).trans ?_
    refine (Q_iconst (v := 1) zm_233 (Or.inl (by decide)) D233_73 (by decide)).trans ?_
    exact Q_callv (as := [.int (1 : Int32), .int (1 : Int32)]) (b := 127) (rest := []) zm_233 (Or.inl (by decide)) D233_74 zc_10_407 rfl zk_127.1 (by decide) (by decide +kernel) (by decide) (by simp [zcat, Value.category]) zm_185 rfl

theorem b233_102 {d : Nat} {i1 : Int32} {i2 : Int32} {i3 : Int32} {i4 : Int32} {i5 : Int32} {i6 : Int32} {i7 : Int32} {s0 : Int32} {s1 : Int32} {ia : Nat → Nat → Int32} {la : Nat → Nat → Int64} {pl dr : Nat} {cp : Option Nat} {cw : Option Nat} {rp : Option Nat} {K : Option Value → zHP → Prop}  : zWP (d + 1) 233 102 [some (.ref 127), some (.int i1), some (.int i2), some (.int i3), some (.int i4), some (.int i5), some (.int i6), some (.int i7)] [.int s1, .int s0] (ia, la, zRA pl dr cp cw rp) K = zWM d 174 [.int (ia 151 0)] (ia, la, zRA pl dr cp cw rp) (zK (d + 1) 233 111 [some (.ref 127), some (.int i1), some (.int i2), some (.int i3), some (.int i4), some (.int i5), some (.int i6), some (.int i7)] [.int s1, .int s0] K) := by
  refine (Q_aload_n zm_233 (Or.inl (by decide)) D233_102 rfl).trans ?_
  refine (Q_getR (q := 151) zm_233 (Or.inl (by decide)) D233_103 zf_10_84 zs_10_39 zk_127.1 rfl).trans ?_
  refine (Q_iconst (v := 0) zm_233 (Or.inl (by decide)) D233_106 (by decide)).trans ?_
  refine ((Q_iaload zm_233 (Or.inl (by decide)) D233_107 zk_151.1 zk_151.2).trans (zdrop (zin_spec (by decide)))).trans ?_
  exact Q_calls (as := [.int (ia 151 0)]) (rest := [.int s1, .int s0]) zm_233 (Or.inl (by decide)) D233_108 zc_10_444 rfl (by decide) (by simp [zcat, Value.category]) zm_174 rfl

theorem b233_77 {d : Nat} {i1 : Int32} {i2 : Int32} {i3 : Int32} {i4 : Int32} {i5 : Int32} {i6 : Int32} {i7 : Int32} {ia : Nat → Nat → Int32} {la : Nat → Nat → Int64} {pl dr : Nat} {cp : Option Nat} {cw : Option Nat} {rp : Option Nat} {K : Option Value → zHP → Prop}  : zWP d 233 77 [some (.ref 127), some (.int i1), some (.int i2), some (.int i3), some (.int i4), some (.int i5), some (.int i6), some (.int i7)] [] (ia, la, zRA pl dr cp cw rp) K = zWP d 233 65 [some (.ref 127), some (.int i1), some (.int i2), some (.int i3), some (.int i4), some (.int i5), some (.int i6), some (.int (i7 + (1 : Int32)))] [] (ia, la, zRA pl dr cp cw rp) K := by
  refine (Q_iinc (v := 1) (ls' := [some (.ref 127), some (.int i1), some (.int i2), some (.int i3), some (.int i4), some (.int i5), some (.int i6), some (.int (i7 + (1 : Int32)))]) zm_233 (Or.inl (by decide)) D233_77 rfl rfl (by decide) rfl).trans ?_
  refine (Q_goto (tgt := 65) zm_233 (Or.inl (by decide)) D233_80 (by decide)).trans ?_
  rfl

theorem b233_111 {d : Nat} {i1 : Int32} {i2 : Int32} {i3 : Int32} {i4 : Int32} {i5 : Int32} {i6 : Int32} {i7 : Int32} {s0 : Int32} {s1 : Int32} {s2 : Int32} {ia : Nat → Nat → Int32} {la : Nat → Nat → Int64} {pl dr : Nat} {cp : Option Nat} {cw : Option Nat} {rp : Option Nat} {K : Option Value → zHP → Prop}  : zWP d 233 111 [some (.ref 127), some (.int i1), some (.int i2), some (.int i3), some (.int i4), some (.int i5), some (.int i6), some (.int i7)] [.int s2, .int s1, .int s0] (ia, la, zRA pl dr cp cw rp) K = (if (s1 - s2) < i3 then zWP d 233 41 [some (.ref 127), some (.int i1), some (.int i2), some (.int i3), some (.int i4), some (.int (s0 + (0 : Int32))), some (.int (i6 + (1 : Int32))), some (.int i7)] [] (ia, la, zRA pl dr cp cw rp) K else zWP d 233 41 [some (.ref 127), some (.int i1), some (.int i2), some (.int i3), some (.int i4), some (.int (s0 + (1 : Int32))), some (.int (i6 + (1 : Int32))), some (.int i7)] [] (ia, la, zRA pl dr cp cw rp) K) := by
  refine (Q_isub zm_233 (Or.inl (by decide)) D233_111).trans ?_
  refine (Q_iload_n zm_233 (Or.inl (by decide)) D233_112 rfl).trans ?_
  refine (Q_ic_lt (tgt := 120) zm_233 (Or.inl (by decide)) D233_113 (by decide)).trans ?_
  refine zif_c (fun h0_ => ?_) (fun h0_ => ?_)
  · refine (Q_iconst (v := 0) zm_233 (Or.inl (by decide)) D233_120 (by decide)).trans ?_
    refine (Q_iadd zm_233 (Or.inl (by decide)) D233_121).trans ?_
    refine (Q_istore (ls' := [some (.ref 127), some (.int i1), some (.int i2), some (.int i3), some (.int i4), some (.int (s0 + (0 : Int32))), some (.int i6), some (.int i7)]) zm_233 (Or.inl (by decide)) D233_122 rfl (Nat.le_of_ble_eq_true rfl) rfl).trans ?_
    refine (Q_iinc (v := 1) (ls' := [some (.ref 127), some (.int i1), some (.int i2), some (.int i3), some (.int i4), some (.int (s0 + (0 : Int32))), some (.int (i6 + (1 : Int32))), some (.int i7)]) zm_233 (Or.inl (by decide)) D233_124 rfl rfl (by decide) rfl).trans ?_
    refine (Q_goto (tgt := 41) zm_233 (Or.inl (by decide)) D233_127 (by decide)).trans ?_
    rfl
  · refine (Q_iconst (v := 1) zm_233 (Or.inl (by decide)) D233_116 (by decide)).trans ?_
    refine (Q_goto (tgt := 121) zm_233 (Or.inl (by decide)) D233_117 (by decide)).trans ?_
    refine (Q_iadd zm_233 (Or.inl (by decide)) D233_121).trans ?_
    refine (Q_istore (ls' := [some (.ref 127), some (.int i1), some (.int i2), some (.int i3), some (.int i4), some (.int (s0 + (1 : Int32))), some (.int i6), some (.int i7)]) zm_233 (Or.inl (by decide)) D233_122 rfl (Nat.le_of_ble_eq_true rfl) rfl).trans ?_
    refine (Q_iinc (v := 1) (ls' := [some (.ref 127), some (.int i1), some (.int i2), some (.int i3), some (.int i4), some (.int (s0 + (1 : Int32))), some (.int (i6 + (1 : Int32))), some (.int i7)]) zm_233 (Or.inl (by decide)) D233_124 rfl rfl (by decide) rfl).trans ?_
    refine (Q_goto (tgt := 41) zm_233 (Or.inl (by decide)) D233_127 (by decide)).trans ?_
    rfl

/-! HandsLetModel.tried(III)I -/
theorem D234_0 : decode prog_12_method_108_code 0 = .ok (.aload_n 0, 1) := by decide +kernel
theorem D234_1 : decode prog_12_method_108_code 1 = .ok (.iconst 0, 1) := by decide +kernel
theorem D234_2 : decode prog_12_method_108_code 2 = .ok (.putfield 151, 3) := by decide +kernel
theorem D234_5 : decode prog_12_method_108_code 5 = .ok (.iload_n 1, 1) := by decide +kernel
theorem D234_6 : decode prog_12_method_108_code 6 = .ok (.iconst 2, 1) := by decide +kernel
theorem D234_7 : decode prog_12_method_108_code 7 = .ok (.if_icmp .ne 11, 3) := by decide +kernel
theorem D234_10 : decode prog_12_method_108_code 10 = .ok (.aload_n 0, 1) := by decide +kernel
theorem D234_11 : decode prog_12_method_108_code 11 = .ok (.iload_n 2, 1) := by decide +kernel
theorem D234_12 : decode prog_12_method_108_code 12 = .ok (.invokevirtual 413, 3) := by decide +kernel
theorem D234_15 : decode prog_12_method_108_code 15 = .ok (.goto 21, 3) := by decide +kernel
theorem D234_18 : decode prog_12_method_108_code 18 = .ok (.iload_n 1, 1) := by decide +kernel
theorem D234_19 : decode prog_12_method_108_code 19 = .ok (.ifCond .lt 16, 3) := by decide +kernel
theorem D234_22 : decode prog_12_method_108_code 22 = .ok (.iload_n 1, 1) := by decide +kernel
theorem D234_23 : decode prog_12_method_108_code 23 = .ok (.iconst 4, 1) := by decide +kernel
theorem D234_24 : decode prog_12_method_108_code 24 = .ok (.if_icmp .gt 11, 3) := by decide +kernel
theorem D234_27 : decode prog_12_method_108_code 27 = .ok (.iload_n 2, 1) := by decide +kernel
theorem D234_28 : decode prog_12_method_108_code 28 = .ok (.ifCond .ne 7, 3) := by decide +kernel
theorem D234_31 : decode prog_12_method_108_code 31 = .ok (.iconst 1, 1) := by decide +kernel
theorem D234_32 : decode prog_12_method_108_code 32 = .ok (.goto 4, 3) := by decide +kernel
theorem D234_35 : decode prog_12_method_108_code 35 = .ok (.iconst 0, 1) := by decide +kernel
theorem D234_36 : decode prog_12_method_108_code 36 = .ok (.istore 4, 2) := by decide +kernel
theorem D234_38 : decode prog_12_method_108_code 38 = .ok (.iload 4, 2) := by decide +kernel
theorem D234_40 : decode prog_12_method_108_code 40 = .ok (.ifCond .eq 14, 3) := by decide +kernel
theorem D234_43 : decode prog_12_method_108_code 43 = .ok (.iload_n 3, 1) := by decide +kernel
theorem D234_44 : decode prog_12_method_108_code 44 = .ok (.ifCond .lt 10, 3) := by decide +kernel
theorem D234_47 : decode prog_12_method_108_code 47 = .ok (.iload_n 3, 1) := by decide +kernel
theorem D234_48 : decode prog_12_method_108_code 48 = .ok (.sipush 200, 3) := by decide +kernel
theorem D234_51 : decode prog_12_method_108_code 51 = .ok (.if_icmp .le 5, 3) := by decide +kernel
theorem D234_54 : decode prog_12_method_108_code 54 = .ok (.iconst (-1), 1) := by decide +kernel
theorem D234_55 : decode prog_12_method_108_code 55 = .ok (.ireturn, 1) := by decide +kernel
theorem D234_56 : decode prog_12_method_108_code 56 = .ok (.aload_n 0, 1) := by decide +kernel
theorem D234_57 : decode prog_12_method_108_code 57 = .ok (.iconst 1, 1) := by decide +kernel
theorem D234_58 : decode prog_12_method_108_code 58 = .ok (.iconst 0, 1) := by decide +kernel
theorem D234_59 : decode prog_12_method_108_code 59 = .ok (.invokevirtual 429, 3) := by decide +kernel
theorem D234_62 : decode prog_12_method_108_code 62 = .ok (.aload_n 0, 1) := by decide +kernel
theorem D234_63 : decode prog_12_method_108_code 63 = .ok (.iload_n 1, 1) := by decide +kernel
theorem D234_64 : decode prog_12_method_108_code 64 = .ok (.ifCond .ne 7, 3) := by decide +kernel
theorem D234_67 : decode prog_12_method_108_code 67 = .ok (.iconst 5, 1) := by decide +kernel
theorem D234_68 : decode prog_12_method_108_code 68 = .ok (.goto 4, 3) := by decide +kernel
theorem D234_71 : decode prog_12_method_108_code 71 = .ok (.iload_n 1, 1) := by decide +kernel
theorem D234_72 : decode prog_12_method_108_code 72 = .ok (.putfield 357, 3) := by decide +kernel
theorem D234_75 : decode prog_12_method_108_code 75 = .ok (.aload_n 0, 1) := by decide +kernel
theorem D234_76 : decode prog_12_method_108_code 76 = .ok (.iload_n 2, 1) := by decide +kernel
theorem D234_77 : decode prog_12_method_108_code 77 = .ok (.putfield 108, 3) := by decide +kernel
theorem D234_80 : decode prog_12_method_108_code 80 = .ok (.aload_n 0, 1) := by decide +kernel
theorem D234_81 : decode prog_12_method_108_code 81 = .ok (.iload_n 3, 1) := by decide +kernel
theorem D234_82 : decode prog_12_method_108_code 82 = .ok (.invokevirtual 441, 3) := by decide +kernel
theorem D234_85 : decode prog_12_method_108_code 85 = .ok (.aload_n 0, 1) := by decide +kernel
theorem D234_86 : decode prog_12_method_108_code 86 = .ok (.iconst 0, 1) := by decide +kernel
theorem D234_87 : decode prog_12_method_108_code 87 = .ok (.putfield 357, 3) := by decide +kernel
theorem D234_90 : decode prog_12_method_108_code 90 = .ok (.aload_n 0, 1) := by decide +kernel
theorem D234_91 : decode prog_12_method_108_code 91 = .ok (.iconst (-1), 1) := by decide +kernel
theorem D234_92 : decode prog_12_method_108_code 92 = .ok (.putfield 108, 3) := by decide +kernel
theorem D234_95 : decode prog_12_method_108_code 95 = .ok (.aload_n 0, 1) := by decide +kernel
theorem D234_96 : decode prog_12_method_108_code 96 = .ok (.iconst 1, 1) := by decide +kernel
theorem D234_97 : decode prog_12_method_108_code 97 = .ok (.invokevirtual 498, 3) := by decide +kernel
theorem D234_100 : decode prog_12_method_108_code 100 = .ok (.ireturn, 1) := by decide +kernel

theorem b234_0 {d : Nat} {i1 : Int32} {i2 : Int32} {i3 : Int32} {ia : Nat → Nat → Int32} {la : Nat → Nat → Int64} {pl dr : Nat} {cp : Option Nat} {cw : Option Nat} {rp : Option Nat} {K : Option Value → zHP → Prop}  : zWP (d + 1) 234 0 [some (.ref 127), some (.int i1), some (.int i2), some (.int i3), none] [] (ia, la, zRA pl dr cp cw rp) K = (if ¬ i1 = (2 : Int32) then (if i1 < 0 then zWP (d + 1) 234 35 [some (.ref 127), some (.int i1), some (.int i2), some (.int i3), none] [] ((zu ia 127 0 (0 : Int32)), la, zRA pl dr cp cw rp) K else (if (4 : Int32) < i1 then zWP (d + 1) 234 35 [some (.ref 127), some (.int i1), some (.int i2), some (.int i3), none] [] ((zu ia 127 0 (0 : Int32)), la, zRA pl dr cp cw rp) K else (if ¬ i2 = 0 then zWP (d + 1) 234 35 [some (.ref 127), some (.int i1), some (.int i2), some (.int i3), none] [] ((zu ia 127 0 (0 : Int32)), la, zRA pl dr cp cw rp) K else zWP (d + 1) 234 36 [some (.ref 127), some (.int i1), some (.int i2), some (.int i3), none] [.int (1 : Int32)] ((zu ia 127 0 (0 : Int32)), la, zRA pl dr cp cw rp) K))) else zWM d 171 [.ref 127, .int i2] ((zu ia 127 0 (0 : Int32)), la, zRA pl dr cp cw rp) (zK (d + 1) 234 15 [some (.ref 127), some (.int i1), some (.int i2), some (.int i3), none] [] K)) := by
  refine (Q_aload_n zm_234 (Or.inl (by decide)) D234_0 rfl).trans ?_
  refine (Q_iconst (v := 0) zm_234 (Or.inl (by decide)) D234_1 (by decide)).trans ?_
  refine (Q_putI zm_234 (Or.inl (by decide)) D234_2 zf_10_151 zs_10_0 rfl zk_127.1).trans ?_
  refine (Q_iload_n zm_234 (Or.inl (by decide)) D234_5 rfl).trans ?_
  refine (Q_iconst (v := 2) zm_234 (Or.inl (by decide)) D234_6 (by decide)).trans ?_
  refine (Q_ic_ne (tgt := 18) zm_234 (Or.inl (by decide)) D234_7 (by decide)).trans ?_
  refine zif_c (fun h0_ => ?_) (fun h0_ => ?_)
  · refine (Q_iload_n zm_234 (Or.inl (by decide)) D234_18 rfl).trans ?_
    refine (Q_if_lt (tgt := 35) zm_234 (Or.inl (by decide)) D234_19 (by decide)).trans ?_
    refine zif_c (fun h1_ => ?_) (fun h1_ => ?_)
    · rfl
    · refine (Q_iload_n zm_234 (Or.inl (by decide)) D234_22 rfl).trans ?_
      refine (Q_iconst (v := 4) zm_234 (Or.inl (by decide)) D234_23 (by decide)).trans ?_
      refine (Q_ic_gt (tgt := 35) zm_234 (Or.inl (by decide)) D234_24 (by decide)).trans ?_
      refine zif_c (fun h2_ => ?_) (fun h2_ => ?_)
      · rfl
      · refine (Q_iload_n zm_234 (Or.inl (by decide)) D234_27 rfl).trans ?_
        refine (Q_if_ne (tgt := 35) zm_234 (Or.inl (by decide)) D234_28 (by decide)).trans ?_
        refine zif_c (fun h3_ => ?_) (fun h3_ => ?_)
        · rfl
        · refine (Q_iconst (v := 1) zm_234 (Or.inl (by decide)) D234_31 (by decide)).trans ?_
          refine (Q_goto (tgt := 36) zm_234 (Or.inl (by decide)) D234_32 (by decide)).trans ?_
          rfl
  · refine (Q_aload_n zm_234 (Or.inl (by decide)) D234_10 rfl).trans ?_
    refine (Q_iload_n zm_234 (Or.inl (by decide)) D234_11 rfl).trans ?_
    exact Q_callv (as := [.int i2]) (b := 127) (rest := []) zm_234 (Or.inl (by decide)) D234_12 zc_10_413 rfl zk_127.1 (by decide) (by decide +kernel) (by decide) (by simp [zcat, Value.category]) zm_171 rfl

theorem b234_35 {d : Nat} {i1 : Int32} {i2 : Int32} {i3 : Int32} {ia : Nat → Nat → Int32} {la : Nat → Nat → Int64} {pl dr : Nat} {cp : Option Nat} {cw : Option Nat} {rp : Option Nat} {K : Option Value → zHP → Prop}  : zWP d 234 35 [some (.ref 127), some (.int i1), some (.int i2), some (.int i3), none] [] (ia, la, zRA pl dr cp cw rp) K = zWP d 234 36 [some (.ref 127), some (.int i1), some (.int i2), some (.int i3), none] [.int (0 : Int32)] (ia, la, zRA pl dr cp cw rp) K := by
  refine (Q_iconst (v := 0) zm_234 (Or.inl (by decide)) D234_35 (by decide)).trans ?_
  rfl

theorem b234_36 {d : Nat} {i1 : Int32} {i2 : Int32} {i3 : Int32} {s0 : Int32} {ia : Nat → Nat → Int32} {la : Nat → Nat → Int64} {pl dr : Nat} {cp : Option Nat} {cw : Option Nat} {rp : Option Nat} {K : Option Value → zHP → Prop}  : zWP (d + 1) 234 36 [some (.ref 127), some (.int i1), some (.int i2), some (.int i3), none] [.int s0] (ia, la, zRA pl dr cp cw rp) K = (if s0 = 0 then K (some (.int (-1 : Int32))) (ia, la, zRA pl dr cp cw rp) else (if i3 < 0 then K (some (.int (-1 : Int32))) (ia, la, zRA pl dr cp cw rp) else (if i3 ≤ (200 : Int32) then zWM d 170 [.ref 127, .int (1 : Int32), .int (0 : Int32)] (ia, la, zRA pl dr cp cw rp) (zK (d + 1) 234 62 [some (.ref 127), some (.int i1), some (.int i2), some (.int i3), some (.int s0)] [] K) else K (some (.int (-1 : Int32))) (ia, la, zRA pl dr cp cw rp)))) := by
  refine (Q_istore (ls' := [some (.ref 127), some (.int i1), some (.int i2), some (.int i3), some (.int s0)]) zm_234 (Or.inl (by decide)) D234_36 rfl (Nat.le_of_ble_eq_true rfl) rfl).trans ?_
  refine (Q_iload zm_234 (Or.inl (by decide)) D234_38 rfl).trans ?_
  refine (Q_if_eq (tgt := 54) zm_234 (Or.inl (by decide)) D234_40 (by decide)).trans ?_
  refine zif_c (fun h0_ => ?_) (fun h0_ => ?_)
  · refine (Q_iconst (v := -1) zm_234 (Or.inl (by decide)) D234_54 (by decide)).trans ?_
    exact Q_ireturn zm_234 (Or.inl (by decide)) D234_55 rfl
  · refine (Q_iload_n zm_234 (Or.inl (by decide)) D234_43 rfl).trans ?_
    refine (Q_if_lt (tgt := 54) zm_234 (Or.inl (by decide)) D234_44 (by decide)).trans ?_
    refine zif_c (fun h1_ => ?_) (fun h1_ => ?_)
    · refine (Q_iconst (v := -1) zm_234 (Or.inl (by decide)) D234_54 (by decide)).trans ?_
      exact Q_ireturn zm_234 (Or.inl (by decide)) D234_55 rfl
    · refine (Q_iload_n zm_234 (Or.inl (by decide)) D234_47 rfl).trans ?_
      refine (Q_sipush (v := 200) zm_234 (Or.inl (by decide)) D234_48 (by decide)).trans ?_
      refine (Q_ic_le (tgt := 56) zm_234 (Or.inl (by decide)) D234_51 (by decide)).trans ?_
      refine zif_c (fun h2_ => ?_) (fun h2_ => ?_)
      · refine (Q_aload_n zm_234 (Or.inl (by decide)) D234_56 rfl).trans ?_
        refine (Q_iconst (v := 1) zm_234 (Or.inl (by decide)) D234_57 (by decide)).trans ?_
        refine (Q_iconst (v := 0) zm_234 (Or.inl (by decide)) D234_58 (by decide)).trans ?_
        exact Q_callv (as := [.int (1 : Int32), .int (0 : Int32)]) (b := 127) (rest := []) zm_234 (Or.inl (by decide)) D234_59 zc_10_429 rfl zk_127.1 (by decide) (by decide +kernel) (by decide) (by simp [zcat, Value.category]) zm_170 rfl
      · refine (Q_iconst (v := -1) zm_234 (Or.inl (by decide)) D234_54 (by decide)).trans ?_
        exact Q_ireturn zm_234 (Or.inl (by decide)) D234_55 rfl

theorem b234_15 {d : Nat} {i1 : Int32} {i2 : Int32} {i3 : Int32} {s0 : Int32} {ia : Nat → Nat → Int32} {la : Nat → Nat → Int64} {pl dr : Nat} {cp : Option Nat} {cw : Option Nat} {rp : Option Nat} {K : Option Value → zHP → Prop}  : zWP d 234 15 [some (.ref 127), some (.int i1), some (.int i2), some (.int i3), none] [.int s0] (ia, la, zRA pl dr cp cw rp) K = zWP d 234 36 [some (.ref 127), some (.int i1), some (.int i2), some (.int i3), none] [.int s0] (ia, la, zRA pl dr cp cw rp) K := by
  refine (Q_goto (tgt := 36) zm_234 (Or.inl (by decide)) D234_15 (by decide)).trans ?_
  rfl

theorem b234_62 {d : Nat} {i1 : Int32} {i2 : Int32} {i3 : Int32} {i4 : Int32} {ia : Nat → Nat → Int32} {la : Nat → Nat → Int64} {pl dr : Nat} {cp : Option Nat} {cw : Option Nat} {rp : Option Nat} {K : Option Value → zHP → Prop}  : zWP (d + 1) 234 62 [some (.ref 127), some (.int i1), some (.int i2), some (.int i3), some (.int i4)] [] (ia, la, zRA pl dr cp cw rp) K = (if ¬ i1 = 0 then zWM d 186 [.ref 127, .int i3] ((zu (zu ia 127 49 i1) 127 50 i2), la, zRA pl dr cp cw rp) (zK (d + 1) 234 85 [some (.ref 127), some (.int i1), some (.int i2), some (.int i3), some (.int i4)] [] K) else zWM d 186 [.ref 127, .int i3] ((zu (zu ia 127 49 (5 : Int32)) 127 50 i2), la, zRA pl dr cp cw rp) (zK (d + 1) 234 85 [some (.ref 127), some (.int i1), some (.int i2), some (.int i3), some (.int i4)] [] K)) := by
  refine (Q_aload_n zm_234 (Or.inl (by decide)) D234_62 rfl).trans ?_
  refine (Q_iload_n zm_234 (Or.inl (by decide)) D234_63 rfl).trans ?_
  refine (Q_if_ne (tgt := 71) zm_234 (Or.inl (by decide)) D234_64 (by decide)).trans ?_
  refine zif_c (fun h0_ => ?_) (fun h0_ => ?_)
  · refine (Q_iload_n zm_234 (Or.inl (by decide)) D234_71 rfl).trans ?_
    refine (Q_putI zm_234 (Or.inl (by decide)) D234_72 zf_10_357 zs_10_49 rfl zk_127.1).trans ?_
    refine (Q_aload_n zm_234 (Or.inl (by decide)) D234_75 rfl).trans ?_
    refine (Q_iload_n zm_234 (Or.inl (by decide)) D234_76 rfl).trans ?_
    refine (Q_putI zm_234 (Or.inl (by decide)) D234_77 zf_10_108 zs_10_50 rfl zk_127.1).trans ?_
    refine (Q_aload_n zm_234 (Or.inl (by decide)) D234_80 rfl).trans ?_
    refine (Q_iload_n zm_234 (Or.inl (by decide)) D234_81 rfl).trans ?_
    exact Q_callv (as := [.int i3]) (b := 127) (rest := []) zm_234 (Or.inl (by decide)) D234_82 zc_10_441 rfl zk_127.1 (by decide) (by decide +kernel) (by decide) (by simp [zcat, Value.category]) zm_186 rfl
  · refine (Q_iconst (v := 5) zm_234 (Or.inl (by decide)) D234_67 (by decide)).trans ?_
    refine (Q_goto (tgt := 72) zm_234 (Or.inl (by decide)) D234_68 (by decide)).trans ?_
    refine (Q_putI zm_234 (Or.inl (by decide)) D234_72 zf_10_357 zs_10_49 rfl zk_127.1).trans ?_
    refine (Q_aload_n zm_234 (Or.inl (by decide)) D234_75 rfl).trans ?_
    refine (Q_iload_n zm_234 (Or.inl (by decide)) D234_76 rfl).trans ?_
    refine (Q_putI zm_234 (Or.inl (by decide)) D234_77 zf_10_108 zs_10_50 rfl zk_127.1).trans ?_
    refine (Q_aload_n zm_234 (Or.inl (by decide)) D234_80 rfl).trans ?_
    refine (Q_iload_n zm_234 (Or.inl (by decide)) D234_81 rfl).trans ?_
    exact Q_callv (as := [.int i3]) (b := 127) (rest := []) zm_234 (Or.inl (by decide)) D234_82 zc_10_441 rfl zk_127.1 (by decide) (by decide +kernel) (by decide) (by simp [zcat, Value.category]) zm_186 rfl

theorem b234_85 {d : Nat} {i1 : Int32} {i2 : Int32} {i3 : Int32} {i4 : Int32} {ia : Nat → Nat → Int32} {la : Nat → Nat → Int64} {pl dr : Nat} {cp : Option Nat} {cw : Option Nat} {rp : Option Nat} {K : Option Value → zHP → Prop}  : zWP (d + 1) 234 85 [some (.ref 127), some (.int i1), some (.int i2), some (.int i3), some (.int i4)] [] (ia, la, zRA pl dr cp cw rp) K = zWM d 188 [.ref 127, .int (1 : Int32)] ((zu (zu ia 127 49 (0 : Int32)) 127 50 (-1 : Int32)), la, zRA pl dr cp cw rp) (zK (d + 1) 234 100 [some (.ref 127), some (.int i1), some (.int i2), some (.int i3), some (.int i4)] [] K) := by
  refine (Q_aload_n zm_234 (Or.inl (by decide)) D234_85 rfl).trans ?_
  refine (Q_iconst (v := 0) zm_234 (Or.inl (by decide)) D234_86 (by decide)).trans ?_
  refine (Q_putI zm_234 (Or.inl (by decide)) D234_87 zf_10_357 zs_10_49 rfl zk_127.1).trans ?_
  refine (Q_aload_n zm_234 (Or.inl (by decide)) D234_90 rfl).trans ?_
  refine (Q_iconst (v := -1) zm_234 (Or.inl (by decide)) D234_91 (by decide)).trans ?_
  refine (Q_putI zm_234 (Or.inl (by decide)) D234_92 zf_10_108 zs_10_50 rfl zk_127.1).trans ?_
  refine (Q_aload_n zm_234 (Or.inl (by decide)) D234_95 rfl).trans ?_
  refine (Q_iconst (v := 1) zm_234 (Or.inl (by decide)) D234_96 (by decide)).trans ?_
  exact Q_callv (as := [.int (1 : Int32)]) (b := 127) (rest := []) zm_234 (Or.inl (by decide)) D234_97 zc_10_498 rfl zk_127.1 (by decide) (by decide +kernel) (by decide) (by simp [zcat, Value.category]) zm_188 rfl

theorem b234_100 {d : Nat} {i1 : Int32} {i2 : Int32} {i3 : Int32} {i4 : Int32} {s0 : Int32} {ia : Nat → Nat → Int32} {la : Nat → Nat → Int64} {pl dr : Nat} {cp : Option Nat} {cw : Option Nat} {rp : Option Nat} {K : Option Value → zHP → Prop}  : zWP d 234 100 [some (.ref 127), some (.int i1), some (.int i2), some (.int i3), some (.int i4)] [.int s0] (ia, la, zRA pl dr cp cw rp) K = K (some (.int s0)) (ia, la, zRA pl dr cp cw rp) := by
  exact Q_ireturn zm_234 (Or.inl (by decide)) D234_100 rfl

/-! HandsLetModel.undo()I -/
theorem D235_0 : decode prog_12_method_109_code 0 = .ok (.aload_n 0, 1) := by decide +kernel
theorem D235_1 : decode prog_12_method_109_code 1 = .ok (.iconst 0, 1) := by decide +kernel
theorem D235_2 : decode prog_12_method_109_code 2 = .ok (.putfield 151, 3) := by decide +kernel
theorem D235_5 : decode prog_12_method_109_code 5 = .ok (.aload_n 0, 1) := by decide +kernel
theorem D235_6 : decode prog_12_method_109_code 6 = .ok (.getfield 314, 3) := by decide +kernel
theorem D235_9 : decode prog_12_method_109_code 9 = .ok (.ifCond .ne 5, 3) := by decide +kernel
theorem D235_12 : decode prog_12_method_109_code 12 = .ok (.iconst (-1), 1) := by decide +kernel
theorem D235_13 : decode prog_12_method_109_code 13 = .ok (.ireturn, 1) := by decide +kernel
theorem D235_14 : decode prog_12_method_109_code 14 = .ok (.aload_n 0, 1) := by decide +kernel
theorem D235_15 : decode prog_12_method_109_code 15 = .ok (.dup, 1) := by decide +kernel
theorem D235_16 : decode prog_12_method_109_code 16 = .ok (.getfield 314, 3) := by decide +kernel
theorem D235_19 : decode prog_12_method_109_code 19 = .ok (.iconst 1, 1) := by decide +kernel
theorem D235_20 : decode prog_12_method_109_code 20 = .ok (.isub, 1) := by decide +kernel
theorem D235_21 : decode prog_12_method_109_code 21 = .ok (.putfield 314, 3) := by decide +kernel
theorem D235_24 : decode prog_12_method_109_code 24 = .ok (.aload_n 0, 1) := by decide +kernel
theorem D235_25 : decode prog_12_method_109_code 25 = .ok (.iconst 0, 1) := by decide +kernel
theorem D235_26 : decode prog_12_method_109_code 26 = .ok (.iconst 3, 1) := by decide +kernel
theorem D235_27 : decode prog_12_method_109_code 27 = .ok (.aload_n 0, 1) := by decide +kernel
theorem D235_28 : decode prog_12_method_109_code 28 = .ok (.getfield 314, 3) := by decide +kernel
theorem D235_31 : decode prog_12_method_109_code 31 = .ok (.iadd, 1) := by decide +kernel
theorem D235_32 : decode prog_12_method_109_code 32 = .ok (.invokevirtual 429, 3) := by decide +kernel
theorem D235_35 : decode prog_12_method_109_code 35 = .ok (.aload_n 0, 1) := by decide +kernel
theorem D235_36 : decode prog_12_method_109_code 36 = .ok (.getfield 314, 3) := by decide +kernel
theorem D235_39 : decode prog_12_method_109_code 39 = .ok (.ireturn, 1) := by decide +kernel

theorem b235_0 {d : Nat}  {ia : Nat → Nat → Int32} {la : Nat → Nat → Int64} {pl dr : Nat} {cp : Option Nat} {cw : Option Nat} {rp : Option Nat} {K : Option Value → zHP → Prop}  : zWP (d + 1) 235 0 [some (.ref 127)] [] (ia, la, zRA pl dr cp cw rp) K = (if ¬ ((zu ia 127 0 (0 : Int32)) 127 48) = 0 then zWM d 170 [.ref 127, .int (0 : Int32), .int ((3 : Int32) + ((zu (zu ia 127 0 (0 : Int32)) 127 48 (((zu ia 127 0 (0 : Int32)) 127 48) - (1 : Int32))) 127 48))] ((zu (zu ia 127 0 (0 : Int32)) 127 48 (((zu ia 127 0 (0 : Int32)) 127 48) - (1 : Int32))), la, zRA pl dr cp cw rp) (zK (d + 1) 235 35 [some (.ref 127)] [] K) else K (some (.int (-1 : Int32))) ((zu ia 127 0 (0 : Int32)), la, zRA pl dr cp cw rp)) := by
  refine (Q_aload_n zm_235 (Or.inl (by decide)) D235_0 rfl).trans ?_
  refine (Q_iconst (v := 0) zm_235 (Or.inl (by decide)) D235_1 (by decide)).trans ?_
  refine (Q_putI zm_235 (Or.inl (by decide)) D235_2 zf_10_151 zs_10_0 rfl zk_127.1).trans ?_
  refine (Q_aload_n zm_235 (Or.inl (by decide)) D235_5 rfl).trans ?_
  refine (Q_getI zm_235 (Or.inl (by decide)) D235_6 zf_10_314 (Or.inl zs_10_48) zk_127.1).trans ?_
  refine (Q_if_ne (tgt := 14) zm_235 (Or.inl (by decide)) D235_9 (by decide)).trans ?_
  refine zif_c (fun h0_ => ?_) (fun h0_ => ?_)
  · refine (Q_aload_n zm_235 (Or.inl (by decide)) D235_14 rfl).trans ?_
    refine (Q_dup zm_235 (Or.inl (by decide)) D235_15 rfl).trans ?_
    refine (Q_getI zm_235 (Or.inl (by decide)) D235_16 zf_10_314 (Or.inl zs_10_48) zk_127.1).trans ?_
    refine (Q_iconst (v := 1) zm_235 (Or.inl (by decide)) D235_19 (by decide)).trans ?_
    refine (Q_isub zm_235 (Or.inl (by decide)) D235_20).trans ?_
    refine (Q_putI zm_235 (Or.inl (by decide)) D235_21 zf_10_314 zs_10_48 rfl zk_127.1).trans ?_
    refine (Q_aload_n zm_235 (Or.inl (by decide)) D235_24 rfl).trans ?_
    refine (Q_iconst (v := 0) zm_235 (Or.inl (by decide)) D235_25 (by decide)).trans ?_
    refine (Q_iconst (v := 3) zm_235 (Or.inl (by decide)) D235_26 (by decide)).trans ?_
    refine (Q_aload_n zm_235 (Or.inl (by decide)) D235_27 rfl).trans ?_
    refine (Q_getI zm_235 (Or.inl (by decide)) D235_28 zf_10_314 (Or.inl zs_10_48) zk_127.1).trans ?_
    refine (Q_iadd zm_235 (Or.inl (by decide)) D235_31).trans ?_
    exact Q_callv (as := [.int (0 : Int32), .int ((3 : Int32) + ((zu (zu ia 127 0 (0 : Int32)) 127 48 (((zu ia 127 0 (0 : Int32)) 127 48) - (1 : Int32))) 127 48))]) (b := 127) (rest := []) zm_235 (Or.inl (by decide)) D235_32 zc_10_429 rfl zk_127.1 (by decide) (by decide +kernel) (by decide) (by simp [zcat, Value.category]) zm_170 rfl
  · refine (Q_iconst (v := -1) zm_235 (Or.inl (by decide)) D235_12 (by decide)).trans ?_
    exact Q_ireturn zm_235 (Or.inl (by decide)) D235_13 rfl

theorem b235_35 {d : Nat}  {ia : Nat → Nat → Int32} {la : Nat → Nat → Int64} {pl dr : Nat} {cp : Option Nat} {cw : Option Nat} {rp : Option Nat} {K : Option Value → zHP → Prop}  : zWP d 235 35 [some (.ref 127)] [] (ia, la, zRA pl dr cp cw rp) K = K (some (.int (ia 127 48))) (ia, la, zRA pl dr cp cw rp) := by
  refine (Q_aload_n zm_235 (Or.inl (by decide)) D235_35 rfl).trans ?_
  refine (Q_getI zm_235 (Or.inl (by decide)) D235_36 zf_10_314 (Or.inl zs_10_48) zk_127.1).trans ?_
  exact Q_ireturn zm_235 (Or.inl (by decide)) D235_39 rfl

/-! HandsLetModel.keep()I -/
theorem D236_0 : decode prog_12_method_110_code 0 = .ok (.aload_n 0, 1) := by decide +kernel
theorem D236_1 : decode prog_12_method_110_code 1 = .ok (.iconst 0, 1) := by decide +kernel
theorem D236_2 : decode prog_12_method_110_code 2 = .ok (.putfield 151, 3) := by decide +kernel
theorem D236_5 : decode prog_12_method_110_code 5 = .ok (.aload_n 0, 1) := by decide +kernel
theorem D236_6 : decode prog_12_method_110_code 6 = .ok (.iconst 2, 1) := by decide +kernel
theorem D236_7 : decode prog_12_method_110_code 7 = .ok (.iconst 0, 1) := by decide +kernel
theorem D236_8 : decode prog_12_method_110_code 8 = .ok (.invokevirtual 429, 3) := by decide +kernel
theorem D236_11 : decode prog_12_method_110_code 11 = .ok (.aload_n 0, 1) := by decide +kernel
theorem D236_12 : decode prog_12_method_110_code 12 = .ok (.iconst 1, 1) := by decide +kernel
theorem D236_13 : decode prog_12_method_110_code 13 = .ok (.putfield 310, 3) := by decide +kernel
theorem D236_16 : decode prog_12_method_110_code 16 = .ok (.aload_n 0, 1) := by decide +kernel
theorem D236_17 : decode prog_12_method_110_code 17 = .ok (.getfield 72, 3) := by decide +kernel
theorem D236_20 : decode prog_12_method_110_code 20 = .ok (.iconst 0, 1) := by decide +kernel
theorem D236_21 : decode prog_12_method_110_code 21 = .ok (.iaload, 1) := by decide +kernel
theorem D236_22 : decode prog_12_method_110_code 22 = .ok (.ireturn, 1) := by decide +kernel

theorem b236_0 {d : Nat}  {ia : Nat → Nat → Int32} {la : Nat → Nat → Int64} {pl dr : Nat} {cp : Option Nat} {cw : Option Nat} {rp : Option Nat} {K : Option Value → zHP → Prop}  : zWP (d + 1) 236 0 [some (.ref 127)] [] (ia, la, zRA pl dr cp cw rp) K = zWM d 170 [.ref 127, .int (2 : Int32), .int (0 : Int32)] ((zu ia 127 0 (0 : Int32)), la, zRA pl dr cp cw rp) (zK (d + 1) 236 11 [some (.ref 127)] [] K) := by
  refine (Q_aload_n zm_236 (Or.inl (by decide)) D236_0 rfl).trans ?_
  refine (Q_iconst (v := 0) zm_236 (Or.inl (by decide)) D236_1 (by decide)).trans ?_
  refine (Q_putI zm_236 (Or.inl (by decide)) D236_2 zf_10_151 zs_10_0 rfl zk_127.1).trans ?_
  refine (Q_aload_n zm_236 (Or.inl (by decide)) D236_5 rfl).trans ?_
  refine (Q_iconst (v := 2) zm_236 (Or.inl (by decide)) D236_6 (by decide)).trans ?_
  refine (Q_iconst (v := 0) zm_236 (Or.inl (by decide)) D236_7 (by decide)).trans ?_
  exact Q_callv (as := [.int (2 : Int32), .int (0 : Int32)]) (b := 127) (rest := []) zm_236 (Or.inl (by decide)) D236_8 zc_10_429 rfl zk_127.1 (by decide) (by decide +kernel) (by decide) (by simp [zcat, Value.category]) zm_170 rfl

theorem b236_11 {d : Nat}  {ia : Nat → Nat → Int32} {la : Nat → Nat → Int64} {pl dr : Nat} {cp : Option Nat} {cw : Option Nat} {rp : Option Nat} {K : Option Value → zHP → Prop}  : zWP d 236 11 [some (.ref 127)] [] (ia, la, zRA pl dr cp cw rp) K = K (some (.int ((zu ia 127 47 (1 : Int32)) 147 0))) ((zu ia 127 47 (1 : Int32)), la, zRA pl dr cp cw rp) := by
  refine (Q_aload_n zm_236 (Or.inl (by decide)) D236_11 rfl).trans ?_
  refine (Q_iconst (v := 1) zm_236 (Or.inl (by decide)) D236_12 (by decide)).trans ?_
  refine (Q_putZ zm_236 (Or.inl (by decide)) D236_13 zf_10_310 zs_10_47 rfl zk_127.1 (by decide)).trans ?_
  refine (Q_aload_n zm_236 (Or.inl (by decide)) D236_16 rfl).trans ?_
  refine (Q_getR (q := 147) zm_236 (Or.inl (by decide)) D236_17 zf_10_72 zs_10_35 zk_127.1 rfl).trans ?_
  refine (Q_iconst (v := 0) zm_236 (Or.inl (by decide)) D236_20 (by decide)).trans ?_
  refine ((Q_iaload zm_236 (Or.inl (by decide)) D236_21 zk_147.1 zk_147.2).trans (zdrop (zin_spec (by decide)))).trans ?_
  exact Q_ireturn zm_236 (Or.inl (by decide)) D236_22 rfl

/-! HandsLetModel.back()I -/
theorem D237_0 : decode prog_12_method_111_code 0 = .ok (.aload_n 0, 1) := by decide +kernel
theorem D237_1 : decode prog_12_method_111_code 1 = .ok (.iconst 0, 1) := by decide +kernel
theorem D237_2 : decode prog_12_method_111_code 2 = .ok (.putfield 151, 3) := by decide +kernel
theorem D237_5 : decode prog_12_method_111_code 5 = .ok (.aload_n 0, 1) := by decide +kernel
theorem D237_6 : decode prog_12_method_111_code 6 = .ok (.getfield 310, 3) := by decide +kernel
theorem D237_9 : decode prog_12_method_111_code 9 = .ok (.ifCond .ne 5, 3) := by decide +kernel
theorem D237_12 : decode prog_12_method_111_code 12 = .ok (.iconst (-1), 1) := by decide +kernel
theorem D237_13 : decode prog_12_method_111_code 13 = .ok (.ireturn, 1) := by decide +kernel
theorem D237_14 : decode prog_12_method_111_code 14 = .ok (.aload_n 0, 1) := by decide +kernel
theorem D237_15 : decode prog_12_method_111_code 15 = .ok (.iconst 0, 1) := by decide +kernel
theorem D237_16 : decode prog_12_method_111_code 16 = .ok (.iconst 2, 1) := by decide +kernel
theorem D237_17 : decode prog_12_method_111_code 17 = .ok (.invokevirtual 429, 3) := by decide +kernel
theorem D237_20 : decode prog_12_method_111_code 20 = .ok (.aload_n 0, 1) := by decide +kernel
theorem D237_21 : decode prog_12_method_111_code 21 = .ok (.iconst 0, 1) := by decide +kernel
theorem D237_22 : decode prog_12_method_111_code 22 = .ok (.putfield 314, 3) := by decide +kernel
theorem D237_25 : decode prog_12_method_111_code 25 = .ok (.aload_n 0, 1) := by decide +kernel
theorem D237_26 : decode prog_12_method_111_code 26 = .ok (.getfield 72, 3) := by decide +kernel
theorem D237_29 : decode prog_12_method_111_code 29 = .ok (.iconst 0, 1) := by decide +kernel
theorem D237_30 : decode prog_12_method_111_code 30 = .ok (.iaload, 1) := by decide +kernel
theorem D237_31 : decode prog_12_method_111_code 31 = .ok (.ireturn, 1) := by decide +kernel

theorem b237_0 {d : Nat}  {ia : Nat → Nat → Int32} {la : Nat → Nat → Int64} {pl dr : Nat} {cp : Option Nat} {cw : Option Nat} {rp : Option Nat} {K : Option Value → zHP → Prop}  : zWP (d + 1) 237 0 [some (.ref 127)] [] (ia, la, zRA pl dr cp cw rp) K = (if ¬ ((zu ia 127 0 (0 : Int32)) 127 47) = 0 then zWM d 170 [.ref 127, .int (0 : Int32), .int (2 : Int32)] ((zu ia 127 0 (0 : Int32)), la, zRA pl dr cp cw rp) (zK (d + 1) 237 20 [some (.ref 127)] [] K) else K (some (.int (-1 : Int32))) ((zu ia 127 0 (0 : Int32)), la, zRA pl dr cp cw rp)) := by
  refine (Q_aload_n zm_237 (Or.inl (by decide)) D237_0 rfl).trans ?_
  refine (Q_iconst (v := 0) zm_237 (Or.inl (by decide)) D237_1 (by decide)).trans ?_
  refine (Q_putI zm_237 (Or.inl (by decide)) D237_2 zf_10_151 zs_10_0 rfl zk_127.1).trans ?_
  refine (Q_aload_n zm_237 (Or.inl (by decide)) D237_5 rfl).trans ?_
  refine (Q_getI zm_237 (Or.inl (by decide)) D237_6 zf_10_310 (Or.inr zs_10_47) zk_127.1).trans ?_
  refine (Q_if_ne (tgt := 14) zm_237 (Or.inl (by decide)) D237_9 (by decide)).trans ?_
  refine zif_c (fun h0_ => ?_) (fun h0_ => ?_)
  · refine (Q_aload_n zm_237 (Or.inl (by decide)) D237_14 rfl).trans ?_
    refine (Q_iconst (v := 0) zm_237 (Or.inl (by decide)) D237_15 (by decide)).trans ?_
    refine (Q_iconst (v := 2) zm_237 (Or.inl (by decide)) D237_16 (by decide)).trans ?_
    exact Q_callv (as := [.int (0 : Int32), .int (2 : Int32)]) (b := 127) (rest := []) zm_237 (Or.inl (by decide)) D237_17 zc_10_429 rfl zk_127.1 (by decide) (by decide +kernel) (by decide) (by simp [zcat, Value.category]) zm_170 rfl
  · refine (Q_iconst (v := -1) zm_237 (Or.inl (by decide)) D237_12 (by decide)).trans ?_
    exact Q_ireturn zm_237 (Or.inl (by decide)) D237_13 rfl

theorem b237_20 {d : Nat}  {ia : Nat → Nat → Int32} {la : Nat → Nat → Int64} {pl dr : Nat} {cp : Option Nat} {cw : Option Nat} {rp : Option Nat} {K : Option Value → zHP → Prop}  : zWP d 237 20 [some (.ref 127)] [] (ia, la, zRA pl dr cp cw rp) K = K (some (.int ((zu ia 127 48 (0 : Int32)) 147 0))) ((zu ia 127 48 (0 : Int32)), la, zRA pl dr cp cw rp) := by
  refine (Q_aload_n zm_237 (Or.inl (by decide)) D237_20 rfl).trans ?_
  refine (Q_iconst (v := 0) zm_237 (Or.inl (by decide)) D237_21 (by decide)).trans ?_
  refine (Q_putI zm_237 (Or.inl (by decide)) D237_22 zf_10_314 zs_10_48 rfl zk_127.1).trans ?_
  refine (Q_aload_n zm_237 (Or.inl (by decide)) D237_25 rfl).trans ?_
  refine (Q_getR (q := 147) zm_237 (Or.inl (by decide)) D237_26 zf_10_72 zs_10_35 zk_127.1 rfl).trans ?_
  refine (Q_iconst (v := 0) zm_237 (Or.inl (by decide)) D237_29 (by decide)).trans ?_
  refine ((Q_iaload zm_237 (Or.inl (by decide)) D237_30 zk_147.1 zk_147.2).trans (zdrop (zin_spec (by decide)))).trans ?_
  exact Q_ireturn zm_237 (Or.inl (by decide)) D237_31 rfl

/-! HandsLetModel.letMany()I -/
theorem D238_0 : decode prog_12_method_112_code 0 = .ok (.iconst 0, 1) := by decide +kernel
theorem D238_1 : decode prog_12_method_112_code 1 = .ok (.istore_n 1, 1) := by decide +kernel
theorem D238_2 : decode prog_12_method_112_code 2 = .ok (.iconst 0, 1) := by decide +kernel
theorem D238_3 : decode prog_12_method_112_code 3 = .ok (.istore_n 2, 1) := by decide +kernel
theorem D238_4 : decode prog_12_method_112_code 4 = .ok (.iload_n 2, 1) := by decide +kernel
theorem D238_5 : decode prog_12_method_112_code 5 = .ok (.aload_n 0, 1) := by decide +kernel
theorem D238_6 : decode prog_12_method_112_code 6 = .ok (.getfield 13, 3) := by decide +kernel
theorem D238_9 : decode prog_12_method_112_code 9 = .ok (.iconst 0, 1) := by decide +kernel
theorem D238_10 : decode prog_12_method_112_code 10 = .ok (.iaload, 1) := by decide +kernel
theorem D238_11 : decode prog_12_method_112_code 11 = .ok (.if_icmp .ge 26, 3) := by decide +kernel
theorem D238_14 : decode prog_12_method_112_code 14 = .ok (.iload_n 1, 1) := by decide +kernel
theorem D238_15 : decode prog_12_method_112_code 15 = .ok (.aload_n 0, 1) := by decide +kernel
theorem D238_16 : decode prog_12_method_112_code 16 = .ok (.iconst 0, 1) := by decide +kernel
theorem D238_17 : decode prog_12_method_112_code 17 = .ok (.iload_n 2, 1) := by decide +kernel
theorem D238_18 : decode prog_12_method_112_code 18 = .ok (.invokevirtual 340, 3) := by decide +kernel
theorem D238_21 : decode prog_12_method_112_code 21 = .ok (.ifCond .eq 7, 3) := by decide +kernel
theorem D238_24 : decode prog_12_method_112_code 24 = .ok (.iconst 1, 1) := by decide +kernel
theorem D238_25 : decode prog_12_method_112_code 25 = .ok (.goto 4, 3) := by decide +kernel
theorem D238_28 : decode prog_12_method_112_code 28 = .ok (.iconst 0, 1) := by decide +kernel
theorem D238_29 : decode prog_12_method_112_code 29 = .ok (.iadd, 1) := by decide +kernel
theorem D238_30 : decode prog_12_method_112_code 30 = .ok (.istore_n 1, 1) := by decide +kernel
theorem D238_31 : decode prog_12_method_112_code 31 = .ok (.iinc 2 1, 3) := by decide +kernel
theorem D238_34 : decode prog_12_method_112_code 34 = .ok (.goto (-30), 3) := by decide +kernel
theorem D238_37 : decode prog_12_method_112_code 37 = .ok (.iload_n 1, 1) := by decide +kernel
theorem D238_38 : decode prog_12_method_112_code 38 = .ok (.ireturn, 1) := by decide +kernel

theorem b238_0 {d : Nat}  {ia : Nat → Nat → Int32} {la : Nat → Nat → Int64} {pl dr : Nat} {cp : Option Nat} {cw : Option Nat} {rp : Option Nat} {K : Option Value → zHP → Prop}  : zWP d 238 0 [some (.ref 127), none, none] [] (ia, la, zRA pl dr cp cw rp) K = zWP d 238 4 [some (.ref 127), some (.int (0 : Int32)), some (.int (0 : Int32))] [] (ia, la, zRA pl dr cp cw rp) K := by
  refine (Q_iconst (v := 0) zm_238 (Or.inl (by decide)) D238_0 (by decide)).trans ?_
  refine (Q_istore_n (ls' := [some (.ref 127), some (.int (0 : Int32)), none]) zm_238 (Or.inl (by decide)) D238_1 rfl (Nat.le_of_ble_eq_true rfl) rfl).trans ?_
  refine (Q_iconst (v := 0) zm_238 (Or.inl (by decide)) D238_2 (by decide)).trans ?_
  refine (Q_istore_n (ls' := [some (.ref 127), some (.int (0 : Int32)), some (.int (0 : Int32))]) zm_238 (Or.inl (by decide)) D238_3 rfl (Nat.le_of_ble_eq_true rfl) rfl).trans ?_
  rfl

theorem b238_4 {d : Nat} {i1 : Int32} {i2 : Int32} {ia : Nat → Nat → Int32} {la : Nat → Nat → Int64} {pl dr : Nat} {cp : Option Nat} {cw : Option Nat} {rp : Option Nat} {K : Option Value → zHP → Prop}  : zWP (d + 1) 238 4 [some (.ref 127), some (.int i1), some (.int i2)] [] (ia, la, zRA pl dr cp cw rp) K = (if (ia 129 0) ≤ i2 then K (some (.int i1)) (ia, la, zRA pl dr cp cw rp) else zWM d 172 [.ref 127, .int (0 : Int32), .int i2] (ia, la, zRA pl dr cp cw rp) (zK (d + 1) 238 21 [some (.ref 127), some (.int i1), some (.int i2)] [.int i1] K)) := by
  refine (Q_iload_n zm_238 (Or.inl (by decide)) D238_4 rfl).trans ?_
  refine (Q_aload_n zm_238 (Or.inl (by decide)) D238_5 rfl).trans ?_
  refine (Q_getR (q := 129) zm_238 (Or.inl (by decide)) D238_6 zf_10_13 zs_10_3 zk_127.1 rfl).trans ?_
  refine (Q_iconst (v := 0) zm_238 (Or.inl (by decide)) D238_9 (by decide)).trans ?_
  refine ((Q_iaload zm_238 (Or.inl (by decide)) D238_10 zk_129.1 zk_129.2).trans (zdrop (zin_spec (by decide)))).trans ?_
  refine (Q_ic_ge (tgt := 37) zm_238 (Or.inl (by decide)) D238_11 (by decide)).trans ?_
  refine zif_c (fun h0_ => ?_) (fun h0_ => ?_)
  · refine (Q_iload_n zm_238 (Or.inl (by decide)) D238_37 rfl).trans ?_
    exact Q_ireturn zm_238 (Or.inl (by decide)) D238_38 rfl
  · refine (Q_iload_n zm_238 (Or.inl (by decide)) D238_14 rfl).trans ?_
    refine (Q_aload_n zm_238 (Or.inl (by decide)) D238_15 rfl).trans ?_
    refine (Q_iconst (v := 0) zm_238 (Or.inl (by decide)) D238_16 (by decide)).trans ?_
    refine (Q_iload_n zm_238 (Or.inl (by decide)) D238_17 rfl).trans ?_
    exact Q_callv (as := [.int (0 : Int32), .int i2]) (b := 127) (rest := [.int i1]) zm_238 (Or.inl (by decide)) D238_18 zc_10_340 rfl zk_127.1 (by decide) (by decide +kernel) (by decide) (by simp [zcat, Value.category]) zm_172 rfl

theorem b238_21 {d : Nat} {i1 : Int32} {i2 : Int32} {s0 : Int32} {s1 : Int32} {ia : Nat → Nat → Int32} {la : Nat → Nat → Int64} {pl dr : Nat} {cp : Option Nat} {cw : Option Nat} {rp : Option Nat} {K : Option Value → zHP → Prop}  : zWP d 238 21 [some (.ref 127), some (.int i1), some (.int i2)] [.int s1, .int s0] (ia, la, zRA pl dr cp cw rp) K = (if s1 = 0 then zWP d 238 4 [some (.ref 127), some (.int (s0 + (0 : Int32))), some (.int (i2 + (1 : Int32)))] [] (ia, la, zRA pl dr cp cw rp) K else zWP d 238 4 [some (.ref 127), some (.int (s0 + (1 : Int32))), some (.int (i2 + (1 : Int32)))] [] (ia, la, zRA pl dr cp cw rp) K) := by
  refine (Q_if_eq (tgt := 28) zm_238 (Or.inl (by decide)) D238_21 (by decide)).trans ?_
  refine zif_c (fun h0_ => ?_) (fun h0_ => ?_)
  · refine (Q_iconst (v := 0) zm_238 (Or.inl (by decide)) D238_28 (by decide)).trans ?_
    refine (Q_iadd zm_238 (Or.inl (by decide)) D238_29).trans ?_
    refine (Q_istore_n (ls' := [some (.ref 127), some (.int (s0 + (0 : Int32))), some (.int i2)]) zm_238 (Or.inl (by decide)) D238_30 rfl (Nat.le_of_ble_eq_true rfl) rfl).trans ?_
    refine (Q_iinc (v := 1) (ls' := [some (.ref 127), some (.int (s0 + (0 : Int32))), some (.int (i2 + (1 : Int32)))]) zm_238 (Or.inl (by decide)) D238_31 rfl rfl (by decide) rfl).trans ?_
    refine (Q_goto (tgt := 4) zm_238 (Or.inl (by decide)) D238_34 (by decide)).trans ?_
    rfl
  · refine (Q_iconst (v := 1) zm_238 (Or.inl (by decide)) D238_24 (by decide)).trans ?_
    refine (Q_goto (tgt := 29) zm_238 (Or.inl (by decide)) D238_25 (by decide)).trans ?_
    refine (Q_iadd zm_238 (Or.inl (by decide)) D238_29).trans ?_
    refine (Q_istore_n (ls' := [some (.ref 127), some (.int (s0 + (1 : Int32))), some (.int i2)]) zm_238 (Or.inl (by decide)) D238_30 rfl (Nat.le_of_ble_eq_true rfl) rfl).trans ?_
    refine (Q_iinc (v := 1) (ls' := [some (.ref 127), some (.int (s0 + (1 : Int32))), some (.int (i2 + (1 : Int32)))]) zm_238 (Or.inl (by decide)) D238_31 rfl rfl (by decide) rfl).trans ?_
    refine (Q_goto (tgt := 4) zm_238 (Or.inl (by decide)) D238_34 (by decide)).trans ?_
    rfl

/-! HandsLetModel.count(I)I -/
theorem D239_0 : decode prog_12_method_113_code 0 = .ok (.aload_n 0, 1) := by decide +kernel
theorem D239_1 : decode prog_12_method_113_code 1 = .ok (.iconst 0, 1) := by decide +kernel
theorem D239_2 : decode prog_12_method_113_code 2 = .ok (.putfield 151, 3) := by decide +kernel
theorem D239_5 : decode prog_12_method_113_code 5 = .ok (.iload_n 1, 1) := by decide +kernel
theorem D239_6 : decode prog_12_method_113_code 6 = .ok (.tableswitch 166 0 13 #[70, 77, 84, 91, 99, 106, 111, 117, 124, 134, 144, 151, 156, 161], 70) := by decide +kernel
theorem D239_76 : decode prog_12_method_113_code 76 = .ok (.aload_n 0, 1) := by decide +kernel
theorem D239_77 : decode prog_12_method_113_code 77 = .ok (.getfield 13, 3) := by decide +kernel
theorem D239_80 : decode prog_12_method_113_code 80 = .ok (.iconst 0, 1) := by decide +kernel
theorem D239_81 : decode prog_12_method_113_code 81 = .ok (.iaload, 1) := by decide +kernel
theorem D239_82 : decode prog_12_method_113_code 82 = .ok (.ireturn, 1) := by decide +kernel
theorem D239_83 : decode prog_12_method_113_code 83 = .ok (.aload_n 0, 1) := by decide +kernel
theorem D239_84 : decode prog_12_method_113_code 84 = .ok (.getfield 13, 3) := by decide +kernel
theorem D239_87 : decode prog_12_method_113_code 87 = .ok (.iconst 1, 1) := by decide +kernel
theorem D239_88 : decode prog_12_method_113_code 88 = .ok (.iaload, 1) := by decide +kernel
theorem D239_89 : decode prog_12_method_113_code 89 = .ok (.ireturn, 1) := by decide +kernel
theorem D239_90 : decode prog_12_method_113_code 90 = .ok (.aload_n 0, 1) := by decide +kernel
theorem D239_91 : decode prog_12_method_113_code 91 = .ok (.getfield 13, 3) := by decide +kernel
theorem D239_94 : decode prog_12_method_113_code 94 = .ok (.iconst 2, 1) := by decide +kernel
theorem D239_95 : decode prog_12_method_113_code 95 = .ok (.iaload, 1) := by decide +kernel
theorem D239_96 : decode prog_12_method_113_code 96 = .ok (.ireturn, 1) := by decide +kernel
theorem D239_97 : decode prog_12_method_113_code 97 = .ok (.aload_n 0, 1) := by decide +kernel
theorem D239_98 : decode prog_12_method_113_code 98 = .ok (.getfield 13, 3) := by decide +kernel
theorem D239_101 : decode prog_12_method_113_code 101 = .ok (.bipush 6, 2) := by decide +kernel
theorem D239_103 : decode prog_12_method_113_code 103 = .ok (.iaload, 1) := by decide +kernel
theorem D239_104 : decode prog_12_method_113_code 104 = .ok (.ireturn, 1) := by decide +kernel
theorem D239_105 : decode prog_12_method_113_code 105 = .ok (.aload_n 0, 1) := by decide +kernel
theorem D239_106 : decode prog_12_method_113_code 106 = .ok (.getfield 72, 3) := by decide +kernel
theorem D239_109 : decode prog_12_method_113_code 109 = .ok (.iconst 0, 1) := by decide +kernel
theorem D239_110 : decode prog_12_method_113_code 110 = .ok (.iaload, 1) := by decide +kernel
theorem D239_111 : decode prog_12_method_113_code 111 = .ok (.ireturn, 1) := by decide +kernel
theorem D239_112 : decode prog_12_method_113_code 112 = .ok (.aload_n 0, 1) := by decide +kernel
theorem D239_113 : decode prog_12_method_113_code 113 = .ok (.invokevirtual 501, 3) := by decide +kernel
theorem D239_116 : decode prog_12_method_113_code 116 = .ok (.ireturn, 1) := by decide +kernel
theorem D239_117 : decode prog_12_method_113_code 117 = .ok (.aload_n 0, 1) := by decide +kernel
theorem D239_118 : decode prog_12_method_113_code 118 = .ok (.iconst 0, 1) := by decide +kernel
theorem D239_119 : decode prog_12_method_113_code 119 = .ok (.invokevirtual 498, 3) := by decide +kernel
theorem D239_122 : decode prog_12_method_113_code 122 = .ok (.ireturn, 1) := by decide +kernel
theorem D239_123 : decode prog_12_method_113_code 123 = .ok (.aload_n 0, 1) := by decide +kernel
theorem D239_124 : decode prog_12_method_113_code 124 = .ok (.iconst 0, 1) := by decide +kernel
theorem D239_125 : decode prog_12_method_113_code 125 = .ok (.iconst (-1), 1) := by decide +kernel
theorem D239_126 : decode prog_12_method_113_code 126 = .ok (.invokevirtual 422, 3) := by decide +kernel
theorem D239_129 : decode prog_12_method_113_code 129 = .ok (.ireturn, 1) := by decide +kernel
theorem D239_130 : decode prog_12_method_113_code 130 = .ok (.aload_n 0, 1) := by decide +kernel
theorem D239_131 : decode prog_12_method_113_code 131 = .ok (.getfield 81, 3) := by decide +kernel
theorem D239_134 : decode prog_12_method_113_code 134 = .ok (.iconst 0, 1) := by decide +kernel
theorem D239_135 : decode prog_12_method_113_code 135 = .ok (.iaload, 1) := by decide +kernel
theorem D239_136 : decode prog_12_method_113_code 136 = .ok (.invokestatic 444, 3) := by decide +kernel
theorem D239_139 : decode prog_12_method_113_code 139 = .ok (.ireturn, 1) := by decide +kernel
theorem D239_140 : decode prog_12_method_113_code 140 = .ok (.aload_n 0, 1) := by decide +kernel
theorem D239_141 : decode prog_12_method_113_code 141 = .ok (.getfield 84, 3) := by decide +kernel
theorem D239_144 : decode prog_12_method_113_code 144 = .ok (.iconst 0, 1) := by decide +kernel
theorem D239_145 : decode prog_12_method_113_code 145 = .ok (.iaload, 1) := by decide +kernel
theorem D239_146 : decode prog_12_method_113_code 146 = .ok (.invokestatic 444, 3) := by decide +kernel
theorem D239_149 : decode prog_12_method_113_code 149 = .ok (.ireturn, 1) := by decide +kernel
theorem D239_150 : decode prog_12_method_113_code 150 = .ok (.aload_n 0, 1) := by decide +kernel
theorem D239_151 : decode prog_12_method_113_code 151 = .ok (.getfield 78, 3) := by decide +kernel
theorem D239_154 : decode prog_12_method_113_code 154 = .ok (.iconst 0, 1) := by decide +kernel
theorem D239_155 : decode prog_12_method_113_code 155 = .ok (.iaload, 1) := by decide +kernel
theorem D239_156 : decode prog_12_method_113_code 156 = .ok (.ireturn, 1) := by decide +kernel
theorem D239_157 : decode prog_12_method_113_code 157 = .ok (.aload_n 0, 1) := by decide +kernel
theorem D239_158 : decode prog_12_method_113_code 158 = .ok (.getfield 307, 3) := by decide +kernel
theorem D239_161 : decode prog_12_method_113_code 161 = .ok (.ireturn, 1) := by decide +kernel
theorem D239_162 : decode prog_12_method_113_code 162 = .ok (.aload_n 0, 1) := by decide +kernel
theorem D239_163 : decode prog_12_method_113_code 163 = .ok (.invokevirtual 486, 3) := by decide +kernel
theorem D239_166 : decode prog_12_method_113_code 166 = .ok (.ireturn, 1) := by decide +kernel
theorem D239_167 : decode prog_12_method_113_code 167 = .ok (.aload_n 0, 1) := by decide +kernel
theorem D239_168 : decode prog_12_method_113_code 168 = .ok (.getfield 314, 3) := by decide +kernel
theorem D239_171 : decode prog_12_method_113_code 171 = .ok (.ireturn, 1) := by decide +kernel
theorem D239_172 : decode prog_12_method_113_code 172 = .ok (.iconst (-1), 1) := by decide +kernel
theorem D239_173 : decode prog_12_method_113_code 173 = .ok (.ireturn, 1) := by decide +kernel

theorem b239_0 {d : Nat} {i1 : Int32} {ia : Nat → Nat → Int32} {la : Nat → Nat → Int64} {pl dr : Nat} {cp : Option Nat} {cw : Option Nat} {rp : Option Nat} {K : Option Value → zHP → Prop}  : zWP (d + 1) 239 0 [some (.ref 127), some (.int i1)] [] (ia, la, zRA pl dr cp cw rp) K = (if i1 = 0 then K (some (.int ((zu ia 127 0 (0 : Int32)) 129 0))) ((zu ia 127 0 (0 : Int32)), la, zRA pl dr cp cw rp) else (if i1 = 1 then K (some (.int ((zu ia 127 0 (0 : Int32)) 129 1))) ((zu ia 127 0 (0 : Int32)), la, zRA pl dr cp cw rp) else (if i1 = 2 then K (some (.int ((zu ia 127 0 (0 : Int32)) 129 2))) ((zu ia 127 0 (0 : Int32)), la, zRA pl dr cp cw rp) else (if i1 = 3 then K (some (.int ((zu ia 127 0 (0 : Int32)) 129 6))) ((zu ia 127 0 (0 : Int32)), la, zRA pl dr cp cw rp) else (if i1 = 4 then K (some (.int ((zu ia 127 0 (0 : Int32)) 147 0))) ((zu ia 127 0 (0 : Int32)), la, zRA pl dr cp cw rp) else (if i1 = 5 then zWM d 238 [.ref 127] ((zu ia 127 0 (0 : Int32)), la, zRA pl dr cp cw rp) (zK (d + 1) 239 116 [some (.ref 127), some (.int i1)] [] K) else (if i1 = 6 then zWM d 188 [.ref 127, .int (0 : Int32)] ((zu ia 127 0 (0 : Int32)), la, zRA pl dr cp cw rp) (zK (d + 1) 239 122 [some (.ref 127), some (.int i1)] [] K) else (if i1 = 7 then zWM d 187 [.ref 127, .int (0 : Int32), .int (-1 : Int32)] ((zu ia 127 0 (0 : Int32)), la, zRA pl dr cp cw rp) (zK (d + 1) 239 129 [some (.ref 127), some (.int i1)] [] K) else (if i1 = 8 then zWM d 174 [.int ((zu ia 127 0 (0 : Int32)) 150 0)] ((zu ia 127 0 (0 : Int32)), la, zRA pl dr cp cw rp) (zK (d + 1) 239 139 [some (.ref 127), some (.int i1)] [] K) else (if i1 = 9 then zWM d 174 [.int ((zu ia 127 0 (0 : Int32)) 151 0)] ((zu ia 127 0 (0 : Int32)), la, zRA pl dr cp cw rp) (zK (d + 1) 239 149 [some (.ref 127), some (.int i1)] [] K) else (if i1 = 10 then K (some (.int ((zu ia 127 0 (0 : Int32)) 149 0))) ((zu ia 127 0 (0 : Int32)), la, zRA pl dr cp cw rp) else (if i1 = 11 then K (some (.int ((zu ia 127 0 (0 : Int32)) 127 57))) ((zu ia 127 0 (0 : Int32)), la, zRA pl dr cp cw rp) else (if i1 = 12 then zWM d 227 [.ref 127] ((zu ia 127 0 (0 : Int32)), la, zRA pl dr cp cw rp) (zK (d + 1) 239 166 [some (.ref 127), some (.int i1)] [] K) else (if i1 = 13 then K (some (.int ((zu ia 127 0 (0 : Int32)) 127 48))) ((zu ia 127 0 (0 : Int32)), la, zRA pl dr cp cw rp) else K (some (.int (-1 : Int32))) ((zu ia 127 0 (0 : Int32)), la, zRA pl dr cp cw rp))))))))))))))) := by
  refine (Q_aload_n zm_239 (Or.inl (by decide)) D239_0 rfl).trans ?_
  refine (Q_iconst (v := 0) zm_239 (Or.inl (by decide)) D239_1 (by decide)).trans ?_
  refine (Q_putI zm_239 (Or.inl (by decide)) D239_2 zf_10_151 zs_10_0 rfl zk_127.1).trans ?_
  refine (Q_iload_n zm_239 (Or.inl (by decide)) D239_5 rfl).trans ?_
  by_cases h0_ : i1 = 0
  · rw [if_pos h0_]
    refine (congrArg (fun q => zWP (d + 1) 239 6 [some (.ref 127), some (.int i1)] (.int q :: []) ((zu ia 127 0 (0 : Int32)), la, zRA pl dr cp cw rp) K) h0_).trans ?_
    refine (Q_tsw (tgt := 76) zm_239 (Or.inl (by decide)) D239_6 rfl (by decide)).trans ?_
    refine (Q_aload_n zm_239 (Or.inl (by decide)) D239_76 rfl).trans ?_
    refine (Q_getR (q := 129) zm_239 (Or.inl (by decide)) D239_77 zf_10_13 zs_10_3 zk_127.1 rfl).trans ?_
    refine (Q_iconst (v := 0) zm_239 (Or.inl (by decide)) D239_80 (by decide)).trans ?_
    refine ((Q_iaload zm_239 (Or.inl (by decide)) D239_81 zk_129.1 zk_129.2).trans (zdrop (zin_spec (by decide)))).trans ?_
    exact Q_ireturn zm_239 (Or.inl (by decide)) D239_82 rfl
  rw [if_neg h0_]
  by_cases h1_ : i1 = 1
  · rw [if_pos h1_]
    refine (congrArg (fun q => zWP (d + 1) 239 6 [some (.ref 127), some (.int i1)] (.int q :: []) ((zu ia 127 0 (0 : Int32)), la, zRA pl dr cp cw rp) K) h1_).trans ?_
    refine (Q_tsw (tgt := 83) zm_239 (Or.inl (by decide)) D239_6 rfl (by decide)).trans ?_
    refine (Q_aload_n zm_239 (Or.inl (by decide)) D239_83 rfl).trans ?_
    refine (Q_getR (q := 129) zm_239 (Or.inl (by decide)) D239_84 zf_10_13 zs_10_3 zk_127.1 rfl).trans ?_
    refine (Q_iconst (v := 1) zm_239 (Or.inl (by decide)) D239_87 (by decide)).trans ?_
    refine ((Q_iaload zm_239 (Or.inl (by decide)) D239_88 zk_129.1 zk_129.2).trans (zdrop (zin_spec (by decide)))).trans ?_
    exact Q_ireturn zm_239 (Or.inl (by decide)) D239_89 rfl
  rw [if_neg h1_]
  by_cases h2_ : i1 = 2
  · rw [if_pos h2_]
    refine (congrArg (fun q => zWP (d + 1) 239 6 [some (.ref 127), some (.int i1)] (.int q :: []) ((zu ia 127 0 (0 : Int32)), la, zRA pl dr cp cw rp) K) h2_).trans ?_
    refine (Q_tsw (tgt := 90) zm_239 (Or.inl (by decide)) D239_6 rfl (by decide)).trans ?_
    refine (Q_aload_n zm_239 (Or.inl (by decide)) D239_90 rfl).trans ?_
    refine (Q_getR (q := 129) zm_239 (Or.inl (by decide)) D239_91 zf_10_13 zs_10_3 zk_127.1 rfl).trans ?_
    refine (Q_iconst (v := 2) zm_239 (Or.inl (by decide)) D239_94 (by decide)).trans ?_
    refine ((Q_iaload zm_239 (Or.inl (by decide)) D239_95 zk_129.1 zk_129.2).trans (zdrop (zin_spec (by decide)))).trans ?_
    exact Q_ireturn zm_239 (Or.inl (by decide)) D239_96 rfl
  rw [if_neg h2_]
  by_cases h3_ : i1 = 3
  · rw [if_pos h3_]
    refine (congrArg (fun q => zWP (d + 1) 239 6 [some (.ref 127), some (.int i1)] (.int q :: []) ((zu ia 127 0 (0 : Int32)), la, zRA pl dr cp cw rp) K) h3_).trans ?_
    refine (Q_tsw (tgt := 97) zm_239 (Or.inl (by decide)) D239_6 rfl (by decide)).trans ?_
    refine (Q_aload_n zm_239 (Or.inl (by decide)) D239_97 rfl).trans ?_
    refine (Q_getR (q := 129) zm_239 (Or.inl (by decide)) D239_98 zf_10_13 zs_10_3 zk_127.1 rfl).trans ?_
    refine (Q_bipush (v := 6) zm_239 (Or.inl (by decide)) D239_101 (by decide)).trans ?_
    refine ((Q_iaload zm_239 (Or.inl (by decide)) D239_103 zk_129.1 zk_129.2).trans (zdrop (zin_spec (by decide)))).trans ?_
    exact Q_ireturn zm_239 (Or.inl (by decide)) D239_104 rfl
  rw [if_neg h3_]
  by_cases h4_ : i1 = 4
  · rw [if_pos h4_]
    refine (congrArg (fun q => zWP (d + 1) 239 6 [some (.ref 127), some (.int i1)] (.int q :: []) ((zu ia 127 0 (0 : Int32)), la, zRA pl dr cp cw rp) K) h4_).trans ?_
    refine (Q_tsw (tgt := 105) zm_239 (Or.inl (by decide)) D239_6 rfl (by decide)).trans ?_
    refine (Q_aload_n zm_239 (Or.inl (by decide)) D239_105 rfl).trans ?_
    refine (Q_getR (q := 147) zm_239 (Or.inl (by decide)) D239_106 zf_10_72 zs_10_35 zk_127.1 rfl).trans ?_
    refine (Q_iconst (v := 0) zm_239 (Or.inl (by decide)) D239_109 (by decide)).trans ?_
    refine ((Q_iaload zm_239 (Or.inl (by decide)) D239_110 zk_147.1 zk_147.2).trans (zdrop (zin_spec (by decide)))).trans ?_
    exact Q_ireturn zm_239 (Or.inl (by decide)) D239_111 rfl
  rw [if_neg h4_]
  by_cases h5_ : i1 = 5
  · rw [if_pos h5_]
    refine (congrArg (fun q => zWP (d + 1) 239 6 [some (.ref 127), some (.int i1)] (.int q :: []) ((zu ia 127 0 (0 : Int32)), la, zRA pl dr cp cw rp) K) h5_).trans ?_
    refine (Q_tsw (tgt := 112) zm_239 (Or.inl (by decide)) D239_6 rfl (by decide)).trans ?_
    refine (Q_aload_n zm_239 (Or.inl (by decide)) D239_112 rfl).trans ?_
    exact Q_callv (as := []) (b := 127) (rest := []) zm_239 (Or.inl (by decide)) D239_113 zc_10_501 rfl zk_127.1 (by decide) (by decide +kernel) (by decide) (by simp [zcat, Value.category]) zm_238 rfl
  rw [if_neg h5_]
  by_cases h6_ : i1 = 6
  · rw [if_pos h6_]
    refine (congrArg (fun q => zWP (d + 1) 239 6 [some (.ref 127), some (.int i1)] (.int q :: []) ((zu ia 127 0 (0 : Int32)), la, zRA pl dr cp cw rp) K) h6_).trans ?_
    refine (Q_tsw (tgt := 117) zm_239 (Or.inl (by decide)) D239_6 rfl (by decide)).trans ?_
    refine (Q_aload_n zm_239 (Or.inl (by decide)) D239_117 rfl).trans ?_
    refine (Q_iconst (v := 0) zm_239 (Or.inl (by decide)) D239_118 (by decide)).trans ?_
    exact Q_callv (as := [.int (0 : Int32)]) (b := 127) (rest := []) zm_239 (Or.inl (by decide)) D239_119 zc_10_498 rfl zk_127.1 (by decide) (by decide +kernel) (by decide) (by simp [zcat, Value.category]) zm_188 rfl
  rw [if_neg h6_]
  by_cases h7_ : i1 = 7
  · rw [if_pos h7_]
    refine (congrArg (fun q => zWP (d + 1) 239 6 [some (.ref 127), some (.int i1)] (.int q :: []) ((zu ia 127 0 (0 : Int32)), la, zRA pl dr cp cw rp) K) h7_).trans ?_
    refine (Q_tsw (tgt := 123) zm_239 (Or.inl (by decide)) D239_6 rfl (by decide)).trans ?_
    refine (Q_aload_n zm_239 (Or.inl (by decide)) D239_123 rfl).trans ?_
    refine (Q_iconst (v := 0) zm_239 (Or.inl (by decide)) D239_124 (by decide)).trans ?_
    refine (Q_iconst (v := -1) zm_239 (Or.inl (by decide)) D239_125 (by decide)).trans ?_
    exact Q_callv (as := [.int (0 : Int32), .int (-1 : Int32)]) (b := 127) (rest := []) zm_239 (Or.inl (by decide)) D239_126 zc_10_422 rfl zk_127.1 (by decide) (by decide +kernel) (by decide) (by simp [zcat, Value.category]) zm_187 rfl
  rw [if_neg h7_]
  by_cases h8_ : i1 = 8
  · rw [if_pos h8_]
    refine (congrArg (fun q => zWP (d + 1) 239 6 [some (.ref 127), some (.int i1)] (.int q :: []) ((zu ia 127 0 (0 : Int32)), la, zRA pl dr cp cw rp) K) h8_).trans ?_
    refine (Q_tsw (tgt := 130) zm_239 (Or.inl (by decide)) D239_6 rfl (by decide)).trans ?_
    refine (Q_aload_n zm_239 (Or.inl (by decide)) D239_130 rfl).trans ?_
    refine (Q_getR (q := 150) zm_239 (Or.inl (by decide)) D239_131 zf_10_81 zs_10_38 zk_127.1 rfl).trans ?_
    refine (Q_iconst (v := 0) zm_239 (Or.inl (by decide)) D239_134 (by decide)).trans ?_
    refine ((Q_iaload zm_239 (Or.inl (by decide)) D239_135 zk_150.1 zk_150.2).trans (zdrop (zin_spec (by decide)))).trans ?_
    exact Q_calls (as := [.int ((zu ia 127 0 (0 : Int32)) 150 0)]) (rest := []) zm_239 (Or.inl (by decide)) D239_136 zc_10_444 rfl (by decide) (by simp [zcat, Value.category]) zm_174 rfl
  rw [if_neg h8_]
  by_cases h9_ : i1 = 9
  · rw [if_pos h9_]
    refine (congrArg (fun q => zWP (d + 1) 239 6 [some (.ref 127), some (.int i1)] (.int q :: []) ((zu ia 127 0 (0 : Int32)), la, zRA pl dr cp cw rp) K) h9_).trans ?_
    refine (Q_tsw (tgt := 140) zm_239 (Or.inl (by decide)) D239_6 rfl (by decide)).trans ?_
    refine (Q_aload_n zm_239 (Or.inl (by decide)) D239_140 rfl).trans ?_
    refine (Q_getR (q := 151) zm_239 (Or.inl (by decide)) D239_141 zf_10_84 zs_10_39 zk_127.1 rfl).trans ?_
    refine (Q_iconst (v := 0) zm_239 (Or.inl (by decide)) D239_144 (by decide)).trans ?_
    refine ((Q_iaload zm_239 (Or.inl (by decide)) D239_145 zk_151.1 zk_151.2).trans (zdrop (zin_spec (by decide)))).trans ?_
    exact Q_calls (as := [.int ((zu ia 127 0 (0 : Int32)) 151 0)]) (rest := []) zm_239 (Or.inl (by decide)) D239_146 zc_10_444 rfl (by decide) (by simp [zcat, Value.category]) zm_174 rfl
  rw [if_neg h9_]
  by_cases h10_ : i1 = 10
  · rw [if_pos h10_]
    refine (congrArg (fun q => zWP (d + 1) 239 6 [some (.ref 127), some (.int i1)] (.int q :: []) ((zu ia 127 0 (0 : Int32)), la, zRA pl dr cp cw rp) K) h10_).trans ?_
    refine (Q_tsw (tgt := 150) zm_239 (Or.inl (by decide)) D239_6 rfl (by decide)).trans ?_
    refine (Q_aload_n zm_239 (Or.inl (by decide)) D239_150 rfl).trans ?_
    refine (Q_getR (q := 149) zm_239 (Or.inl (by decide)) D239_151 zf_10_78 zs_10_37 zk_127.1 rfl).trans ?_
    refine (Q_iconst (v := 0) zm_239 (Or.inl (by decide)) D239_154 (by decide)).trans ?_
    refine ((Q_iaload zm_239 (Or.inl (by decide)) D239_155 zk_149.1 zk_149.2).trans (zdrop (zin_spec (by decide)))).trans ?_
    exact Q_ireturn zm_239 (Or.inl (by decide)) D239_156 rfl
  rw [if_neg h10_]
  by_cases h11_ : i1 = 11
  · rw [if_pos h11_]
    refine (congrArg (fun q => zWP (d + 1) 239 6 [some (.ref 127), some (.int i1)] (.int q :: []) ((zu ia 127 0 (0 : Int32)), la, zRA pl dr cp cw rp) K) h11_).trans ?_
    refine (Q_tsw (tgt := 157) zm_239 (Or.inl (by decide)) D239_6 rfl (by decide)).trans ?_
    refine (Q_aload_n zm_239 (Or.inl (by decide)) D239_157 rfl).trans ?_
    refine (Q_getI zm_239 (Or.inl (by decide)) D239_158 zf_10_307 (Or.inl zs_10_57) zk_127.1).trans ?_
    exact Q_ireturn zm_239 (Or.inl (by decide)) D239_161 rfl
  rw [if_neg h11_]
  by_cases h12_ : i1 = 12
  · rw [if_pos h12_]
    refine (congrArg (fun q => zWP (d + 1) 239 6 [some (.ref 127), some (.int i1)] (.int q :: []) ((zu ia 127 0 (0 : Int32)), la, zRA pl dr cp cw rp) K) h12_).trans ?_
    refine (Q_tsw (tgt := 162) zm_239 (Or.inl (by decide)) D239_6 rfl (by decide)).trans ?_
    refine (Q_aload_n zm_239 (Or.inl (by decide)) D239_162 rfl).trans ?_
    exact Q_callv (as := []) (b := 127) (rest := []) zm_239 (Or.inl (by decide)) D239_163 zc_10_486 rfl zk_127.1 (by decide) (by decide +kernel) (by decide) (by simp [zcat, Value.category]) zm_227 rfl
  rw [if_neg h12_]
  by_cases h13_ : i1 = 13
  · rw [if_pos h13_]
    refine (congrArg (fun q => zWP (d + 1) 239 6 [some (.ref 127), some (.int i1)] (.int q :: []) ((zu ia 127 0 (0 : Int32)), la, zRA pl dr cp cw rp) K) h13_).trans ?_
    refine (Q_tsw (tgt := 167) zm_239 (Or.inl (by decide)) D239_6 rfl (by decide)).trans ?_
    refine (Q_aload_n zm_239 (Or.inl (by decide)) D239_167 rfl).trans ?_
    refine (Q_getI zm_239 (Or.inl (by decide)) D239_168 zf_10_314 (Or.inl zs_10_48) zk_127.1).trans ?_
    exact Q_ireturn zm_239 (Or.inl (by decide)) D239_171 rfl
  rw [if_neg h13_]
  refine (Q_tsw (tgt := 172) zm_239 (Or.inl (by decide)) D239_6 (zsw_out (n := 14) (by decide) (fun q hq => ?_)) (by decide)).trans ?_
  · rcases (show q = 0 ∨ q = 1 ∨ q = 2 ∨ q = 3 ∨ q = 4 ∨ q = 5 ∨ q = 6 ∨ q = 7 ∨ q = 8 ∨ q = 9 ∨ q = 10 ∨ q = 11 ∨ q = 12 ∨ q = 13 by omega) with rfl | rfl | rfl | rfl | rfl | rfl | rfl | rfl | rfl | rfl | rfl | rfl | rfl | rfl
    · exact h0_
    · exact h1_
    · exact h2_
    · exact h3_
    · exact h4_
    · exact h5_
    · exact h6_
    · exact h7_
    · exact h8_
    · exact h9_
    · exact h10_
    · exact h11_
    · exact h12_
    · exact h13_
  refine (Q_iconst (v := -1) zm_239 (Or.inl (by decide)) D239_172 (by decide)).trans ?_
  exact Q_ireturn zm_239 (Or.inl (by decide)) D239_173 rfl

theorem b239_116 {d : Nat} {i1 : Int32} {s0 : Int32} {ia : Nat → Nat → Int32} {la : Nat → Nat → Int64} {pl dr : Nat} {cp : Option Nat} {cw : Option Nat} {rp : Option Nat} {K : Option Value → zHP → Prop}  : zWP d 239 116 [some (.ref 127), some (.int i1)] [.int s0] (ia, la, zRA pl dr cp cw rp) K = K (some (.int s0)) (ia, la, zRA pl dr cp cw rp) := by
  exact Q_ireturn zm_239 (Or.inl (by decide)) D239_116 rfl

theorem b239_122 {d : Nat} {i1 : Int32} {s0 : Int32} {ia : Nat → Nat → Int32} {la : Nat → Nat → Int64} {pl dr : Nat} {cp : Option Nat} {cw : Option Nat} {rp : Option Nat} {K : Option Value → zHP → Prop}  : zWP d 239 122 [some (.ref 127), some (.int i1)] [.int s0] (ia, la, zRA pl dr cp cw rp) K = K (some (.int s0)) (ia, la, zRA pl dr cp cw rp) := by
  exact Q_ireturn zm_239 (Or.inl (by decide)) D239_122 rfl

theorem b239_129 {d : Nat} {i1 : Int32} {s0 : Int32} {ia : Nat → Nat → Int32} {la : Nat → Nat → Int64} {pl dr : Nat} {cp : Option Nat} {cw : Option Nat} {rp : Option Nat} {K : Option Value → zHP → Prop}  : zWP d 239 129 [some (.ref 127), some (.int i1)] [.int s0] (ia, la, zRA pl dr cp cw rp) K = K (some (.int s0)) (ia, la, zRA pl dr cp cw rp) := by
  exact Q_ireturn zm_239 (Or.inl (by decide)) D239_129 rfl

theorem b239_139 {d : Nat} {i1 : Int32} {s0 : Int32} {ia : Nat → Nat → Int32} {la : Nat → Nat → Int64} {pl dr : Nat} {cp : Option Nat} {cw : Option Nat} {rp : Option Nat} {K : Option Value → zHP → Prop}  : zWP d 239 139 [some (.ref 127), some (.int i1)] [.int s0] (ia, la, zRA pl dr cp cw rp) K = K (some (.int s0)) (ia, la, zRA pl dr cp cw rp) := by
  exact Q_ireturn zm_239 (Or.inl (by decide)) D239_139 rfl

theorem b239_149 {d : Nat} {i1 : Int32} {s0 : Int32} {ia : Nat → Nat → Int32} {la : Nat → Nat → Int64} {pl dr : Nat} {cp : Option Nat} {cw : Option Nat} {rp : Option Nat} {K : Option Value → zHP → Prop}  : zWP d 239 149 [some (.ref 127), some (.int i1)] [.int s0] (ia, la, zRA pl dr cp cw rp) K = K (some (.int s0)) (ia, la, zRA pl dr cp cw rp) := by
  exact Q_ireturn zm_239 (Or.inl (by decide)) D239_149 rfl

theorem b239_166 {d : Nat} {i1 : Int32} {s0 : Int32} {ia : Nat → Nat → Int32} {la : Nat → Nat → Int64} {pl dr : Nat} {cp : Option Nat} {cw : Option Nat} {rp : Option Nat} {K : Option Value → zHP → Prop}  : zWP d 239 166 [some (.ref 127), some (.int i1)] [.int s0] (ia, la, zRA pl dr cp cw rp) K = K (some (.int s0)) (ia, la, zRA pl dr cp cw rp) := by
  exact Q_ireturn zm_239 (Or.inl (by decide)) D239_166 rfl

/-! java/lang/Integer.bitCount(I)I -/
theorem D240_0 : decode prog_18_method_49_code 0 = .ok (.iload_n 0, 1) := by decide +kernel
theorem D240_1 : decode prog_18_method_49_code 1 = .ok (.iload_n 0, 1) := by decide +kernel
theorem D240_2 : decode prog_18_method_49_code 2 = .ok (.iconst 1, 1) := by decide +kernel
theorem D240_3 : decode prog_18_method_49_code 3 = .ok (.iushr, 1) := by decide +kernel
theorem D240_4 : decode prog_18_method_49_code 4 = .ok (.ldc_w 265, 3) := by decide +kernel
theorem D240_7 : decode prog_18_method_49_code 7 = .ok (.iand, 1) := by decide +kernel
theorem D240_8 : decode prog_18_method_49_code 8 = .ok (.isub, 1) := by decide +kernel
theorem D240_9 : decode prog_18_method_49_code 9 = .ok (.istore_n 0, 1) := by decide +kernel
theorem D240_10 : decode prog_18_method_49_code 10 = .ok (.iload_n 0, 1) := by decide +kernel
theorem D240_11 : decode prog_18_method_49_code 11 = .ok (.ldc_w 266, 3) := by decide +kernel
theorem D240_14 : decode prog_18_method_49_code 14 = .ok (.iand, 1) := by decide +kernel
theorem D240_15 : decode prog_18_method_49_code 15 = .ok (.iload_n 0, 1) := by decide +kernel
theorem D240_16 : decode prog_18_method_49_code 16 = .ok (.iconst 2, 1) := by decide +kernel
theorem D240_17 : decode prog_18_method_49_code 17 = .ok (.iushr, 1) := by decide +kernel
theorem D240_18 : decode prog_18_method_49_code 18 = .ok (.ldc_w 266, 3) := by decide +kernel
theorem D240_21 : decode prog_18_method_49_code 21 = .ok (.iand, 1) := by decide +kernel
theorem D240_22 : decode prog_18_method_49_code 22 = .ok (.iadd, 1) := by decide +kernel
theorem D240_23 : decode prog_18_method_49_code 23 = .ok (.istore_n 0, 1) := by decide +kernel
theorem D240_24 : decode prog_18_method_49_code 24 = .ok (.iload_n 0, 1) := by decide +kernel
theorem D240_25 : decode prog_18_method_49_code 25 = .ok (.iload_n 0, 1) := by decide +kernel
theorem D240_26 : decode prog_18_method_49_code 26 = .ok (.iconst 4, 1) := by decide +kernel
theorem D240_27 : decode prog_18_method_49_code 27 = .ok (.iushr, 1) := by decide +kernel
theorem D240_28 : decode prog_18_method_49_code 28 = .ok (.iadd, 1) := by decide +kernel
theorem D240_29 : decode prog_18_method_49_code 29 = .ok (.ldc_w 267, 3) := by decide +kernel
theorem D240_32 : decode prog_18_method_49_code 32 = .ok (.iand, 1) := by decide +kernel
theorem D240_33 : decode prog_18_method_49_code 33 = .ok (.istore_n 0, 1) := by decide +kernel
theorem D240_34 : decode prog_18_method_49_code 34 = .ok (.iload_n 0, 1) := by decide +kernel
theorem D240_35 : decode prog_18_method_49_code 35 = .ok (.iload_n 0, 1) := by decide +kernel
theorem D240_36 : decode prog_18_method_49_code 36 = .ok (.bipush 8, 2) := by decide +kernel
theorem D240_38 : decode prog_18_method_49_code 38 = .ok (.iushr, 1) := by decide +kernel
theorem D240_39 : decode prog_18_method_49_code 39 = .ok (.iadd, 1) := by decide +kernel
theorem D240_40 : decode prog_18_method_49_code 40 = .ok (.istore_n 0, 1) := by decide +kernel
theorem D240_41 : decode prog_18_method_49_code 41 = .ok (.iload_n 0, 1) := by decide +kernel
theorem D240_42 : decode prog_18_method_49_code 42 = .ok (.iload_n 0, 1) := by decide +kernel
theorem D240_43 : decode prog_18_method_49_code 43 = .ok (.bipush 16, 2) := by decide +kernel
theorem D240_45 : decode prog_18_method_49_code 45 = .ok (.iushr, 1) := by decide +kernel
theorem D240_46 : decode prog_18_method_49_code 46 = .ok (.iadd, 1) := by decide +kernel
theorem D240_47 : decode prog_18_method_49_code 47 = .ok (.istore_n 0, 1) := by decide +kernel
theorem D240_48 : decode prog_18_method_49_code 48 = .ok (.iload_n 0, 1) := by decide +kernel
theorem D240_49 : decode prog_18_method_49_code 49 = .ok (.bipush 63, 2) := by decide +kernel
theorem D240_51 : decode prog_18_method_49_code 51 = .ok (.iand, 1) := by decide +kernel
theorem D240_52 : decode prog_18_method_49_code 52 = .ok (.ireturn, 1) := by decide +kernel

theorem b240_0 {d : Nat} {i0 : Int32} {ia : Nat → Nat → Int32} {la : Nat → Nat → Int64} {pl dr : Nat} {cp : Option Nat} {cw : Option Nat} {rp : Option Nat} {K : Option Value → zHP → Prop}  : zWP d 240 0 [some (.int i0)] [] (ia, la, zRA pl dr cp cw rp) K = K (some (.int ((((((((i0 - (((i0).toUInt32 >>> (((1 : Int32)).toUInt32 &&& Int32.toUInt32 31)).toInt32 &&& (1431655765 : Int32))) &&& (858993459 : Int32)) + ((((i0 - (((i0).toUInt32 >>> (((1 : Int32)).toUInt32 &&& Int32.toUInt32 31)).toInt32 &&& (1431655765 : Int32)))).toUInt32 >>> (((2 : Int32)).toUInt32 &&& Int32.toUInt32 31)).toInt32 &&& (858993459 : Int32))) + (((((i0 - (((i0).toUInt32 >>> (((1 : Int32)).toUInt32 &&& Int32.toUInt32 31)).toInt32 &&& (1431655765 : Int32))) &&& (858993459 : Int32)) + ((((i0 - (((i0).toUInt32 >>> (((1 : Int32)).toUInt32 &&& Int32.toUInt32 31)).toInt32 &&& (1431655765 : Int32)))).toUInt32 >>> (((2 : Int32)).toUInt32 &&& Int32.toUInt32 31)).toInt32 &&& (858993459 : Int32)))).toUInt32 >>> (((4 : Int32)).toUInt32 &&& Int32.toUInt32 31)).toInt32) &&& (252645135 : Int32)) + (((((((i0 - (((i0).toUInt32 >>> (((1 : Int32)).toUInt32 &&& Int32.toUInt32 31)).toInt32 &&& (1431655765 : Int32))) &&& (858993459 : Int32)) + ((((i0 - (((i0).toUInt32 >>> (((1 : Int32)).toUInt32 &&& Int32.toUInt32 31)).toInt32 &&& (1431655765 : Int32)))).toUInt32 >>> (((2 : Int32)).toUInt32 &&& Int32.toUInt32 31)).toInt32 &&& (858993459 : Int32))) + (((((i0 - (((i0).toUInt32 >>> (((1 : Int32)).toUInt32 &&& Int32.toUInt32 31)).toInt32 &&& (1431655765 : Int32))) &&& (858993459 : Int32)) + ((((i0 - (((i0).toUInt32 >>> (((1 : Int32)).toUInt32 &&& Int32.toUInt32 31)).toInt32 &&& (1431655765 : Int32)))).toUInt32 >>> (((2 : Int32)).toUInt32 &&& Int32.toUInt32 31)).toInt32 &&& (858993459 : Int32)))).toUInt32 >>> (((4 : Int32)).toUInt32 &&& Int32.toUInt32 31)).toInt32) &&& (252645135 : Int32))).toUInt32 >>> (((8 : Int32)).toUInt32 &&& Int32.toUInt32 31)).toInt32) + ((((((((i0 - (((i0).toUInt32 >>> (((1 : Int32)).toUInt32 &&& Int32.toUInt32 31)).toInt32 &&& (1431655765 : Int32))) &&& (858993459 : Int32)) + ((((i0 - (((i0).toUInt32 >>> (((1 : Int32)).toUInt32 &&& Int32.toUInt32 31)).toInt32 &&& (1431655765 : Int32)))).toUInt32 >>> (((2 : Int32)).toUInt32 &&& Int32.toUInt32 31)).toInt32 &&& (858993459 : Int32))) + (((((i0 - (((i0).toUInt32 >>> (((1 : Int32)).toUInt32 &&& Int32.toUInt32 31)).toInt32 &&& (1431655765 : Int32))) &&& (858993459 : Int32)) + ((((i0 - (((i0).toUInt32 >>> (((1 : Int32)).toUInt32 &&& Int32.toUInt32 31)).toInt32 &&& (1431655765 : Int32)))).toUInt32 >>> (((2 : Int32)).toUInt32 &&& Int32.toUInt32 31)).toInt32 &&& (858993459 : Int32)))).toUInt32 >>> (((4 : Int32)).toUInt32 &&& Int32.toUInt32 31)).toInt32) &&& (252645135 : Int32)) + (((((((i0 - (((i0).toUInt32 >>> (((1 : Int32)).toUInt32 &&& Int32.toUInt32 31)).toInt32 &&& (1431655765 : Int32))) &&& (858993459 : Int32)) + ((((i0 - (((i0).toUInt32 >>> (((1 : Int32)).toUInt32 &&& Int32.toUInt32 31)).toInt32 &&& (1431655765 : Int32)))).toUInt32 >>> (((2 : Int32)).toUInt32 &&& Int32.toUInt32 31)).toInt32 &&& (858993459 : Int32))) + (((((i0 - (((i0).toUInt32 >>> (((1 : Int32)).toUInt32 &&& Int32.toUInt32 31)).toInt32 &&& (1431655765 : Int32))) &&& (858993459 : Int32)) + ((((i0 - (((i0).toUInt32 >>> (((1 : Int32)).toUInt32 &&& Int32.toUInt32 31)).toInt32 &&& (1431655765 : Int32)))).toUInt32 >>> (((2 : Int32)).toUInt32 &&& Int32.toUInt32 31)).toInt32 &&& (858993459 : Int32)))).toUInt32 >>> (((4 : Int32)).toUInt32 &&& Int32.toUInt32 31)).toInt32) &&& (252645135 : Int32))).toUInt32 >>> (((8 : Int32)).toUInt32 &&& Int32.toUInt32 31)).toInt32)).toUInt32 >>> (((16 : Int32)).toUInt32 &&& Int32.toUInt32 31)).toInt32) &&& (63 : Int32)))) (ia, la, zRA pl dr cp cw rp) := by
  refine (Q_iload_n zm_240 (Or.inl (by decide)) D240_0 rfl).trans ?_
  refine (Q_iload_n zm_240 (Or.inl (by decide)) D240_1 rfl).trans ?_
  refine (Q_iconst (v := 1) zm_240 (Or.inl (by decide)) D240_2 (by decide)).trans ?_
  refine (Q_iushr zm_240 (Or.inl (by decide)) D240_3).trans ?_
  refine (Q_ldc_w (v := 1431655765) zm_240 (Or.inl (by decide)) D240_4 (by decide +kernel)).trans ?_
  refine (Q_iand zm_240 (Or.inl (by decide)) D240_7).trans ?_
  refine (Q_isub zm_240 (Or.inl (by decide)) D240_8).trans ?_
  refine (Q_istore_n (ls' := [some (.int (i0 - (((i0).toUInt32 >>> (((1 : Int32)).toUInt32 &&& Int32.toUInt32 31)).toInt32 &&& (1431655765 : Int32))))]) zm_240 (Or.inl (by decide)) D240_9 rfl (Nat.le_of_ble_eq_true rfl) rfl).trans ?_
  refine (Q_iload_n zm_240 (Or.inl (by decide)) D240_10 rfl).trans ?_
  refine (Q_ldc_w (v := 858993459) zm_240 (Or.inl (by decide)) D240_11 (by decide +kernel)).trans ?_
  refine (Q_iand zm_240 (Or.inl (by decide)) D240_14).trans ?_
  refine (Q_iload_n zm_240 (Or.inl (by decide)) D240_15 rfl).trans ?_
  refine (Q_iconst (v := 2) zm_240 (Or.inl (by decide)) D240_16 (by decide)).trans ?_
  refine (Q_iushr zm_240 (Or.inl (by decide)) D240_17).trans ?_
  refine (Q_ldc_w (v := 858993459) zm_240 (Or.inl (by decide)) D240_18 (by decide +kernel)).trans ?_
  refine (Q_iand zm_240 (Or.inl (by decide)) D240_21).trans ?_
  refine (Q_iadd zm_240 (Or.inl (by decide)) D240_22).trans ?_
  refine (Q_istore_n (ls' := [some (.int (((i0 - (((i0).toUInt32 >>> (((1 : Int32)).toUInt32 &&& Int32.toUInt32 31)).toInt32 &&& (1431655765 : Int32))) &&& (858993459 : Int32)) + ((((i0 - (((i0).toUInt32 >>> (((1 : Int32)).toUInt32 &&& Int32.toUInt32 31)).toInt32 &&& (1431655765 : Int32)))).toUInt32 >>> (((2 : Int32)).toUInt32 &&& Int32.toUInt32 31)).toInt32 &&& (858993459 : Int32))))]) zm_240 (Or.inl (by decide)) D240_23 rfl (Nat.le_of_ble_eq_true rfl) rfl).trans ?_
  refine (Q_iload_n zm_240 (Or.inl (by decide)) D240_24 rfl).trans ?_
  refine (Q_iload_n zm_240 (Or.inl (by decide)) D240_25 rfl).trans ?_
  refine (Q_iconst (v := 4) zm_240 (Or.inl (by decide)) D240_26 (by decide)).trans ?_
  refine (Q_iushr zm_240 (Or.inl (by decide)) D240_27).trans ?_
  refine (Q_iadd zm_240 (Or.inl (by decide)) D240_28).trans ?_
  refine (Q_ldc_w (v := 252645135) zm_240 (Or.inl (by decide)) D240_29 (by decide +kernel)).trans ?_
  refine (Q_iand zm_240 (Or.inl (by decide)) D240_32).trans ?_
  refine (Q_istore_n (ls' := [some (.int (((((i0 - (((i0).toUInt32 >>> (((1 : Int32)).toUInt32 &&& Int32.toUInt32 31)).toInt32 &&& (1431655765 : Int32))) &&& (858993459 : Int32)) + ((((i0 - (((i0).toUInt32 >>> (((1 : Int32)).toUInt32 &&& Int32.toUInt32 31)).toInt32 &&& (1431655765 : Int32)))).toUInt32 >>> (((2 : Int32)).toUInt32 &&& Int32.toUInt32 31)).toInt32 &&& (858993459 : Int32))) + (((((i0 - (((i0).toUInt32 >>> (((1 : Int32)).toUInt32 &&& Int32.toUInt32 31)).toInt32 &&& (1431655765 : Int32))) &&& (858993459 : Int32)) + ((((i0 - (((i0).toUInt32 >>> (((1 : Int32)).toUInt32 &&& Int32.toUInt32 31)).toInt32 &&& (1431655765 : Int32)))).toUInt32 >>> (((2 : Int32)).toUInt32 &&& Int32.toUInt32 31)).toInt32 &&& (858993459 : Int32)))).toUInt32 >>> (((4 : Int32)).toUInt32 &&& Int32.toUInt32 31)).toInt32) &&& (252645135 : Int32)))]) zm_240 (Or.inl (by decide)) D240_33 rfl (Nat.le_of_ble_eq_true rfl) rfl).trans ?_
  refine (Q_iload_n zm_240 (Or.inl (by decide)) D240_34 rfl).trans ?_
  refine (Q_iload_n zm_240 (Or.inl (by decide)) D240_35 rfl).trans ?_
  refine (Q_bipush (v := 8) zm_240 (Or.inl (by decide)) D240_36 (by decide)).trans ?_
  refine (Q_iushr zm_240 (Or.inl (by decide)) D240_38).trans ?_
  refine (Q_iadd zm_240 (Or.inl (by decide)) D240_39).trans ?_
  refine (Q_istore_n (ls' := [some (.int ((((((i0 - (((i0).toUInt32 >>> (((1 : Int32)).toUInt32 &&& Int32.toUInt32 31)).toInt32 &&& (1431655765 : Int32))) &&& (858993459 : Int32)) + ((((i0 - (((i0).toUInt32 >>> (((1 : Int32)).toUInt32 &&& Int32.toUInt32 31)).toInt32 &&& (1431655765 : Int32)))).toUInt32 >>> (((2 : Int32)).toUInt32 &&& Int32.toUInt32 31)).toInt32 &&& (858993459 : Int32))) + (((((i0 - (((i0).toUInt32 >>> (((1 : Int32)).toUInt32 &&& Int32.toUInt32 31)).toInt32 &&& (1431655765 : Int32))) &&& (858993459 : Int32)) + ((((i0 - (((i0).toUInt32 >>> (((1 : Int32)).toUInt32 &&& Int32.toUInt32 31)).toInt32 &&& (1431655765 : Int32)))).toUInt32 >>> (((2 : Int32)).toUInt32 &&& Int32.toUInt32 31)).toInt32 &&& (858993459 : Int32)))).toUInt32 >>> (((4 : Int32)).toUInt32 &&& Int32.toUInt32 31)).toInt32) &&& (252645135 : Int32)) + (((((((i0 - (((i0).toUInt32 >>> (((1 : Int32)).toUInt32 &&& Int32.toUInt32 31)).toInt32 &&& (1431655765 : Int32))) &&& (858993459 : Int32)) + ((((i0 - (((i0).toUInt32 >>> (((1 : Int32)).toUInt32 &&& Int32.toUInt32 31)).toInt32 &&& (1431655765 : Int32)))).toUInt32 >>> (((2 : Int32)).toUInt32 &&& Int32.toUInt32 31)).toInt32 &&& (858993459 : Int32))) + (((((i0 - (((i0).toUInt32 >>> (((1 : Int32)).toUInt32 &&& Int32.toUInt32 31)).toInt32 &&& (1431655765 : Int32))) &&& (858993459 : Int32)) + ((((i0 - (((i0).toUInt32 >>> (((1 : Int32)).toUInt32 &&& Int32.toUInt32 31)).toInt32 &&& (1431655765 : Int32)))).toUInt32 >>> (((2 : Int32)).toUInt32 &&& Int32.toUInt32 31)).toInt32 &&& (858993459 : Int32)))).toUInt32 >>> (((4 : Int32)).toUInt32 &&& Int32.toUInt32 31)).toInt32) &&& (252645135 : Int32))).toUInt32 >>> (((8 : Int32)).toUInt32 &&& Int32.toUInt32 31)).toInt32))]) zm_240 (Or.inl (by decide)) D240_40 rfl (Nat.le_of_ble_eq_true rfl) rfl).trans ?_
  refine (Q_iload_n zm_240 (Or.inl (by decide)) D240_41 rfl).trans ?_
  refine (Q_iload_n zm_240 (Or.inl (by decide)) D240_42 rfl).trans ?_
  refine (Q_bipush (v := 16) zm_240 (Or.inl (by decide)) D240_43 (by decide)).trans ?_
  refine (Q_iushr zm_240 (Or.inl (by decide)) D240_45).trans ?_
  refine (Q_iadd zm_240 (Or.inl (by decide)) D240_46).trans ?_
  refine (Q_istore_n (ls' := [some (.int (((((((i0 - (((i0).toUInt32 >>> (((1 : Int32)).toUInt32 &&& Int32.toUInt32 31)).toInt32 &&& (1431655765 : Int32))) &&& (858993459 : Int32)) + ((((i0 - (((i0).toUInt32 >>> (((1 : Int32)).toUInt32 &&& Int32.toUInt32 31)).toInt32 &&& (1431655765 : Int32)))).toUInt32 >>> (((2 : Int32)).toUInt32 &&& Int32.toUInt32 31)).toInt32 &&& (858993459 : Int32))) + (((((i0 - (((i0).toUInt32 >>> (((1 : Int32)).toUInt32 &&& Int32.toUInt32 31)).toInt32 &&& (1431655765 : Int32))) &&& (858993459 : Int32)) + ((((i0 - (((i0).toUInt32 >>> (((1 : Int32)).toUInt32 &&& Int32.toUInt32 31)).toInt32 &&& (1431655765 : Int32)))).toUInt32 >>> (((2 : Int32)).toUInt32 &&& Int32.toUInt32 31)).toInt32 &&& (858993459 : Int32)))).toUInt32 >>> (((4 : Int32)).toUInt32 &&& Int32.toUInt32 31)).toInt32) &&& (252645135 : Int32)) + (((((((i0 - (((i0).toUInt32 >>> (((1 : Int32)).toUInt32 &&& Int32.toUInt32 31)).toInt32 &&& (1431655765 : Int32))) &&& (858993459 : Int32)) + ((((i0 - (((i0).toUInt32 >>> (((1 : Int32)).toUInt32 &&& Int32.toUInt32 31)).toInt32 &&& (1431655765 : Int32)))).toUInt32 >>> (((2 : Int32)).toUInt32 &&& Int32.toUInt32 31)).toInt32 &&& (858993459 : Int32))) + (((((i0 - (((i0).toUInt32 >>> (((1 : Int32)).toUInt32 &&& Int32.toUInt32 31)).toInt32 &&& (1431655765 : Int32))) &&& (858993459 : Int32)) + ((((i0 - (((i0).toUInt32 >>> (((1 : Int32)).toUInt32 &&& Int32.toUInt32 31)).toInt32 &&& (1431655765 : Int32)))).toUInt32 >>> (((2 : Int32)).toUInt32 &&& Int32.toUInt32 31)).toInt32 &&& (858993459 : Int32)))).toUInt32 >>> (((4 : Int32)).toUInt32 &&& Int32.toUInt32 31)).toInt32) &&& (252645135 : Int32))).toUInt32 >>> (((8 : Int32)).toUInt32 &&& Int32.toUInt32 31)).toInt32) + ((((((((i0 - (((i0).toUInt32 >>> (((1 : Int32)).toUInt32 &&& Int32.toUInt32 31)).toInt32 &&& (1431655765 : Int32))) &&& (858993459 : Int32)) + ((((i0 - (((i0).toUInt32 >>> (((1 : Int32)).toUInt32 &&& Int32.toUInt32 31)).toInt32 &&& (1431655765 : Int32)))).toUInt32 >>> (((2 : Int32)).toUInt32 &&& Int32.toUInt32 31)).toInt32 &&& (858993459 : Int32))) + (((((i0 - (((i0).toUInt32 >>> (((1 : Int32)).toUInt32 &&& Int32.toUInt32 31)).toInt32 &&& (1431655765 : Int32))) &&& (858993459 : Int32)) + ((((i0 - (((i0).toUInt32 >>> (((1 : Int32)).toUInt32 &&& Int32.toUInt32 31)).toInt32 &&& (1431655765 : Int32)))).toUInt32 >>> (((2 : Int32)).toUInt32 &&& Int32.toUInt32 31)).toInt32 &&& (858993459 : Int32)))).toUInt32 >>> (((4 : Int32)).toUInt32 &&& Int32.toUInt32 31)).toInt32) &&& (252645135 : Int32)) + (((((((i0 - (((i0).toUInt32 >>> (((1 : Int32)).toUInt32 &&& Int32.toUInt32 31)).toInt32 &&& (1431655765 : Int32))) &&& (858993459 : Int32)) + ((((i0 - (((i0).toUInt32 >>> (((1 : Int32)).toUInt32 &&& Int32.toUInt32 31)).toInt32 &&& (1431655765 : Int32)))).toUInt32 >>> (((2 : Int32)).toUInt32 &&& Int32.toUInt32 31)).toInt32 &&& (858993459 : Int32))) + (((((i0 - (((i0).toUInt32 >>> (((1 : Int32)).toUInt32 &&& Int32.toUInt32 31)).toInt32 &&& (1431655765 : Int32))) &&& (858993459 : Int32)) + ((((i0 - (((i0).toUInt32 >>> (((1 : Int32)).toUInt32 &&& Int32.toUInt32 31)).toInt32 &&& (1431655765 : Int32)))).toUInt32 >>> (((2 : Int32)).toUInt32 &&& Int32.toUInt32 31)).toInt32 &&& (858993459 : Int32)))).toUInt32 >>> (((4 : Int32)).toUInt32 &&& Int32.toUInt32 31)).toInt32) &&& (252645135 : Int32))).toUInt32 >>> (((8 : Int32)).toUInt32 &&& Int32.toUInt32 31)).toInt32)).toUInt32 >>> (((16 : Int32)).toUInt32 &&& Int32.toUInt32 31)).toInt32))]) zm_240 (Or.inl (by decide)) D240_47 rfl (Nat.le_of_ble_eq_true rfl) rfl).trans ?_
  refine (Q_iload_n zm_240 (Or.inl (by decide)) D240_48 rfl).trans ?_
  refine (Q_bipush (v := 63) zm_240 (Or.inl (by decide)) D240_49 (by decide)).trans ?_
  refine (Q_iand zm_240 (Or.inl (by decide)) D240_51).trans ?_
  exact Q_ireturn zm_240 (Or.inl (by decide)) D240_52 rfl
